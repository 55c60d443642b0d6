theorem gj_tw {w : Cond} (h : w ∈ tables_1) (hg : goodWord w = true) : w ∈ gj_TB := List.mem_filter.mpr ⟨List.mem_append_right _ h, hg⟩
theorem gj_t0 {w : Cond} (h : w ∈ tables_1_1) (hg : goodWord w = true) : w ∈ gj_TB := gj_tw (List.mem_append_left _ h) hg
theorem gj_t1 {w : Cond} (h : w ∈ tables_1_2) (hg : goodWord w = true) : w ∈ gj_TB := gj_tw (List.mem_append_right _ (List.mem_append_left _ h)) hg
theorem gj_t2 {w : Cond} (h : w ∈ tables_1_3) (hg : goodWord w = true) : w ∈ gj_TB := gj_tw (List.mem_append_right _ (List.mem_append_right _ (List.mem_append_left _ h))) hg
theorem gj_t3 {w : Cond} (h : w ∈ tables_1_4) (hg : goodWord w = true) : w ∈ gj_TB := gj_tw (List.mem_append_right _ (List.mem_append_right _ (List.mem_append_right _ (List.mem_append_left _ h)))) hg
theorem gj_t4 {w : Cond} (h : w ∈ tables_1_5) (hg : goodWord w = true) : w ∈ gj_TB := gj_tw (List.mem_append_right _ (List.mem_append_right _ (List.mem_append_right _ (List.mem_append_right _ (List.mem_append_left _ h))))) hg
theorem gj_t5 {w : Cond} (h : w ∈ tables_1_6) (hg : goodWord w = true) : w ∈ gj_TB := gj_tw (List.mem_append_right _ (List.mem_append_right _ (List.mem_append_right _ (List.mem_append_right _ (List.mem_append_right _ (List.mem_append_left _ h)))))) hg
theorem gj_t6 {w : Cond} (h : w ∈ tables_1_7) (hg : goodWord w = true) : w ∈ gj_TB := gj_tw (List.mem_append_right _ (List.mem_append_right _ (List.mem_append_right _ (List.mem_append_right _ (List.mem_append_right _ (List.mem_append_right _ (List.mem_append_left _ h))))))) hg
theorem gj_t7 {w : Cond} (h : w ∈ tables_1_8) (hg : goodWord w = true) : w ∈ gj_TB := gj_tw (List.mem_append_right _ (List.mem_append_right _ (List.mem_append_right _ (List.mem_append_right _ (List.mem_append_right _ (List.mem_append_right _ (List.mem_append_right _ (h)))))))) hg
theorem gj_tp {q : MethodName × Nat} (h : q ∈ lw_privs) : Cond.selects q.1.cls q.1 q.1 ∈ gj_TB := List.mem_filter.mpr ⟨List.mem_append_left _ (List.mem_map.mpr ⟨q, h, rfl⟩), rfl⟩
theorem gj_p0 {q : MethodName × Nat} (h : q ∈ lw_privs_1) : Cond.selects q.1.cls q.1 q.1 ∈ gj_TB := gj_tp (List.mem_append_left _ h)
theorem gj_p1 {q : MethodName × Nat} (h : q ∈ lw_privs_2) : Cond.selects q.1.cls q.1 q.1 ∈ gj_TB := gj_tp (List.mem_append_right _ (List.mem_append_left _ h))
theorem gj_p2 {q : MethodName × Nat} (h : q ∈ lw_privs_3) : Cond.selects q.1.cls q.1 q.1 ∈ gj_TB := gj_tp (List.mem_append_right _ (List.mem_append_right _ (List.mem_append_left _ h)))
theorem gj_p3 {q : MethodName × Nat} (h : q ∈ lw_privs_4) : Cond.selects q.1.cls q.1 q.1 ∈ gj_TB := gj_tp (List.mem_append_right _ (List.mem_append_right _ (List.mem_append_right _ (List.mem_append_left _ h))))
theorem gj_p4 {q : MethodName × Nat} (h : q ∈ lw_privs_5) : Cond.selects q.1.cls q.1 q.1 ∈ gj_TB := gj_tp (List.mem_append_right _ (List.mem_append_right _ (List.mem_append_right _ (List.mem_append_right _ (List.mem_append_left _ h)))))
theorem gj_p5 {q : MethodName × Nat} (h : q ∈ lw_privs_6) : Cond.selects q.1.cls q.1 q.1 ∈ gj_TB := gj_tp (List.mem_append_right _ (List.mem_append_right _ (List.mem_append_right _ (List.mem_append_right _ (List.mem_append_right _ (List.mem_append_left _ h))))))
theorem gj_p6 {q : MethodName × Nat} (h : q ∈ lw_privs_7) : Cond.selects q.1.cls q.1 q.1 ∈ gj_TB := gj_tp (List.mem_append_right _ (List.mem_append_right _ (List.mem_append_right _ (List.mem_append_right _ (List.mem_append_right _ (List.mem_append_right _ (h)))))))
theorem ini_L : Cond.initialized RL ∈ gj_TB := gj_t0 (List.mem_of_getElem? (i := 0) rfl) rfl
theorem ini_X11 : Cond.initialized RX11 ∈ gj_TB := gj_t0 (List.mem_of_getElem? (i := 1) rfl) rfl
theorem ini_X9 : Cond.initialized RX9 ∈ gj_TB := gj_t0 (List.mem_of_getElem? (i := 2) rfl) rfl
theorem ini_X5 : Cond.initialized RX5 ∈ gj_TB := gj_t0 (List.mem_of_getElem? (i := 3) rfl) rfl
theorem ini_X6 : Cond.initialized RX6 ∈ gj_TB := gj_t0 (List.mem_of_getElem? (i := 4) rfl) rfl
theorem ini_X3 : Cond.initialized RX3 ∈ gj_TB := gj_t0 (List.mem_of_getElem? (i := 5) rfl) rfl
theorem ini_X1 : Cond.initialized RX1 ∈ gj_TB := gj_t0 (List.mem_of_getElem? (i := 6) rfl) rfl
theorem ini_X7 : Cond.initialized RX7 ∈ gj_TB := gj_t0 (List.mem_of_getElem? (i := 7) rfl) rfl
theorem ini_X4 : Cond.initialized RX4 ∈ gj_TB := gj_t0 (List.mem_of_getElem? (i := 8) rfl) rfl
theorem ini_X2 : Cond.initialized RX2 ∈ gj_TB := gj_t0 (List.mem_of_getElem? (i := 9) rfl) rfl
theorem ini_X0 : Cond.initialized RX0 ∈ gj_TB := gj_t0 (List.mem_of_getElem? (i := 10) rfl) rfl
theorem ini_X8 : Cond.initialized RX8 ∈ gj_TB := gj_t0 (List.mem_of_getElem? (i := 11) rfl) rfl
theorem ini_X12 : Cond.initialized RX12 ∈ gj_TB := gj_t0 (List.mem_of_getElem? (i := 12) rfl) rfl
theorem ini_J0 : Cond.initialized RJ0 ∈ gj_TB := gj_t0 (List.mem_of_getElem? (i := 13) rfl) rfl
theorem ini_J1 : Cond.initialized RJ1 ∈ gj_TB := gj_t0 (List.mem_of_getElem? (i := 14) rfl) rfl
theorem ini_J3 : Cond.initialized RJ3 ∈ gj_TB := gj_t0 (List.mem_of_getElem? (i := 15) rfl) rfl
theorem ini_J2 : Cond.initialized RJ2 ∈ gj_TB := gj_t0 (List.mem_of_getElem? (i := 16) rfl) rfl
theorem ini_J9 : Cond.initialized RJ9 ∈ gj_TB := gj_t0 (List.mem_of_getElem? (i := 17) rfl) rfl
theorem ini_X10 : Cond.initialized RX10 ∈ gj_TB := gj_t0 (List.mem_of_getElem? (i := 18) rfl) rfl
theorem cl_L_7 : Cond.classLink RL 7 RX11 ∈ gj_TB := gj_t0 (List.mem_of_getElem? (i := 19) rfl) rfl
theorem ins_X11 : Cond.instantiable RX11 12 ∈ gj_TB := gj_t0 (List.mem_of_getElem? (i := 20) rfl) rfl
theorem ml_L_9 : Cond.methodLink RL 9 yX11_init ∈ gj_TB := gj_t0 (List.mem_of_getElem? (i := 21) rfl) rfl
theorem ml_X11_1 : Cond.methodLink RX11 1 Lib.objectInit ∈ gj_TB := gj_t0 (List.mem_of_getElem? (i := 24) rfl) rfl
theorem cl_X11_7 : Cond.classLink RX11 7 RX9 ∈ gj_TB := gj_t0 (List.mem_of_getElem? (i := 27) rfl) rfl
theorem ins_X9 : Cond.instantiable RX9 2 ∈ gj_TB := gj_t0 (List.mem_of_getElem? (i := 28) rfl) rfl
theorem ml_X9_3 : Cond.methodLink RX9 3 Lib.objectInit ∈ gj_TB := gj_t0 (List.mem_of_getElem? (i := 32) rfl) rfl
theorem kf_X9_9 : Cond.fieldLink RX9 9 RX9 "bytes" "[I" ∈ gj_TB := gj_t0 (List.mem_of_getElem? (i := 33) rfl) rfl
theorem kf_X9_15 : Cond.fieldLink RX9 15 RX9 "length" "I" ∈ gj_TB := gj_t0 (List.mem_of_getElem? (i := 34) rfl) rfl
theorem ka_int : Cond.arrayClass .int ∈ gj_TB := gj_t0 (List.mem_of_getElem? (i := 40) rfl) rfl
theorem cl_X11_16 : Cond.classLink RX11 16 RX5 ∈ gj_TB := gj_t0 (List.mem_of_getElem? (i := 41) rfl) rfl
theorem ins_X5 : Cond.instantiable RX5 16 ∈ gj_TB := gj_t0 (List.mem_of_getElem? (i := 42) rfl) rfl
theorem ml_X5_3 : Cond.methodLink RX5 3 Lib.objectInit ∈ gj_TB := gj_t0 (List.mem_of_getElem? (i := 46) rfl) rfl
theorem kf_X5_30 : Cond.fieldLink RX5 30 RX5 "lefts" "I" ∈ gj_TB := gj_t0 (List.mem_of_getElem? (i := 47) rfl) rfl
theorem kf_X4_38 : Cond.fieldLink RX4 38 RX5 "lefts" "I" ∈ gj_TB := gj_t0 (List.mem_of_getElem? (i := 48) rfl) rfl
theorem kf_X11_124 : Cond.fieldLink RX11 124 RX5 "lefts" "I" ∈ gj_TB := gj_t0 (List.mem_of_getElem? (i := 49) rfl) rfl
theorem kf_X6_87 : Cond.fieldLink RX6 87 RX5 "lefts" "I" ∈ gj_TB := gj_t0 (List.mem_of_getElem? (i := 50) rfl) rfl
theorem kf_X5_34 : Cond.fieldLink RX5 34 RX5 "rights" "I" ∈ gj_TB := gj_t0 (List.mem_of_getElem? (i := 51) rfl) rfl
theorem kf_X4_33 : Cond.fieldLink RX4 33 RX5 "rights" "I" ∈ gj_TB := gj_t0 (List.mem_of_getElem? (i := 52) rfl) rfl
theorem kf_X11_128 : Cond.fieldLink RX11 128 RX5 "rights" "I" ∈ gj_TB := gj_t0 (List.mem_of_getElem? (i := 53) rfl) rfl
theorem kf_X6_96 : Cond.fieldLink RX6 96 RX5 "rights" "I" ∈ gj_TB := gj_t0 (List.mem_of_getElem? (i := 54) rfl) rfl
theorem kf_X5_37 : Cond.fieldLink RX5 37 RX5 "worthGood" "I" ∈ gj_TB := gj_t0 (List.mem_of_getElem? (i := 55) rfl) rfl
theorem kf_X8_165 : Cond.fieldLink RX8 165 RX5 "worthGood" "I" ∈ gj_TB := gj_t0 (List.mem_of_getElem? (i := 56) rfl) rfl
theorem kf_X6_196 : Cond.fieldLink RX6 196 RX5 "worthGood" "I" ∈ gj_TB := gj_t0 (List.mem_of_getElem? (i := 57) rfl) rfl
theorem kf_X4_136 : Cond.fieldLink RX4 136 RX5 "worthGood" "I" ∈ gj_TB := gj_t0 (List.mem_of_getElem? (i := 58) rfl) rfl
theorem kf_X5_40 : Cond.fieldLink RX5 40 RX5 "worthPoor" "I" ∈ gj_TB := gj_t0 (List.mem_of_getElem? (i := 59) rfl) rfl
theorem kf_X8_168 : Cond.fieldLink RX8 168 RX5 "worthPoor" "I" ∈ gj_TB := gj_t0 (List.mem_of_getElem? (i := 60) rfl) rfl
theorem kf_X6_199 : Cond.fieldLink RX6 199 RX5 "worthPoor" "I" ∈ gj_TB := gj_t0 (List.mem_of_getElem? (i := 61) rfl) rfl
theorem kf_X4_139 : Cond.fieldLink RX4 139 RX5 "worthPoor" "I" ∈ gj_TB := gj_t0 (List.mem_of_getElem? (i := 62) rfl) rfl
theorem kf_X5_43 : Cond.fieldLink RX5 43 RX5 "houseYears" "I" ∈ gj_TB := gj_t0 (List.mem_of_getElem? (i := 63) rfl) rfl
theorem kf_X8_174 : Cond.fieldLink RX8 174 RX5 "houseYears" "I" ∈ gj_TB := gj_t0 (List.mem_of_getElem? (i := 64) rfl) rfl
theorem kf_X6_202 : Cond.fieldLink RX6 202 RX5 "houseYears" "I" ∈ gj_TB := gj_t0 (List.mem_of_getElem? (i := 65) rfl) rfl
theorem kf_X4_142 : Cond.fieldLink RX4 142 RX5 "houseYears" "I" ∈ gj_TB := gj_t0 (List.mem_of_getElem? (i := 66) rfl) rfl
theorem kf_X5_46 : Cond.fieldLink RX5 46 RX5 "house" "I" ∈ gj_TB := gj_t0 (List.mem_of_getElem? (i := 67) rfl) rfl
theorem kf_X8_177 : Cond.fieldLink RX8 177 RX5 "house" "I" ∈ gj_TB := gj_t0 (List.mem_of_getElem? (i := 68) rfl) rfl
theorem kf_X6_205 : Cond.fieldLink RX6 205 RX5 "house" "I" ∈ gj_TB := gj_t0 (List.mem_of_getElem? (i := 69) rfl) rfl
theorem kf_X4_145 : Cond.fieldLink RX4 145 RX5 "house" "I" ∈ gj_TB := gj_t0 (List.mem_of_getElem? (i := 70) rfl) rfl
theorem kf_X5_49 : Cond.fieldLink RX5 49 RX5 "childChance" "I" ∈ gj_TB := gj_t0 (List.mem_of_getElem? (i := 71) rfl) rfl
theorem kf_X8_159 : Cond.fieldLink RX8 159 RX5 "childChance" "I" ∈ gj_TB := gj_t0 (List.mem_of_getElem? (i := 72) rfl) rfl
theorem kf_X6_207 : Cond.fieldLink RX6 207 RX5 "childChance" "I" ∈ gj_TB := gj_t0 (List.mem_of_getElem? (i := 73) rfl) rfl
theorem kf_X5_52 : Cond.fieldLink RX5 52 RX5 "child" "I" ∈ gj_TB := gj_t0 (List.mem_of_getElem? (i := 74) rfl) rfl
theorem kf_X4_67 : Cond.fieldLink RX4 67 RX5 "child" "I" ∈ gj_TB := gj_t0 (List.mem_of_getElem? (i := 75) rfl) rfl
theorem kf_X2_121 : Cond.fieldLink RX2 121 RX5 "child" "I" ∈ gj_TB := gj_t0 (List.mem_of_getElem? (i := 76) rfl) rfl
theorem kf_X8_171 : Cond.fieldLink RX8 171 RX5 "child" "I" ∈ gj_TB := gj_t0 (List.mem_of_getElem? (i := 77) rfl) rfl
theorem kf_X6_210 : Cond.fieldLink RX6 210 RX5 "child" "I" ∈ gj_TB := gj_t0 (List.mem_of_getElem? (i := 78) rfl) rfl
theorem kf_X5_55 : Cond.fieldLink RX5 55 RX5 "cow" "I" ∈ gj_TB := gj_t0 (List.mem_of_getElem? (i := 79) rfl) rfl
theorem kf_X4_89 : Cond.fieldLink RX4 89 RX5 "cow" "I" ∈ gj_TB := gj_t0 (List.mem_of_getElem? (i := 80) rfl) rfl
theorem kf_X8_105 : Cond.fieldLink RX8 105 RX5 "cow" "I" ∈ gj_TB := gj_t0 (List.mem_of_getElem? (i := 81) rfl) rfl
theorem kf_X6_212 : Cond.fieldLink RX6 212 RX5 "cow" "I" ∈ gj_TB := gj_t0 (List.mem_of_getElem? (i := 82) rfl) rfl
theorem kf_X11_246 : Cond.fieldLink RX11 246 RX5 "cow" "I" ∈ gj_TB := gj_t0 (List.mem_of_getElem? (i := 83) rfl) rfl
theorem kf_X5_58 : Cond.fieldLink RX5 58 RX5 "ahead" "I" ∈ gj_TB := gj_t0 (List.mem_of_getElem? (i := 84) rfl) rfl
theorem kf_X8_77 : Cond.fieldLink RX8 77 RX5 "ahead" "I" ∈ gj_TB := gj_t0 (List.mem_of_getElem? (i := 85) rfl) rfl
theorem kf_X6_214 : Cond.fieldLink RX6 214 RX5 "ahead" "I" ∈ gj_TB := gj_t0 (List.mem_of_getElem? (i := 86) rfl) rfl
theorem kf_X11_330 : Cond.fieldLink RX11 330 RX5 "ahead" "I" ∈ gj_TB := gj_t0 (List.mem_of_getElem? (i := 87) rfl) rfl
theorem kf_X5_9 : Cond.fieldLink RX5 9 RX5 "alone" "[I" ∈ gj_TB := gj_t0 (List.mem_of_getElem? (i := 88) rfl) rfl
theorem kf_X11_136 : Cond.fieldLink RX11 136 RX5 "alone" "[I" ∈ gj_TB := gj_t0 (List.mem_of_getElem? (i := 89) rfl) rfl
theorem kf_X8_146 : Cond.fieldLink RX8 146 RX5 "alone" "[I" ∈ gj_TB := gj_t0 (List.mem_of_getElem? (i := 90) rfl) rfl
theorem kf_X6_148 : Cond.fieldLink RX6 148 RX5 "alone" "[I" ∈ gj_TB := gj_t0 (List.mem_of_getElem? (i := 91) rfl) rfl
theorem kf_X2_128 : Cond.fieldLink RX2 128 RX5 "alone" "[I" ∈ gj_TB := gj_t0 (List.mem_of_getElem? (i := 92) rfl) rfl
theorem kf_X4_129 : Cond.fieldLink RX4 129 RX5 "alone" "[I" ∈ gj_TB := gj_t0 (List.mem_of_getElem? (i := 93) rfl) rfl
theorem kf_X5_15 : Cond.fieldLink RX5 15 RX5 "chance" "[I" ∈ gj_TB := gj_t0 (List.mem_of_getElem? (i := 94) rfl) rfl
theorem kf_X6_179 : Cond.fieldLink RX6 179 RX5 "chance" "[I" ∈ gj_TB := gj_t0 (List.mem_of_getElem? (i := 95) rfl) rfl
theorem kf_X11_186 : Cond.fieldLink RX11 186 RX5 "chance" "[I" ∈ gj_TB := gj_t0 (List.mem_of_getElem? (i := 96) rfl) rfl
theorem kf_X5_18 : Cond.fieldLink RX5 18 RX5 "ifRight" "[I" ∈ gj_TB := gj_t0 (List.mem_of_getElem? (i := 97) rfl) rfl
theorem kf_X6_182 : Cond.fieldLink RX6 182 RX5 "ifRight" "[I" ∈ gj_TB := gj_t0 (List.mem_of_getElem? (i := 98) rfl) rfl
theorem kf_X11_189 : Cond.fieldLink RX11 189 RX5 "ifRight" "[I" ∈ gj_TB := gj_t0 (List.mem_of_getElem? (i := 99) rfl) rfl
theorem kf_X5_21 : Cond.fieldLink RX5 21 RX5 "ifNot" "[I" ∈ gj_TB := gj_t0 (List.mem_of_getElem? (i := 100) rfl) rfl
theorem kf_X6_185 : Cond.fieldLink RX6 185 RX5 "ifNot" "[I" ∈ gj_TB := gj_t0 (List.mem_of_getElem? (i := 101) rfl) rfl
theorem kf_X11_192 : Cond.fieldLink RX11 192 RX5 "ifNot" "[I" ∈ gj_TB := gj_t0 (List.mem_of_getElem? (i := 102) rfl) rfl
theorem kf_X5_24 : Cond.fieldLink RX5 24 RX5 "fit" "[I" ∈ gj_TB := gj_t0 (List.mem_of_getElem? (i := 103) rfl) rfl
theorem kf_X8_156 : Cond.fieldLink RX8 156 RX5 "fit" "[I" ∈ gj_TB := gj_t0 (List.mem_of_getElem? (i := 104) rfl) rfl
theorem kf_X11_174 : Cond.fieldLink RX11 174 RX5 "fit" "[I" ∈ gj_TB := gj_t0 (List.mem_of_getElem? (i := 105) rfl) rfl
theorem kf_X6_191 : Cond.fieldLink RX6 191 RX5 "fit" "[I" ∈ gj_TB := gj_t0 (List.mem_of_getElem? (i := 106) rfl) rfl
theorem kf_X5_27 : Cond.fieldLink RX5 27 RX5 "goodAfter" "[I" ∈ gj_TB := gj_t0 (List.mem_of_getElem? (i := 107) rfl) rfl
theorem cl_X11_23 : Cond.classLink RX11 23 RX6 ∈ gj_TB := gj_t0 (List.mem_of_getElem? (i := 141) rfl) rfl
theorem ins_X6 : Cond.instantiable RX6 10 ∈ gj_TB := gj_t0 (List.mem_of_getElem? (i := 142) rfl) rfl
theorem ml_X11_25 : Cond.methodLink RX11 25 yX6_init ∈ gj_TB := gj_t0 (List.mem_of_getElem? (i := 143) rfl) rfl
theorem ml_X6_3 : Cond.methodLink RX6 3 Lib.objectInit ∈ gj_TB := gj_t0 (List.mem_of_getElem? (i := 146) rfl) rfl
theorem kf_X6_22 : Cond.fieldLink RX6 22 RX6 "text" "LMayGreen$Text;" ∈ gj_TB := gj_t0 (List.mem_of_getElem? (i := 147) rfl) rfl
theorem kf_X6_26 : Cond.fieldLink RX6 26 RX6 "plan" "LMayGreen$Plan;" ∈ gj_TB := gj_t0 (List.mem_of_getElem? (i := 148) rfl) rfl
theorem kf_X6_9 : Cond.fieldLink RX6 9 RX6 "names" "[J" ∈ gj_TB := gj_t0 (List.mem_of_getElem? (i := 149) rfl) rfl
theorem kf_X6_15 : Cond.fieldLink RX6 15 RX6 "thought" "[Z" ∈ gj_TB := gj_t0 (List.mem_of_getElem? (i := 150) rfl) rfl
theorem kf_X6_19 : Cond.fieldLink RX6 19 RX6 "fitted" "[Z" ∈ gj_TB := gj_t0 (List.mem_of_getElem? (i := 151) rfl) rfl
theorem kf_X6_35 : Cond.fieldLink RX6 35 RX6 "once" "I" ∈ gj_TB := gj_t0 (List.mem_of_getElem? (i := 152) rfl) rfl
theorem kf_X6_57 : Cond.fieldLink RX6 57 RX6 "kind" "I" ∈ gj_TB := gj_t0 (List.mem_of_getElem? (i := 153) rfl) rfl
theorem kf_X6_64 : Cond.fieldLink RX6 64 RX6 "start" "I" ∈ gj_TB := gj_t0 (List.mem_of_getElem? (i := 154) rfl) rfl
theorem kf_X6_39 : Cond.fieldLink RX6 39 RX6 "next" "I" ∈ gj_TB := gj_t0 (List.mem_of_getElem? (i := 155) rfl) rfl
theorem kf_X6_152 : Cond.fieldLink RX6 152 RX6 "value" "I" ∈ gj_TB := gj_t0 (List.mem_of_getElem? (i := 156) rfl) rfl
theorem ka_long : Cond.arrayClass .long ∈ gj_TB := gj_t0 (List.mem_of_getElem? (i := 178) rfl) rfl
theorem ka_boolean : Cond.arrayClass .boolean ∈ gj_TB := gj_t0 (List.mem_of_getElem? (i := 179) rfl) rfl
theorem cl_X11_35 : Cond.classLink RX11 35 RX3 ∈ gj_TB := gj_t0 (List.mem_of_getElem? (i := 180) rfl) rfl
theorem ins_X3 : Cond.instantiable RX3 11 ∈ gj_TB := gj_t0 (List.mem_of_getElem? (i := 181) rfl) rfl
theorem ml_X11_37 : Cond.methodLink RX11 37 yX3_init ∈ gj_TB := gj_t0 (List.mem_of_getElem? (i := 182) rfl) rfl
theorem ml_X3_3 : Cond.methodLink RX3 3 Lib.objectInit ∈ gj_TB := gj_t0 (List.mem_of_getElem? (i := 185) rfl) rfl
theorem cl_X3_33 : Cond.classLink RX3 33 RX1 ∈ gj_TB := gj_t0 (List.mem_of_getElem? (i := 186) rfl) rfl
theorem ins_X1 : Cond.instantiable RX1 3 ∈ gj_TB := gj_t0 (List.mem_of_getElem? (i := 187) rfl) rfl
theorem ml_X1_3 : Cond.methodLink RX1 3 Lib.objectInit ∈ gj_TB := gj_t0 (List.mem_of_getElem? (i := 191) rfl) rfl
theorem kf_X1_11 : Cond.fieldLink RX1 11 RX1 "cells" "[I" ∈ gj_TB := gj_t0 (List.mem_of_getElem? (i := 192) rfl) rfl
theorem kf_X1_19 : Cond.fieldLink RX1 19 RX1 "first" "I" ∈ gj_TB := gj_t0 (List.mem_of_getElem? (i := 193) rfl) rfl
theorem kf_X1_15 : Cond.fieldLink RX1 15 RX1 "size" "I" ∈ gj_TB := gj_t0 (List.mem_of_getElem? (i := 194) rfl) rfl
theorem ml_X3_40 : Cond.methodLink RX3 40 yX7_fill ∈ gj_TB := gj_t0 (List.mem_of_getElem? (i := 202) rfl) rfl
theorem kf_X3_46 : Cond.fieldLink RX3 46 RX3 "year" "I" ∈ gj_TB := gj_t0 (List.mem_of_getElem? (i := 205) rfl) rfl
theorem kf_X8_115 : Cond.fieldLink RX8 115 RX3 "year" "I" ∈ gj_TB := gj_t0 (List.mem_of_getElem? (i := 206) rfl) rfl
theorem kf_X11_275 : Cond.fieldLink RX11 275 RX3 "year" "I" ∈ gj_TB := gj_t0 (List.mem_of_getElem? (i := 207) rfl) rfl
theorem kf_X3_50 : Cond.fieldLink RX3 50 RX3 "way" "I" ∈ gj_TB := gj_t0 (List.mem_of_getElem? (i := 208) rfl) rfl
theorem kf_X8_46 : Cond.fieldLink RX8 46 RX3 "way" "I" ∈ gj_TB := gj_t0 (List.mem_of_getElem? (i := 209) rfl) rfl
theorem kf_X11_254 : Cond.fieldLink RX11 254 RX3 "way" "I" ∈ gj_TB := gj_t0 (List.mem_of_getElem? (i := 210) rfl) rfl
theorem kf_X3_53 : Cond.fieldLink RX3 53 RX3 "x" "I" ∈ gj_TB := gj_t0 (List.mem_of_getElem? (i := 211) rfl) rfl
theorem kf_X11_258 : Cond.fieldLink RX11 258 RX3 "x" "I" ∈ gj_TB := gj_t0 (List.mem_of_getElem? (i := 212) rfl) rfl
theorem kf_X3_9 : Cond.fieldLink RX3 9 RX3 "mate" "[I" ∈ gj_TB := gj_t0 (List.mem_of_getElem? (i := 213) rfl) rfl
theorem kf_X2_36 : Cond.fieldLink RX2 36 RX3 "mate" "[I" ∈ gj_TB := gj_t0 (List.mem_of_getElem? (i := 214) rfl) rfl
theorem kf_X4_73 : Cond.fieldLink RX4 73 RX3 "mate" "[I" ∈ gj_TB := gj_t0 (List.mem_of_getElem? (i := 215) rfl) rfl
theorem kf_X8_62 : Cond.fieldLink RX8 62 RX3 "mate" "[I" ∈ gj_TB := gj_t0 (List.mem_of_getElem? (i := 216) rfl) rfl
theorem kf_X11_143 : Cond.fieldLink RX11 143 RX3 "mate" "[I" ∈ gj_TB := gj_t0 (List.mem_of_getElem? (i := 217) rfl) rfl
theorem kf_X3_15 : Cond.fieldLink RX3 15 RX3 "years" "[I" ∈ gj_TB := gj_t0 (List.mem_of_getElem? (i := 218) rfl) rfl
theorem kf_X4_83 : Cond.fieldLink RX4 83 RX3 "years" "[I" ∈ gj_TB := gj_t0 (List.mem_of_getElem? (i := 219) rfl) rfl
theorem kf_X8_124 : Cond.fieldLink RX8 124 RX3 "years" "[I" ∈ gj_TB := gj_t0 (List.mem_of_getElem? (i := 220) rfl) rfl
theorem kf_X11_151 : Cond.fieldLink RX11 151 RX3 "years" "[I" ∈ gj_TB := gj_t0 (List.mem_of_getElem? (i := 221) rfl) rfl
theorem kf_X3_18 : Cond.fieldLink RX3 18 RX3 "yeses" "[I" ∈ gj_TB := gj_t0 (List.mem_of_getElem? (i := 222) rfl) rfl
theorem kf_X8_98 : Cond.fieldLink RX8 98 RX3 "yeses" "[I" ∈ gj_TB := gj_t0 (List.mem_of_getElem? (i := 223) rfl) rfl
theorem kf_X11_180 : Cond.fieldLink RX11 180 RX3 "yeses" "[I" ∈ gj_TB := gj_t0 (List.mem_of_getElem? (i := 224) rfl) rfl
theorem kf_X3_21 : Cond.fieldLink RX3 21 RX3 "earned" "[I" ∈ gj_TB := gj_t0 (List.mem_of_getElem? (i := 225) rfl) rfl
theorem kf_X11_154 : Cond.fieldLink RX11 154 RX3 "earned" "[I" ∈ gj_TB := gj_t0 (List.mem_of_getElem? (i := 226) rfl) rfl
theorem kf_X3_24 : Cond.fieldLink RX3 24 RX3 "good" "[I" ∈ gj_TB := gj_t0 (List.mem_of_getElem? (i := 227) rfl) rfl
theorem kf_X4_53 : Cond.fieldLink RX4 53 RX3 "good" "[I" ∈ gj_TB := gj_t0 (List.mem_of_getElem? (i := 228) rfl) rfl
theorem kf_X2_111 : Cond.fieldLink RX2 111 RX3 "good" "[I" ∈ gj_TB := gj_t0 (List.mem_of_getElem? (i := 229) rfl) rfl
theorem kf_X11_165 : Cond.fieldLink RX11 165 RX3 "good" "[I" ∈ gj_TB := gj_t0 (List.mem_of_getElem? (i := 230) rfl) rfl
theorem kf_X8_180 : Cond.fieldLink RX8 180 RX3 "good" "[I" ∈ gj_TB := gj_t0 (List.mem_of_getElem? (i := 231) rfl) rfl
theorem kf_X3_27 : Cond.fieldLink RX3 27 RX3 "poor" "[I" ∈ gj_TB := gj_t0 (List.mem_of_getElem? (i := 232) rfl) rfl
theorem kf_X4_66 : Cond.fieldLink RX4 66 RX3 "poor" "[I" ∈ gj_TB := gj_t0 (List.mem_of_getElem? (i := 233) rfl) rfl
theorem kf_X2_114 : Cond.fieldLink RX2 114 RX3 "poor" "[I" ∈ gj_TB := gj_t0 (List.mem_of_getElem? (i := 234) rfl) rfl
theorem kf_X11_168 : Cond.fieldLink RX11 168 RX3 "poor" "[I" ∈ gj_TB := gj_t0 (List.mem_of_getElem? (i := 235) rfl) rfl
theorem kf_X8_183 : Cond.fieldLink RX8 183 RX3 "poor" "[I" ∈ gj_TB := gj_t0 (List.mem_of_getElem? (i := 236) rfl) rfl
theorem kf_X3_30 : Cond.fieldLink RX3 30 RX3 "children" "[I" ∈ gj_TB := gj_t0 (List.mem_of_getElem? (i := 237) rfl) rfl
theorem kf_X4_70 : Cond.fieldLink RX4 70 RX3 "children" "[I" ∈ gj_TB := gj_t0 (List.mem_of_getElem? (i := 238) rfl) rfl
theorem kf_X8_162 : Cond.fieldLink RX8 162 RX3 "children" "[I" ∈ gj_TB := gj_t0 (List.mem_of_getElem? (i := 239) rfl) rfl
theorem kf_X2_125 : Cond.fieldLink RX2 125 RX3 "children" "[I" ∈ gj_TB := gj_t1 (List.mem_of_getElem? (i := 0) rfl) rfl
theorem kf_X11_171 : Cond.fieldLink RX11 171 RX3 "children" "[I" ∈ gj_TB := gj_t1 (List.mem_of_getElem? (i := 1) rfl) rfl
theorem kf_X3_36 : Cond.fieldLink RX3 36 RX3 "ended" "LMayGreen$Ended;" ∈ gj_TB := gj_t1 (List.mem_of_getElem? (i := 2) rfl) rfl
theorem kf_X8_111 : Cond.fieldLink RX8 111 RX3 "ended" "LMayGreen$Ended;" ∈ gj_TB := gj_t1 (List.mem_of_getElem? (i := 3) rfl) rfl
theorem kf_X11_285 : Cond.fieldLink RX11 285 RX3 "ended" "LMayGreen$Ended;" ∈ gj_TB := gj_t1 (List.mem_of_getElem? (i := 4) rfl) rfl
theorem cl_X11_42 : Cond.classLink RX11 42 RX4 ∈ gj_TB := gj_t1 (List.mem_of_getElem? (i := 28) rfl) rfl
theorem ins_X4 : Cond.instantiable RX4 11 ∈ gj_TB := gj_t1 (List.mem_of_getElem? (i := 29) rfl) rfl
theorem ml_X11_44 : Cond.methodLink RX11 44 yX4_init ∈ gj_TB := gj_t1 (List.mem_of_getElem? (i := 30) rfl) rfl
theorem ml_X4_3 : Cond.methodLink RX4 3 Lib.objectInit ∈ gj_TB := gj_t1 (List.mem_of_getElem? (i := 33) rfl) rfl
theorem kf_X4_21 : Cond.fieldLink RX4 21 RX4 "plan" "LMayGreen$Plan;" ∈ gj_TB := gj_t1 (List.mem_of_getElem? (i := 34) rfl) rfl
theorem kf_X4_25 : Cond.fieldLink RX4 25 RX4 "life" "LMayGreen$Life;" ∈ gj_TB := gj_t1 (List.mem_of_getElem? (i := 35) rfl) rfl
theorem kf_X4_9 : Cond.fieldLink RX4 9 RX4 "good" "[I" ∈ gj_TB := gj_t1 (List.mem_of_getElem? (i := 36) rfl) rfl
theorem kf_X4_15 : Cond.fieldLink RX4 15 RX4 "poor" "[I" ∈ gj_TB := gj_t1 (List.mem_of_getElem? (i := 37) rfl) rfl
theorem kf_X4_18 : Cond.fieldLink RX4 18 RX4 "childWorth" "[I" ∈ gj_TB := gj_t1 (List.mem_of_getElem? (i := 38) rfl) rfl
theorem kf_X4_29 : Cond.fieldLink RX4 29 RX4 "me" "I" ∈ gj_TB := gj_t1 (List.mem_of_getElem? (i := 39) rfl) rfl
theorem kf_X4_41 : Cond.fieldLink RX4 41 RX4 "others" "I" ∈ gj_TB := gj_t1 (List.mem_of_getElem? (i := 40) rfl) rfl
theorem kf_X4_80 : Cond.fieldLink RX4 80 RX4 "has" "I" ∈ gj_TB := gj_t1 (List.mem_of_getElem? (i := 41) rfl) rfl
theorem kf_X4_86 : Cond.fieldLink RX4 86 RX4 "hasFor" "I" ∈ gj_TB := gj_t1 (List.mem_of_getElem? (i := 42) rfl) rfl
theorem kf_X4_92 : Cond.fieldLink RX4 92 RX4 "cow" "I" ∈ gj_TB := gj_t1 (List.mem_of_getElem? (i := 43) rfl) rfl
theorem kf_X4_93 : Cond.fieldLink RX4 93 RX4 "shut" "I" ∈ gj_TB := gj_t1 (List.mem_of_getElem? (i := 44) rfl) rfl
theorem cl_X11_51 : Cond.classLink RX11 51 RX2 ∈ gj_TB := gj_t1 (List.mem_of_getElem? (i := 68) rfl) rfl
theorem ins_X2 : Cond.instantiable RX2 7 ∈ gj_TB := gj_t1 (List.mem_of_getElem? (i := 69) rfl) rfl
theorem ml_X11_53 : Cond.methodLink RX11 53 yX2_init ∈ gj_TB := gj_t1 (List.mem_of_getElem? (i := 70) rfl) rfl
theorem ml_X2_3 : Cond.methodLink RX2 3 Lib.objectInit ∈ gj_TB := gj_t1 (List.mem_of_getElem? (i := 73) rfl) rfl
theorem kf_X2_28 : Cond.fieldLink RX2 28 RX2 "plan" "LMayGreen$Plan;" ∈ gj_TB := gj_t1 (List.mem_of_getElem? (i := 74) rfl) rfl
theorem kf_X2_32 : Cond.fieldLink RX2 32 RX2 "life" "LMayGreen$Life;" ∈ gj_TB := gj_t1 (List.mem_of_getElem? (i := 75) rfl) rfl
theorem kf_X2_9 : Cond.fieldLink RX2 9 RX2 "likings" "[I" ∈ gj_TB := gj_t1 (List.mem_of_getElem? (i := 76) rfl) rfl
theorem kf_X2_15 : Cond.fieldLink RX2 15 RX2 "both" "[Z" ∈ gj_TB := gj_t1 (List.mem_of_getElem? (i := 77) rfl) rfl
theorem kf_X2_19 : Cond.fieldLink RX2 19 RX2 "here" "[Z" ∈ gj_TB := gj_t1 (List.mem_of_getElem? (i := 78) rfl) rfl
theorem kf_X2_22 : Cond.fieldLink RX2 22 RX2 "saidNo" "[Z" ∈ gj_TB := gj_t1 (List.mem_of_getElem? (i := 79) rfl) rfl
theorem kf_X2_25 : Cond.fieldLink RX2 25 RX2 "mate" "[I" ∈ gj_TB := gj_t1 (List.mem_of_getElem? (i := 80) rfl) rfl
theorem kf_X8_136 : Cond.fieldLink RX8 136 RX2 "mate" "[I" ∈ gj_TB := gj_t1 (List.mem_of_getElem? (i := 81) rfl) rfl
theorem kf_X11_267 : Cond.fieldLink RX11 267 RX2 "mate" "[I" ∈ gj_TB := gj_t1 (List.mem_of_getElem? (i := 82) rfl) rfl
theorem cl_X11_58 : Cond.classLink RX11 58 RX0 ∈ gj_TB := gj_t1 (List.mem_of_getElem? (i := 98) rfl) rfl
theorem ins_X0 : Cond.instantiable RX0 3 ∈ gj_TB := gj_t1 (List.mem_of_getElem? (i := 99) rfl) rfl
theorem ml_X11_60 : Cond.methodLink RX11 60 yX0_init ∈ gj_TB := gj_t1 (List.mem_of_getElem? (i := 100) rfl) rfl
theorem ml_X0_5 : Cond.methodLink RX0 5 Lib.objectInit ∈ gj_TB := gj_t1 (List.mem_of_getElem? (i := 103) rfl) rfl
theorem kf_X0_18 : Cond.fieldLink RX0 18 RX0 "plan" "LMayGreen$Plan;" ∈ gj_TB := gj_t1 (List.mem_of_getElem? (i := 104) rfl) rfl
theorem kf_X0_11 : Cond.fieldLink RX0 11 RX0 "trial" "[I" ∈ gj_TB := gj_t1 (List.mem_of_getElem? (i := 105) rfl) rfl
theorem kf_X0_15 : Cond.fieldLink RX0 15 RX0 "mate" "[I" ∈ gj_TB := gj_t1 (List.mem_of_getElem? (i := 106) rfl) rfl
theorem kf_X11_300 : Cond.fieldLink RX11 300 RX0 "mate" "[I" ∈ gj_TB := gj_t1 (List.mem_of_getElem? (i := 107) rfl) rfl
theorem cl_X11_67 : Cond.classLink RX11 67 RX8 ∈ gj_TB := gj_t1 (List.mem_of_getElem? (i := 115) rfl) rfl
theorem ins_X8 : Cond.instantiable RX8 5 ∈ gj_TB := gj_t1 (List.mem_of_getElem? (i := 116) rfl) rfl
theorem ml_X11_69 : Cond.methodLink RX11 69 yX8_init ∈ gj_TB := gj_t1 (List.mem_of_getElem? (i := 117) rfl) rfl
theorem ml_X8_3 : Cond.methodLink RX8 3 Lib.objectInit ∈ gj_TB := gj_t1 (List.mem_of_getElem? (i := 120) rfl) rfl
theorem kf_X8_15 : Cond.fieldLink RX8 15 RX8 "plan" "LMayGreen$Plan;" ∈ gj_TB := gj_t1 (List.mem_of_getElem? (i := 121) rfl) rfl
theorem kf_X8_19 : Cond.fieldLink RX8 19 RX8 "life" "LMayGreen$Life;" ∈ gj_TB := gj_t1 (List.mem_of_getElem? (i := 122) rfl) rfl
theorem kf_X8_23 : Cond.fieldLink RX8 23 RX8 "mind" "LMayGreen$Mind;" ∈ gj_TB := gj_t1 (List.mem_of_getElem? (i := 123) rfl) rfl
theorem kf_X8_27 : Cond.fieldLink RX8 27 RX8 "green" "LMayGreen$Green;" ∈ gj_TB := gj_t1 (List.mem_of_getElem? (i := 124) rfl) rfl
theorem kf_X8_9 : Cond.fieldLink RX8 9 RX8 "silence" "[Z" ∈ gj_TB := gj_t1 (List.mem_of_getElem? (i := 125) rfl) rfl
theorem kf_X11_10 : Cond.fieldLink RX11 10 RX11 "text" "LMayGreen$Text;" ∈ gj_TB := gj_t1 (List.mem_of_getElem? (i := 138) rfl) rfl
theorem kf_X11_19 : Cond.fieldLink RX11 19 RX11 "draft" "LMayGreen$Plan;" ∈ gj_TB := gj_t1 (List.mem_of_getElem? (i := 139) rfl) rfl
theorem kf_X11_28 : Cond.fieldLink RX11 28 RX11 "reader" "LMayGreen$Reader;" ∈ gj_TB := gj_t1 (List.mem_of_getElem? (i := 140) rfl) rfl
theorem kf_X11_32 : Cond.fieldLink RX11 32 RX11 "plan" "LMayGreen$Plan;" ∈ gj_TB := gj_t1 (List.mem_of_getElem? (i := 141) rfl) rfl
theorem kf_X11_38 : Cond.fieldLink RX11 38 RX11 "now" "LMayGreen$Life;" ∈ gj_TB := gj_t1 (List.mem_of_getElem? (i := 142) rfl) rfl
theorem kf_X11_47 : Cond.fieldLink RX11 47 RX11 "mind" "LMayGreen$Mind;" ∈ gj_TB := gj_t1 (List.mem_of_getElem? (i := 143) rfl) rfl
theorem kf_X11_54 : Cond.fieldLink RX11 54 RX11 "meadow" "LMayGreen$Green;" ∈ gj_TB := gj_t1 (List.mem_of_getElem? (i := 144) rfl) rfl
theorem kf_X11_63 : Cond.fieldLink RX11 63 RX11 "elders" "LMayGreen$Elders;" ∈ gj_TB := gj_t1 (List.mem_of_getElem? (i := 145) rfl) rfl
theorem kf_X11_72 : Cond.fieldLink RX11 72 RX11 "season" "LMayGreen$Season;" ∈ gj_TB := gj_t1 (List.mem_of_getElem? (i := 146) rfl) rfl
theorem kf_X11_76 : Cond.fieldLink RX11 76 RX11 "album" "[LMayGreen$Life;" ∈ gj_TB := gj_t1 (List.mem_of_getElem? (i := 147) rfl) rfl
theorem kf_X11_80 : Cond.fieldLink RX11 80 RX11 "kept" "[Z" ∈ gj_TB := gj_t1 (List.mem_of_getElem? (i := 148) rfl) rfl
theorem kf_X11_84 : Cond.fieldLink RX11 84 RX11 "refused" "[I" ∈ gj_TB := gj_t1 (List.mem_of_getElem? (i := 149) rfl) rfl
theorem ml_L_13 : Cond.methodLink RL 13 yX11_feed ∈ gj_TB := gj_t1 (List.mem_of_getElem? (i := 175) rfl) rfl
theorem ml_X11_88 : Cond.methodLink RX11 88 yX9_hasRoomFor ∈ gj_TB := gj_t1 (List.mem_of_getElem? (i := 179) rfl) rfl
theorem ml_X11_92 : Cond.methodLink RX11 92 yX11_refuse ∈ gj_TB := gj_t1 (List.mem_of_getElem? (i := 183) rfl) rfl
theorem ml_X11_139 : Cond.methodLink RX11 139 yX7_at ∈ gj_TB := gj_t1 (List.mem_of_getElem? (i := 187) rfl) rfl
theorem ml_X11_333 : Cond.methodLink RX11 333 yX7_put ∈ gj_TB := gj_t1 (List.mem_of_getElem? (i := 190) rfl) rfl
theorem ml_X11_95 : Cond.methodLink RX11 95 yX9_append ∈ gj_TB := gj_t1 (List.mem_of_getElem? (i := 193) rfl) rfl
theorem ml_X9_19 : Cond.methodLink RX9 19 yX7_put ∈ gj_TB := gj_t1 (List.mem_of_getElem? (i := 197) rfl) rfl
theorem ml_X11_99 : Cond.methodLink RX11 99 yX9_length ∈ gj_TB := gj_t1 (List.mem_of_getElem? (i := 198) rfl) rfl
theorem ml_L_18 : Cond.methodLink RL 18 yX11_end ∈ gj_TB := gj_t1 (List.mem_of_getElem? (i := 202) rfl) rfl
theorem ml_X11_103 : Cond.methodLink RX11 103 yX9_cutTo ∈ gj_TB := gj_t1 (List.mem_of_getElem? (i := 206) rfl) rfl
theorem ml_L_23 : Cond.methodLink RL 23 yX11_fault ∈ gj_TB := gj_t1 (List.mem_of_getElem? (i := 210) rfl) rfl
theorem ml_X11_106 : Cond.methodLink RX11 106 yX6_read ∈ gj_TB := gj_t1 (List.mem_of_getElem? (i := 214) rfl) rfl
theorem ml_X6_30 : Cond.methodLink RX6 30 yX5_clear ∈ gj_TB := gj_t1 (List.mem_of_getElem? (i := 218) rfl) rfl
theorem ml_X5_61 : Cond.methodLink RX5 61 yX7_fill ∈ gj_TB := gj_t1 (List.mem_of_getElem? (i := 222) rfl) rfl
theorem ml_X6_42 : Cond.methodLink RX6 42 yX7_unmark ∈ gj_TB := gj_t1 (List.mem_of_getElem? (i := 223) rfl) rfl
theorem ml_X6_48 : Cond.methodLink RX6 48 yX6_scan ∈ gj_TB := gj_t1 (List.mem_of_getElem? (i := 226) rfl) rfl
theorem ml_X6_51 : Cond.methodLink RX6 51 yX9_length ∈ gj_TB := gj_t1 (List.mem_of_getElem? (i := 230) rfl) rfl
theorem ml_X6_70 : Cond.methodLink RX6 70 yX9_byteAt ∈ gj_TB := gj_t1 (List.mem_of_getElem? (i := 231) rfl) rfl
theorem ml_X9_25 : Cond.methodLink RX9 25 yX7_at ∈ gj_TB := gj_t1 (List.mem_of_getElem? (i := 235) rfl) rfl
theorem ml_X6_74 : Cond.methodLink RX6 74 yX6_isBlank ∈ gj_TB := gj_t1 (List.mem_of_getElem? (i := 236) rfl) rfl
theorem ml_X6_78 : Cond.methodLink RX6 78 yX6_kindOf ∈ gj_TB := gj_t1 (List.mem_of_getElem? (i := 239) rfl) rfl
theorem ml_X6_60 : Cond.methodLink RX6 60 yX6_readLine ∈ gj_TB := gj_t2 (List.mem_of_getElem? (i := 2) rfl) rfl
theorem ml_X6_83 : Cond.methodLink RX6 83 yX6_isWord ∈ gj_TB := gj_t2 (List.mem_of_getElem? (i := 7) rfl) rfl
theorem ml_X6_230 : Cond.methodLink RX6 230 yJ0_length_8abf5 ∈ gj_TB := gj_t2 (List.mem_of_getElem? (i := 11) rfl) rfl
theorem ml_J0_335 : Cond.methodLink RJ0 335 yJ0_coder_7d493 ∈ gj_TB := gj_t2 (List.mem_of_getElem? (i := 15) rfl) rfl
theorem kf_J0_38 : Cond.fieldLink RJ0 38 RJ0 "COMPACT_STRINGS" "Z" ∈ gj_TB := gj_t2 (List.mem_of_getElem? (i := 19) rfl) rfl
theorem ml_X6_233 : Cond.methodLink RX6 233 yJ0_charAt_5068e ∈ gj_TB := gj_t2 (List.mem_of_getElem? (i := 21) rfl) rfl
theorem ml_J0_492 : Cond.methodLink RJ0 492 yJ0_isLatin1_aae02 ∈ gj_TB := gj_t2 (List.mem_of_getElem? (i := 25) rfl) rfl
theorem ml_J0_495 : Cond.methodLink RJ0 495 yJ1_charAt_3b067 ∈ gj_TB := gj_t2 (List.mem_of_getElem? (i := 29) rfl) rfl
theorem ml_J1_9 : Cond.methodLink RJ1 9 yJ0_checkIndex_df160 ∈ gj_TB := gj_t2 (List.mem_of_getElem? (i := 32) rfl) rfl
theorem kf_J0_1053 : Cond.fieldLink RJ0 1053 RJ3 "SIOOBE_FORMATTER" "Ljava/util/function/BiFunction;" ∈ gj_TB := gj_t2 (List.mem_of_getElem? (i := 35) rfl) rfl
theorem ml_J0_1059 : Cond.methodLink RJ0 1059 yJ3_checkIndex_8e157 ∈ gj_TB := gj_t2 (List.mem_of_getElem? (i := 37) rfl) rfl
theorem ml_J0_498 : Cond.methodLink RJ0 498 yJ2_charAt_3b067 ∈ gj_TB := gj_t2 (List.mem_of_getElem? (i := 40) rfl) rfl
theorem ml_J2_67 : Cond.methodLink RJ2 67 yJ2_checkIndex_2214a ∈ gj_TB := gj_t2 (List.mem_of_getElem? (i := 43) rfl) rfl
theorem ml_J2_48 : Cond.methodLink RJ2 48 yJ2_length_9d52b ∈ gj_TB := gj_t2 (List.mem_of_getElem? (i := 46) rfl) rfl
theorem ml_J2_414 : Cond.methodLink RJ2 414 yJ0_checkIndex_df160 ∈ gj_TB := gj_t2 (List.mem_of_getElem? (i := 49) rfl) rfl
theorem ml_J2_71 : Cond.methodLink RJ2 71 yJ2_getChar_3b067 ∈ gj_TB := gj_t2 (List.mem_of_getElem? (i := 50) rfl) rfl
theorem kf_J2_44 : Cond.fieldLink RJ2 44 RJ2 "$assertionsDisabled" "Z" ∈ gj_TB := gj_t2 (List.mem_of_getElem? (i := 53) rfl) rfl
theorem kf_J2_59 : Cond.fieldLink RJ2 59 RJ2 "HI_BYTE_SHIFT" "I" ∈ gj_TB := gj_t2 (List.mem_of_getElem? (i := 55) rfl) rfl
theorem kf_J2_63 : Cond.fieldLink RJ2 63 RJ2 "LO_BYTE_SHIFT" "I" ∈ gj_TB := gj_t2 (List.mem_of_getElem? (i := 57) rfl) rfl
theorem ml_X6_90 : Cond.methodLink RX6 90 yX6_readPerson ∈ gj_TB := gj_t2 (List.mem_of_getElem? (i := 59) rfl) rfl
theorem ml_X6_134 : Cond.methodLink RX6 134 yX6_nameHere ∈ gj_TB := gj_t2 (List.mem_of_getElem? (i := 63) rfl) rfl
theorem kl_X6_225 : Cond.constantLong RX6 225 (Int64.ofInt (256)) ∈ gj_TB := gj_t2 (List.mem_of_getElem? (i := 67) rfl) rfl
theorem ml_X6_138 : Cond.methodLink RX6 138 yX6_isLineWord ∈ gj_TB := gj_t2 (List.mem_of_getElem? (i := 68) rfl) rfl
theorem ml_X6_141 : Cond.methodLink RX6 141 yX6_slotNamed ∈ gj_TB := gj_t2 (List.mem_of_getElem? (i := 80) rfl) rfl
theorem ml_X6_227 : Cond.methodLink RX6 227 yX5_isPerson ∈ gj_TB := gj_t2 (List.mem_of_getElem? (i := 84) rfl) rfl
theorem ml_X6_145 : Cond.methodLink RX6 145 yX6_takeNumber ∈ gj_TB := gj_t2 (List.mem_of_getElem? (i := 88) rfl) rfl
theorem ml_X6_216 : Cond.methodLink RX6 216 yX6_numberHere ∈ gj_TB := gj_t2 (List.mem_of_getElem? (i := 92) rfl) rfl
theorem kc_X6_219 : Cond.constant RX6 219 (Int32.ofInt (1000000)) ∈ gj_TB := gj_t2 (List.mem_of_getElem? (i := 96) rfl) rfl
theorem ml_X6_220 : Cond.methodLink RX6 220 yJ9_min_7cf53 ∈ gj_TB := gj_t2 (List.mem_of_getElem? (i := 97) rfl) rfl
theorem ml_X6_155 : Cond.methodLink RX6 155 yX7_put ∈ gj_TB := gj_t2 (List.mem_of_getElem? (i := 100) rfl) rfl
theorem ml_X6_159 : Cond.methodLink RX6 159 yX6_takeStop ∈ gj_TB := gj_t2 (List.mem_of_getElem? (i := 101) rfl) rfl
theorem ml_X6_101 : Cond.methodLink RX6 101 yX6_readThink ∈ gj_TB := gj_t2 (List.mem_of_getElem? (i := 105) rfl) rfl
theorem ml_X6_162 : Cond.methodLink RX6 162 yX10_unlike ∈ gj_TB := gj_t2 (List.mem_of_getElem? (i := 109) rfl) rfl
theorem ml_X6_167 : Cond.methodLink RX6 167 yX10_view ∈ gj_TB := gj_t2 (List.mem_of_getElem? (i := 112) rfl) rfl
theorem ml_X6_171 : Cond.methodLink RX6 171 yX7_is ∈ gj_TB := gj_t2 (List.mem_of_getElem? (i := 115) rfl) rfl
theorem ml_X6_175 : Cond.methodLink RX6 175 yX7_mark ∈ gj_TB := gj_t2 (List.mem_of_getElem? (i := 118) rfl) rfl
theorem ml_X6_106 : Cond.methodLink RX6 106 yX6_readFit ∈ gj_TB := gj_t2 (List.mem_of_getElem? (i := 121) rfl) rfl
theorem ml_X6_188 : Cond.methodLink RX6 188 yX10_couple ∈ gj_TB := gj_t2 (List.mem_of_getElem? (i := 125) rfl) rfl
theorem ml_X6_111 : Cond.methodLink RX6 111 yX6_readWorth ∈ gj_TB := gj_t2 (List.mem_of_getElem? (i := 128) rfl) rfl
theorem ml_X6_193 : Cond.methodLink RX6 193 yX6_firstTold ∈ gj_TB := gj_t2 (List.mem_of_getElem? (i := 132) rfl) rfl
theorem ml_X6_116 : Cond.methodLink RX6 116 yX6_readHouse ∈ gj_TB := gj_t2 (List.mem_of_getElem? (i := 136) rfl) rfl
theorem ml_X6_121 : Cond.methodLink RX6 121 yX6_readChild ∈ gj_TB := gj_t2 (List.mem_of_getElem? (i := 140) rfl) rfl
theorem ml_X6_126 : Cond.methodLink RX6 126 yX6_readCow ∈ gj_TB := gj_t2 (List.mem_of_getElem? (i := 144) rfl) rfl
theorem ml_X6_131 : Cond.methodLink RX6 131 yX6_readAhead ∈ gj_TB := gj_t2 (List.mem_of_getElem? (i := 148) rfl) rfl
theorem ml_X6_67 : Cond.methodLink RX6 67 yX5_stands ∈ gj_TB := gj_t2 (List.mem_of_getElem? (i := 152) rfl) rfl
theorem ka_byte : Cond.arrayClass .byte ∈ gj_TB := gj_t2 (List.mem_of_getElem? (i := 156) rfl) rfl
theorem ml_L_28 : Cond.methodLink RL 28 yX11_village ∈ gj_TB := gj_t2 (List.mem_of_getElem? (i := 157) rfl) rfl
theorem ml_X11_109 : Cond.methodLink RX11 109 yX5_take ∈ gj_TB := gj_t2 (List.mem_of_getElem? (i := 161) rfl) rfl
theorem ml_X5_67 : Cond.methodLink RX5 67 yX7_copy ∈ gj_TB := gj_t2 (List.mem_of_getElem? (i := 165) rfl) rfl
theorem ml_X5_71 : Cond.methodLink RX5 71 yX5_reckonShown ∈ gj_TB := gj_t2 (List.mem_of_getElem? (i := 168) rfl) rfl
theorem ml_X5_113 : Cond.methodLink RX5 113 yX5_goodNext ∈ gj_TB := gj_t2 (List.mem_of_getElem? (i := 172) rfl) rfl
theorem ml_X5_74 : Cond.methodLink RX5 74 yX5_rightAfter ∈ gj_TB := gj_t2 (List.mem_of_getElem? (i := 176) rfl) rfl
theorem ml_X5_83 : Cond.methodLink RX5 83 yX7_at ∈ gj_TB := gj_t2 (List.mem_of_getElem? (i := 180) rfl) rfl
theorem ml_X5_122 : Cond.methodLink RX5 122 yX5_oddsOf ∈ gj_TB := gj_t2 (List.mem_of_getElem? (i := 181) rfl) rfl
theorem ml_X5_78 : Cond.methodLink RX5 78 yX5_otherAfter ∈ gj_TB := gj_t2 (List.mem_of_getElem? (i := 184) rfl) rfl
theorem kl_X5_120 : Cond.constantLong RX5 120 (Int64.ofInt (16)) ∈ gj_TB := gj_t2 (List.mem_of_getElem? (i := 188) rfl) rfl
theorem kl_X5_81 : Cond.constantLong RX5 81 (Int64.ofInt (1000)) ∈ gj_TB := gj_t2 (List.mem_of_getElem? (i := 189) rfl) rfl
theorem ml_X5_116 : Cond.methodLink RX5 116 yX7_put ∈ gj_TB := gj_t2 (List.mem_of_getElem? (i := 190) rfl) rfl
theorem ml_X11_112 : Cond.methodLink RX11 112 yX0_choose ∈ gj_TB := gj_t2 (List.mem_of_getElem? (i := 191) rfl) rfl
theorem ml_X0_22 : Cond.methodLink RX0 22 yX0_spread ∈ gj_TB := gj_t2 (List.mem_of_getElem? (i := 195) rfl) rfl
theorem ml_X0_38 : Cond.methodLink RX0 38 yX7_fill ∈ gj_TB := gj_t2 (List.mem_of_getElem? (i := 199) rfl) rfl
theorem ml_X0_42 : Cond.methodLink RX0 42 yX5_isPerson ∈ gj_TB := gj_t2 (List.mem_of_getElem? (i := 200) rfl) rfl
theorem ml_X0_45 : Cond.methodLink RX0 45 yX7_at ∈ gj_TB := gj_t2 (List.mem_of_getElem? (i := 201) rfl) rfl
theorem ml_X0_49 : Cond.methodLink RX0 49 yX7_put ∈ gj_TB := gj_t2 (List.mem_of_getElem? (i := 202) rfl) rfl
theorem ml_X0_26 : Cond.methodLink RX0 26 yX5_yearSum ∈ gj_TB := gj_t2 (List.mem_of_getElem? (i := 203) rfl) rfl
theorem ml_X5_91 : Cond.methodLink RX5 91 yX5_isPerson ∈ gj_TB := gj_t2 (List.mem_of_getElem? (i := 207) rfl) rfl
theorem ml_X5_95 : Cond.methodLink RX5 95 yX5_trueYear ∈ gj_TB := gj_t2 (List.mem_of_getElem? (i := 208) rfl) rfl
theorem ml_X5_108 : Cond.methodLink RX5 108 yX10_couple ∈ gj_TB := gj_t2 (List.mem_of_getElem? (i := 212) rfl) rfl
theorem ml_X0_32 : Cond.methodLink RX0 32 yX7_copy ∈ gj_TB := gj_t2 (List.mem_of_getElem? (i := 213) rfl) rfl
theorem ml_X11_115 : Cond.methodLink RX11 115 yX3_begin ∈ gj_TB := gj_t2 (List.mem_of_getElem? (i := 214) rfl) rfl
theorem ml_X3_56 : Cond.methodLink RX3 56 yX1_clear ∈ gj_TB := gj_t2 (List.mem_of_getElem? (i := 218) rfl) rfl
theorem ml_X11_118 : Cond.methodLink RX11 118 yX7_unmark ∈ gj_TB := gj_t2 (List.mem_of_getElem? (i := 222) rfl) rfl
theorem ml_L_32 : Cond.methodLink RL 32 yX11_person ∈ gj_TB := gj_t2 (List.mem_of_getElem? (i := 223) rfl) rfl
theorem ml_X11_131 : Cond.methodLink RX11 131 yX5_slotOf ∈ gj_TB := gj_t2 (List.mem_of_getElem? (i := 227) rfl) rfl
theorem kc_X11_135 : Cond.constant RX11 135 (Int32.ofInt (-2147483648)) ∈ gj_TB := gj_t2 (List.mem_of_getElem? (i := 231) rfl) rfl
theorem ml_X11_146 : Cond.methodLink RX11 146 yX10_numberOf ∈ gj_TB := gj_t2 (List.mem_of_getElem? (i := 232) rfl) rfl
theorem ml_L_37 : Cond.methodLink RL 37 yX11_earned ∈ gj_TB := gj_t2 (List.mem_of_getElem? (i := 235) rfl) rfl
theorem ml_L_42 : Cond.methodLink RL 42 yX11_two ∈ gj_TB := gj_t2 (List.mem_of_getElem? (i := 239) rfl) rfl
theorem ml_X11_157 : Cond.methodLink RX11 157 yX10_unlike ∈ gj_TB := gj_t3 (List.mem_of_getElem? (i := 3) rfl) rfl
theorem ml_X11_161 : Cond.methodLink RX11 161 yX10_couple ∈ gj_TB := gj_t3 (List.mem_of_getElem? (i := 4) rfl) rfl
theorem ml_X11_177 : Cond.methodLink RX11 177 yX3_arePair ∈ gj_TB := gj_t3 (List.mem_of_getElem? (i := 5) rfl) rfl
theorem ml_X3_75 : Cond.methodLink RX3 75 yX7_at ∈ gj_TB := gj_t3 (List.mem_of_getElem? (i := 9) rfl) rfl
theorem ml_L_47 : Cond.methodLink RL 47 yX11_think ∈ gj_TB := gj_t3 (List.mem_of_getElem? (i := 10) rfl) rfl
theorem ml_X11_183 : Cond.methodLink RX11 183 yX10_view ∈ gj_TB := gj_t3 (List.mem_of_getElem? (i := 14) rfl) rfl
theorem ml_L_51 : Cond.methodLink RL 51 yX11_shown ∈ gj_TB := gj_t3 (List.mem_of_getElem? (i := 15) rfl) rfl
theorem ml_X11_195 : Cond.methodLink RX11 195 yX5_shownRight ∈ gj_TB := gj_t3 (List.mem_of_getElem? (i := 19) rfl) rfl
theorem ml_X11_199 : Cond.methodLink RX11 199 yX5_shownGood ∈ gj_TB := gj_t3 (List.mem_of_getElem? (i := 23) rfl) rfl
theorem ml_L_55 : Cond.methodLink RL 55 yX11_liking ∈ gj_TB := gj_t3 (List.mem_of_getElem? (i := 27) rfl) rfl
theorem ml_X11_202 : Cond.methodLink RX11 202 yX2_likingOf ∈ gj_TB := gj_t3 (List.mem_of_getElem? (i := 31) rfl) rfl
theorem ml_X2_69 : Cond.methodLink RX2 69 yX10_couple ∈ gj_TB := gj_t3 (List.mem_of_getElem? (i := 35) rfl) rfl
theorem ml_X2_39 : Cond.methodLink RX2 39 yX7_at ∈ gj_TB := gj_t3 (List.mem_of_getElem? (i := 36) rfl) rfl
theorem ml_X2_55 : Cond.methodLink RX2 55 yX10_view ∈ gj_TB := gj_t3 (List.mem_of_getElem? (i := 37) rfl) rfl
theorem ml_X2_117 : Cond.methodLink RX2 117 yX5_gain ∈ gj_TB := gj_t3 (List.mem_of_getElem? (i := 38) rfl) rfl
theorem ml_X5_87 : Cond.methodLink RX5 87 yX5_shownGood ∈ gj_TB := gj_t3 (List.mem_of_getElem? (i := 42) rfl) rfl
theorem ml_L_59 : Cond.methodLink RL 59 yX11_sooner ∈ gj_TB := gj_t3 (List.mem_of_getElem? (i := 43) rfl) rfl
theorem ml_X11_206 : Cond.methodLink RX11 206 yX2_look ∈ gj_TB := gj_t3 (List.mem_of_getElem? (i := 47) rfl) rfl
theorem ml_X2_61 : Cond.methodLink RX2 61 yX2_likingOf ∈ gj_TB := gj_t3 (List.mem_of_getElem? (i := 51) rfl) rfl
theorem ml_X2_65 : Cond.methodLink RX2 65 yX7_put ∈ gj_TB := gj_t3 (List.mem_of_getElem? (i := 52) rfl) rfl
theorem ml_X2_72 : Cond.methodLink RX2 72 yX2_would ∈ gj_TB := gj_t3 (List.mem_of_getElem? (i := 53) rfl) rfl
theorem ml_X2_94 : Cond.methodLink RX2 94 yX2_likes ∈ gj_TB := gj_t3 (List.mem_of_getElem? (i := 57) rfl) rfl
theorem ml_X2_51 : Cond.methodLink RX2 51 yX7_mark ∈ gj_TB := gj_t3 (List.mem_of_getElem? (i := 61) rfl) rfl
theorem ml_X11_210 : Cond.methodLink RX11 210 yX2_soonerOf ∈ gj_TB := gj_t3 (List.mem_of_getElem? (i := 62) rfl) rfl
theorem ml_L_63 : Cond.methodLink RL 63 yX11_best ∈ gj_TB := gj_t3 (List.mem_of_getElem? (i := 66) rfl) rfl
theorem ml_X11_214 : Cond.methodLink RX11 214 yX11_canReckon ∈ gj_TB := gj_t3 (List.mem_of_getElem? (i := 70) rfl) rfl
theorem ml_X11_217 : Cond.methodLink RX11 217 yX4_enter ∈ gj_TB := gj_t3 (List.mem_of_getElem? (i := 73) rfl) rfl
theorem ml_X4_44 : Cond.methodLink RX4 44 yX10_facing ∈ gj_TB := gj_t3 (List.mem_of_getElem? (i := 77) rfl) rfl
theorem ml_X4_50 : Cond.methodLink RX4 50 yX10_couple ∈ gj_TB := gj_t3 (List.mem_of_getElem? (i := 80) rfl) rfl
theorem ml_X4_56 : Cond.methodLink RX4 56 yX7_at ∈ gj_TB := gj_t3 (List.mem_of_getElem? (i := 81) rfl) rfl
theorem ml_X4_62 : Cond.methodLink RX4 62 yX7_put ∈ gj_TB := gj_t3 (List.mem_of_getElem? (i := 82) rfl) rfl
theorem ml_X4_76 : Cond.methodLink RX4 76 yX10_placeOf ∈ gj_TB := gj_t3 (List.mem_of_getElem? (i := 83) rfl) rfl
theorem ml_X11_220 : Cond.methodLink RX11 220 yX4_bestWorth ∈ gj_TB := gj_t3 (List.mem_of_getElem? (i := 86) rfl) rfl
theorem ml_X4_96 : Cond.methodLink RX4 96 yX4_worthOf ∈ gj_TB := gj_t3 (List.mem_of_getElem? (i := 90) rfl) rfl
theorem ml_X4_100 : Cond.methodLink RX4 100 yX4_doing ∈ gj_TB := gj_t3 (List.mem_of_getElem? (i := 94) rfl) rfl
theorem kl_X4_122 : Cond.constantLong RX4 122 (Int64.ofInt (1000)) ∈ gj_TB := gj_t3 (List.mem_of_getElem? (i := 98) rfl) rfl
theorem ml_X4_132 : Cond.methodLink RX4 132 yX5_shownGood ∈ gj_TB := gj_t3 (List.mem_of_getElem? (i := 99) rfl) rfl
theorem ml_X4_111 : Cond.methodLink RX4 111 yJ9_min_7cf53 ∈ gj_TB := gj_t3 (List.mem_of_getElem? (i := 100) rfl) rfl
theorem ml_X4_104 : Cond.methodLink RX4 104 yX4_isShut ∈ gj_TB := gj_t3 (List.mem_of_getElem? (i := 101) rfl) rfl
theorem ml_X4_126 : Cond.methodLink RX4 126 yJ9_max_f86c9 ∈ gj_TB := gj_t3 (List.mem_of_getElem? (i := 105) rfl) rfl
theorem ml_X11_224 : Cond.methodLink RX11 224 yX4_bestAct ∈ gj_TB := gj_t3 (List.mem_of_getElem? (i := 108) rfl) rfl
theorem ml_X11_227 : Cond.methodLink RX11 227 yX10_facing ∈ gj_TB := gj_t3 (List.mem_of_getElem? (i := 112) rfl) rfl
theorem ml_L_67 : Cond.methodLink RL 67 yX11_act ∈ gj_TB := gj_t3 (List.mem_of_getElem? (i := 113) rfl) rfl
theorem ml_X11_230 : Cond.methodLink RX11 230 yX10_placeOf ∈ gj_TB := gj_t3 (List.mem_of_getElem? (i := 117) rfl) rfl
theorem ml_X11_233 : Cond.methodLink RX11 233 yX4_worthOfAct ∈ gj_TB := gj_t3 (List.mem_of_getElem? (i := 118) rfl) rfl
theorem ml_L_71 : Cond.methodLink RL 71 yX11_silent ∈ gj_TB := gj_t3 (List.mem_of_getElem? (i := 122) rfl) rfl
theorem ml_X11_237 : Cond.methodLink RX11 237 yX4_stays ∈ gj_TB := gj_t3 (List.mem_of_getElem? (i := 126) rfl) rfl
theorem ml_X4_108 : Cond.methodLink RX4 108 yX4_bestAct ∈ gj_TB := gj_t3 (List.mem_of_getElem? (i := 130) rfl) rfl
theorem ml_L_75 : Cond.methodLink RL 75 yX11_bar ∈ gj_TB := gj_t3 (List.mem_of_getElem? (i := 131) rfl) rfl
theorem ml_X11_240 : Cond.methodLink RX11 240 yX4_leastGood ∈ gj_TB := gj_t3 (List.mem_of_getElem? (i := 135) rfl) rfl
theorem ml_X4_116 : Cond.methodLink RX4 116 yX4_stays ∈ gj_TB := gj_t3 (List.mem_of_getElem? (i := 139) rfl) rfl
theorem ml_L_80 : Cond.methodLink RL 80 yX11_price ∈ gj_TB := gj_t3 (List.mem_of_getElem? (i := 140) rfl) rfl
theorem ml_X11_243 : Cond.methodLink RX11 243 yX4_leastCow ∈ gj_TB := gj_t3 (List.mem_of_getElem? (i := 144) rfl) rfl
theorem ml_X4_119 : Cond.methodLink RX4 119 yJ9_max_7cf53 ∈ gj_TB := gj_t3 (List.mem_of_getElem? (i := 148) rfl) rfl
theorem kl_X4_124 : Cond.constantLong RX4 124 (Int64.ofInt (999)) ∈ gj_TB := gj_t3 (List.mem_of_getElem? (i := 151) rfl) rfl
theorem ml_L_84 : Cond.methodLink RL 84 yX11_waits ∈ gj_TB := gj_t3 (List.mem_of_getElem? (i := 152) rfl) rfl
theorem kl_X11_249 : Cond.constantLong RX11 249 (Int64.ofInt (1000)) ∈ gj_TB := gj_t3 (List.mem_of_getElem? (i := 156) rfl) rfl
theorem ml_X11_251 : Cond.methodLink RX11 251 yX4_shutOut ∈ gj_TB := gj_t3 (List.mem_of_getElem? (i := 157) rfl) rfl
theorem ml_L_88 : Cond.methodLink RL 88 yX11_way ∈ gj_TB := gj_t3 (List.mem_of_getElem? (i := 161) rfl) rfl
theorem ml_L_92 : Cond.methodLink RL 92 yX11_seed ∈ gj_TB := gj_t3 (List.mem_of_getElem? (i := 165) rfl) rfl
theorem kc_X11_257 : Cond.constant RX11 257 (Int32.ofInt (1000000)) ∈ gj_TB := gj_t3 (List.mem_of_getElem? (i := 169) rfl) rfl
theorem ml_L_96 : Cond.methodLink RL 96 yX11_green ∈ gj_TB := gj_t3 (List.mem_of_getElem? (i := 170) rfl) rfl
theorem ml_X11_261 : Cond.methodLink RX11 261 yX2_gather ∈ gj_TB := gj_t3 (List.mem_of_getElem? (i := 174) rfl) rfl
theorem ml_X2_45 : Cond.methodLink RX2 45 yX5_isPerson ∈ gj_TB := gj_t3 (List.mem_of_getElem? (i := 178) rfl) rfl
theorem ml_X11_264 : Cond.methodLink RX11 264 yX2_pairUp ∈ gj_TB := gj_t3 (List.mem_of_getElem? (i := 179) rfl) rfl
theorem ml_X2_76 : Cond.methodLink RX2 76 yX7_fill ∈ gj_TB := gj_t3 (List.mem_of_getElem? (i := 183) rfl) rfl
theorem ml_X2_80 : Cond.methodLink RX2 80 yX7_unmark ∈ gj_TB := gj_t3 (List.mem_of_getElem? (i := 184) rfl) rfl
theorem ml_X2_84 : Cond.methodLink RX2 84 yX2_askAll ∈ gj_TB := gj_t3 (List.mem_of_getElem? (i := 185) rfl) rfl
theorem ml_X2_131 : Cond.methodLink RX2 131 yX2_soonestToAsk ∈ gj_TB := gj_t3 (List.mem_of_getElem? (i := 189) rfl) rfl
theorem ml_X2_139 : Cond.methodLink RX2 139 yX10_facing ∈ gj_TB := gj_t3 (List.mem_of_getElem? (i := 193) rfl) rfl
theorem ml_X2_142 : Cond.methodLink RX2 142 yX2_canMeet ∈ gj_TB := gj_t3 (List.mem_of_getElem? (i := 194) rfl) rfl
theorem ml_X2_97 : Cond.methodLink RX2 97 yX7_is ∈ gj_TB := gj_t3 (List.mem_of_getElem? (i := 198) rfl) rfl
theorem ml_X2_107 : Cond.methodLink RX2 107 yX2_soonerOf ∈ gj_TB := gj_t3 (List.mem_of_getElem? (i := 199) rfl) rfl
theorem ml_X2_135 : Cond.methodLink RX2 135 yX2_ask ∈ gj_TB := gj_t3 (List.mem_of_getElem? (i := 200) rfl) rfl
theorem ml_X2_145 : Cond.methodLink RX2 145 yX2_tie ∈ gj_TB := gj_t3 (List.mem_of_getElem? (i := 204) rfl) rfl
theorem ml_X2_88 : Cond.methodLink RX2 88 yX2_takeTurns ∈ gj_TB := gj_t3 (List.mem_of_getElem? (i := 208) rfl) rfl
theorem ml_X2_148 : Cond.methodLink RX2 148 yX2_isLeftFor ∈ gj_TB := gj_t3 (List.mem_of_getElem? (i := 212) rfl) rfl
theorem ml_X2_91 : Cond.methodLink RX2 91 yX2_drawLots ∈ gj_TB := gj_t3 (List.mem_of_getElem? (i := 216) rfl) rfl
theorem ml_X2_151 : Cond.methodLink RX2 151 yX3_lot ∈ gj_TB := gj_t3 (List.mem_of_getElem? (i := 220) rfl) rfl
theorem kl_X3_79 : Cond.constantLong RX3 79 (Int64.ofInt (1103515245)) ∈ gj_TB := gj_t3 (List.mem_of_getElem? (i := 224) rfl) rfl
theorem kl_X3_81 : Cond.constantLong RX3 81 (Int64.ofInt (12345)) ∈ gj_TB := gj_t3 (List.mem_of_getElem? (i := 225) rfl) rfl
theorem kl_X3_83 : Cond.constantLong RX3 83 (Int64.ofInt (2147483647)) ∈ gj_TB := gj_t3 (List.mem_of_getElem? (i := 226) rfl) rfl
theorem ml_X2_154 : Cond.methodLink RX2 154 yX2_openOne ∈ gj_TB := gj_t3 (List.mem_of_getElem? (i := 227) rfl) rfl
theorem ml_L_100 : Cond.methodLink RL 100 yX11_may ∈ gj_TB := gj_t3 (List.mem_of_getElem? (i := 231) rfl) rfl
theorem ml_X11_268 : Cond.methodLink RX11 268 yX5_stands ∈ gj_TB := gj_t3 (List.mem_of_getElem? (i := 235) rfl) rfl
theorem ml_X11_272 : Cond.methodLink RX11 272 yX8_hold ∈ gj_TB := gj_t3 (List.mem_of_getElem? (i := 236) rfl) rfl
theorem ml_X8_31 : Cond.methodLink RX8 31 yX8_askPaired ∈ gj_TB := gj_t4 (List.mem_of_getElem? (i := 0) rfl) rfl
theorem ml_X8_66 : Cond.methodLink RX8 66 yX7_at ∈ gj_TB := gj_t4 (List.mem_of_getElem? (i := 4) rfl) rfl
theorem ml_X8_72 : Cond.methodLink RX8 72 yX4_enter ∈ gj_TB := gj_t4 (List.mem_of_getElem? (i := 5) rfl) rfl
theorem ml_X8_82 : Cond.methodLink RX8 82 yX4_stays ∈ gj_TB := gj_t4 (List.mem_of_getElem? (i := 6) rfl) rfl
theorem ml_X8_86 : Cond.methodLink RX8 86 yX7_mark ∈ gj_TB := gj_t4 (List.mem_of_getElem? (i := 7) rfl) rfl
theorem ml_X8_34 : Cond.methodLink RX8 34 yX8_endPairs ∈ gj_TB := gj_t4 (List.mem_of_getElem? (i := 8) rfl) rfl
theorem ml_X8_90 : Cond.methodLink RX8 90 yX8_hear ∈ gj_TB := gj_t4 (List.mem_of_getElem? (i := 12) rfl) rfl
theorem ml_X8_94 : Cond.methodLink RX8 94 yX7_is ∈ gj_TB := gj_t4 (List.mem_of_getElem? (i := 16) rfl) rfl
theorem ml_X8_101 : Cond.methodLink RX8 101 yX7_put ∈ gj_TB := gj_t4 (List.mem_of_getElem? (i := 17) rfl) rfl
theorem ml_X8_108 : Cond.methodLink RX8 108 yX3_earn ∈ gj_TB := gj_t4 (List.mem_of_getElem? (i := 18) rfl) rfl
theorem ml_X3_67 : Cond.methodLink RX3 67 yX7_put ∈ gj_TB := gj_t4 (List.mem_of_getElem? (i := 22) rfl) rfl
theorem ml_X8_118 : Cond.methodLink RX8 118 yX10_numberOf ∈ gj_TB := gj_t4 (List.mem_of_getElem? (i := 23) rfl) rfl
theorem ml_X8_127 : Cond.methodLink RX8 127 yX1_add ∈ gj_TB := gj_t4 (List.mem_of_getElem? (i := 24) rfl) rfl
theorem ml_X1_28 : Cond.methodLink RX1 28 yX7_put ∈ gj_TB := gj_t4 (List.mem_of_getElem? (i := 28) rfl) rfl
theorem ml_X8_133 : Cond.methodLink RX8 133 yX3_loosen ∈ gj_TB := gj_t4 (List.mem_of_getElem? (i := 29) rfl) rfl
theorem ml_X3_71 : Cond.methodLink RX3 71 yX3_free ∈ gj_TB := gj_t4 (List.mem_of_getElem? (i := 33) rfl) rfl
theorem ml_X8_37 : Cond.methodLink RX8 37 yX2_gather ∈ gj_TB := gj_t4 (List.mem_of_getElem? (i := 37) rfl) rfl
theorem ml_X8_43 : Cond.methodLink RX8 43 yX2_look ∈ gj_TB := gj_t4 (List.mem_of_getElem? (i := 38) rfl) rfl
theorem ml_X8_52 : Cond.methodLink RX8 52 yX2_pairUp ∈ gj_TB := gj_t4 (List.mem_of_getElem? (i := 39) rfl) rfl
theorem ml_X8_56 : Cond.methodLink RX8 56 yX8_bindNewPairs ∈ gj_TB := gj_t4 (List.mem_of_getElem? (i := 40) rfl) rfl
theorem ml_X8_137 : Cond.methodLink RX8 137 yX3_bind ∈ gj_TB := gj_t4 (List.mem_of_getElem? (i := 44) rfl) rfl
theorem ml_X8_59 : Cond.methodLink RX8 59 yX8_passYear ∈ gj_TB := gj_t4 (List.mem_of_getElem? (i := 48) rfl) rfl
theorem ml_X8_140 : Cond.methodLink RX8 140 yX8_liveTogether ∈ gj_TB := gj_t4 (List.mem_of_getElem? (i := 52) rfl) rfl
theorem ml_X8_149 : Cond.methodLink RX8 149 yX10_couple ∈ gj_TB := gj_t4 (List.mem_of_getElem? (i := 56) rfl) rfl
theorem ml_X8_153 : Cond.methodLink RX8 153 yX3_lot ∈ gj_TB := gj_t4 (List.mem_of_getElem? (i := 57) rfl) rfl
theorem ml_X8_186 : Cond.methodLink RX8 186 yJ9_min_7cf53 ∈ gj_TB := gj_t4 (List.mem_of_getElem? (i := 58) rfl) rfl
theorem ml_X8_143 : Cond.methodLink RX8 143 yX5_isPerson ∈ gj_TB := gj_t4 (List.mem_of_getElem? (i := 59) rfl) rfl
theorem ml_L_104 : Cond.methodLink RL 104 yX11_join ∈ gj_TB := gj_t4 (List.mem_of_getElem? (i := 60) rfl) rfl
theorem ml_X11_278 : Cond.methodLink RX11 278 yX3_bind ∈ gj_TB := gj_t4 (List.mem_of_getElem? (i := 64) rfl) rfl
theorem ml_L_109 : Cond.methodLink RL 109 yX11_part ∈ gj_TB := gj_t4 (List.mem_of_getElem? (i := 65) rfl) rfl
theorem ml_X11_282 : Cond.methodLink RX11 282 yX3_loosen ∈ gj_TB := gj_t4 (List.mem_of_getElem? (i := 69) rfl) rfl
theorem ml_L_113 : Cond.methodLink RL 113 yX11_log ∈ gj_TB := gj_t4 (List.mem_of_getElem? (i := 70) rfl) rfl
theorem ml_X11_289 : Cond.methodLink RX11 289 yX1_size ∈ gj_TB := gj_t4 (List.mem_of_getElem? (i := 74) rfl) rfl
theorem ml_X11_294 : Cond.methodLink RX11 294 yX1_tell ∈ gj_TB := gj_t4 (List.mem_of_getElem? (i := 78) rfl) rfl
theorem ml_X1_32 : Cond.methodLink RX1 32 yX7_at ∈ gj_TB := gj_t4 (List.mem_of_getElem? (i := 82) rfl) rfl
theorem ml_L_117 : Cond.methodLink RL 117 yX11_blocks ∈ gj_TB := gj_t4 (List.mem_of_getElem? (i := 83) rfl) rfl
theorem ml_X11_297 : Cond.methodLink RX11 297 yX2_wouldSooner ∈ gj_TB := gj_t4 (List.mem_of_getElem? (i := 87) rfl) rfl
theorem ml_X2_101 : Cond.methodLink RX2 101 yX3_arePair ∈ gj_TB := gj_t4 (List.mem_of_getElem? (i := 91) rfl) rfl
theorem ml_X2_104 : Cond.methodLink RX2 104 yX2_isBetter ∈ gj_TB := gj_t4 (List.mem_of_getElem? (i := 92) rfl) rfl
theorem ml_L_121 : Cond.methodLink RL 121 yX11_parents ∈ gj_TB := gj_t4 (List.mem_of_getElem? (i := 96) rfl) rfl
theorem ml_X11_301 : Cond.methodLink RX11 301 yX5_yearSum ∈ gj_TB := gj_t4 (List.mem_of_getElem? (i := 100) rfl) rfl
theorem ml_L_125 : Cond.methodLink RL 125 yX11_life ∈ gj_TB := gj_t4 (List.mem_of_getElem? (i := 101) rfl) rfl
theorem ml_X11_305 : Cond.methodLink RX11 305 yX5_sumOf ∈ gj_TB := gj_t4 (List.mem_of_getElem? (i := 105) rfl) rfl
theorem ml_X5_99 : Cond.methodLink RX5 99 yJ9_max_7cf53 ∈ gj_TB := gj_t4 (List.mem_of_getElem? (i := 109) rfl) rfl
theorem ml_X5_104 : Cond.methodLink RX5 104 yX5_yearSum ∈ gj_TB := gj_t4 (List.mem_of_getElem? (i := 110) rfl) rfl
theorem ml_L_129 : Cond.methodLink RL 129 yX11_never ∈ gj_TB := gj_t4 (List.mem_of_getElem? (i := 111) rfl) rfl
theorem ml_X11_308 : Cond.methodLink RX11 308 yX11_neverTried ∈ gj_TB := gj_t4 (List.mem_of_getElem? (i := 115) rfl) rfl
theorem ml_X11_337 : Cond.methodLink RX11 337 yX3_haveTried ∈ gj_TB := gj_t4 (List.mem_of_getElem? (i := 119) rfl) rfl
theorem ml_L_133 : Cond.methodLink RL 133 yX11_pairs ∈ gj_TB := gj_t4 (List.mem_of_getElem? (i := 123) rfl) rfl
theorem ml_X11_311 : Cond.methodLink RX11 311 yX3_pairsOf ∈ gj_TB := gj_t4 (List.mem_of_getElem? (i := 127) rfl) rfl
theorem ml_L_137 : Cond.methodLink RL 137 yX11_image ∈ gj_TB := gj_t4 (List.mem_of_getElem? (i := 131) rfl) rfl
theorem ml_X11_314 : Cond.methodLink RX11 314 yX11_pictureAt ∈ gj_TB := gj_t4 (List.mem_of_getElem? (i := 135) rfl) rfl
theorem ml_X11_318 : Cond.methodLink RX11 318 yX3_copyOf ∈ gj_TB := gj_t4 (List.mem_of_getElem? (i := 139) rfl) rfl
theorem ml_X3_59 : Cond.methodLink RX3 59 yX7_copy ∈ gj_TB := gj_t4 (List.mem_of_getElem? (i := 143) rfl) rfl
theorem ml_X3_63 : Cond.methodLink RX3 63 yX1_copyOf ∈ gj_TB := gj_t4 (List.mem_of_getElem? (i := 144) rfl) rfl
theorem ml_X1_22 : Cond.methodLink RX1 22 yX7_copy ∈ gj_TB := gj_t4 (List.mem_of_getElem? (i := 148) rfl) rfl
theorem ml_X11_322 : Cond.methodLink RX11 322 yX7_mark ∈ gj_TB := gj_t4 (List.mem_of_getElem? (i := 149) rfl) rfl
theorem ml_L_141 : Cond.methodLink RL 141 yX11_on ∈ gj_TB := gj_t4 (List.mem_of_getElem? (i := 150) rfl) rfl
theorem ml_X11_326 : Cond.methodLink RX11 326 yX7_is ∈ gj_TB := gj_t4 (List.mem_of_getElem? (i := 154) rfl) rfl
theorem ml_L_145 : Cond.methodLink RL 145 yX11_status ∈ gj_TB := gj_t4 (List.mem_of_getElem? (i := 155) rfl) rfl
theorem ml_L_149 : Cond.methodLink RL 149 yX11_count ∈ gj_TB := gj_t4 (List.mem_of_getElem? (i := 159) rfl) rfl
theorem cl_L_10 : Cond.classLink RL 10 RX12 ∈ gj_TB := gj_t4 (List.mem_of_getElem? (i := 163) rfl) rfl
theorem ins_X12 : Cond.instantiable RX12 55 ∈ gj_TB := gj_t4 (List.mem_of_getElem? (i := 164) rfl) rfl
theorem ml_L_12 : Cond.methodLink RL 12 yX12_init ∈ gj_TB := gj_t4 (List.mem_of_getElem? (i := 165) rfl) rfl
theorem ml_X12_1 : Cond.methodLink RX12 1 Lib.objectInit ∈ gj_TB := gj_t4 (List.mem_of_getElem? (i := 168) rfl) rfl
theorem cl_X12_17 : Cond.classLink RX12 17 "[[I" ∈ gj_TB := gj_t4 (List.mem_of_getElem? (i := 169) rfl) rfl
theorem cl_X12_54 : Cond.classLink RX12 54 RJ0 ∈ gj_TB := gj_t4 (List.mem_of_getElem? (i := 171) rfl) rfl
theorem kf_X12_7 : Cond.fieldLink RX12 7 RX12 "refused" "[I" ∈ gj_TB := gj_t4 (List.mem_of_getElem? (i := 182) rfl) rfl
theorem kf_X12_13 : Cond.fieldLink RX12 13 RX12 "text" "[B" ∈ gj_TB := gj_t4 (List.mem_of_getElem? (i := 183) rfl) rfl
theorem kf_X12_162 : Cond.fieldLink RX12 162 RX12 "textMany" "I" ∈ gj_TB := gj_t4 (List.mem_of_getElem? (i := 184) rfl) rfl
theorem kf_X12_180 : Cond.fieldLink RX12 180 RX12 "at" "I" ∈ gj_TB := gj_t4 (List.mem_of_getElem? (i := 185) rfl) rfl
theorem kf_X12_177 : Cond.fieldLink RX12 177 RX12 "to" "I" ∈ gj_TB := gj_t4 (List.mem_of_getElem? (i := 186) rfl) rfl
theorem kf_X12_187 : Cond.fieldLink RX12 187 RX12 "faultAt" "I" ∈ gj_TB := gj_t4 (List.mem_of_getElem? (i := 187) rfl) rfl
theorem kf_X12_205 : Cond.fieldLink RX12 205 RX12 "value" "I" ∈ gj_TB := gj_t4 (List.mem_of_getElem? (i := 188) rfl) rfl
theorem kf_X12_19 : Cond.fieldLink RX12 19 RX12 "alone" "[[I" ∈ gj_TB := gj_t4 (List.mem_of_getElem? (i := 189) rfl) rfl
theorem kf_X12_22 : Cond.fieldLink RX12 22 RX12 "chance" "[[I" ∈ gj_TB := gj_t4 (List.mem_of_getElem? (i := 190) rfl) rfl
theorem kf_X12_25 : Cond.fieldLink RX12 25 RX12 "good" "[[I" ∈ gj_TB := gj_t4 (List.mem_of_getElem? (i := 191) rfl) rfl
theorem kf_X12_28 : Cond.fieldLink RX12 28 RX12 "poor" "[[I" ∈ gj_TB := gj_t4 (List.mem_of_getElem? (i := 192) rfl) rfl
theorem kf_X12_31 : Cond.fieldLink RX12 31 RX12 "fit" "[[I" ∈ gj_TB := gj_t4 (List.mem_of_getElem? (i := 193) rfl) rfl
theorem kf_X12_34 : Cond.fieldLink RX12 34 RX12 "head" "[[I" ∈ gj_TB := gj_t4 (List.mem_of_getElem? (i := 194) rfl) rfl
theorem kf_X12_37 : Cond.fieldLink RX12 37 RX12 "many" "[[I" ∈ gj_TB := gj_t4 (List.mem_of_getElem? (i := 195) rfl) rfl
theorem kf_X12_40 : Cond.fieldLink RX12 40 RX12 "names" "[J" ∈ gj_TB := gj_t4 (List.mem_of_getElem? (i := 196) rfl) rfl
theorem kf_X12_44 : Cond.fieldLink RX12 44 RX12 "isThought" "[Z" ∈ gj_TB := gj_t4 (List.mem_of_getElem? (i := 197) rfl) rfl
theorem kf_X12_48 : Cond.fieldLink RX12 48 RX12 "isFit" "[Z" ∈ gj_TB := gj_t4 (List.mem_of_getElem? (i := 198) rfl) rfl
theorem kf_X12_51 : Cond.fieldLink RX12 51 RX12 "isTold" "[Z" ∈ gj_TB := gj_t4 (List.mem_of_getElem? (i := 199) rfl) rfl
theorem kf_X12_260 : Cond.fieldLink RX12 260 RX12 "hasVillage" "Z" ∈ gj_TB := gj_t4 (List.mem_of_getElem? (i := 200) rfl) rfl
theorem kf_X12_73 : Cond.fieldLink RX12 73 RX12 "words" "[Ljava/lang/String;" ∈ gj_TB := gj_t4 (List.mem_of_getElem? (i := 201) rfl) rfl
theorem kf_X12_77 : Cond.fieldLink RX12 77 RX12 "mate" "[I" ∈ gj_TB := gj_t4 (List.mem_of_getElem? (i := 202) rfl) rfl
theorem kf_X12_80 : Cond.fieldLink RX12 80 RX12 "years" "[I" ∈ gj_TB := gj_t4 (List.mem_of_getElem? (i := 203) rfl) rfl
theorem kf_X12_83 : Cond.fieldLink RX12 83 RX12 "yeses" "[I" ∈ gj_TB := gj_t4 (List.mem_of_getElem? (i := 204) rfl) rfl
theorem kf_X12_86 : Cond.fieldLink RX12 86 RX12 "earned" "[I" ∈ gj_TB := gj_t4 (List.mem_of_getElem? (i := 205) rfl) rfl
theorem kf_X12_89 : Cond.fieldLink RX12 89 RX12 "goods" "[I" ∈ gj_TB := gj_t4 (List.mem_of_getElem? (i := 206) rfl) rfl
theorem kf_X12_92 : Cond.fieldLink RX12 92 RX12 "poors" "[I" ∈ gj_TB := gj_t4 (List.mem_of_getElem? (i := 207) rfl) rfl
theorem kf_X12_95 : Cond.fieldLink RX12 95 RX12 "children" "[I" ∈ gj_TB := gj_t4 (List.mem_of_getElem? (i := 208) rfl) rfl
theorem kf_X12_264 : Cond.fieldLink RX12 264 RX12 "year" "I" ∈ gj_TB := gj_t4 (List.mem_of_getElem? (i := 209) rfl) rfl
theorem kf_X12_267 : Cond.fieldLink RX12 267 RX12 "way" "I" ∈ gj_TB := gj_t4 (List.mem_of_getElem? (i := 210) rfl) rfl
theorem kf_X12_274 : Cond.fieldLink RX12 274 RX12 "logMany" "I" ∈ gj_TB := gj_t4 (List.mem_of_getElem? (i := 211) rfl) rfl
theorem kf_X12_270 : Cond.fieldLink RX12 270 RX12 "lots" "J" ∈ gj_TB := gj_t4 (List.mem_of_getElem? (i := 212) rfl) rfl
theorem kf_X12_98 : Cond.fieldLink RX12 98 RX12 "a" "[I" ∈ gj_TB := gj_t4 (List.mem_of_getElem? (i := 213) rfl) rfl
theorem kf_X12_101 : Cond.fieldLink RX12 101 RX12 "b" "[I" ∈ gj_TB := gj_t4 (List.mem_of_getElem? (i := 214) rfl) rfl
theorem kf_X12_104 : Cond.fieldLink RX12 104 RX12 "gains" "[I" ∈ gj_TB := gj_t4 (List.mem_of_getElem? (i := 215) rfl) rfl
theorem kf_X12_107 : Cond.fieldLink RX12 107 RX12 "bringing" "[I" ∈ gj_TB := gj_t4 (List.mem_of_getElem? (i := 216) rfl) rfl
theorem kf_X12_320 : Cond.fieldLink RX12 320 RX12 "self" "I" ∈ gj_TB := gj_t4 (List.mem_of_getElem? (i := 217) rfl) rfl
theorem kf_X12_323 : Cond.fieldLink RX12 323 RX12 "cow" "I" ∈ gj_TB := gj_t4 (List.mem_of_getElem? (i := 218) rfl) rfl
theorem kf_X12_110 : Cond.fieldLink RX12 110 RX12 "never" "I" ∈ gj_TB := gj_t4 (List.mem_of_getElem? (i := 219) rfl) rfl
theorem kf_X12_342 : Cond.fieldLink RX12 342 RX12 "actNow" "I" ∈ gj_TB := gj_t4 (List.mem_of_getElem? (i := 220) rfl) rfl
theorem kf_X12_114 : Cond.fieldLink RX12 114 RX12 "has" "[I" ∈ gj_TB := gj_t4 (List.mem_of_getElem? (i := 221) rfl) rfl
theorem kf_X12_117 : Cond.fieldLink RX12 117 RX12 "isOut" "[I" ∈ gj_TB := gj_t4 (List.mem_of_getElem? (i := 222) rfl) rfl
theorem kf_X12_120 : Cond.fieldLink RX12 120 RX12 "said" "[I" ∈ gj_TB := gj_t4 (List.mem_of_getElem? (i := 223) rfl) rfl
theorem kf_X12_123 : Cond.fieldLink RX12 123 RX12 "logs" "[I" ∈ gj_TB := gj_t4 (List.mem_of_getElem? (i := 224) rfl) rfl
theorem kf_X12_126 : Cond.fieldLink RX12 126 RX12 "isSilentNow" "[I" ∈ gj_TB := gj_t4 (List.mem_of_getElem? (i := 225) rfl) rfl
theorem kf_X12_129 : Cond.fieldLink RX12 129 RX12 "now" "[I" ∈ gj_TB := gj_t4 (List.mem_of_getElem? (i := 226) rfl) rfl
theorem kf_X12_132 : Cond.fieldLink RX12 132 RX12 "parents" "[I" ∈ gj_TB := gj_t4 (List.mem_of_getElem? (i := 227) rfl) rfl
theorem kf_X12_429 : Cond.fieldLink RX12 429 RX12 "parentsSum" "I" ∈ gj_TB := gj_t4 (List.mem_of_getElem? (i := 228) rfl) rfl
theorem kf_X12_135 : Cond.fieldLink RX12 135 RX12 "heldGoods" "[I" ∈ gj_TB := gj_t4 (List.mem_of_getElem? (i := 229) rfl) rfl
theorem kf_X12_138 : Cond.fieldLink RX12 138 RX12 "heldPoors" "[I" ∈ gj_TB := gj_t4 (List.mem_of_getElem? (i := 230) rfl) rfl
theorem kf_X12_141 : Cond.fieldLink RX12 141 RX12 "heldChildren" "[I" ∈ gj_TB := gj_t4 (List.mem_of_getElem? (i := 231) rfl) rfl
theorem kf_X12_144 : Cond.fieldLink RX12 144 RX12 "pairsNow" "[I" ∈ gj_TB := gj_t4 (List.mem_of_getElem? (i := 232) rfl) rfl
theorem kf_X12_147 : Cond.fieldLink RX12 147 RX12 "kept" "[[I" ∈ gj_TB := gj_t4 (List.mem_of_getElem? (i := 233) rfl) rfl
theorem kf_X12_150 : Cond.fieldLink RX12 150 RX12 "keptLots" "[J" ∈ gj_TB := gj_t4 (List.mem_of_getElem? (i := 234) rfl) rfl
theorem kf_X12_153 : Cond.fieldLink RX12 153 RX12 "hasImage" "[Z" ∈ gj_TB := gj_t4 (List.mem_of_getElem? (i := 235) rfl) rfl
theorem kf_X12_447 : Cond.fieldLink RX12 447 RX12 "cursor" "I" ∈ gj_TB := gj_t4 (List.mem_of_getElem? (i := 236) rfl) rfl
theorem ml_L_148 : Cond.methodLink RL 148 yX12_status ∈ gj_TB := gj_t5 (List.mem_of_getElem? (i := 108) rfl) rfl
theorem kl_X12_156 : Cond.constantLong RX12 156 (Int64.ofInt (2)) ∈ gj_TB := gj_t5 (List.mem_of_getElem? (i := 112) rfl) rfl
theorem ml_X12_158 : Cond.methodLink RX12 158 yX12_in ∈ gj_TB := gj_t5 (List.mem_of_getElem? (i := 113) rfl) rfl
theorem ml_L_17 : Cond.methodLink RL 17 yX12_feed ∈ gj_TB := gj_t5 (List.mem_of_getElem? (i := 116) rfl) rfl
theorem ml_X12_165 : Cond.methodLink RX12 165 yX12_refuse ∈ gj_TB := gj_t5 (List.mem_of_getElem? (i := 120) rfl) rfl
theorem ml_X12_169 : Cond.methodLink RX12 169 yX12_feeds ∈ gj_TB := gj_t5 (List.mem_of_getElem? (i := 124) rfl) rfl
theorem ml_L_22 : Cond.methodLink RL 22 yX12_end ∈ gj_TB := gj_t5 (List.mem_of_getElem? (i := 128) rfl) rfl
theorem ml_X12_173 : Cond.methodLink RX12 173 yX12_deny ∈ gj_TB := gj_t5 (List.mem_of_getElem? (i := 132) rfl) rfl
theorem ml_L_27 : Cond.methodLink RL 27 yX12_fault ∈ gj_TB := gj_t5 (List.mem_of_getElem? (i := 136) rfl) rfl
theorem ml_X12_253 : Cond.methodLink RX12 253 yX12_reads ∈ gj_TB := gj_t5 (List.mem_of_getElem? (i := 140) rfl) rfl
theorem ml_X12_190 : Cond.methodLink RX12 190 yX12_next ∈ gj_TB := gj_t5 (List.mem_of_getElem? (i := 144) rfl) rfl
theorem ml_X12_183 : Cond.methodLink RX12 183 yX12_between ∈ gj_TB := gj_t5 (List.mem_of_getElem? (i := 148) rfl) rfl
theorem ml_X12_250 : Cond.methodLink RX12 250 yX12_line ∈ gj_TB := gj_t5 (List.mem_of_getElem? (i := 152) rfl) rfl
theorem ml_X12_208 : Cond.methodLink RX12 208 yX12_wordHere ∈ gj_TB := gj_t5 (List.mem_of_getElem? (i := 156) rfl) rfl
theorem ml_X12_193 : Cond.methodLink RX12 193 yJ0_length_8abf5 ∈ gj_TB := gj_t5 (List.mem_of_getElem? (i := 160) rfl) rfl
theorem ml_X12_197 : Cond.methodLink RX12 197 yJ0_charAt_5068e ∈ gj_TB := gj_t5 (List.mem_of_getElem? (i := 161) rfl) rfl
theorem ml_X12_238 : Cond.methodLink RX12 238 yX12_personRead ∈ gj_TB := gj_t5 (List.mem_of_getElem? (i := 162) rfl) rfl
theorem ml_X12_201 : Cond.methodLink RX12 201 yX12_passes ∈ gj_TB := gj_t5 (List.mem_of_getElem? (i := 166) rfl) rfl
theorem ml_X12_217 : Cond.methodLink RX12 217 yX12_nameHere ∈ gj_TB := gj_t5 (List.mem_of_getElem? (i := 170) rfl) rfl
theorem kl_X12_211 : Cond.constantLong RX12 211 (Int64.ofInt (-1)) ∈ gj_TB := gj_t5 (List.mem_of_getElem? (i := 174) rfl) rfl
theorem kl_X12_213 : Cond.constantLong RX12 213 (Int64.ofInt (32)) ∈ gj_TB := gj_t5 (List.mem_of_getElem? (i := 175) rfl) rfl
theorem kl_X12_215 : Cond.constantLong RX12 215 (Int64.ofInt (97)) ∈ gj_TB := gj_t5 (List.mem_of_getElem? (i := 176) rfl) rfl
theorem ml_X12_221 : Cond.methodLink RX12 221 yX12_found ∈ gj_TB := gj_t5 (List.mem_of_getElem? (i := 177) rfl) rfl
theorem ml_X12_224 : Cond.methodLink RX12 224 yX12_into ∈ gj_TB := gj_t5 (List.mem_of_getElem? (i := 181) rfl) rfl
theorem ml_X12_228 : Cond.methodLink RX12 228 yX12_closes ∈ gj_TB := gj_t5 (List.mem_of_getElem? (i := 185) rfl) rfl
theorem ml_X12_241 : Cond.methodLink RX12 241 yX12_thinkRead ∈ gj_TB := gj_t5 (List.mem_of_getElem? (i := 189) rfl) rfl
theorem ml_X12_232 : Cond.methodLink RX12 232 yX12_coupleOf ∈ gj_TB := gj_t5 (List.mem_of_getElem? (i := 193) rfl) rfl
theorem ml_X12_244 : Cond.methodLink RX12 244 yX12_fitRead ∈ gj_TB := gj_t5 (List.mem_of_getElem? (i := 196) rfl) rfl
theorem kl_X12_236 : Cond.constantLong RX12 236 (Int64.ofInt (3)) ∈ gj_TB := gj_t5 (List.mem_of_getElem? (i := 200) rfl) rfl
theorem ml_X12_247 : Cond.methodLink RX12 247 yX12_onceRead ∈ gj_TB := gj_t5 (List.mem_of_getElem? (i := 201) rfl) rfl
theorem ml_L_31 : Cond.methodLink RL 31 yX12_village ∈ gj_TB := gj_t5 (List.mem_of_getElem? (i := 205) rfl) rfl
theorem ml_X12_256 : Cond.methodLink RX12 256 yX12_copies ∈ gj_TB := gj_t5 (List.mem_of_getElem? (i := 209) rfl) rfl
theorem ml_L_36 : Cond.methodLink RL 36 yX12_person ∈ gj_TB := gj_t5 (List.mem_of_getElem? (i := 212) rfl) rfl
theorem ml_X12_281 : Cond.methodLink RX12 281 yX12_who ∈ gj_TB := gj_t5 (List.mem_of_getElem? (i := 216) rfl) rfl
theorem kl_X12_277 : Cond.constantLong RX12 277 (Int64.ofInt (10)) ∈ gj_TB := gj_t5 (List.mem_of_getElem? (i := 220) rfl) rfl
theorem kl_X12_279 : Cond.constantLong RX12 279 (Int64.ofInt (13)) ∈ gj_TB := gj_t5 (List.mem_of_getElem? (i := 221) rfl) rfl
theorem kc_X12_284 : Cond.constant RX12 284 (Int32.ofInt (-2147483648)) ∈ gj_TB := gj_t5 (List.mem_of_getElem? (i := 222) rfl) rfl
theorem ml_X12_285 : Cond.methodLink RX12 285 yX12_told ∈ gj_TB := gj_t5 (List.mem_of_getElem? (i := 223) rfl) rfl
theorem ml_L_41 : Cond.methodLink RL 41 yX12_earned ∈ gj_TB := gj_t5 (List.mem_of_getElem? (i := 226) rfl) rfl
theorem ml_L_46 : Cond.methodLink RL 46 yX12_two_ ∈ gj_TB := gj_t5 (List.mem_of_getElem? (i := 230) rfl) rfl
theorem ml_X12_288 : Cond.methodLink RX12 288 yX12_areTwo ∈ gj_TB := gj_t5 (List.mem_of_getElem? (i := 234) rfl) rfl
theorem ml_X12_292 : Cond.methodLink RX12 292 yX12_two ∈ gj_TB := gj_t5 (List.mem_of_getElem? (i := 237) rfl) rfl
theorem ml_L_50 : Cond.methodLink RL 50 yX12_think ∈ gj_TB := gj_t6 (List.mem_of_getElem? (i := 0) rfl) rfl
theorem ml_L_54 : Cond.methodLink RL 54 yX12_shown ∈ gj_TB := gj_t6 (List.mem_of_getElem? (i := 4) rfl) rfl
theorem ml_X12_303 : Cond.methodLink RX12 303 yX12_shows ∈ gj_TB := gj_t6 (List.mem_of_getElem? (i := 8) rfl) rfl
theorem ml_X12_295 : Cond.methodLink RX12 295 yX12_power ∈ gj_TB := gj_t6 (List.mem_of_getElem? (i := 12) rfl) rfl
theorem kl_X12_299 : Cond.constantLong RX12 299 (Int64.ofInt (1000)) ∈ gj_TB := gj_t6 (List.mem_of_getElem? (i := 15) rfl) rfl
theorem kl_X12_301 : Cond.constantLong RX12 301 (Int64.ofInt (16)) ∈ gj_TB := gj_t6 (List.mem_of_getElem? (i := 16) rfl) rfl
theorem ml_L_58 : Cond.methodLink RL 58 yX12_liking ∈ gj_TB := gj_t6 (List.mem_of_getElem? (i := 17) rfl) rfl
theorem ml_X12_311 : Cond.methodLink RX12 311 yX12_likesNow ∈ gj_TB := gj_t6 (List.mem_of_getElem? (i := 21) rfl) rfl
theorem ml_X12_307 : Cond.methodLink RX12 307 yX12_likes ∈ gj_TB := gj_t6 (List.mem_of_getElem? (i := 25) rfl) rfl
theorem ml_L_62 : Cond.methodLink RL 62 yX12_sooner ∈ gj_TB := gj_t6 (List.mem_of_getElem? (i := 29) rfl) rfl
theorem ml_X12_314 : Cond.methodLink RX12 314 yX12_isSooner ∈ gj_TB := gj_t6 (List.mem_of_getElem? (i := 33) rfl) rfl
theorem ml_L_66 : Cond.methodLink RL 66 yX12_best ∈ gj_TB := gj_t6 (List.mem_of_getElem? (i := 37) rfl) rfl
theorem ml_X12_353 : Cond.methodLink RX12 353 yX12_areMays ∈ gj_TB := gj_t6 (List.mem_of_getElem? (i := 41) rfl) rfl
theorem kl_X12_351 : Cond.constantLong RX12 351 (Int64.ofInt (4)) ∈ gj_TB := gj_t6 (List.mem_of_getElem? (i := 44) rfl) rfl
theorem ml_X12_356 : Cond.methodLink RX12 356 yX12_bestOf ∈ gj_TB := gj_t6 (List.mem_of_getElem? (i := 45) rfl) rfl
theorem ml_X12_345 : Cond.methodLink RX12 345 yX12_lays ∈ gj_TB := gj_t6 (List.mem_of_getElem? (i := 49) rfl) rfl
theorem ml_X12_348 : Cond.methodLink RX12 348 yX12_mateOf ∈ gj_TB := gj_t6 (List.mem_of_getElem? (i := 53) rfl) rfl
theorem ml_X12_330 : Cond.methodLink RX12 330 yX12_worth ∈ gj_TB := gj_t6 (List.mem_of_getElem? (i := 57) rfl) rfl
theorem ml_X12_335 : Cond.methodLink RX12 335 yX12_by ∈ gj_TB := gj_t6 (List.mem_of_getElem? (i := 61) rfl) rfl
theorem ml_X12_332 : Cond.methodLink RX12 332 yX12_with ∈ gj_TB := gj_t6 (List.mem_of_getElem? (i := 65) rfl) rfl
theorem ml_X12_325 : Cond.methodLink RX12 325 yJ9_min_7cf53 ∈ gj_TB := gj_t6 (List.mem_of_getElem? (i := 69) rfl) rfl
theorem ml_X12_339 : Cond.methodLink RX12 339 yX12_othersMany ∈ gj_TB := gj_t6 (List.mem_of_getElem? (i := 70) rfl) rfl
theorem ml_X12_359 : Cond.methodLink RX12 359 yX12_toldOf ∈ gj_TB := gj_t6 (List.mem_of_getElem? (i := 74) rfl) rfl
theorem ml_L_70 : Cond.methodLink RL 70 yX12_act ∈ gj_TB := gj_t6 (List.mem_of_getElem? (i := 78) rfl) rfl
theorem ml_L_74 : Cond.methodLink RL 74 yX12_silent ∈ gj_TB := gj_t6 (List.mem_of_getElem? (i := 82) rfl) rfl
theorem ml_X12_362 : Cond.methodLink RX12 362 yX12_isSilent ∈ gj_TB := gj_t6 (List.mem_of_getElem? (i := 86) rfl) rfl
theorem ml_L_79 : Cond.methodLink RL 79 yX12_bar ∈ gj_TB := gj_t6 (List.mem_of_getElem? (i := 90) rfl) rfl
theorem kl_X12_365 : Cond.constantLong RX12 365 (Int64.ofInt (6)) ∈ gj_TB := gj_t6 (List.mem_of_getElem? (i := 94) rfl) rfl
theorem ml_L_83 : Cond.methodLink RL 83 yX12_price ∈ gj_TB := gj_t6 (List.mem_of_getElem? (i := 95) rfl) rfl
theorem ml_L_87 : Cond.methodLink RL 87 yX12_waits ∈ gj_TB := gj_t6 (List.mem_of_getElem? (i := 99) rfl) rfl
theorem ml_L_91 : Cond.methodLink RL 91 yX12_way ∈ gj_TB := gj_t6 (List.mem_of_getElem? (i := 103) rfl) rfl
theorem ml_L_95 : Cond.methodLink RL 95 yX12_seed ∈ gj_TB := gj_t6 (List.mem_of_getElem? (i := 107) rfl) rfl
theorem kl_X12_394 : Cond.constantLong RX12 394 (Int64.ofInt (1000000)) ∈ gj_TB := gj_t6 (List.mem_of_getElem? (i := 111) rfl) rfl
theorem ml_L_99 : Cond.methodLink RL 99 yX12_green ∈ gj_TB := gj_t6 (List.mem_of_getElem? (i := 112) rfl) rfl
theorem ml_X12_396 : Cond.methodLink RX12 396 yX12_goes ∈ gj_TB := gj_t6 (List.mem_of_getElem? (i := 116) rfl) rfl
theorem ml_X12_385 : Cond.methodLink RX12 385 yX12_asks ∈ gj_TB := gj_t6 (List.mem_of_getElem? (i := 120) rfl) rfl
theorem ml_X12_375 : Cond.methodLink RX12 375 yX12_both ∈ gj_TB := gj_t6 (List.mem_of_getElem? (i := 124) rfl) rfl
theorem ml_X12_317 : Cond.methodLink RX12 317 yX12_would ∈ gj_TB := gj_t6 (List.mem_of_getElem? (i := 128) rfl) rfl
theorem ml_X12_378 : Cond.methodLink RX12 378 yX12_gives ∈ gj_TB := gj_t6 (List.mem_of_getElem? (i := 132) rfl) rfl
theorem ml_X12_388 : Cond.methodLink RX12 388 yX12_inTurn ∈ gj_TB := gj_t6 (List.mem_of_getElem? (i := 136) rfl) rfl
theorem ml_X12_391 : Cond.methodLink RX12 391 yX12_byLot ∈ gj_TB := gj_t6 (List.mem_of_getElem? (i := 140) rfl) rfl
theorem ml_X12_382 : Cond.methodLink RX12 382 yX12_lot ∈ gj_TB := gj_t6 (List.mem_of_getElem? (i := 144) rfl) rfl
theorem kl_X12_367 : Cond.constantLong RX12 367 (Int64.ofInt (1103515245)) ∈ gj_TB := gj_t6 (List.mem_of_getElem? (i := 148) rfl) rfl
theorem kl_X12_369 : Cond.constantLong RX12 369 (Int64.ofInt (12345)) ∈ gj_TB := gj_t6 (List.mem_of_getElem? (i := 149) rfl) rfl
theorem kl_X12_371 : Cond.constantLong RX12 371 (Int64.ofInt (2147483647)) ∈ gj_TB := gj_t6 (List.mem_of_getElem? (i := 150) rfl) rfl
theorem kl_X12_373 : Cond.constantLong RX12 373 (Int64.ofInt (256)) ∈ gj_TB := gj_t6 (List.mem_of_getElem? (i := 151) rfl) rfl
theorem ml_L_116 : Cond.methodLink RL 116 yX12_log ∈ gj_TB := gj_t6 (List.mem_of_getElem? (i := 152) rfl) rfl
theorem ml_L_103 : Cond.methodLink RL 103 yX12_may_ ∈ gj_TB := gj_t6 (List.mem_of_getElem? (i := 156) rfl) rfl
theorem kl_X12_414 : Cond.constantLong RX12 414 (Int64.ofInt (50)) ∈ gj_TB := gj_t6 (List.mem_of_getElem? (i := 160) rfl) rfl
theorem ml_X12_416 : Cond.methodLink RX12 416 yX12_may ∈ gj_TB := gj_t6 (List.mem_of_getElem? (i := 161) rfl) rfl
theorem ml_X12_405 : Cond.methodLink RX12 405 yX12_asked ∈ gj_TB := gj_t6 (List.mem_of_getElem? (i := 165) rfl) rfl
theorem ml_X12_399 : Cond.methodLink RX12 399 yX12_notes ∈ gj_TB := gj_t6 (List.mem_of_getElem? (i := 169) rfl) rfl
theorem ml_X12_402 : Cond.methodLink RX12 402 yX12_parts ∈ gj_TB := gj_t6 (List.mem_of_getElem? (i := 173) rfl) rfl
theorem ml_X12_408 : Cond.methodLink RX12 408 yX12_joins ∈ gj_TB := gj_t6 (List.mem_of_getElem? (i := 177) rfl) rfl
theorem ml_X12_411 : Cond.methodLink RX12 411 yX12_lives ∈ gj_TB := gj_t6 (List.mem_of_getElem? (i := 181) rfl) rfl
theorem ml_L_108 : Cond.methodLink RL 108 yX12_join ∈ gj_TB := gj_t6 (List.mem_of_getElem? (i := 185) rfl) rfl
theorem ml_L_112 : Cond.methodLink RL 112 yX12_part ∈ gj_TB := gj_t6 (List.mem_of_getElem? (i := 189) rfl) rfl
theorem ml_L_120 : Cond.methodLink RL 120 yX12_blocks ∈ gj_TB := gj_t6 (List.mem_of_getElem? (i := 193) rfl) rfl
theorem ml_X12_419 : Cond.methodLink RX12 419 yX12_isFree ∈ gj_TB := gj_t6 (List.mem_of_getElem? (i := 197) rfl) rfl
theorem ml_L_124 : Cond.methodLink RL 124 yX12_parents ∈ gj_TB := gj_t6 (List.mem_of_getElem? (i := 201) rfl) rfl
theorem ml_X12_435 : Cond.methodLink RX12 435 yX12_findsParents ∈ gj_TB := gj_t6 (List.mem_of_getElem? (i := 205) rfl) rfl
theorem ml_X12_432 : Cond.methodLink RX12 432 yX12_parentsFrom ∈ gj_TB := gj_t6 (List.mem_of_getElem? (i := 209) rfl) rfl
theorem ml_X12_425 : Cond.methodLink RX12 425 yX12_sumOf ∈ gj_TB := gj_t6 (List.mem_of_getElem? (i := 213) rfl) rfl
theorem ml_X12_422 : Cond.methodLink RX12 422 yX12_truly ∈ gj_TB := gj_t6 (List.mem_of_getElem? (i := 217) rfl) rfl
theorem ml_L_128 : Cond.methodLink RL 128 yX12_life ∈ gj_TB := gj_t6 (List.mem_of_getElem? (i := 221) rfl) rfl
theorem kl_X12_441 : Cond.constantLong RX12 441 (Int64.ofInt (100)) ∈ gj_TB := gj_t6 (List.mem_of_getElem? (i := 225) rfl) rfl
theorem ml_X12_443 : Cond.methodLink RX12 443 yX12_lifeOf ∈ gj_TB := gj_t6 (List.mem_of_getElem? (i := 226) rfl) rfl
theorem ml_X12_438 : Cond.methodLink RX12 438 yJ9_max_7cf53 ∈ gj_TB := gj_t6 (List.mem_of_getElem? (i := 230) rfl) rfl
theorem ml_L_132 : Cond.methodLink RL 132 yX12_never ∈ gj_TB := gj_t6 (List.mem_of_getElem? (i := 231) rfl) rfl
theorem ml_L_136 : Cond.methodLink RL 136 yX12_pairs ∈ gj_TB := gj_t6 (List.mem_of_getElem? (i := 235) rfl) rfl
theorem ml_L_140 : Cond.methodLink RL 140 yX12_image ∈ gj_TB := gj_t6 (List.mem_of_getElem? (i := 239) rfl) rfl
theorem ml_X12_454 : Cond.methodLink RX12 454 yX12_moves ∈ gj_TB := gj_t7 (List.mem_of_getElem? (i := 3) rfl) rfl
theorem ml_X12_450 : Cond.methodLink RX12 450 yX12_move ∈ gj_TB := gj_t7 (List.mem_of_getElem? (i := 7) rfl) rfl
theorem ml_L_144 : Cond.methodLink RL 144 yX12_on ∈ gj_TB := gj_t7 (List.mem_of_getElem? (i := 11) rfl) rfl
theorem ml_L_152 : Cond.methodLink RL 152 yX12_count ∈ gj_TB := gj_t7 (List.mem_of_getElem? (i := 15) rfl) rfl
theorem kf_J0_9 : Cond.fieldLink RJ0 9 RJ0 "value" "[B" ∈ gj_TB := gj_t7 (List.mem_of_getElem? (i := 19) rfl) rfl
theorem kf_J0_15 : Cond.fieldLink RJ0 15 RJ0 "coder" "B" ∈ gj_TB := gj_t7 (List.mem_of_getElem? (i := 20) rfl) rfl
theorem kd_X11_init : Cond.code yX11_init cX11_init 2 none ∈ gj_TB := gj_t0 (List.mem_of_getElem? (i := 23) rfl) rfl
theorem kd_Obj_init : Cond.code Lib.objectInit ⟨#[0xb1]⟩ 1 none ∈ gj_TB := gj_t0 (List.mem_of_getElem? (i := 26) rfl) rfl
theorem kd_X9_init : Cond.code yX9_init cX9_init 1 none ∈ gj_TB := gj_t0 (List.mem_of_getElem? (i := 31) rfl) rfl
theorem kd_X5_init : Cond.code yX5_init cX5_init 1 none ∈ gj_TB := gj_t0 (List.mem_of_getElem? (i := 45) rfl) rfl
theorem kd_X6_init : Cond.code yX6_init cX6_init 3 none ∈ gj_TB := gj_t0 (List.mem_of_getElem? (i := 145) rfl) rfl
theorem kd_X3_init : Cond.code yX3_init cX3_init 1 none ∈ gj_TB := gj_t0 (List.mem_of_getElem? (i := 184) rfl) rfl
theorem kd_X1_init : Cond.code yX1_init cX1_init 1 none ∈ gj_TB := gj_t0 (List.mem_of_getElem? (i := 190) rfl) rfl
theorem kd_X7_fill : Cond.code yX7_fill cX7_fill 3 none ∈ gj_TB := gj_t0 (List.mem_of_getElem? (i := 204) rfl) rfl
theorem kd_X4_init : Cond.code yX4_init cX4_init 3 none ∈ gj_TB := gj_t1 (List.mem_of_getElem? (i := 32) rfl) rfl
theorem kd_X2_init : Cond.code yX2_init cX2_init 3 none ∈ gj_TB := gj_t1 (List.mem_of_getElem? (i := 72) rfl) rfl
theorem kd_X0_init : Cond.code yX0_init cX0_init 2 none ∈ gj_TB := gj_t1 (List.mem_of_getElem? (i := 102) rfl) rfl
theorem kd_X8_init : Cond.code yX8_init cX8_init 5 none ∈ gj_TB := gj_t1 (List.mem_of_getElem? (i := 119) rfl) rfl
theorem kd_X11_feed : Cond.code yX11_feed cX11_feed 6 (some .int) ∈ gj_TB := gj_t1 (List.mem_of_getElem? (i := 178) rfl) rfl
theorem kd_X9_hasRoomFor : Cond.code yX9_hasRoomFor cX9_hasRoomFor 2 (some .boolean) ∈ gj_TB := gj_t1 (List.mem_of_getElem? (i := 182) rfl) rfl
theorem kd_X11_refuse : Cond.code yX11_refuse cX11_refuse 2 (some .boolean) ∈ gj_TB := gj_t1 (List.mem_of_getElem? (i := 186) rfl) rfl
theorem kd_X7_at : Cond.code yX7_at cX7_at 2 (some .int) ∈ gj_TB := gj_t1 (List.mem_of_getElem? (i := 189) rfl) rfl
theorem kd_X7_put : Cond.code yX7_put cX7_put 3 none ∈ gj_TB := gj_t1 (List.mem_of_getElem? (i := 192) rfl) rfl
theorem kd_X9_append : Cond.code yX9_append cX9_append 3 none ∈ gj_TB := gj_t1 (List.mem_of_getElem? (i := 196) rfl) rfl
theorem kd_X9_length : Cond.code yX9_length cX9_length 1 (some .int) ∈ gj_TB := gj_t1 (List.mem_of_getElem? (i := 201) rfl) rfl
theorem kd_X11_end : Cond.code yX11_end cX11_end 2 (some .boolean) ∈ gj_TB := gj_t1 (List.mem_of_getElem? (i := 205) rfl) rfl
theorem kd_X9_cutTo : Cond.code yX9_cutTo cX9_cutTo 2 none ∈ gj_TB := gj_t1 (List.mem_of_getElem? (i := 209) rfl) rfl
theorem kd_X11_fault : Cond.code yX11_fault cX11_fault 1 (some .int) ∈ gj_TB := gj_t1 (List.mem_of_getElem? (i := 213) rfl) rfl
theorem kd_X6_read : Cond.code yX6_read cX6_read 2 (some .int) ∈ gj_TB := gj_t1 (List.mem_of_getElem? (i := 217) rfl) rfl
theorem kd_X5_clear : Cond.code yX5_clear cX5_clear 1 none ∈ gj_TB := gj_t1 (List.mem_of_getElem? (i := 221) rfl) rfl
theorem kd_X7_unmark : Cond.code yX7_unmark cX7_unmark 2 none ∈ gj_TB := gj_t1 (List.mem_of_getElem? (i := 225) rfl) rfl
theorem kd_X6_scan : Cond.code yX6_scan cX6_scan 1 none ∈ gj_TB := gj_t1 (List.mem_of_getElem? (i := 229) rfl) rfl
theorem kd_X9_byteAt : Cond.code yX9_byteAt cX9_byteAt 2 (some .int) ∈ gj_TB := gj_t1 (List.mem_of_getElem? (i := 234) rfl) rfl
theorem kd_X6_isBlank : Cond.code yX6_isBlank cX6_isBlank 1 (some .boolean) ∈ gj_TB := gj_t1 (List.mem_of_getElem? (i := 238) rfl) rfl
theorem kd_X6_kindOf : Cond.code yX6_kindOf cX6_kindOf 1 (some .int) ∈ gj_TB := gj_t2 (List.mem_of_getElem? (i := 1) rfl) rfl
theorem kd_X6_readLine : Cond.code yX6_readLine cX6_readLine 1 (some .boolean) ∈ gj_TB := gj_t2 (List.mem_of_getElem? (i := 5) rfl) rfl
theorem kd_X6_isWord : Cond.code yX6_isWord cX6_isWord 3 (some .boolean) ∈ gj_TB := gj_t2 (List.mem_of_getElem? (i := 10) rfl) rfl
theorem kd_J0_length_8abf5 : Cond.code yJ0_length_8abf5 cJ0_length_8abf5 1 (some .int) ∈ gj_TB := gj_t2 (List.mem_of_getElem? (i := 14) rfl) rfl
theorem kd_J0_coder_7d493 : Cond.code yJ0_coder_7d493 cJ0_coder_7d493 1 (some .byte) ∈ gj_TB := gj_t2 (List.mem_of_getElem? (i := 18) rfl) rfl
theorem kd_J0_charAt_5068e : Cond.code yJ0_charAt_5068e cJ0_charAt_5068e 2 (some .char) ∈ gj_TB := gj_t2 (List.mem_of_getElem? (i := 24) rfl) rfl
theorem kd_J0_isLatin1_aae02 : Cond.code yJ0_isLatin1_aae02 cJ0_isLatin1_aae02 1 (some .boolean) ∈ gj_TB := gj_t2 (List.mem_of_getElem? (i := 28) rfl) rfl
theorem kd_J1_charAt_3b067 : Cond.code yJ1_charAt_3b067 cJ1_charAt_3b067 2 (some .char) ∈ gj_TB := gj_t2 (List.mem_of_getElem? (i := 31) rfl) rfl
theorem kd_J0_checkIndex_df160 : Cond.code yJ0_checkIndex_df160 cJ0_checkIndex_df160 2 none ∈ gj_TB := gj_t2 (List.mem_of_getElem? (i := 34) rfl) rfl
theorem kd_J3_checkIndex_8e157 : Cond.code yJ3_checkIndex_8e157 cJ3_checkIndex_8e157 3 (some .int) ∈ gj_TB := gj_t2 (List.mem_of_getElem? (i := 39) rfl) rfl
theorem kd_J2_charAt_3b067 : Cond.code yJ2_charAt_3b067 cJ2_charAt_3b067 2 (some .char) ∈ gj_TB := gj_t2 (List.mem_of_getElem? (i := 42) rfl) rfl
theorem kd_J2_checkIndex_2214a : Cond.code yJ2_checkIndex_2214a cJ2_checkIndex_2214a 2 none ∈ gj_TB := gj_t2 (List.mem_of_getElem? (i := 45) rfl) rfl
theorem kd_J2_length_9d52b : Cond.code yJ2_length_9d52b cJ2_length_9d52b 1 (some .int) ∈ gj_TB := gj_t2 (List.mem_of_getElem? (i := 48) rfl) rfl
theorem kd_J2_getChar_3b067 : Cond.code yJ2_getChar_3b067 cJ2_getChar_3b067 2 (some .char) ∈ gj_TB := gj_t2 (List.mem_of_getElem? (i := 52) rfl) rfl
theorem kd_X6_readPerson : Cond.code yX6_readPerson cX6_readPerson 6 (some .boolean) ∈ gj_TB := gj_t2 (List.mem_of_getElem? (i := 62) rfl) rfl
theorem kd_X6_nameHere : Cond.code yX6_nameHere cX6_nameHere 4 (some .long) ∈ gj_TB := gj_t2 (List.mem_of_getElem? (i := 66) rfl) rfl
theorem kd_X6_isLineWord : Cond.code yX6_isLineWord cX6_isLineWord 1 (some .boolean) ∈ gj_TB := gj_t2 (List.mem_of_getElem? (i := 71) rfl) rfl
theorem kd_X6_slotNamed : Cond.code yX6_slotNamed cX6_slotNamed 4 (some .int) ∈ gj_TB := gj_t2 (List.mem_of_getElem? (i := 83) rfl) rfl
theorem kd_X5_isPerson : Cond.code yX5_isPerson cX5_isPerson 2 (some .boolean) ∈ gj_TB := gj_t2 (List.mem_of_getElem? (i := 87) rfl) rfl
theorem kd_X6_takeNumber : Cond.code yX6_takeNumber cX6_takeNumber 4 (some .boolean) ∈ gj_TB := gj_t2 (List.mem_of_getElem? (i := 91) rfl) rfl
theorem kd_X6_numberHere : Cond.code yX6_numberHere cX6_numberHere 3 (some .int) ∈ gj_TB := gj_t2 (List.mem_of_getElem? (i := 95) rfl) rfl
theorem kd_J9_min_7cf53 : Cond.code yJ9_min_7cf53 cJ9_min_7cf53 2 (some .int) ∈ gj_TB := gj_t2 (List.mem_of_getElem? (i := 99) rfl) rfl
theorem kd_X6_takeStop : Cond.code yX6_takeStop cX6_takeStop 1 (some .boolean) ∈ gj_TB := gj_t2 (List.mem_of_getElem? (i := 104) rfl) rfl
theorem kd_X6_readThink : Cond.code yX6_readThink cX6_readThink 4 (some .boolean) ∈ gj_TB := gj_t2 (List.mem_of_getElem? (i := 108) rfl) rfl
theorem kd_X10_unlike : Cond.code yX10_unlike cX10_unlike 2 (some .boolean) ∈ gj_TB := gj_t2 (List.mem_of_getElem? (i := 111) rfl) rfl
theorem kd_X10_view : Cond.code yX10_view cX10_view 2 (some .int) ∈ gj_TB := gj_t2 (List.mem_of_getElem? (i := 114) rfl) rfl
theorem kd_X7_is : Cond.code yX7_is cX7_is 2 (some .boolean) ∈ gj_TB := gj_t2 (List.mem_of_getElem? (i := 117) rfl) rfl
theorem kd_X7_mark : Cond.code yX7_mark cX7_mark 3 none ∈ gj_TB := gj_t2 (List.mem_of_getElem? (i := 120) rfl) rfl
theorem kd_X6_readFit : Cond.code yX6_readFit cX6_readFit 4 (some .boolean) ∈ gj_TB := gj_t2 (List.mem_of_getElem? (i := 124) rfl) rfl
theorem kd_X10_couple : Cond.code yX10_couple cX10_couple 2 (some .int) ∈ gj_TB := gj_t2 (List.mem_of_getElem? (i := 127) rfl) rfl
theorem kd_X6_readWorth : Cond.code yX6_readWorth cX6_readWorth 1 (some .boolean) ∈ gj_TB := gj_t2 (List.mem_of_getElem? (i := 131) rfl) rfl
theorem kd_X6_firstTold : Cond.code yX6_firstTold cX6_firstTold 2 (some .boolean) ∈ gj_TB := gj_t2 (List.mem_of_getElem? (i := 135) rfl) rfl
theorem kd_X6_readHouse : Cond.code yX6_readHouse cX6_readHouse 1 (some .boolean) ∈ gj_TB := gj_t2 (List.mem_of_getElem? (i := 139) rfl) rfl
theorem kd_X6_readChild : Cond.code yX6_readChild cX6_readChild 1 (some .boolean) ∈ gj_TB := gj_t2 (List.mem_of_getElem? (i := 143) rfl) rfl
theorem kd_X6_readCow : Cond.code yX6_readCow cX6_readCow 1 (some .boolean) ∈ gj_TB := gj_t2 (List.mem_of_getElem? (i := 147) rfl) rfl
theorem kd_X6_readAhead : Cond.code yX6_readAhead cX6_readAhead 1 (some .boolean) ∈ gj_TB := gj_t2 (List.mem_of_getElem? (i := 151) rfl) rfl
theorem kd_X5_stands : Cond.code yX5_stands cX5_stands 1 (some .boolean) ∈ gj_TB := gj_t2 (List.mem_of_getElem? (i := 155) rfl) rfl
theorem kd_X11_village : Cond.code yX11_village cX11_village 1 (some .int) ∈ gj_TB := gj_t2 (List.mem_of_getElem? (i := 160) rfl) rfl
theorem kd_X5_take : Cond.code yX5_take cX5_take 2 none ∈ gj_TB := gj_t2 (List.mem_of_getElem? (i := 164) rfl) rfl
theorem kd_X7_copy : Cond.code yX7_copy cX7_copy 3 none ∈ gj_TB := gj_t2 (List.mem_of_getElem? (i := 167) rfl) rfl
theorem kd_X5_reckonShown : Cond.code yX5_reckonShown cX5_reckonShown 4 none ∈ gj_TB := gj_t2 (List.mem_of_getElem? (i := 171) rfl) rfl
theorem kd_X5_goodNext : Cond.code yX5_goodNext cX5_goodNext 10 (some .int) ∈ gj_TB := gj_t2 (List.mem_of_getElem? (i := 175) rfl) rfl
theorem kd_X5_rightAfter : Cond.code yX5_rightAfter cX5_rightAfter 4 (some .long) ∈ gj_TB := gj_t2 (List.mem_of_getElem? (i := 179) rfl) rfl
theorem kd_X5_oddsOf : Cond.code yX5_oddsOf cX5_oddsOf 6 (some .long) ∈ gj_TB := gj_t2 (List.mem_of_getElem? (i := 183) rfl) rfl
theorem kd_X5_otherAfter : Cond.code yX5_otherAfter cX5_otherAfter 4 (some .long) ∈ gj_TB := gj_t2 (List.mem_of_getElem? (i := 187) rfl) rfl
theorem kd_X0_choose : Cond.code yX0_choose cX0_choose 4 none ∈ gj_TB := gj_t2 (List.mem_of_getElem? (i := 194) rfl) rfl
theorem kd_X0_spread : Cond.code yX0_spread cX0_spread 6 (some .boolean) ∈ gj_TB := gj_t2 (List.mem_of_getElem? (i := 198) rfl) rfl
theorem kd_X5_yearSum : Cond.code yX5_yearSum cX5_yearSum 4 (some .int) ∈ gj_TB := gj_t2 (List.mem_of_getElem? (i := 206) rfl) rfl
theorem kd_X5_trueYear : Cond.code yX5_trueYear cX5_trueYear 4 (some .int) ∈ gj_TB := gj_t2 (List.mem_of_getElem? (i := 211) rfl) rfl
theorem kd_X3_begin : Cond.code yX3_begin cX3_begin 1 none ∈ gj_TB := gj_t2 (List.mem_of_getElem? (i := 217) rfl) rfl
theorem kd_X1_clear : Cond.code yX1_clear cX1_clear 1 none ∈ gj_TB := gj_t2 (List.mem_of_getElem? (i := 221) rfl) rfl
theorem kd_X11_person : Cond.code yX11_person cX11_person 4 (some .int) ∈ gj_TB := gj_t2 (List.mem_of_getElem? (i := 226) rfl) rfl
theorem kd_X5_slotOf : Cond.code yX5_slotOf cX5_slotOf 2 (some .int) ∈ gj_TB := gj_t2 (List.mem_of_getElem? (i := 230) rfl) rfl
theorem kd_X10_numberOf : Cond.code yX10_numberOf cX10_numberOf 1 (some .int) ∈ gj_TB := gj_t2 (List.mem_of_getElem? (i := 234) rfl) rfl
theorem kd_X11_earned : Cond.code yX11_earned cX11_earned 3 (some .int) ∈ gj_TB := gj_t2 (List.mem_of_getElem? (i := 238) rfl) rfl
theorem kd_X11_two : Cond.code yX11_two cX11_two 7 (some .int) ∈ gj_TB := gj_t3 (List.mem_of_getElem? (i := 2) rfl) rfl
theorem kd_X3_arePair : Cond.code yX3_arePair cX3_arePair 3 (some .boolean) ∈ gj_TB := gj_t3 (List.mem_of_getElem? (i := 8) rfl) rfl
theorem kd_X11_think : Cond.code yX11_think cX11_think 7 (some .int) ∈ gj_TB := gj_t3 (List.mem_of_getElem? (i := 13) rfl) rfl
theorem kd_X11_shown : Cond.code yX11_shown cX11_shown 10 (some .int) ∈ gj_TB := gj_t3 (List.mem_of_getElem? (i := 18) rfl) rfl
theorem kd_X5_shownRight : Cond.code yX5_shownRight cX5_shownRight 8 (some .int) ∈ gj_TB := gj_t3 (List.mem_of_getElem? (i := 22) rfl) rfl
theorem kd_X5_shownGood : Cond.code yX5_shownGood cX5_shownGood 4 (some .int) ∈ gj_TB := gj_t3 (List.mem_of_getElem? (i := 26) rfl) rfl
theorem kd_X11_liking : Cond.code yX11_liking cX11_liking 5 (some .int) ∈ gj_TB := gj_t3 (List.mem_of_getElem? (i := 30) rfl) rfl
theorem kd_X2_likingOf : Cond.code yX2_likingOf cX2_likingOf 8 (some .int) ∈ gj_TB := gj_t3 (List.mem_of_getElem? (i := 34) rfl) rfl
theorem kd_X5_gain : Cond.code yX5_gain cX5_gain 5 (some .int) ∈ gj_TB := gj_t3 (List.mem_of_getElem? (i := 41) rfl) rfl
theorem kd_X11_sooner : Cond.code yX11_sooner cX11_sooner 7 (some .int) ∈ gj_TB := gj_t3 (List.mem_of_getElem? (i := 46) rfl) rfl
theorem kd_X2_look : Cond.code yX2_look cX2_look 4 none ∈ gj_TB := gj_t3 (List.mem_of_getElem? (i := 50) rfl) rfl
theorem kd_X2_would : Cond.code yX2_would cX2_would 3 (some .boolean) ∈ gj_TB := gj_t3 (List.mem_of_getElem? (i := 56) rfl) rfl
theorem kd_X2_likes : Cond.code yX2_likes cX2_likes 3 (some .int) ∈ gj_TB := gj_t3 (List.mem_of_getElem? (i := 60) rfl) rfl
theorem kd_X2_soonerOf : Cond.code yX2_soonerOf cX2_soonerOf 6 (some .boolean) ∈ gj_TB := gj_t3 (List.mem_of_getElem? (i := 65) rfl) rfl
theorem kd_X11_best : Cond.code yX11_best cX11_best 5 (some .int) ∈ gj_TB := gj_t3 (List.mem_of_getElem? (i := 69) rfl) rfl
theorem kd_X11_canReckon : Cond.code yX11_canReckon cX11_canReckon 1 (some .boolean) ∈ gj_TB := gj_t3 (List.mem_of_getElem? (i := 72) rfl) rfl
theorem kd_X4_enter : Cond.code yX4_enter cX4_enter 4 none ∈ gj_TB := gj_t3 (List.mem_of_getElem? (i := 76) rfl) rfl
theorem kd_X10_facing : Cond.code yX10_facing cX10_facing 2 (some .int) ∈ gj_TB := gj_t3 (List.mem_of_getElem? (i := 79) rfl) rfl
theorem kd_X10_placeOf : Cond.code yX10_placeOf cX10_placeOf 1 (some .int) ∈ gj_TB := gj_t3 (List.mem_of_getElem? (i := 85) rfl) rfl
theorem kd_X4_bestWorth : Cond.code yX4_bestWorth cX4_bestWorth 2 (some .long) ∈ gj_TB := gj_t3 (List.mem_of_getElem? (i := 89) rfl) rfl
theorem kd_X4_worthOf : Cond.code yX4_worthOf cX4_worthOf 7 (some .long) ∈ gj_TB := gj_t3 (List.mem_of_getElem? (i := 93) rfl) rfl
theorem kd_X4_doing : Cond.code yX4_doing cX4_doing 18 (some .long) ∈ gj_TB := gj_t3 (List.mem_of_getElem? (i := 97) rfl) rfl
theorem kd_X4_isShut : Cond.code yX4_isShut cX4_isShut 2 (some .boolean) ∈ gj_TB := gj_t3 (List.mem_of_getElem? (i := 104) rfl) rfl
theorem kd_J9_max_f86c9 : Cond.code yJ9_max_f86c9 cJ9_max_f86c9 4 (some .long) ∈ gj_TB := gj_t3 (List.mem_of_getElem? (i := 107) rfl) rfl
theorem kd_X4_bestAct : Cond.code yX4_bestAct cX4_bestAct 8 (some .int) ∈ gj_TB := gj_t3 (List.mem_of_getElem? (i := 111) rfl) rfl
theorem kd_X11_act : Cond.code yX11_act cX11_act 6 (some .int) ∈ gj_TB := gj_t3 (List.mem_of_getElem? (i := 116) rfl) rfl
theorem kd_X4_worthOfAct : Cond.code yX4_worthOfAct cX4_worthOfAct 3 (some .long) ∈ gj_TB := gj_t3 (List.mem_of_getElem? (i := 121) rfl) rfl
theorem kd_X11_silent : Cond.code yX11_silent cX11_silent 4 (some .int) ∈ gj_TB := gj_t3 (List.mem_of_getElem? (i := 125) rfl) rfl
theorem kd_X4_stays : Cond.code yX4_stays cX4_stays 2 (some .boolean) ∈ gj_TB := gj_t3 (List.mem_of_getElem? (i := 129) rfl) rfl
theorem kd_X11_bar : Cond.code yX11_bar cX11_bar 7 (some .int) ∈ gj_TB := gj_t3 (List.mem_of_getElem? (i := 134) rfl) rfl
theorem kd_X4_leastGood : Cond.code yX4_leastGood cX4_leastGood 5 (some .int) ∈ gj_TB := gj_t3 (List.mem_of_getElem? (i := 138) rfl) rfl
theorem kd_X11_price : Cond.code yX11_price cX11_price 4 (some .int) ∈ gj_TB := gj_t3 (List.mem_of_getElem? (i := 143) rfl) rfl
theorem kd_X4_leastCow : Cond.code yX4_leastCow cX4_leastCow 9 (some .int) ∈ gj_TB := gj_t3 (List.mem_of_getElem? (i := 147) rfl) rfl
theorem kd_J9_max_7cf53 : Cond.code yJ9_max_7cf53 cJ9_max_7cf53 2 (some .int) ∈ gj_TB := gj_t3 (List.mem_of_getElem? (i := 150) rfl) rfl
theorem kd_X11_waits : Cond.code yX11_waits cX11_waits 9 (some .int) ∈ gj_TB := gj_t3 (List.mem_of_getElem? (i := 155) rfl) rfl
theorem kd_X4_shutOut : Cond.code yX4_shutOut cX4_shutOut 2 none ∈ gj_TB := gj_t3 (List.mem_of_getElem? (i := 160) rfl) rfl
theorem kd_X11_way : Cond.code yX11_way cX11_way 2 (some .boolean) ∈ gj_TB := gj_t3 (List.mem_of_getElem? (i := 164) rfl) rfl
theorem kd_X11_seed : Cond.code yX11_seed cX11_seed 2 (some .boolean) ∈ gj_TB := gj_t3 (List.mem_of_getElem? (i := 168) rfl) rfl
theorem kd_X11_green : Cond.code yX11_green cX11_green 4 (some .int) ∈ gj_TB := gj_t3 (List.mem_of_getElem? (i := 173) rfl) rfl
theorem kd_X2_gather : Cond.code yX2_gather cX2_gather 4 none ∈ gj_TB := gj_t3 (List.mem_of_getElem? (i := 177) rfl) rfl
theorem kd_X2_pairUp : Cond.code yX2_pairUp cX2_pairUp 2 none ∈ gj_TB := gj_t3 (List.mem_of_getElem? (i := 182) rfl) rfl
theorem kd_X2_askAll : Cond.code yX2_askAll cX2_askAll 4 none ∈ gj_TB := gj_t3 (List.mem_of_getElem? (i := 188) rfl) rfl
theorem kd_X2_soonestToAsk : Cond.code yX2_soonestToAsk cX2_soonestToAsk 6 (some .int) ∈ gj_TB := gj_t3 (List.mem_of_getElem? (i := 192) rfl) rfl
theorem kd_X2_canMeet : Cond.code yX2_canMeet cX2_canMeet 3 (some .boolean) ∈ gj_TB := gj_t3 (List.mem_of_getElem? (i := 197) rfl) rfl
theorem kd_X2_ask : Cond.code yX2_ask cX2_ask 4 none ∈ gj_TB := gj_t3 (List.mem_of_getElem? (i := 203) rfl) rfl
theorem kd_X2_tie : Cond.code yX2_tie cX2_tie 3 none ∈ gj_TB := gj_t3 (List.mem_of_getElem? (i := 207) rfl) rfl
theorem kd_X2_takeTurns : Cond.code yX2_takeTurns cX2_takeTurns 4 none ∈ gj_TB := gj_t3 (List.mem_of_getElem? (i := 211) rfl) rfl
theorem kd_X2_isLeftFor : Cond.code yX2_isLeftFor cX2_isLeftFor 3 (some .boolean) ∈ gj_TB := gj_t3 (List.mem_of_getElem? (i := 215) rfl) rfl
theorem kd_X2_drawLots : Cond.code yX2_drawLots cX2_drawLots 4 none ∈ gj_TB := gj_t3 (List.mem_of_getElem? (i := 219) rfl) rfl
theorem kd_X3_lot : Cond.code yX3_lot cX3_lot 2 (some .int) ∈ gj_TB := gj_t3 (List.mem_of_getElem? (i := 223) rfl) rfl
theorem kd_X2_openOne : Cond.code yX2_openOne cX2_openOne 5 (some .int) ∈ gj_TB := gj_t3 (List.mem_of_getElem? (i := 230) rfl) rfl
theorem kd_X11_may : Cond.code yX11_may cX11_may 3 (some .int) ∈ gj_TB := gj_t3 (List.mem_of_getElem? (i := 234) rfl) rfl
theorem kd_X8_hold : Cond.code yX8_hold cX8_hold 1 none ∈ gj_TB := gj_t3 (List.mem_of_getElem? (i := 239) rfl) rfl
theorem kd_X8_askPaired : Cond.code yX8_askPaired cX8_askPaired 3 none ∈ gj_TB := gj_t4 (List.mem_of_getElem? (i := 3) rfl) rfl
theorem kd_X8_endPairs : Cond.code yX8_endPairs cX8_endPairs 3 none ∈ gj_TB := gj_t4 (List.mem_of_getElem? (i := 11) rfl) rfl
theorem kd_X8_hear : Cond.code yX8_hear cX8_hear 5 none ∈ gj_TB := gj_t4 (List.mem_of_getElem? (i := 15) rfl) rfl
theorem kd_X3_earn : Cond.code yX3_earn cX3_earn 3 none ∈ gj_TB := gj_t4 (List.mem_of_getElem? (i := 21) rfl) rfl
theorem kd_X1_add : Cond.code yX1_add cX1_add 7 none ∈ gj_TB := gj_t4 (List.mem_of_getElem? (i := 27) rfl) rfl
theorem kd_X3_loosen : Cond.code yX3_loosen cX3_loosen 3 none ∈ gj_TB := gj_t4 (List.mem_of_getElem? (i := 32) rfl) rfl
theorem kd_X3_free : Cond.code yX3_free cX3_free 2 none ∈ gj_TB := gj_t4 (List.mem_of_getElem? (i := 36) rfl) rfl
theorem kd_X8_bindNewPairs : Cond.code yX8_bindNewPairs cX8_bindNewPairs 3 none ∈ gj_TB := gj_t4 (List.mem_of_getElem? (i := 43) rfl) rfl
theorem kd_X3_bind : Cond.code yX3_bind cX3_bind 3 none ∈ gj_TB := gj_t4 (List.mem_of_getElem? (i := 47) rfl) rfl
theorem kd_X8_passYear : Cond.code yX8_passYear cX8_passYear 3 none ∈ gj_TB := gj_t4 (List.mem_of_getElem? (i := 51) rfl) rfl
theorem kd_X8_liveTogether : Cond.code yX8_liveTogether cX8_liveTogether 10 none ∈ gj_TB := gj_t4 (List.mem_of_getElem? (i := 55) rfl) rfl
theorem kd_X11_join : Cond.code yX11_join cX11_join 5 (some .boolean) ∈ gj_TB := gj_t4 (List.mem_of_getElem? (i := 63) rfl) rfl
theorem kd_X11_part : Cond.code yX11_part cX11_part 4 (some .boolean) ∈ gj_TB := gj_t4 (List.mem_of_getElem? (i := 68) rfl) rfl
theorem kd_X11_log : Cond.code yX11_log cX11_log 3 (some .int) ∈ gj_TB := gj_t4 (List.mem_of_getElem? (i := 73) rfl) rfl
theorem kd_X1_size : Cond.code yX1_size cX1_size 1 (some .int) ∈ gj_TB := gj_t4 (List.mem_of_getElem? (i := 77) rfl) rfl
theorem kd_X1_tell : Cond.code yX1_tell cX1_tell 3 (some .int) ∈ gj_TB := gj_t4 (List.mem_of_getElem? (i := 81) rfl) rfl
theorem kd_X11_blocks : Cond.code yX11_blocks cX11_blocks 5 (some .int) ∈ gj_TB := gj_t4 (List.mem_of_getElem? (i := 86) rfl) rfl
theorem kd_X2_wouldSooner : Cond.code yX2_wouldSooner cX2_wouldSooner 3 (some .boolean) ∈ gj_TB := gj_t4 (List.mem_of_getElem? (i := 90) rfl) rfl
theorem kd_X2_isBetter : Cond.code yX2_isBetter cX2_isBetter 4 (some .boolean) ∈ gj_TB := gj_t4 (List.mem_of_getElem? (i := 95) rfl) rfl
theorem kd_X11_parents : Cond.code yX11_parents cX11_parents 3 (some .int) ∈ gj_TB := gj_t4 (List.mem_of_getElem? (i := 99) rfl) rfl
theorem kd_X11_life : Cond.code yX11_life cX11_life 4 (some .int) ∈ gj_TB := gj_t4 (List.mem_of_getElem? (i := 104) rfl) rfl
theorem kd_X5_sumOf : Cond.code yX5_sumOf cX5_sumOf 6 (some .int) ∈ gj_TB := gj_t4 (List.mem_of_getElem? (i := 108) rfl) rfl
theorem kd_X11_never : Cond.code yX11_never cX11_never 2 (some .int) ∈ gj_TB := gj_t4 (List.mem_of_getElem? (i := 114) rfl) rfl
theorem kd_X11_neverTried : Cond.code yX11_neverTried cX11_neverTried 4 (some .int) ∈ gj_TB := gj_t4 (List.mem_of_getElem? (i := 118) rfl) rfl
theorem kd_X3_haveTried : Cond.code yX3_haveTried cX3_haveTried 2 (some .boolean) ∈ gj_TB := gj_t4 (List.mem_of_getElem? (i := 122) rfl) rfl
theorem kd_X11_pairs : Cond.code yX11_pairs cX11_pairs 3 (some .int) ∈ gj_TB := gj_t4 (List.mem_of_getElem? (i := 126) rfl) rfl
theorem kd_X3_pairsOf : Cond.code yX3_pairsOf cX3_pairsOf 4 (some .int) ∈ gj_TB := gj_t4 (List.mem_of_getElem? (i := 130) rfl) rfl
theorem kd_X11_image : Cond.code yX11_image cX11_image 3 (some .boolean) ∈ gj_TB := gj_t4 (List.mem_of_getElem? (i := 134) rfl) rfl
theorem kd_X11_pictureAt : Cond.code yX11_pictureAt cX11_pictureAt 2 (some (.object "MayGreen$Life")) ∈ gj_TB := gj_t4 (List.mem_of_getElem? (i := 138) rfl) rfl
theorem kd_X3_copyOf : Cond.code yX3_copyOf cX3_copyOf 2 none ∈ gj_TB := gj_t4 (List.mem_of_getElem? (i := 142) rfl) rfl
theorem kd_X1_copyOf : Cond.code yX1_copyOf cX1_copyOf 2 none ∈ gj_TB := gj_t4 (List.mem_of_getElem? (i := 147) rfl) rfl
theorem kd_X11_on : Cond.code yX11_on cX11_on 3 (some .boolean) ∈ gj_TB := gj_t4 (List.mem_of_getElem? (i := 153) rfl) rfl
theorem kd_X11_status : Cond.code yX11_status cX11_status 2 (some .int) ∈ gj_TB := gj_t4 (List.mem_of_getElem? (i := 158) rfl) rfl
theorem kd_X11_count : Cond.code yX11_count cX11_count 3 (some .int) ∈ gj_TB := gj_t4 (List.mem_of_getElem? (i := 162) rfl) rfl
theorem kd_X12_init : Cond.code yX12_init cX12_init 1 none ∈ gj_TB := gj_t4 (List.mem_of_getElem? (i := 167) rfl) rfl
theorem kd_X12_status : Cond.code yX12_status cX12_status 2 (some .int) ∈ gj_TB := gj_t5 (List.mem_of_getElem? (i := 111) rfl) rfl
theorem kd_X12_in : Cond.code yX12_in cX12_in 6 (some .boolean) ∈ gj_TB := gj_t5 (List.mem_of_getElem? (i := 115) rfl) rfl
theorem kd_X12_feed : Cond.code yX12_feed cX12_feed 6 (some .int) ∈ gj_TB := gj_t5 (List.mem_of_getElem? (i := 119) rfl) rfl
theorem kd_X12_refuse : Cond.code yX12_refuse cX12_refuse 2 (some .int) ∈ gj_TB := gj_t5 (List.mem_of_getElem? (i := 123) rfl) rfl
theorem kd_X12_feeds : Cond.code yX12_feeds cX12_feeds 3 none ∈ gj_TB := gj_t5 (List.mem_of_getElem? (i := 127) rfl) rfl
theorem kd_X12_end : Cond.code yX12_end cX12_end 2 (some .boolean) ∈ gj_TB := gj_t5 (List.mem_of_getElem? (i := 131) rfl) rfl
theorem kd_X12_deny : Cond.code yX12_deny cX12_deny 2 (some .boolean) ∈ gj_TB := gj_t5 (List.mem_of_getElem? (i := 135) rfl) rfl
theorem kd_X12_fault : Cond.code yX12_fault cX12_fault 1 (some .int) ∈ gj_TB := gj_t5 (List.mem_of_getElem? (i := 139) rfl) rfl
theorem kd_X12_reads : Cond.code yX12_reads cX12_reads 3 none ∈ gj_TB := gj_t5 (List.mem_of_getElem? (i := 143) rfl) rfl
theorem kd_X12_next : Cond.code yX12_next cX12_next 1 none ∈ gj_TB := gj_t5 (List.mem_of_getElem? (i := 147) rfl) rfl
theorem kd_X12_between : Cond.code yX12_between cX12_between 4 (some .boolean) ∈ gj_TB := gj_t5 (List.mem_of_getElem? (i := 151) rfl) rfl
theorem kd_X12_line : Cond.code yX12_line cX12_line 2 (some .boolean) ∈ gj_TB := gj_t5 (List.mem_of_getElem? (i := 155) rfl) rfl
theorem kd_X12_wordHere : Cond.code yX12_wordHere cX12_wordHere 4 (some .int) ∈ gj_TB := gj_t5 (List.mem_of_getElem? (i := 159) rfl) rfl
theorem kd_X12_personRead : Cond.code yX12_personRead cX12_personRead 5 (some .boolean) ∈ gj_TB := gj_t5 (List.mem_of_getElem? (i := 165) rfl) rfl
theorem kd_X12_passes : Cond.code yX12_passes cX12_passes 2 (some .boolean) ∈ gj_TB := gj_t5 (List.mem_of_getElem? (i := 169) rfl) rfl
theorem kd_X12_nameHere : Cond.code yX12_nameHere cX12_nameHere 4 (some .long) ∈ gj_TB := gj_t5 (List.mem_of_getElem? (i := 173) rfl) rfl
theorem kd_X12_found : Cond.code yX12_found cX12_found 5 (some .int) ∈ gj_TB := gj_t5 (List.mem_of_getElem? (i := 180) rfl) rfl
theorem kd_X12_into : Cond.code yX12_into cX12_into 6 (some .boolean) ∈ gj_TB := gj_t5 (List.mem_of_getElem? (i := 184) rfl) rfl
theorem kd_X12_closes : Cond.code yX12_closes cX12_closes 1 (some .boolean) ∈ gj_TB := gj_t5 (List.mem_of_getElem? (i := 188) rfl) rfl
theorem kd_X12_thinkRead : Cond.code yX12_thinkRead cX12_thinkRead 4 (some .boolean) ∈ gj_TB := gj_t5 (List.mem_of_getElem? (i := 192) rfl) rfl
theorem kd_X12_coupleOf : Cond.code yX12_coupleOf cX12_coupleOf 2 (some .int) ∈ gj_TB := gj_t5 (List.mem_of_getElem? (i := 195) rfl) rfl
theorem kd_X12_fitRead : Cond.code yX12_fitRead cX12_fitRead 3 (some .boolean) ∈ gj_TB := gj_t5 (List.mem_of_getElem? (i := 199) rfl) rfl
theorem kd_X12_onceRead : Cond.code yX12_onceRead cX12_onceRead 3 (some .boolean) ∈ gj_TB := gj_t5 (List.mem_of_getElem? (i := 204) rfl) rfl
theorem kd_X12_village : Cond.code yX12_village cX12_village 2 (some .int) ∈ gj_TB := gj_t5 (List.mem_of_getElem? (i := 208) rfl) rfl
theorem kd_X12_copies : Cond.code yX12_copies cX12_copies 2 none ∈ gj_TB := gj_t5 (List.mem_of_getElem? (i := 211) rfl) rfl
theorem kd_X12_person : Cond.code yX12_person cX12_person 4 (some .int) ∈ gj_TB := gj_t5 (List.mem_of_getElem? (i := 215) rfl) rfl
theorem kd_X12_who : Cond.code yX12_who cX12_who 3 (some .int) ∈ gj_TB := gj_t5 (List.mem_of_getElem? (i := 219) rfl) rfl
theorem kd_X12_told : Cond.code yX12_told cX12_told 1 (some .int) ∈ gj_TB := gj_t5 (List.mem_of_getElem? (i := 225) rfl) rfl
theorem kd_X12_earned : Cond.code yX12_earned cX12_earned 3 (some .int) ∈ gj_TB := gj_t5 (List.mem_of_getElem? (i := 229) rfl) rfl
theorem kd_X12_two_ : Cond.code yX12_two_ cX12_two_ 7 (some .int) ∈ gj_TB := gj_t5 (List.mem_of_getElem? (i := 233) rfl) rfl
theorem kd_X12_areTwo : Cond.code yX12_areTwo cX12_areTwo 2 (some .boolean) ∈ gj_TB := gj_t5 (List.mem_of_getElem? (i := 236) rfl) rfl
theorem kd_X12_two : Cond.code yX12_two cX12_two 2 (some .int) ∈ gj_TB := gj_t5 (List.mem_of_getElem? (i := 239) rfl) rfl
theorem kd_X12_think : Cond.code yX12_think cX12_think 7 (some .int) ∈ gj_TB := gj_t6 (List.mem_of_getElem? (i := 3) rfl) rfl
theorem kd_X12_shown : Cond.code yX12_shown cX12_shown 6 (some .int) ∈ gj_TB := gj_t6 (List.mem_of_getElem? (i := 7) rfl) rfl
theorem kd_X12_shows : Cond.code yX12_shows cX12_shows 11 (some .int) ∈ gj_TB := gj_t6 (List.mem_of_getElem? (i := 11) rfl) rfl
theorem kd_X12_power : Cond.code yX12_power cX12_power 5 (some .long) ∈ gj_TB := gj_t6 (List.mem_of_getElem? (i := 14) rfl) rfl
theorem kd_X12_liking : Cond.code yX12_liking cX12_liking 5 (some .int) ∈ gj_TB := gj_t6 (List.mem_of_getElem? (i := 20) rfl) rfl
theorem kd_X12_likesNow : Cond.code yX12_likesNow cX12_likesNow 3 (some .int) ∈ gj_TB := gj_t6 (List.mem_of_getElem? (i := 24) rfl) rfl
theorem kd_X12_likes : Cond.code yX12_likes cX12_likes 4 (some .int) ∈ gj_TB := gj_t6 (List.mem_of_getElem? (i := 28) rfl) rfl
theorem kd_X12_sooner : Cond.code yX12_sooner cX12_sooner 7 (some .int) ∈ gj_TB := gj_t6 (List.mem_of_getElem? (i := 32) rfl) rfl
theorem kd_X12_isSooner : Cond.code yX12_isSooner cX12_isSooner 6 (some .boolean) ∈ gj_TB := gj_t6 (List.mem_of_getElem? (i := 36) rfl) rfl
theorem kd_X12_best : Cond.code yX12_best cX12_best 6 (some .int) ∈ gj_TB := gj_t6 (List.mem_of_getElem? (i := 40) rfl) rfl
theorem kd_X12_areMays : Cond.code yX12_areMays cX12_areMays 1 (some .boolean) ∈ gj_TB := gj_t6 (List.mem_of_getElem? (i := 43) rfl) rfl
theorem kd_X12_bestOf : Cond.code yX12_bestOf cX12_bestOf 3 (some .int) ∈ gj_TB := gj_t6 (List.mem_of_getElem? (i := 48) rfl) rfl
theorem kd_X12_lays : Cond.code yX12_lays cX12_lays 5 none ∈ gj_TB := gj_t6 (List.mem_of_getElem? (i := 52) rfl) rfl
theorem kd_X12_mateOf : Cond.code yX12_mateOf cX12_mateOf 2 (some .int) ∈ gj_TB := gj_t6 (List.mem_of_getElem? (i := 56) rfl) rfl
theorem kd_X12_worth : Cond.code yX12_worth cX12_worth 8 (some .int) ∈ gj_TB := gj_t6 (List.mem_of_getElem? (i := 60) rfl) rfl
theorem kd_X12_by : Cond.code yX12_by cX12_by 6 (some .int) ∈ gj_TB := gj_t6 (List.mem_of_getElem? (i := 64) rfl) rfl
theorem kd_X12_with : Cond.code yX12_with cX12_with 11 (some .int) ∈ gj_TB := gj_t6 (List.mem_of_getElem? (i := 68) rfl) rfl
theorem kd_X12_othersMany : Cond.code yX12_othersMany cX12_othersMany 1 (some .int) ∈ gj_TB := gj_t6 (List.mem_of_getElem? (i := 73) rfl) rfl
theorem kd_X12_toldOf : Cond.code yX12_toldOf cX12_toldOf 3 (some .int) ∈ gj_TB := gj_t6 (List.mem_of_getElem? (i := 77) rfl) rfl
theorem kd_X12_act : Cond.code yX12_act cX12_act 6 (some .int) ∈ gj_TB := gj_t6 (List.mem_of_getElem? (i := 81) rfl) rfl
theorem kd_X12_silent : Cond.code yX12_silent cX12_silent 4 (some .int) ∈ gj_TB := gj_t6 (List.mem_of_getElem? (i := 85) rfl) rfl
theorem kd_X12_isSilent : Cond.code yX12_isSilent cX12_isSilent 4 (some .boolean) ∈ gj_TB := gj_t6 (List.mem_of_getElem? (i := 89) rfl) rfl
theorem kd_X12_bar : Cond.code yX12_bar cX12_bar 10 (some .int) ∈ gj_TB := gj_t6 (List.mem_of_getElem? (i := 93) rfl) rfl
theorem kd_X12_price : Cond.code yX12_price cX12_price 6 (some .int) ∈ gj_TB := gj_t6 (List.mem_of_getElem? (i := 98) rfl) rfl
theorem kd_X12_waits : Cond.code yX12_waits cX12_waits 8 (some .int) ∈ gj_TB := gj_t6 (List.mem_of_getElem? (i := 102) rfl) rfl
theorem kd_X12_way : Cond.code yX12_way cX12_way 2 (some .boolean) ∈ gj_TB := gj_t6 (List.mem_of_getElem? (i := 106) rfl) rfl
theorem kd_X12_seed : Cond.code yX12_seed cX12_seed 2 (some .boolean) ∈ gj_TB := gj_t6 (List.mem_of_getElem? (i := 110) rfl) rfl
theorem kd_X12_green : Cond.code yX12_green cX12_green 5 (some .int) ∈ gj_TB := gj_t6 (List.mem_of_getElem? (i := 115) rfl) rfl
theorem kd_X12_goes : Cond.code yX12_goes cX12_goes 3 none ∈ gj_TB := gj_t6 (List.mem_of_getElem? (i := 119) rfl) rfl
theorem kd_X12_asks : Cond.code yX12_asks cX12_asks 8 none ∈ gj_TB := gj_t6 (List.mem_of_getElem? (i := 123) rfl) rfl
theorem kd_X12_both : Cond.code yX12_both cX12_both 3 (some .boolean) ∈ gj_TB := gj_t6 (List.mem_of_getElem? (i := 127) rfl) rfl
theorem kd_X12_would : Cond.code yX12_would cX12_would 3 (some .boolean) ∈ gj_TB := gj_t6 (List.mem_of_getElem? (i := 131) rfl) rfl
theorem kd_X12_gives : Cond.code yX12_gives cX12_gives 3 none ∈ gj_TB := gj_t6 (List.mem_of_getElem? (i := 135) rfl) rfl
theorem kd_X12_inTurn : Cond.code yX12_inTurn cX12_inTurn 4 none ∈ gj_TB := gj_t6 (List.mem_of_getElem? (i := 139) rfl) rfl
theorem kd_X12_byLot : Cond.code yX12_byLot cX12_byLot 5 none ∈ gj_TB := gj_t6 (List.mem_of_getElem? (i := 143) rfl) rfl
theorem kd_X12_lot : Cond.code yX12_lot cX12_lot 2 (some .int) ∈ gj_TB := gj_t6 (List.mem_of_getElem? (i := 147) rfl) rfl
theorem kd_X12_log : Cond.code yX12_log cX12_log 3 (some .int) ∈ gj_TB := gj_t6 (List.mem_of_getElem? (i := 155) rfl) rfl
theorem kd_X12_may_ : Cond.code yX12_may_ cX12_may_ 3 (some .int) ∈ gj_TB := gj_t6 (List.mem_of_getElem? (i := 159) rfl) rfl
theorem kd_X12_may : Cond.code yX12_may cX12_may 2 none ∈ gj_TB := gj_t6 (List.mem_of_getElem? (i := 164) rfl) rfl
theorem kd_X12_asked : Cond.code yX12_asked cX12_asked 3 none ∈ gj_TB := gj_t6 (List.mem_of_getElem? (i := 168) rfl) rfl
theorem kd_X12_notes : Cond.code yX12_notes cX12_notes 5 none ∈ gj_TB := gj_t6 (List.mem_of_getElem? (i := 172) rfl) rfl
theorem kd_X12_parts : Cond.code yX12_parts cX12_parts 2 none ∈ gj_TB := gj_t6 (List.mem_of_getElem? (i := 176) rfl) rfl
theorem kd_X12_joins : Cond.code yX12_joins cX12_joins 3 none ∈ gj_TB := gj_t6 (List.mem_of_getElem? (i := 180) rfl) rfl
theorem kd_X12_lives : Cond.code yX12_lives cX12_lives 6 none ∈ gj_TB := gj_t6 (List.mem_of_getElem? (i := 184) rfl) rfl
theorem kd_X12_join : Cond.code yX12_join cX12_join 5 (some .boolean) ∈ gj_TB := gj_t6 (List.mem_of_getElem? (i := 188) rfl) rfl
theorem kd_X12_part : Cond.code yX12_part cX12_part 3 (some .boolean) ∈ gj_TB := gj_t6 (List.mem_of_getElem? (i := 192) rfl) rfl
theorem kd_X12_blocks : Cond.code yX12_blocks cX12_blocks 5 (some .int) ∈ gj_TB := gj_t6 (List.mem_of_getElem? (i := 196) rfl) rfl
theorem kd_X12_isFree : Cond.code yX12_isFree cX12_isFree 3 (some .boolean) ∈ gj_TB := gj_t6 (List.mem_of_getElem? (i := 200) rfl) rfl
theorem kd_X12_parents : Cond.code yX12_parents cX12_parents 3 (some .int) ∈ gj_TB := gj_t6 (List.mem_of_getElem? (i := 204) rfl) rfl
theorem kd_X12_findsParents : Cond.code yX12_findsParents cX12_findsParents 2 none ∈ gj_TB := gj_t6 (List.mem_of_getElem? (i := 208) rfl) rfl
theorem kd_X12_parentsFrom : Cond.code yX12_parentsFrom cX12_parentsFrom 4 none ∈ gj_TB := gj_t6 (List.mem_of_getElem? (i := 212) rfl) rfl
theorem kd_X12_sumOf : Cond.code yX12_sumOf cX12_sumOf 4 (some .int) ∈ gj_TB := gj_t6 (List.mem_of_getElem? (i := 216) rfl) rfl
theorem kd_X12_truly : Cond.code yX12_truly cX12_truly 4 (some .int) ∈ gj_TB := gj_t6 (List.mem_of_getElem? (i := 220) rfl) rfl
theorem kd_X12_life : Cond.code yX12_life cX12_life 4 (some .int) ∈ gj_TB := gj_t6 (List.mem_of_getElem? (i := 224) rfl) rfl
theorem kd_X12_lifeOf : Cond.code yX12_lifeOf cX12_lifeOf 5 (some .int) ∈ gj_TB := gj_t6 (List.mem_of_getElem? (i := 229) rfl) rfl
theorem kd_X12_never : Cond.code yX12_never cX12_never 4 (some .int) ∈ gj_TB := gj_t6 (List.mem_of_getElem? (i := 234) rfl) rfl
theorem kd_X12_pairs : Cond.code yX12_pairs cX12_pairs 5 (some .int) ∈ gj_TB := gj_t6 (List.mem_of_getElem? (i := 238) rfl) rfl
theorem kd_X12_image : Cond.code yX12_image cX12_image 2 (some .boolean) ∈ gj_TB := gj_t7 (List.mem_of_getElem? (i := 2) rfl) rfl
theorem kd_X12_moves : Cond.code yX12_moves cX12_moves 3 none ∈ gj_TB := gj_t7 (List.mem_of_getElem? (i := 6) rfl) rfl
theorem kd_X12_move : Cond.code yX12_move cX12_move 5 none ∈ gj_TB := gj_t7 (List.mem_of_getElem? (i := 10) rfl) rfl
theorem kd_X12_on : Cond.code yX12_on cX12_on 2 (some .boolean) ∈ gj_TB := gj_t7 (List.mem_of_getElem? (i := 14) rfl) rfl
theorem kd_X12_count : Cond.code yX12_count cX12_count 2 (some .int) ∈ gj_TB := gj_t7 (List.mem_of_getElem? (i := 18) rfl) rfl
theorem ki_X11_init : Cond.instanceMethod yX11_init ∈ gj_TB := gj_t0 (List.mem_of_getElem? (i := 22) rfl) rfl
theorem ki_Obj_init : Cond.instanceMethod Lib.objectInit ∈ gj_TB := gj_t0 (List.mem_of_getElem? (i := 25) rfl) rfl
theorem ki_X9_init : Cond.instanceMethod yX9_init ∈ gj_TB := gj_t0 (List.mem_of_getElem? (i := 30) rfl) rfl
theorem ki_X5_init : Cond.instanceMethod yX5_init ∈ gj_TB := gj_t0 (List.mem_of_getElem? (i := 44) rfl) rfl
theorem ki_X6_init : Cond.instanceMethod yX6_init ∈ gj_TB := gj_t0 (List.mem_of_getElem? (i := 144) rfl) rfl
theorem ki_X3_init : Cond.instanceMethod yX3_init ∈ gj_TB := gj_t0 (List.mem_of_getElem? (i := 183) rfl) rfl
theorem ki_X1_init : Cond.instanceMethod yX1_init ∈ gj_TB := gj_t0 (List.mem_of_getElem? (i := 189) rfl) rfl
theorem ki_X4_init : Cond.instanceMethod yX4_init ∈ gj_TB := gj_t1 (List.mem_of_getElem? (i := 31) rfl) rfl
theorem ki_X2_init : Cond.instanceMethod yX2_init ∈ gj_TB := gj_t1 (List.mem_of_getElem? (i := 71) rfl) rfl
theorem ki_X0_init : Cond.instanceMethod yX0_init ∈ gj_TB := gj_t1 (List.mem_of_getElem? (i := 101) rfl) rfl
theorem ki_X8_init : Cond.instanceMethod yX8_init ∈ gj_TB := gj_t1 (List.mem_of_getElem? (i := 118) rfl) rfl
theorem ki_X11_feed : Cond.instanceMethod yX11_feed ∈ gj_TB := gj_t1 (List.mem_of_getElem? (i := 176) rfl) rfl
theorem ki_X9_hasRoomFor : Cond.instanceMethod yX9_hasRoomFor ∈ gj_TB := gj_t1 (List.mem_of_getElem? (i := 180) rfl) rfl
theorem ki_X11_refuse : Cond.instanceMethod yX11_refuse ∈ gj_TB := gj_t1 (List.mem_of_getElem? (i := 185) rfl) rfl
theorem ki_X9_append : Cond.instanceMethod yX9_append ∈ gj_TB := gj_t1 (List.mem_of_getElem? (i := 194) rfl) rfl
theorem ki_X9_length : Cond.instanceMethod yX9_length ∈ gj_TB := gj_t1 (List.mem_of_getElem? (i := 199) rfl) rfl
theorem ki_X11_end : Cond.instanceMethod yX11_end ∈ gj_TB := gj_t1 (List.mem_of_getElem? (i := 203) rfl) rfl
theorem ki_X9_cutTo : Cond.instanceMethod yX9_cutTo ∈ gj_TB := gj_t1 (List.mem_of_getElem? (i := 207) rfl) rfl
theorem ki_X11_fault : Cond.instanceMethod yX11_fault ∈ gj_TB := gj_t1 (List.mem_of_getElem? (i := 211) rfl) rfl
theorem ki_X6_read : Cond.instanceMethod yX6_read ∈ gj_TB := gj_t1 (List.mem_of_getElem? (i := 215) rfl) rfl
theorem ki_X5_clear : Cond.instanceMethod yX5_clear ∈ gj_TB := gj_t1 (List.mem_of_getElem? (i := 219) rfl) rfl
theorem ki_X6_scan : Cond.instanceMethod yX6_scan ∈ gj_TB := gj_t1 (List.mem_of_getElem? (i := 228) rfl) rfl
theorem ki_X9_byteAt : Cond.instanceMethod yX9_byteAt ∈ gj_TB := gj_t1 (List.mem_of_getElem? (i := 232) rfl) rfl
theorem ki_X6_readLine : Cond.instanceMethod yX6_readLine ∈ gj_TB := gj_t2 (List.mem_of_getElem? (i := 4) rfl) rfl
theorem ki_X6_isWord : Cond.instanceMethod yX6_isWord ∈ gj_TB := gj_t2 (List.mem_of_getElem? (i := 9) rfl) rfl
theorem ki_J0_length_8abf5 : Cond.instanceMethod yJ0_length_8abf5 ∈ gj_TB := gj_t2 (List.mem_of_getElem? (i := 12) rfl) rfl
theorem ki_J0_coder_7d493 : Cond.instanceMethod yJ0_coder_7d493 ∈ gj_TB := gj_t2 (List.mem_of_getElem? (i := 16) rfl) rfl
theorem ki_J0_charAt_5068e : Cond.instanceMethod yJ0_charAt_5068e ∈ gj_TB := gj_t2 (List.mem_of_getElem? (i := 22) rfl) rfl
theorem ki_J0_isLatin1_aae02 : Cond.instanceMethod yJ0_isLatin1_aae02 ∈ gj_TB := gj_t2 (List.mem_of_getElem? (i := 26) rfl) rfl
theorem ki_X6_readPerson : Cond.instanceMethod yX6_readPerson ∈ gj_TB := gj_t2 (List.mem_of_getElem? (i := 61) rfl) rfl
theorem ki_X6_nameHere : Cond.instanceMethod yX6_nameHere ∈ gj_TB := gj_t2 (List.mem_of_getElem? (i := 65) rfl) rfl
theorem ki_X6_isLineWord : Cond.instanceMethod yX6_isLineWord ∈ gj_TB := gj_t2 (List.mem_of_getElem? (i := 70) rfl) rfl
theorem ki_X6_slotNamed : Cond.instanceMethod yX6_slotNamed ∈ gj_TB := gj_t2 (List.mem_of_getElem? (i := 82) rfl) rfl
theorem ki_X5_isPerson : Cond.instanceMethod yX5_isPerson ∈ gj_TB := gj_t2 (List.mem_of_getElem? (i := 85) rfl) rfl
theorem ki_X6_takeNumber : Cond.instanceMethod yX6_takeNumber ∈ gj_TB := gj_t2 (List.mem_of_getElem? (i := 90) rfl) rfl
theorem ki_X6_numberHere : Cond.instanceMethod yX6_numberHere ∈ gj_TB := gj_t2 (List.mem_of_getElem? (i := 94) rfl) rfl
theorem ki_X6_takeStop : Cond.instanceMethod yX6_takeStop ∈ gj_TB := gj_t2 (List.mem_of_getElem? (i := 103) rfl) rfl
theorem ki_X6_readThink : Cond.instanceMethod yX6_readThink ∈ gj_TB := gj_t2 (List.mem_of_getElem? (i := 107) rfl) rfl
theorem ki_X6_readFit : Cond.instanceMethod yX6_readFit ∈ gj_TB := gj_t2 (List.mem_of_getElem? (i := 123) rfl) rfl
theorem ki_X6_readWorth : Cond.instanceMethod yX6_readWorth ∈ gj_TB := gj_t2 (List.mem_of_getElem? (i := 130) rfl) rfl
theorem ki_X6_firstTold : Cond.instanceMethod yX6_firstTold ∈ gj_TB := gj_t2 (List.mem_of_getElem? (i := 134) rfl) rfl
theorem ki_X6_readHouse : Cond.instanceMethod yX6_readHouse ∈ gj_TB := gj_t2 (List.mem_of_getElem? (i := 138) rfl) rfl
theorem ki_X6_readChild : Cond.instanceMethod yX6_readChild ∈ gj_TB := gj_t2 (List.mem_of_getElem? (i := 142) rfl) rfl
theorem ki_X6_readCow : Cond.instanceMethod yX6_readCow ∈ gj_TB := gj_t2 (List.mem_of_getElem? (i := 146) rfl) rfl
theorem ki_X6_readAhead : Cond.instanceMethod yX6_readAhead ∈ gj_TB := gj_t2 (List.mem_of_getElem? (i := 150) rfl) rfl
theorem ki_X5_stands : Cond.instanceMethod yX5_stands ∈ gj_TB := gj_t2 (List.mem_of_getElem? (i := 153) rfl) rfl
theorem ki_X11_village : Cond.instanceMethod yX11_village ∈ gj_TB := gj_t2 (List.mem_of_getElem? (i := 158) rfl) rfl
theorem ki_X5_take : Cond.instanceMethod yX5_take ∈ gj_TB := gj_t2 (List.mem_of_getElem? (i := 162) rfl) rfl
theorem ki_X5_reckonShown : Cond.instanceMethod yX5_reckonShown ∈ gj_TB := gj_t2 (List.mem_of_getElem? (i := 170) rfl) rfl
theorem ki_X5_goodNext : Cond.instanceMethod yX5_goodNext ∈ gj_TB := gj_t2 (List.mem_of_getElem? (i := 174) rfl) rfl
theorem ki_X5_rightAfter : Cond.instanceMethod yX5_rightAfter ∈ gj_TB := gj_t2 (List.mem_of_getElem? (i := 178) rfl) rfl
theorem ki_X5_otherAfter : Cond.instanceMethod yX5_otherAfter ∈ gj_TB := gj_t2 (List.mem_of_getElem? (i := 186) rfl) rfl
theorem ki_X0_choose : Cond.instanceMethod yX0_choose ∈ gj_TB := gj_t2 (List.mem_of_getElem? (i := 192) rfl) rfl
theorem ki_X0_spread : Cond.instanceMethod yX0_spread ∈ gj_TB := gj_t2 (List.mem_of_getElem? (i := 197) rfl) rfl
theorem ki_X5_yearSum : Cond.instanceMethod yX5_yearSum ∈ gj_TB := gj_t2 (List.mem_of_getElem? (i := 204) rfl) rfl
theorem ki_X5_trueYear : Cond.instanceMethod yX5_trueYear ∈ gj_TB := gj_t2 (List.mem_of_getElem? (i := 210) rfl) rfl
theorem ki_X3_begin : Cond.instanceMethod yX3_begin ∈ gj_TB := gj_t2 (List.mem_of_getElem? (i := 215) rfl) rfl
theorem ki_X1_clear : Cond.instanceMethod yX1_clear ∈ gj_TB := gj_t2 (List.mem_of_getElem? (i := 219) rfl) rfl
theorem ki_X11_person : Cond.instanceMethod yX11_person ∈ gj_TB := gj_t2 (List.mem_of_getElem? (i := 224) rfl) rfl
theorem ki_X5_slotOf : Cond.instanceMethod yX5_slotOf ∈ gj_TB := gj_t2 (List.mem_of_getElem? (i := 228) rfl) rfl
theorem ki_X11_earned : Cond.instanceMethod yX11_earned ∈ gj_TB := gj_t2 (List.mem_of_getElem? (i := 236) rfl) rfl
theorem ki_X11_two : Cond.instanceMethod yX11_two ∈ gj_TB := gj_t3 (List.mem_of_getElem? (i := 0) rfl) rfl
theorem ki_X3_arePair : Cond.instanceMethod yX3_arePair ∈ gj_TB := gj_t3 (List.mem_of_getElem? (i := 6) rfl) rfl
theorem ki_X11_think : Cond.instanceMethod yX11_think ∈ gj_TB := gj_t3 (List.mem_of_getElem? (i := 11) rfl) rfl
theorem ki_X11_shown : Cond.instanceMethod yX11_shown ∈ gj_TB := gj_t3 (List.mem_of_getElem? (i := 16) rfl) rfl
theorem ki_X5_shownRight : Cond.instanceMethod yX5_shownRight ∈ gj_TB := gj_t3 (List.mem_of_getElem? (i := 20) rfl) rfl
theorem ki_X5_shownGood : Cond.instanceMethod yX5_shownGood ∈ gj_TB := gj_t3 (List.mem_of_getElem? (i := 24) rfl) rfl
theorem ki_X11_liking : Cond.instanceMethod yX11_liking ∈ gj_TB := gj_t3 (List.mem_of_getElem? (i := 28) rfl) rfl
theorem ki_X2_likingOf : Cond.instanceMethod yX2_likingOf ∈ gj_TB := gj_t3 (List.mem_of_getElem? (i := 32) rfl) rfl
theorem ki_X5_gain : Cond.instanceMethod yX5_gain ∈ gj_TB := gj_t3 (List.mem_of_getElem? (i := 39) rfl) rfl
theorem ki_X11_sooner : Cond.instanceMethod yX11_sooner ∈ gj_TB := gj_t3 (List.mem_of_getElem? (i := 44) rfl) rfl
theorem ki_X2_look : Cond.instanceMethod yX2_look ∈ gj_TB := gj_t3 (List.mem_of_getElem? (i := 48) rfl) rfl
theorem ki_X2_would : Cond.instanceMethod yX2_would ∈ gj_TB := gj_t3 (List.mem_of_getElem? (i := 55) rfl) rfl
theorem ki_X2_likes : Cond.instanceMethod yX2_likes ∈ gj_TB := gj_t3 (List.mem_of_getElem? (i := 59) rfl) rfl
theorem ki_X2_soonerOf : Cond.instanceMethod yX2_soonerOf ∈ gj_TB := gj_t3 (List.mem_of_getElem? (i := 63) rfl) rfl
theorem ki_X11_best : Cond.instanceMethod yX11_best ∈ gj_TB := gj_t3 (List.mem_of_getElem? (i := 67) rfl) rfl
theorem ki_X4_enter : Cond.instanceMethod yX4_enter ∈ gj_TB := gj_t3 (List.mem_of_getElem? (i := 74) rfl) rfl
theorem ki_X4_bestWorth : Cond.instanceMethod yX4_bestWorth ∈ gj_TB := gj_t3 (List.mem_of_getElem? (i := 87) rfl) rfl
theorem ki_X4_worthOf : Cond.instanceMethod yX4_worthOf ∈ gj_TB := gj_t3 (List.mem_of_getElem? (i := 92) rfl) rfl
theorem ki_X4_doing : Cond.instanceMethod yX4_doing ∈ gj_TB := gj_t3 (List.mem_of_getElem? (i := 96) rfl) rfl
theorem ki_X4_isShut : Cond.instanceMethod yX4_isShut ∈ gj_TB := gj_t3 (List.mem_of_getElem? (i := 103) rfl) rfl
theorem ki_X4_bestAct : Cond.instanceMethod yX4_bestAct ∈ gj_TB := gj_t3 (List.mem_of_getElem? (i := 109) rfl) rfl
theorem ki_X11_act : Cond.instanceMethod yX11_act ∈ gj_TB := gj_t3 (List.mem_of_getElem? (i := 114) rfl) rfl
theorem ki_X4_worthOfAct : Cond.instanceMethod yX4_worthOfAct ∈ gj_TB := gj_t3 (List.mem_of_getElem? (i := 119) rfl) rfl
theorem ki_X11_silent : Cond.instanceMethod yX11_silent ∈ gj_TB := gj_t3 (List.mem_of_getElem? (i := 123) rfl) rfl
theorem ki_X4_stays : Cond.instanceMethod yX4_stays ∈ gj_TB := gj_t3 (List.mem_of_getElem? (i := 127) rfl) rfl
theorem ki_X11_bar : Cond.instanceMethod yX11_bar ∈ gj_TB := gj_t3 (List.mem_of_getElem? (i := 132) rfl) rfl
theorem ki_X4_leastGood : Cond.instanceMethod yX4_leastGood ∈ gj_TB := gj_t3 (List.mem_of_getElem? (i := 136) rfl) rfl
theorem ki_X11_price : Cond.instanceMethod yX11_price ∈ gj_TB := gj_t3 (List.mem_of_getElem? (i := 141) rfl) rfl
theorem ki_X4_leastCow : Cond.instanceMethod yX4_leastCow ∈ gj_TB := gj_t3 (List.mem_of_getElem? (i := 145) rfl) rfl
theorem ki_X11_waits : Cond.instanceMethod yX11_waits ∈ gj_TB := gj_t3 (List.mem_of_getElem? (i := 153) rfl) rfl
theorem ki_X4_shutOut : Cond.instanceMethod yX4_shutOut ∈ gj_TB := gj_t3 (List.mem_of_getElem? (i := 158) rfl) rfl
theorem ki_X11_way : Cond.instanceMethod yX11_way ∈ gj_TB := gj_t3 (List.mem_of_getElem? (i := 162) rfl) rfl
theorem ki_X11_seed : Cond.instanceMethod yX11_seed ∈ gj_TB := gj_t3 (List.mem_of_getElem? (i := 166) rfl) rfl
theorem ki_X11_green : Cond.instanceMethod yX11_green ∈ gj_TB := gj_t3 (List.mem_of_getElem? (i := 171) rfl) rfl
theorem ki_X2_gather : Cond.instanceMethod yX2_gather ∈ gj_TB := gj_t3 (List.mem_of_getElem? (i := 175) rfl) rfl
theorem ki_X2_pairUp : Cond.instanceMethod yX2_pairUp ∈ gj_TB := gj_t3 (List.mem_of_getElem? (i := 180) rfl) rfl
theorem ki_X2_askAll : Cond.instanceMethod yX2_askAll ∈ gj_TB := gj_t3 (List.mem_of_getElem? (i := 187) rfl) rfl
theorem ki_X2_soonestToAsk : Cond.instanceMethod yX2_soonestToAsk ∈ gj_TB := gj_t3 (List.mem_of_getElem? (i := 191) rfl) rfl
theorem ki_X2_canMeet : Cond.instanceMethod yX2_canMeet ∈ gj_TB := gj_t3 (List.mem_of_getElem? (i := 196) rfl) rfl
theorem ki_X2_ask : Cond.instanceMethod yX2_ask ∈ gj_TB := gj_t3 (List.mem_of_getElem? (i := 202) rfl) rfl
theorem ki_X2_tie : Cond.instanceMethod yX2_tie ∈ gj_TB := gj_t3 (List.mem_of_getElem? (i := 206) rfl) rfl
theorem ki_X2_takeTurns : Cond.instanceMethod yX2_takeTurns ∈ gj_TB := gj_t3 (List.mem_of_getElem? (i := 210) rfl) rfl
theorem ki_X2_isLeftFor : Cond.instanceMethod yX2_isLeftFor ∈ gj_TB := gj_t3 (List.mem_of_getElem? (i := 214) rfl) rfl
theorem ki_X2_drawLots : Cond.instanceMethod yX2_drawLots ∈ gj_TB := gj_t3 (List.mem_of_getElem? (i := 218) rfl) rfl
theorem ki_X3_lot : Cond.instanceMethod yX3_lot ∈ gj_TB := gj_t3 (List.mem_of_getElem? (i := 221) rfl) rfl
theorem ki_X2_openOne : Cond.instanceMethod yX2_openOne ∈ gj_TB := gj_t3 (List.mem_of_getElem? (i := 229) rfl) rfl
theorem ki_X11_may : Cond.instanceMethod yX11_may ∈ gj_TB := gj_t3 (List.mem_of_getElem? (i := 232) rfl) rfl
theorem ki_X8_hold : Cond.instanceMethod yX8_hold ∈ gj_TB := gj_t3 (List.mem_of_getElem? (i := 237) rfl) rfl
theorem ki_X8_askPaired : Cond.instanceMethod yX8_askPaired ∈ gj_TB := gj_t4 (List.mem_of_getElem? (i := 2) rfl) rfl
theorem ki_X8_endPairs : Cond.instanceMethod yX8_endPairs ∈ gj_TB := gj_t4 (List.mem_of_getElem? (i := 10) rfl) rfl
theorem ki_X8_hear : Cond.instanceMethod yX8_hear ∈ gj_TB := gj_t4 (List.mem_of_getElem? (i := 14) rfl) rfl
theorem ki_X3_earn : Cond.instanceMethod yX3_earn ∈ gj_TB := gj_t4 (List.mem_of_getElem? (i := 19) rfl) rfl
theorem ki_X1_add : Cond.instanceMethod yX1_add ∈ gj_TB := gj_t4 (List.mem_of_getElem? (i := 25) rfl) rfl
theorem ki_X3_loosen : Cond.instanceMethod yX3_loosen ∈ gj_TB := gj_t4 (List.mem_of_getElem? (i := 30) rfl) rfl
theorem ki_X3_free : Cond.instanceMethod yX3_free ∈ gj_TB := gj_t4 (List.mem_of_getElem? (i := 35) rfl) rfl
theorem ki_X8_bindNewPairs : Cond.instanceMethod yX8_bindNewPairs ∈ gj_TB := gj_t4 (List.mem_of_getElem? (i := 42) rfl) rfl
theorem ki_X3_bind : Cond.instanceMethod yX3_bind ∈ gj_TB := gj_t4 (List.mem_of_getElem? (i := 45) rfl) rfl
theorem ki_X8_passYear : Cond.instanceMethod yX8_passYear ∈ gj_TB := gj_t4 (List.mem_of_getElem? (i := 50) rfl) rfl
theorem ki_X8_liveTogether : Cond.instanceMethod yX8_liveTogether ∈ gj_TB := gj_t4 (List.mem_of_getElem? (i := 54) rfl) rfl
theorem ki_X11_join : Cond.instanceMethod yX11_join ∈ gj_TB := gj_t4 (List.mem_of_getElem? (i := 61) rfl) rfl
theorem ki_X11_part : Cond.instanceMethod yX11_part ∈ gj_TB := gj_t4 (List.mem_of_getElem? (i := 66) rfl) rfl
theorem ki_X11_log : Cond.instanceMethod yX11_log ∈ gj_TB := gj_t4 (List.mem_of_getElem? (i := 71) rfl) rfl
theorem ki_X1_size : Cond.instanceMethod yX1_size ∈ gj_TB := gj_t4 (List.mem_of_getElem? (i := 75) rfl) rfl
theorem ki_X1_tell : Cond.instanceMethod yX1_tell ∈ gj_TB := gj_t4 (List.mem_of_getElem? (i := 79) rfl) rfl
theorem ki_X11_blocks : Cond.instanceMethod yX11_blocks ∈ gj_TB := gj_t4 (List.mem_of_getElem? (i := 84) rfl) rfl
theorem ki_X2_wouldSooner : Cond.instanceMethod yX2_wouldSooner ∈ gj_TB := gj_t4 (List.mem_of_getElem? (i := 88) rfl) rfl
theorem ki_X2_isBetter : Cond.instanceMethod yX2_isBetter ∈ gj_TB := gj_t4 (List.mem_of_getElem? (i := 94) rfl) rfl
theorem ki_X11_parents : Cond.instanceMethod yX11_parents ∈ gj_TB := gj_t4 (List.mem_of_getElem? (i := 97) rfl) rfl
theorem ki_X11_life : Cond.instanceMethod yX11_life ∈ gj_TB := gj_t4 (List.mem_of_getElem? (i := 102) rfl) rfl
theorem ki_X5_sumOf : Cond.instanceMethod yX5_sumOf ∈ gj_TB := gj_t4 (List.mem_of_getElem? (i := 106) rfl) rfl
theorem ki_X11_never : Cond.instanceMethod yX11_never ∈ gj_TB := gj_t4 (List.mem_of_getElem? (i := 112) rfl) rfl
theorem ki_X11_neverTried : Cond.instanceMethod yX11_neverTried ∈ gj_TB := gj_t4 (List.mem_of_getElem? (i := 117) rfl) rfl
theorem ki_X3_haveTried : Cond.instanceMethod yX3_haveTried ∈ gj_TB := gj_t4 (List.mem_of_getElem? (i := 120) rfl) rfl
theorem ki_X11_pairs : Cond.instanceMethod yX11_pairs ∈ gj_TB := gj_t4 (List.mem_of_getElem? (i := 124) rfl) rfl
theorem ki_X3_pairsOf : Cond.instanceMethod yX3_pairsOf ∈ gj_TB := gj_t4 (List.mem_of_getElem? (i := 128) rfl) rfl
theorem ki_X11_image : Cond.instanceMethod yX11_image ∈ gj_TB := gj_t4 (List.mem_of_getElem? (i := 132) rfl) rfl
theorem ki_X11_pictureAt : Cond.instanceMethod yX11_pictureAt ∈ gj_TB := gj_t4 (List.mem_of_getElem? (i := 137) rfl) rfl
theorem ki_X3_copyOf : Cond.instanceMethod yX3_copyOf ∈ gj_TB := gj_t4 (List.mem_of_getElem? (i := 140) rfl) rfl
theorem ki_X1_copyOf : Cond.instanceMethod yX1_copyOf ∈ gj_TB := gj_t4 (List.mem_of_getElem? (i := 145) rfl) rfl
theorem ki_X11_on : Cond.instanceMethod yX11_on ∈ gj_TB := gj_t4 (List.mem_of_getElem? (i := 151) rfl) rfl
theorem ki_X11_status : Cond.instanceMethod yX11_status ∈ gj_TB := gj_t4 (List.mem_of_getElem? (i := 156) rfl) rfl
theorem ki_X11_count : Cond.instanceMethod yX11_count ∈ gj_TB := gj_t4 (List.mem_of_getElem? (i := 160) rfl) rfl
theorem ki_X12_init : Cond.instanceMethod yX12_init ∈ gj_TB := gj_t4 (List.mem_of_getElem? (i := 166) rfl) rfl
theorem ki_X12_status : Cond.instanceMethod yX12_status ∈ gj_TB := gj_t5 (List.mem_of_getElem? (i := 109) rfl) rfl
theorem ki_X12_feed : Cond.instanceMethod yX12_feed ∈ gj_TB := gj_t5 (List.mem_of_getElem? (i := 117) rfl) rfl
theorem ki_X12_refuse : Cond.instanceMethod yX12_refuse ∈ gj_TB := gj_t5 (List.mem_of_getElem? (i := 122) rfl) rfl
theorem ki_X12_feeds : Cond.instanceMethod yX12_feeds ∈ gj_TB := gj_t5 (List.mem_of_getElem? (i := 126) rfl) rfl
theorem ki_X12_end : Cond.instanceMethod yX12_end ∈ gj_TB := gj_t5 (List.mem_of_getElem? (i := 129) rfl) rfl
theorem ki_X12_deny : Cond.instanceMethod yX12_deny ∈ gj_TB := gj_t5 (List.mem_of_getElem? (i := 134) rfl) rfl
theorem ki_X12_fault : Cond.instanceMethod yX12_fault ∈ gj_TB := gj_t5 (List.mem_of_getElem? (i := 137) rfl) rfl
theorem ki_X12_reads : Cond.instanceMethod yX12_reads ∈ gj_TB := gj_t5 (List.mem_of_getElem? (i := 142) rfl) rfl
theorem ki_X12_next : Cond.instanceMethod yX12_next ∈ gj_TB := gj_t5 (List.mem_of_getElem? (i := 146) rfl) rfl
theorem ki_X12_between : Cond.instanceMethod yX12_between ∈ gj_TB := gj_t5 (List.mem_of_getElem? (i := 150) rfl) rfl
theorem ki_X12_line : Cond.instanceMethod yX12_line ∈ gj_TB := gj_t5 (List.mem_of_getElem? (i := 154) rfl) rfl
theorem ki_X12_wordHere : Cond.instanceMethod yX12_wordHere ∈ gj_TB := gj_t5 (List.mem_of_getElem? (i := 158) rfl) rfl
theorem ki_X12_personRead : Cond.instanceMethod yX12_personRead ∈ gj_TB := gj_t5 (List.mem_of_getElem? (i := 164) rfl) rfl
theorem ki_X12_passes : Cond.instanceMethod yX12_passes ∈ gj_TB := gj_t5 (List.mem_of_getElem? (i := 168) rfl) rfl
theorem ki_X12_nameHere : Cond.instanceMethod yX12_nameHere ∈ gj_TB := gj_t5 (List.mem_of_getElem? (i := 172) rfl) rfl
theorem ki_X12_found : Cond.instanceMethod yX12_found ∈ gj_TB := gj_t5 (List.mem_of_getElem? (i := 179) rfl) rfl
theorem ki_X12_into : Cond.instanceMethod yX12_into ∈ gj_TB := gj_t5 (List.mem_of_getElem? (i := 183) rfl) rfl
theorem ki_X12_closes : Cond.instanceMethod yX12_closes ∈ gj_TB := gj_t5 (List.mem_of_getElem? (i := 187) rfl) rfl
theorem ki_X12_thinkRead : Cond.instanceMethod yX12_thinkRead ∈ gj_TB := gj_t5 (List.mem_of_getElem? (i := 191) rfl) rfl
theorem ki_X12_fitRead : Cond.instanceMethod yX12_fitRead ∈ gj_TB := gj_t5 (List.mem_of_getElem? (i := 198) rfl) rfl
theorem ki_X12_onceRead : Cond.instanceMethod yX12_onceRead ∈ gj_TB := gj_t5 (List.mem_of_getElem? (i := 203) rfl) rfl
theorem ki_X12_village : Cond.instanceMethod yX12_village ∈ gj_TB := gj_t5 (List.mem_of_getElem? (i := 206) rfl) rfl
theorem ki_X12_person : Cond.instanceMethod yX12_person ∈ gj_TB := gj_t5 (List.mem_of_getElem? (i := 213) rfl) rfl
theorem ki_X12_who : Cond.instanceMethod yX12_who ∈ gj_TB := gj_t5 (List.mem_of_getElem? (i := 218) rfl) rfl
theorem ki_X12_earned : Cond.instanceMethod yX12_earned ∈ gj_TB := gj_t5 (List.mem_of_getElem? (i := 227) rfl) rfl
theorem ki_X12_two_ : Cond.instanceMethod yX12_two_ ∈ gj_TB := gj_t5 (List.mem_of_getElem? (i := 231) rfl) rfl
theorem ki_X12_think : Cond.instanceMethod yX12_think ∈ gj_TB := gj_t6 (List.mem_of_getElem? (i := 1) rfl) rfl
theorem ki_X12_shown : Cond.instanceMethod yX12_shown ∈ gj_TB := gj_t6 (List.mem_of_getElem? (i := 5) rfl) rfl
theorem ki_X12_shows : Cond.instanceMethod yX12_shows ∈ gj_TB := gj_t6 (List.mem_of_getElem? (i := 10) rfl) rfl
theorem ki_X12_liking : Cond.instanceMethod yX12_liking ∈ gj_TB := gj_t6 (List.mem_of_getElem? (i := 18) rfl) rfl
theorem ki_X12_likesNow : Cond.instanceMethod yX12_likesNow ∈ gj_TB := gj_t6 (List.mem_of_getElem? (i := 23) rfl) rfl
theorem ki_X12_likes : Cond.instanceMethod yX12_likes ∈ gj_TB := gj_t6 (List.mem_of_getElem? (i := 27) rfl) rfl
theorem ki_X12_sooner : Cond.instanceMethod yX12_sooner ∈ gj_TB := gj_t6 (List.mem_of_getElem? (i := 30) rfl) rfl
theorem ki_X12_isSooner : Cond.instanceMethod yX12_isSooner ∈ gj_TB := gj_t6 (List.mem_of_getElem? (i := 35) rfl) rfl
theorem ki_X12_best : Cond.instanceMethod yX12_best ∈ gj_TB := gj_t6 (List.mem_of_getElem? (i := 38) rfl) rfl
theorem ki_X12_bestOf : Cond.instanceMethod yX12_bestOf ∈ gj_TB := gj_t6 (List.mem_of_getElem? (i := 47) rfl) rfl
theorem ki_X12_lays : Cond.instanceMethod yX12_lays ∈ gj_TB := gj_t6 (List.mem_of_getElem? (i := 51) rfl) rfl
theorem ki_X12_mateOf : Cond.instanceMethod yX12_mateOf ∈ gj_TB := gj_t6 (List.mem_of_getElem? (i := 55) rfl) rfl
theorem ki_X12_worth : Cond.instanceMethod yX12_worth ∈ gj_TB := gj_t6 (List.mem_of_getElem? (i := 59) rfl) rfl
theorem ki_X12_by : Cond.instanceMethod yX12_by ∈ gj_TB := gj_t6 (List.mem_of_getElem? (i := 63) rfl) rfl
theorem ki_X12_with : Cond.instanceMethod yX12_with ∈ gj_TB := gj_t6 (List.mem_of_getElem? (i := 67) rfl) rfl
theorem ki_X12_othersMany : Cond.instanceMethod yX12_othersMany ∈ gj_TB := gj_t6 (List.mem_of_getElem? (i := 72) rfl) rfl
theorem ki_X12_toldOf : Cond.instanceMethod yX12_toldOf ∈ gj_TB := gj_t6 (List.mem_of_getElem? (i := 76) rfl) rfl
theorem ki_X12_act : Cond.instanceMethod yX12_act ∈ gj_TB := gj_t6 (List.mem_of_getElem? (i := 79) rfl) rfl
theorem ki_X12_silent : Cond.instanceMethod yX12_silent ∈ gj_TB := gj_t6 (List.mem_of_getElem? (i := 83) rfl) rfl
theorem ki_X12_isSilent : Cond.instanceMethod yX12_isSilent ∈ gj_TB := gj_t6 (List.mem_of_getElem? (i := 88) rfl) rfl
theorem ki_X12_bar : Cond.instanceMethod yX12_bar ∈ gj_TB := gj_t6 (List.mem_of_getElem? (i := 91) rfl) rfl
theorem ki_X12_price : Cond.instanceMethod yX12_price ∈ gj_TB := gj_t6 (List.mem_of_getElem? (i := 96) rfl) rfl
theorem ki_X12_waits : Cond.instanceMethod yX12_waits ∈ gj_TB := gj_t6 (List.mem_of_getElem? (i := 100) rfl) rfl
theorem ki_X12_way : Cond.instanceMethod yX12_way ∈ gj_TB := gj_t6 (List.mem_of_getElem? (i := 104) rfl) rfl
theorem ki_X12_seed : Cond.instanceMethod yX12_seed ∈ gj_TB := gj_t6 (List.mem_of_getElem? (i := 108) rfl) rfl
theorem ki_X12_green : Cond.instanceMethod yX12_green ∈ gj_TB := gj_t6 (List.mem_of_getElem? (i := 113) rfl) rfl
theorem ki_X12_goes : Cond.instanceMethod yX12_goes ∈ gj_TB := gj_t6 (List.mem_of_getElem? (i := 118) rfl) rfl
theorem ki_X12_asks : Cond.instanceMethod yX12_asks ∈ gj_TB := gj_t6 (List.mem_of_getElem? (i := 122) rfl) rfl
theorem ki_X12_both : Cond.instanceMethod yX12_both ∈ gj_TB := gj_t6 (List.mem_of_getElem? (i := 126) rfl) rfl
theorem ki_X12_would : Cond.instanceMethod yX12_would ∈ gj_TB := gj_t6 (List.mem_of_getElem? (i := 130) rfl) rfl
theorem ki_X12_gives : Cond.instanceMethod yX12_gives ∈ gj_TB := gj_t6 (List.mem_of_getElem? (i := 134) rfl) rfl
theorem ki_X12_inTurn : Cond.instanceMethod yX12_inTurn ∈ gj_TB := gj_t6 (List.mem_of_getElem? (i := 138) rfl) rfl
theorem ki_X12_byLot : Cond.instanceMethod yX12_byLot ∈ gj_TB := gj_t6 (List.mem_of_getElem? (i := 142) rfl) rfl
theorem ki_X12_lot : Cond.instanceMethod yX12_lot ∈ gj_TB := gj_t6 (List.mem_of_getElem? (i := 146) rfl) rfl
theorem ki_X12_log : Cond.instanceMethod yX12_log ∈ gj_TB := gj_t6 (List.mem_of_getElem? (i := 153) rfl) rfl
theorem ki_X12_may_ : Cond.instanceMethod yX12_may_ ∈ gj_TB := gj_t6 (List.mem_of_getElem? (i := 157) rfl) rfl
theorem ki_X12_may : Cond.instanceMethod yX12_may ∈ gj_TB := gj_t6 (List.mem_of_getElem? (i := 163) rfl) rfl
theorem ki_X12_asked : Cond.instanceMethod yX12_asked ∈ gj_TB := gj_t6 (List.mem_of_getElem? (i := 167) rfl) rfl
theorem ki_X12_notes : Cond.instanceMethod yX12_notes ∈ gj_TB := gj_t6 (List.mem_of_getElem? (i := 171) rfl) rfl
theorem ki_X12_parts : Cond.instanceMethod yX12_parts ∈ gj_TB := gj_t6 (List.mem_of_getElem? (i := 175) rfl) rfl
theorem ki_X12_joins : Cond.instanceMethod yX12_joins ∈ gj_TB := gj_t6 (List.mem_of_getElem? (i := 179) rfl) rfl
theorem ki_X12_lives : Cond.instanceMethod yX12_lives ∈ gj_TB := gj_t6 (List.mem_of_getElem? (i := 183) rfl) rfl
theorem ki_X12_join : Cond.instanceMethod yX12_join ∈ gj_TB := gj_t6 (List.mem_of_getElem? (i := 186) rfl) rfl
theorem ki_X12_part : Cond.instanceMethod yX12_part ∈ gj_TB := gj_t6 (List.mem_of_getElem? (i := 190) rfl) rfl
theorem ki_X12_blocks : Cond.instanceMethod yX12_blocks ∈ gj_TB := gj_t6 (List.mem_of_getElem? (i := 194) rfl) rfl
theorem ki_X12_isFree : Cond.instanceMethod yX12_isFree ∈ gj_TB := gj_t6 (List.mem_of_getElem? (i := 199) rfl) rfl
theorem ki_X12_parents : Cond.instanceMethod yX12_parents ∈ gj_TB := gj_t6 (List.mem_of_getElem? (i := 202) rfl) rfl
theorem ki_X12_findsParents : Cond.instanceMethod yX12_findsParents ∈ gj_TB := gj_t6 (List.mem_of_getElem? (i := 207) rfl) rfl
theorem ki_X12_parentsFrom : Cond.instanceMethod yX12_parentsFrom ∈ gj_TB := gj_t6 (List.mem_of_getElem? (i := 211) rfl) rfl
theorem ki_X12_sumOf : Cond.instanceMethod yX12_sumOf ∈ gj_TB := gj_t6 (List.mem_of_getElem? (i := 215) rfl) rfl
theorem ki_X12_truly : Cond.instanceMethod yX12_truly ∈ gj_TB := gj_t6 (List.mem_of_getElem? (i := 219) rfl) rfl
theorem ki_X12_life : Cond.instanceMethod yX12_life ∈ gj_TB := gj_t6 (List.mem_of_getElem? (i := 222) rfl) rfl
theorem ki_X12_lifeOf : Cond.instanceMethod yX12_lifeOf ∈ gj_TB := gj_t6 (List.mem_of_getElem? (i := 228) rfl) rfl
theorem ki_X12_never : Cond.instanceMethod yX12_never ∈ gj_TB := gj_t6 (List.mem_of_getElem? (i := 232) rfl) rfl
theorem ki_X12_pairs : Cond.instanceMethod yX12_pairs ∈ gj_TB := gj_t6 (List.mem_of_getElem? (i := 236) rfl) rfl
theorem ki_X12_image : Cond.instanceMethod yX12_image ∈ gj_TB := gj_t7 (List.mem_of_getElem? (i := 0) rfl) rfl
theorem ki_X12_moves : Cond.instanceMethod yX12_moves ∈ gj_TB := gj_t7 (List.mem_of_getElem? (i := 5) rfl) rfl
theorem ki_X12_move : Cond.instanceMethod yX12_move ∈ gj_TB := gj_t7 (List.mem_of_getElem? (i := 9) rfl) rfl
theorem ki_X12_on : Cond.instanceMethod yX12_on ∈ gj_TB := gj_t7 (List.mem_of_getElem? (i := 12) rfl) rfl
theorem ki_X12_count : Cond.instanceMethod yX12_count ∈ gj_TB := gj_t7 (List.mem_of_getElem? (i := 16) rfl) rfl
theorem kt_X7_fill : Cond.static yX7_fill ∈ gj_TB := gj_t0 (List.mem_of_getElem? (i := 203) rfl) rfl
theorem kt_X7_at : Cond.static yX7_at ∈ gj_TB := gj_t1 (List.mem_of_getElem? (i := 188) rfl) rfl
theorem kt_X7_put : Cond.static yX7_put ∈ gj_TB := gj_t1 (List.mem_of_getElem? (i := 191) rfl) rfl
theorem kt_X7_unmark : Cond.static yX7_unmark ∈ gj_TB := gj_t1 (List.mem_of_getElem? (i := 224) rfl) rfl
theorem kt_X6_isBlank : Cond.static yX6_isBlank ∈ gj_TB := gj_t1 (List.mem_of_getElem? (i := 237) rfl) rfl
theorem kt_X6_kindOf : Cond.static yX6_kindOf ∈ gj_TB := gj_t2 (List.mem_of_getElem? (i := 0) rfl) rfl
theorem kt_J1_charAt_3b067 : Cond.static yJ1_charAt_3b067 ∈ gj_TB := gj_t2 (List.mem_of_getElem? (i := 30) rfl) rfl
theorem kt_J0_checkIndex_df160 : Cond.static yJ0_checkIndex_df160 ∈ gj_TB := gj_t2 (List.mem_of_getElem? (i := 33) rfl) rfl
theorem kt_J3_checkIndex_8e157 : Cond.static yJ3_checkIndex_8e157 ∈ gj_TB := gj_t2 (List.mem_of_getElem? (i := 38) rfl) rfl
theorem kt_J2_charAt_3b067 : Cond.static yJ2_charAt_3b067 ∈ gj_TB := gj_t2 (List.mem_of_getElem? (i := 41) rfl) rfl
theorem kt_J2_checkIndex_2214a : Cond.static yJ2_checkIndex_2214a ∈ gj_TB := gj_t2 (List.mem_of_getElem? (i := 44) rfl) rfl
theorem kt_J2_length_9d52b : Cond.static yJ2_length_9d52b ∈ gj_TB := gj_t2 (List.mem_of_getElem? (i := 47) rfl) rfl
theorem kt_J2_getChar_3b067 : Cond.static yJ2_getChar_3b067 ∈ gj_TB := gj_t2 (List.mem_of_getElem? (i := 51) rfl) rfl
theorem kt_J9_min_7cf53 : Cond.static yJ9_min_7cf53 ∈ gj_TB := gj_t2 (List.mem_of_getElem? (i := 98) rfl) rfl
theorem kt_X10_unlike : Cond.static yX10_unlike ∈ gj_TB := gj_t2 (List.mem_of_getElem? (i := 110) rfl) rfl
theorem kt_X10_view : Cond.static yX10_view ∈ gj_TB := gj_t2 (List.mem_of_getElem? (i := 113) rfl) rfl
theorem kt_X7_is : Cond.static yX7_is ∈ gj_TB := gj_t2 (List.mem_of_getElem? (i := 116) rfl) rfl
theorem kt_X7_mark : Cond.static yX7_mark ∈ gj_TB := gj_t2 (List.mem_of_getElem? (i := 119) rfl) rfl
theorem kt_X10_couple : Cond.static yX10_couple ∈ gj_TB := gj_t2 (List.mem_of_getElem? (i := 126) rfl) rfl
theorem kt_X7_copy : Cond.static yX7_copy ∈ gj_TB := gj_t2 (List.mem_of_getElem? (i := 166) rfl) rfl
theorem kt_X5_oddsOf : Cond.static yX5_oddsOf ∈ gj_TB := gj_t2 (List.mem_of_getElem? (i := 182) rfl) rfl
theorem kt_X10_numberOf : Cond.static yX10_numberOf ∈ gj_TB := gj_t2 (List.mem_of_getElem? (i := 233) rfl) rfl
theorem kt_X11_canReckon : Cond.static yX11_canReckon ∈ gj_TB := gj_t3 (List.mem_of_getElem? (i := 71) rfl) rfl
theorem kt_X10_facing : Cond.static yX10_facing ∈ gj_TB := gj_t3 (List.mem_of_getElem? (i := 78) rfl) rfl
theorem kt_X10_placeOf : Cond.static yX10_placeOf ∈ gj_TB := gj_t3 (List.mem_of_getElem? (i := 84) rfl) rfl
theorem kt_J9_max_f86c9 : Cond.static yJ9_max_f86c9 ∈ gj_TB := gj_t3 (List.mem_of_getElem? (i := 106) rfl) rfl
theorem kt_J9_max_7cf53 : Cond.static yJ9_max_7cf53 ∈ gj_TB := gj_t3 (List.mem_of_getElem? (i := 149) rfl) rfl
theorem kt_X12_in : Cond.static yX12_in ∈ gj_TB := gj_t5 (List.mem_of_getElem? (i := 114) rfl) rfl
theorem kt_X12_coupleOf : Cond.static yX12_coupleOf ∈ gj_TB := gj_t5 (List.mem_of_getElem? (i := 194) rfl) rfl
theorem kt_X12_copies : Cond.static yX12_copies ∈ gj_TB := gj_t5 (List.mem_of_getElem? (i := 210) rfl) rfl
theorem kt_X12_told : Cond.static yX12_told ∈ gj_TB := gj_t5 (List.mem_of_getElem? (i := 224) rfl) rfl
theorem kt_X12_areTwo : Cond.static yX12_areTwo ∈ gj_TB := gj_t5 (List.mem_of_getElem? (i := 235) rfl) rfl
theorem kt_X12_two : Cond.static yX12_two ∈ gj_TB := gj_t5 (List.mem_of_getElem? (i := 238) rfl) rfl
theorem kt_X12_power : Cond.static yX12_power ∈ gj_TB := gj_t6 (List.mem_of_getElem? (i := 13) rfl) rfl
theorem kt_X12_areMays : Cond.static yX12_areMays ∈ gj_TB := gj_t6 (List.mem_of_getElem? (i := 42) rfl) rfl
theorem ks_X5_take : Cond.selects yX5_take.cls yX5_take yX5_take ∈ gj_TB := gj_t2 (List.mem_of_getElem? (i := 163) rfl) rfl
theorem ks_X11_count : Cond.selects yX11_count.cls yX11_count yX11_count ∈ gj_TB := gj_t4 (List.mem_of_getElem? (i := 161) rfl) rfl
theorem ks_X2_takeTurns : Cond.selects yX2_takeTurns.cls yX2_takeTurns yX2_takeTurns ∈ gj_TB := gj_p2 (q := (yX2_takeTurns, 7)) (List.mem_of_getElem? (i := 3) rfl)
theorem ks_X11_feed : Cond.selects yX11_feed.cls yX11_feed yX11_feed ∈ gj_TB := gj_t1 (List.mem_of_getElem? (i := 177) rfl) rfl
theorem ks_X2_drawLots : Cond.selects yX2_drawLots.cls yX2_drawLots yX2_drawLots ∈ gj_TB := gj_p2 (q := (yX2_drawLots, 7)) (List.mem_of_getElem? (i := 5) rfl)
theorem ks_X12_closes : Cond.selects yX12_closes.cls yX12_closes yX12_closes ∈ gj_TB := gj_p3 (q := (yX12_closes, 55)) (List.mem_of_getElem? (i := 14) rfl)
theorem ks_X11_blocks : Cond.selects yX11_blocks.cls yX11_blocks yX11_blocks ∈ gj_TB := gj_t4 (List.mem_of_getElem? (i := 85) rfl) rfl
theorem ks_X12_bar : Cond.selects yX12_bar.cls yX12_bar yX12_bar ∈ gj_TB := gj_t6 (List.mem_of_getElem? (i := 92) rfl) rfl
theorem ks_X12_lifeOf : Cond.selects yX12_lifeOf.cls yX12_lifeOf yX12_lifeOf ∈ gj_TB := gj_p6 (q := (yX12_lifeOf, 55)) (List.mem_of_getElem? (i := 3) rfl)
theorem ks_X12_life : Cond.selects yX12_life.cls yX12_life yX12_life ∈ gj_TB := gj_t6 (List.mem_of_getElem? (i := 223) rfl) rfl
theorem ks_J0_coder_7d493 : Cond.selects yJ0_coder_7d493.cls yJ0_coder_7d493 yJ0_coder_7d493 ∈ gj_TB := gj_t2 (List.mem_of_getElem? (i := 17) rfl) rfl
theorem ks_X11_never : Cond.selects yX11_never.cls yX11_never yX11_never ∈ gj_TB := gj_t4 (List.mem_of_getElem? (i := 113) rfl) rfl
theorem ks_X12_shown : Cond.selects yX12_shown.cls yX12_shown yX12_shown ∈ gj_TB := gj_t6 (List.mem_of_getElem? (i := 6) rfl) rfl
theorem ks_X5_clear : Cond.selects yX5_clear.cls yX5_clear yX5_clear ∈ gj_TB := gj_t1 (List.mem_of_getElem? (i := 220) rfl) rfl
theorem ks_X4_worthOfAct : Cond.selects yX4_worthOfAct.cls yX4_worthOfAct yX4_worthOfAct ∈ gj_TB := gj_t3 (List.mem_of_getElem? (i := 120) rfl) rfl
theorem ks_X12_worth : Cond.selects yX12_worth.cls yX12_worth yX12_worth ∈ gj_TB := gj_p4 (q := (yX12_worth, 55)) (List.mem_of_getElem? (i := 10) rfl)
theorem ks_X12_waits : Cond.selects yX12_waits.cls yX12_waits yX12_waits ∈ gj_TB := gj_t6 (List.mem_of_getElem? (i := 101) rfl) rfl
theorem ks_X11_end : Cond.selects yX11_end.cls yX11_end yX11_end ∈ gj_TB := gj_t1 (List.mem_of_getElem? (i := 204) rfl) rfl
theorem ks_X6_takeNumber : Cond.selects yX6_takeNumber.cls yX6_takeNumber yX6_takeNumber ∈ gj_TB := gj_p0 (q := (yX6_takeNumber, 10)) (List.mem_of_getElem? (i := 8) rfl)
theorem ks_X3_lot : Cond.selects yX3_lot.cls yX3_lot yX3_lot ∈ gj_TB := gj_t3 (List.mem_of_getElem? (i := 222) rfl) rfl
theorem ks_X5_sumOf : Cond.selects yX5_sumOf.cls yX5_sumOf yX5_sumOf ∈ gj_TB := gj_t4 (List.mem_of_getElem? (i := 107) rfl) rfl
theorem ks_X8_passYear : Cond.selects yX8_passYear.cls yX8_passYear yX8_passYear ∈ gj_TB := gj_p2 (q := (yX8_passYear, 5)) (List.mem_of_getElem? (i := 12) rfl)
theorem ks_X12_move : Cond.selects yX12_move.cls yX12_move yX12_move ∈ gj_TB := gj_p6 (q := (yX12_move, 55)) (List.mem_of_getElem? (i := 5) rfl)
theorem ks_X11_join : Cond.selects yX11_join.cls yX11_join yX11_join ∈ gj_TB := gj_t4 (List.mem_of_getElem? (i := 62) rfl) rfl
theorem ks_X12_goes : Cond.selects yX12_goes.cls yX12_goes yX12_goes ∈ gj_TB := gj_p5 (q := (yX12_goes, 55)) (List.mem_of_getElem? (i := 0) rfl)
theorem ks_X12_asks : Cond.selects yX12_asks.cls yX12_asks yX12_asks ∈ gj_TB := gj_p5 (q := (yX12_asks, 55)) (List.mem_of_getElem? (i := 1) rfl)
theorem ks_X12_may_ : Cond.selects yX12_may_.cls yX12_may_ yX12_may_ ∈ gj_TB := gj_t6 (List.mem_of_getElem? (i := 158) rfl) rfl
theorem ks_X11_liking : Cond.selects yX11_liking.cls yX11_liking yX11_liking ∈ gj_TB := gj_t3 (List.mem_of_getElem? (i := 29) rfl) rfl
theorem ks_X2_isBetter : Cond.selects yX2_isBetter.cls yX2_isBetter yX2_isBetter ∈ gj_TB := gj_p2 (q := (yX2_isBetter, 7)) (List.mem_of_getElem? (i := 14) rfl)
theorem ks_X12_into : Cond.selects yX12_into.cls yX12_into yX12_into ∈ gj_TB := gj_p3 (q := (yX12_into, 55)) (List.mem_of_getElem? (i := 13) rfl)
theorem ks_X11_green : Cond.selects yX11_green.cls yX11_green yX11_green ∈ gj_TB := gj_t3 (List.mem_of_getElem? (i := 172) rfl) rfl
theorem ks_X4_enter : Cond.selects yX4_enter.cls yX4_enter yX4_enter ∈ gj_TB := gj_t3 (List.mem_of_getElem? (i := 75) rfl) rfl
theorem ks_X1_add : Cond.selects yX1_add.cls yX1_add yX1_add ∈ gj_TB := gj_t4 (List.mem_of_getElem? (i := 26) rfl) rfl
theorem ks_X5_slotOf : Cond.selects yX5_slotOf.cls yX5_slotOf yX5_slotOf ∈ gj_TB := gj_t2 (List.mem_of_getElem? (i := 229) rfl) rfl
theorem ks_X12_refuse : Cond.selects yX12_refuse.cls yX12_refuse yX12_refuse ∈ gj_TB := gj_p3 (q := (yX12_refuse, 55)) (List.mem_of_getElem? (i := 1) rfl)
theorem ks_X12_both : Cond.selects yX12_both.cls yX12_both yX12_both ∈ gj_TB := gj_p5 (q := (yX12_both, 55)) (List.mem_of_getElem? (i := 2) rfl)
theorem ks_X12_seed : Cond.selects yX12_seed.cls yX12_seed yX12_seed ∈ gj_TB := gj_t6 (List.mem_of_getElem? (i := 109) rfl) rfl
theorem ks_X3_free : Cond.selects yX3_free.cls yX3_free yX3_free ∈ gj_TB := gj_p2 (q := (yX3_free, 11)) (List.mem_of_getElem? (i := 10) rfl)
theorem ks_X6_isWord : Cond.selects yX6_isWord.cls yX6_isWord yX6_isWord ∈ gj_TB := gj_p0 (q := (yX6_isWord, 10)) (List.mem_of_getElem? (i := 3) rfl)
theorem ks_X6_readThink : Cond.selects yX6_readThink.cls yX6_readThink yX6_readThink ∈ gj_TB := gj_p0 (q := (yX6_readThink, 10)) (List.mem_of_getElem? (i := 11) rfl)
theorem ks_X12_isSilent : Cond.selects yX12_isSilent.cls yX12_isSilent yX12_isSilent ∈ gj_TB := gj_p4 (q := (yX12_isSilent, 55)) (List.mem_of_getElem? (i := 15) rfl)
theorem ks_X4_stays : Cond.selects yX4_stays.cls yX4_stays yX4_stays ∈ gj_TB := gj_t3 (List.mem_of_getElem? (i := 128) rfl) rfl
theorem ks_X9_append : Cond.selects yX9_append.cls yX9_append yX9_append ∈ gj_TB := gj_t1 (List.mem_of_getElem? (i := 195) rfl) rfl
theorem ks_X12_nameHere : Cond.selects yX12_nameHere.cls yX12_nameHere yX12_nameHere ∈ gj_TB := gj_p3 (q := (yX12_nameHere, 55)) (List.mem_of_getElem? (i := 11) rfl)
theorem ks_X11_pairs : Cond.selects yX11_pairs.cls yX11_pairs yX11_pairs ∈ gj_TB := gj_t4 (List.mem_of_getElem? (i := 125) rfl) rfl
theorem ks_X0_choose : Cond.selects yX0_choose.cls yX0_choose yX0_choose ∈ gj_TB := gj_t2 (List.mem_of_getElem? (i := 193) rfl) rfl
theorem ks_X12_village : Cond.selects yX12_village.cls yX12_village yX12_village ∈ gj_TB := gj_t5 (List.mem_of_getElem? (i := 207) rfl) rfl
theorem ks_X11_refuse : Cond.selects yX11_refuse.cls yX11_refuse yX11_refuse ∈ gj_TB := gj_p0 (q := (yX11_refuse, 12)) (List.mem_of_getElem? (i := 0) rfl)
theorem ks_X8_endPairs : Cond.selects yX8_endPairs.cls yX8_endPairs yX8_endPairs ∈ gj_TB := gj_p2 (q := (yX8_endPairs, 5)) (List.mem_of_getElem? (i := 8) rfl)
theorem ks_X12_othersMany : Cond.selects yX12_othersMany.cls yX12_othersMany yX12_othersMany ∈ gj_TB := gj_p4 (q := (yX12_othersMany, 55)) (List.mem_of_getElem? (i := 13) rfl)
theorem ks_X12_passes : Cond.selects yX12_passes.cls yX12_passes yX12_passes ∈ gj_TB := gj_p3 (q := (yX12_passes, 55)) (List.mem_of_getElem? (i := 10) rfl)
theorem ks_X12_person : Cond.selects yX12_person.cls yX12_person yX12_person ∈ gj_TB := gj_t5 (List.mem_of_getElem? (i := 214) rfl) rfl
theorem ks_X6_readAhead : Cond.selects yX6_readAhead.cls yX6_readAhead yX6_readAhead ∈ gj_TB := gj_p1 (q := (yX6_readAhead, 10)) (List.mem_of_getElem? (i := 2) rfl)
theorem ks_X12_two_ : Cond.selects yX12_two_.cls yX12_two_ yX12_two_ ∈ gj_TB := gj_t5 (List.mem_of_getElem? (i := 232) rfl) rfl
theorem ks_X12_isFree : Cond.selects yX12_isFree.cls yX12_isFree yX12_isFree ∈ gj_TB := gj_p5 (q := (yX12_isFree, 55)) (List.mem_of_getElem? (i := 14) rfl)
theorem ks_X12_sooner : Cond.selects yX12_sooner.cls yX12_sooner yX12_sooner ∈ gj_TB := gj_t6 (List.mem_of_getElem? (i := 31) rfl) rfl
theorem ks_X12_pairs : Cond.selects yX12_pairs.cls yX12_pairs yX12_pairs ∈ gj_TB := gj_t6 (List.mem_of_getElem? (i := 237) rfl) rfl
theorem ks_X12_join : Cond.selects yX12_join.cls yX12_join yX12_join ∈ gj_TB := gj_t6 (List.mem_of_getElem? (i := 187) rfl) rfl
theorem ks_X1_size : Cond.selects yX1_size.cls yX1_size yX1_size ∈ gj_TB := gj_t4 (List.mem_of_getElem? (i := 76) rfl) rfl
theorem ks_X12_would : Cond.selects yX12_would.cls yX12_would yX12_would ∈ gj_TB := gj_p5 (q := (yX12_would, 55)) (List.mem_of_getElem? (i := 3) rfl)
theorem ks_X5_stands : Cond.selects yX5_stands.cls yX5_stands yX5_stands ∈ gj_TB := gj_t2 (List.mem_of_getElem? (i := 154) rfl) rfl
theorem ks_J0_charAt_5068e : Cond.selects yJ0_charAt_5068e.cls yJ0_charAt_5068e yJ0_charAt_5068e ∈ gj_TB := gj_t2 (List.mem_of_getElem? (i := 23) rfl) rfl
theorem ks_X8_hold : Cond.selects yX8_hold.cls yX8_hold yX8_hold ∈ gj_TB := gj_t3 (List.mem_of_getElem? (i := 238) rfl) rfl
theorem ks_X11_parents : Cond.selects yX11_parents.cls yX11_parents yX11_parents ∈ gj_TB := gj_t4 (List.mem_of_getElem? (i := 98) rfl) rfl
theorem ks_X12_wordHere : Cond.selects yX12_wordHere.cls yX12_wordHere yX12_wordHere ∈ gj_TB := gj_p3 (q := (yX12_wordHere, 55)) (List.mem_of_getElem? (i := 8) rfl)
theorem ks_X9_length : Cond.selects yX9_length.cls yX9_length yX9_length ∈ gj_TB := gj_t1 (List.mem_of_getElem? (i := 200) rfl) rfl
theorem ks_X12_feed : Cond.selects yX12_feed.cls yX12_feed yX12_feed ∈ gj_TB := gj_t5 (List.mem_of_getElem? (i := 118) rfl) rfl
theorem ks_X1_tell : Cond.selects yX1_tell.cls yX1_tell yX1_tell ∈ gj_TB := gj_t4 (List.mem_of_getElem? (i := 80) rfl) rfl
theorem ks_X4_bestAct : Cond.selects yX4_bestAct.cls yX4_bestAct yX4_bestAct ∈ gj_TB := gj_t3 (List.mem_of_getElem? (i := 110) rfl) rfl
theorem ks_X4_shutOut : Cond.selects yX4_shutOut.cls yX4_shutOut yX4_shutOut ∈ gj_TB := gj_t3 (List.mem_of_getElem? (i := 159) rfl) rfl
theorem ks_X12_count : Cond.selects yX12_count.cls yX12_count yX12_count ∈ gj_TB := gj_t7 (List.mem_of_getElem? (i := 17) rfl) rfl
theorem ks_X5_trueYear : Cond.selects yX5_trueYear.cls yX5_trueYear yX5_trueYear ∈ gj_TB := gj_p1 (q := (yX5_trueYear, 16)) (List.mem_of_getElem? (i := 8) rfl)
theorem ks_X8_liveTogether : Cond.selects yX8_liveTogether.cls yX8_liveTogether yX8_liveTogether ∈ gj_TB := gj_p2 (q := (yX8_liveTogether, 5)) (List.mem_of_getElem? (i := 13) rfl)
theorem ks_X12_silent : Cond.selects yX12_silent.cls yX12_silent yX12_silent ∈ gj_TB := gj_t6 (List.mem_of_getElem? (i := 84) rfl) rfl
theorem ks_X6_takeStop : Cond.selects yX6_takeStop.cls yX6_takeStop yX6_takeStop ∈ gj_TB := gj_p0 (q := (yX6_takeStop, 10)) (List.mem_of_getElem? (i := 10) rfl)
theorem ks_X11_seed : Cond.selects yX11_seed.cls yX11_seed yX11_seed ∈ gj_TB := gj_t3 (List.mem_of_getElem? (i := 167) rfl) rfl
theorem ks_X6_readWorth : Cond.selects yX6_readWorth.cls yX6_readWorth yX6_readWorth ∈ gj_TB := gj_p0 (q := (yX6_readWorth, 10)) (List.mem_of_getElem? (i := 13) rfl)
theorem ks_X5_rightAfter : Cond.selects yX5_rightAfter.cls yX5_rightAfter yX5_rightAfter ∈ gj_TB := gj_p1 (q := (yX5_rightAfter, 16)) (List.mem_of_getElem? (i := 5) rfl)
theorem ks_X12_deny : Cond.selects yX12_deny.cls yX12_deny yX12_deny ∈ gj_TB := gj_p3 (q := (yX12_deny, 55)) (List.mem_of_getElem? (i := 3) rfl)
theorem ks_X12_notes : Cond.selects yX12_notes.cls yX12_notes yX12_notes ∈ gj_TB := gj_p5 (q := (yX12_notes, 55)) (List.mem_of_getElem? (i := 10) rfl)
theorem ks_X11_log : Cond.selects yX11_log.cls yX11_log yX11_log ∈ gj_TB := gj_t4 (List.mem_of_getElem? (i := 72) rfl) rfl
theorem ks_X12_part : Cond.selects yX12_part.cls yX12_part yX12_part ∈ gj_TB := gj_t6 (List.mem_of_getElem? (i := 191) rfl) rfl
theorem ks_X12_onceRead : Cond.selects yX12_onceRead.cls yX12_onceRead yX12_onceRead ∈ gj_TB := gj_p4 (q := (yX12_onceRead, 55)) (List.mem_of_getElem? (i := 1) rfl)
theorem ks_X2_askAll : Cond.selects yX2_askAll.cls yX2_askAll yX2_askAll ∈ gj_TB := gj_p1 (q := (yX2_askAll, 7)) (List.mem_of_getElem? (i := 14) rfl)
theorem ks_X12_moves : Cond.selects yX12_moves.cls yX12_moves yX12_moves ∈ gj_TB := gj_p6 (q := (yX12_moves, 55)) (List.mem_of_getElem? (i := 4) rfl)
theorem ks_X11_on : Cond.selects yX11_on.cls yX11_on yX11_on ∈ gj_TB := gj_t4 (List.mem_of_getElem? (i := 152) rfl) rfl
theorem ks_X6_readHouse : Cond.selects yX6_readHouse.cls yX6_readHouse yX6_readHouse ∈ gj_TB := gj_p0 (q := (yX6_readHouse, 10)) (List.mem_of_getElem? (i := 15) rfl)
theorem ks_X11_silent : Cond.selects yX11_silent.cls yX11_silent yX11_silent ∈ gj_TB := gj_t3 (List.mem_of_getElem? (i := 124) rfl) rfl
theorem ks_X5_reckonShown : Cond.selects yX5_reckonShown.cls yX5_reckonShown yX5_reckonShown ∈ gj_TB := gj_p1 (q := (yX5_reckonShown, 16)) (List.mem_of_getElem? (i := 3) rfl)
theorem ks_X11_price : Cond.selects yX11_price.cls yX11_price yX11_price ∈ gj_TB := gj_t3 (List.mem_of_getElem? (i := 142) rfl) rfl
theorem ks_X6_readChild : Cond.selects yX6_readChild.cls yX6_readChild yX6_readChild ∈ gj_TB := gj_p1 (q := (yX6_readChild, 10)) (List.mem_of_getElem? (i := 0) rfl)
theorem ks_X2_isLeftFor : Cond.selects yX2_isLeftFor.cls yX2_isLeftFor yX2_isLeftFor ∈ gj_TB := gj_p2 (q := (yX2_isLeftFor, 7)) (List.mem_of_getElem? (i := 4) rfl)
theorem ks_X11_sooner : Cond.selects yX11_sooner.cls yX11_sooner yX11_sooner ∈ gj_TB := gj_t3 (List.mem_of_getElem? (i := 45) rfl) rfl
theorem ks_X2_pairUp : Cond.selects yX2_pairUp.cls yX2_pairUp yX2_pairUp ∈ gj_TB := gj_t3 (List.mem_of_getElem? (i := 181) rfl) rfl
theorem ks_X3_loosen : Cond.selects yX3_loosen.cls yX3_loosen yX3_loosen ∈ gj_TB := gj_t4 (List.mem_of_getElem? (i := 31) rfl) rfl
theorem ks_X11_waits : Cond.selects yX11_waits.cls yX11_waits yX11_waits ∈ gj_TB := gj_t3 (List.mem_of_getElem? (i := 154) rfl) rfl
theorem ks_X12_feeds : Cond.selects yX12_feeds.cls yX12_feeds yX12_feeds ∈ gj_TB := gj_p3 (q := (yX12_feeds, 55)) (List.mem_of_getElem? (i := 2) rfl)
theorem ks_X11_image : Cond.selects yX11_image.cls yX11_image yX11_image ∈ gj_TB := gj_t4 (List.mem_of_getElem? (i := 133) rfl) rfl
theorem ks_X12_think : Cond.selects yX12_think.cls yX12_think yX12_think ∈ gj_TB := gj_t6 (List.mem_of_getElem? (i := 2) rfl) rfl
theorem ks_X12_image : Cond.selects yX12_image.cls yX12_image yX12_image ∈ gj_TB := gj_t7 (List.mem_of_getElem? (i := 1) rfl) rfl
theorem ks_X8_askPaired : Cond.selects yX8_askPaired.cls yX8_askPaired yX8_askPaired ∈ gj_TB := gj_p2 (q := (yX8_askPaired, 5)) (List.mem_of_getElem? (i := 7) rfl)
theorem ks_X11_neverTried : Cond.selects yX11_neverTried.cls yX11_neverTried yX11_neverTried ∈ gj_TB := gj_p2 (q := (yX11_neverTried, 12)) (List.mem_of_getElem? (i := 15) rfl)
theorem ks_X8_bindNewPairs : Cond.selects yX8_bindNewPairs.cls yX8_bindNewPairs yX8_bindNewPairs ∈ gj_TB := gj_p2 (q := (yX8_bindNewPairs, 5)) (List.mem_of_getElem? (i := 11) rfl)
theorem ks_X6_isLineWord : Cond.selects yX6_isLineWord.cls yX6_isLineWord yX6_isLineWord ∈ gj_TB := gj_p0 (q := (yX6_isLineWord, 10)) (List.mem_of_getElem? (i := 6) rfl)
theorem ks_X3_bind : Cond.selects yX3_bind.cls yX3_bind yX3_bind ∈ gj_TB := gj_t4 (List.mem_of_getElem? (i := 46) rfl) rfl
theorem ks_X12_thinkRead : Cond.selects yX12_thinkRead.cls yX12_thinkRead yX12_thinkRead ∈ gj_TB := gj_p3 (q := (yX12_thinkRead, 55)) (List.mem_of_getElem? (i := 15) rfl)
theorem ks_X12_between : Cond.selects yX12_between.cls yX12_between yX12_between ∈ gj_TB := gj_p3 (q := (yX12_between, 55)) (List.mem_of_getElem? (i := 6) rfl)
theorem ks_X12_sumOf : Cond.selects yX12_sumOf.cls yX12_sumOf yX12_sumOf ∈ gj_TB := gj_p6 (q := (yX12_sumOf, 55)) (List.mem_of_getElem? (i := 1) rfl)
theorem ks_X2_wouldSooner : Cond.selects yX2_wouldSooner.cls yX2_wouldSooner yX2_wouldSooner ∈ gj_TB := gj_t4 (List.mem_of_getElem? (i := 89) rfl) rfl
theorem ks_X12_parentsFrom : Cond.selects yX12_parentsFrom.cls yX12_parentsFrom yX12_parentsFrom ∈ gj_TB := gj_p6 (q := (yX12_parentsFrom, 55)) (List.mem_of_getElem? (i := 0) rfl)
theorem ks_X6_readCow : Cond.selects yX6_readCow.cls yX6_readCow yX6_readCow ∈ gj_TB := gj_p1 (q := (yX6_readCow, 10)) (List.mem_of_getElem? (i := 1) rfl)
theorem ks_X11_part : Cond.selects yX11_part.cls yX11_part yX11_part ∈ gj_TB := gj_t4 (List.mem_of_getElem? (i := 67) rfl) rfl
theorem ks_X12_lot : Cond.selects yX12_lot.cls yX12_lot yX12_lot ∈ gj_TB := gj_p5 (q := (yX12_lot, 55)) (List.mem_of_getElem? (i := 7) rfl)
theorem ks_X11_village : Cond.selects yX11_village.cls yX11_village yX11_village ∈ gj_TB := gj_t2 (List.mem_of_getElem? (i := 159) rfl) rfl
theorem ks_X11_earned : Cond.selects yX11_earned.cls yX11_earned yX11_earned ∈ gj_TB := gj_t2 (List.mem_of_getElem? (i := 237) rfl) rfl
theorem ks_X9_hasRoomFor : Cond.selects yX9_hasRoomFor.cls yX9_hasRoomFor yX9_hasRoomFor ∈ gj_TB := gj_t1 (List.mem_of_getElem? (i := 181) rfl) rfl
theorem ks_X5_shownGood : Cond.selects yX5_shownGood.cls yX5_shownGood yX5_shownGood ∈ gj_TB := gj_t3 (List.mem_of_getElem? (i := 25) rfl) rfl
theorem ks_X4_bestWorth : Cond.selects yX4_bestWorth.cls yX4_bestWorth yX4_bestWorth ∈ gj_TB := gj_t3 (List.mem_of_getElem? (i := 88) rfl) rfl
theorem ks_X3_haveTried : Cond.selects yX3_haveTried.cls yX3_haveTried yX3_haveTried ∈ gj_TB := gj_t4 (List.mem_of_getElem? (i := 121) rfl) rfl
theorem ks_X12_mateOf : Cond.selects yX12_mateOf.cls yX12_mateOf yX12_mateOf ∈ gj_TB := gj_p4 (q := (yX12_mateOf, 55)) (List.mem_of_getElem? (i := 9) rfl)
theorem ks_X2_soonerOf : Cond.selects yX2_soonerOf.cls yX2_soonerOf yX2_soonerOf ∈ gj_TB := gj_t3 (List.mem_of_getElem? (i := 64) rfl) rfl
theorem ks_X5_yearSum : Cond.selects yX5_yearSum.cls yX5_yearSum yX5_yearSum ∈ gj_TB := gj_t2 (List.mem_of_getElem? (i := 205) rfl) rfl
theorem ks_X11_person : Cond.selects yX11_person.cls yX11_person yX11_person ∈ gj_TB := gj_t2 (List.mem_of_getElem? (i := 225) rfl) rfl
theorem ks_X3_arePair : Cond.selects yX3_arePair.cls yX3_arePair yX3_arePair ∈ gj_TB := gj_t3 (List.mem_of_getElem? (i := 7) rfl) rfl
theorem ks_X3_earn : Cond.selects yX3_earn.cls yX3_earn yX3_earn ∈ gj_TB := gj_t4 (List.mem_of_getElem? (i := 20) rfl) rfl
theorem ks_X6_readPerson : Cond.selects yX6_readPerson.cls yX6_readPerson yX6_readPerson ∈ gj_TB := gj_p0 (q := (yX6_readPerson, 10)) (List.mem_of_getElem? (i := 4) rfl)
theorem ks_X2_would : Cond.selects yX2_would.cls yX2_would yX2_would ∈ gj_TB := gj_p1 (q := (yX2_would, 7)) (List.mem_of_getElem? (i := 9) rfl)
theorem ks_X2_likes : Cond.selects yX2_likes.cls yX2_likes yX2_likes ∈ gj_TB := gj_p1 (q := (yX2_likes, 7)) (List.mem_of_getElem? (i := 10) rfl)
theorem ks_X2_tie : Cond.selects yX2_tie.cls yX2_tie yX2_tie ∈ gj_TB := gj_p2 (q := (yX2_tie, 7)) (List.mem_of_getElem? (i := 2) rfl)
theorem ks_X3_copyOf : Cond.selects yX3_copyOf.cls yX3_copyOf yX3_copyOf ∈ gj_TB := gj_t4 (List.mem_of_getElem? (i := 141) rfl) rfl
theorem ks_X0_spread : Cond.selects yX0_spread.cls yX0_spread yX0_spread ∈ gj_TB := gj_p1 (q := (yX0_spread, 3)) (List.mem_of_getElem? (i := 7) rfl)
theorem ks_X3_pairsOf : Cond.selects yX3_pairsOf.cls yX3_pairsOf yX3_pairsOf ∈ gj_TB := gj_t4 (List.mem_of_getElem? (i := 129) rfl) rfl
theorem ks_X12_reads : Cond.selects yX12_reads.cls yX12_reads yX12_reads ∈ gj_TB := gj_p3 (q := (yX12_reads, 55)) (List.mem_of_getElem? (i := 4) rfl)
theorem ks_X12_likesNow : Cond.selects yX12_likesNow.cls yX12_likesNow yX12_likesNow ∈ gj_TB := gj_p4 (q := (yX12_likesNow, 55)) (List.mem_of_getElem? (i := 4) rfl)
theorem ks_X4_leastGood : Cond.selects yX4_leastGood.cls yX4_leastGood yX4_leastGood ∈ gj_TB := gj_t3 (List.mem_of_getElem? (i := 137) rfl) rfl
theorem ks_X5_isPerson : Cond.selects yX5_isPerson.cls yX5_isPerson yX5_isPerson ∈ gj_TB := gj_t2 (List.mem_of_getElem? (i := 86) rfl) rfl
theorem ks_X2_gather : Cond.selects yX2_gather.cls yX2_gather yX2_gather ∈ gj_TB := gj_t3 (List.mem_of_getElem? (i := 176) rfl) rfl
theorem ks_X12_byLot : Cond.selects yX12_byLot.cls yX12_byLot yX12_byLot ∈ gj_TB := gj_p5 (q := (yX12_byLot, 55)) (List.mem_of_getElem? (i := 6) rfl)
theorem ks_X12_earned : Cond.selects yX12_earned.cls yX12_earned yX12_earned ∈ gj_TB := gj_t5 (List.mem_of_getElem? (i := 228) rfl) rfl
theorem ks_X1_copyOf : Cond.selects yX1_copyOf.cls yX1_copyOf yX1_copyOf ∈ gj_TB := gj_t4 (List.mem_of_getElem? (i := 146) rfl) rfl
theorem ks_X4_doing : Cond.selects yX4_doing.cls yX4_doing yX4_doing ∈ gj_TB := gj_p1 (q := (yX4_doing, 11)) (List.mem_of_getElem? (i := 12) rfl)
theorem ks_X11_may : Cond.selects yX11_may.cls yX11_may yX11_may ∈ gj_TB := gj_t3 (List.mem_of_getElem? (i := 233) rfl) rfl
theorem ks_X6_slotNamed : Cond.selects yX6_slotNamed.cls yX6_slotNamed yX6_slotNamed ∈ gj_TB := gj_p0 (q := (yX6_slotNamed, 10)) (List.mem_of_getElem? (i := 7) rfl)
theorem ks_X12_parts : Cond.selects yX12_parts.cls yX12_parts yX12_parts ∈ gj_TB := gj_p5 (q := (yX12_parts, 55)) (List.mem_of_getElem? (i := 11) rfl)
theorem ks_X3_begin : Cond.selects yX3_begin.cls yX3_begin yX3_begin ∈ gj_TB := gj_t2 (List.mem_of_getElem? (i := 216) rfl) rfl
theorem ks_X12_green : Cond.selects yX12_green.cls yX12_green yX12_green ∈ gj_TB := gj_t6 (List.mem_of_getElem? (i := 114) rfl) rfl
theorem ks_X11_life : Cond.selects yX11_life.cls yX11_life yX11_life ∈ gj_TB := gj_t4 (List.mem_of_getElem? (i := 103) rfl) rfl
theorem ks_X12_fitRead : Cond.selects yX12_fitRead.cls yX12_fitRead yX12_fitRead ∈ gj_TB := gj_p4 (q := (yX12_fitRead, 55)) (List.mem_of_getElem? (i := 0) rfl)
theorem ks_X12_with : Cond.selects yX12_with.cls yX12_with yX12_with ∈ gj_TB := gj_p4 (q := (yX12_with, 55)) (List.mem_of_getElem? (i := 12) rfl)
theorem ks_X8_hear : Cond.selects yX8_hear.cls yX8_hear yX8_hear ∈ gj_TB := gj_p2 (q := (yX8_hear, 5)) (List.mem_of_getElem? (i := 9) rfl)
theorem ks_X12_bestOf : Cond.selects yX12_bestOf.cls yX12_bestOf yX12_bestOf ∈ gj_TB := gj_p4 (q := (yX12_bestOf, 55)) (List.mem_of_getElem? (i := 7) rfl)
theorem ks_X12_next : Cond.selects yX12_next.cls yX12_next yX12_next ∈ gj_TB := gj_p3 (q := (yX12_next, 55)) (List.mem_of_getElem? (i := 5) rfl)
theorem ks_X11_think : Cond.selects yX11_think.cls yX11_think yX11_think ∈ gj_TB := gj_t3 (List.mem_of_getElem? (i := 12) rfl) rfl
theorem ks_X12_parents : Cond.selects yX12_parents.cls yX12_parents yX12_parents ∈ gj_TB := gj_t6 (List.mem_of_getElem? (i := 203) rfl) rfl
theorem ks_X12_asked : Cond.selects yX12_asked.cls yX12_asked yX12_asked ∈ gj_TB := gj_p5 (q := (yX12_asked, 55)) (List.mem_of_getElem? (i := 9) rfl)
theorem ks_X12_end : Cond.selects yX12_end.cls yX12_end yX12_end ∈ gj_TB := gj_t5 (List.mem_of_getElem? (i := 130) rfl) rfl
theorem ks_X12_personRead : Cond.selects yX12_personRead.cls yX12_personRead yX12_personRead ∈ gj_TB := gj_p3 (q := (yX12_personRead, 55)) (List.mem_of_getElem? (i := 9) rfl)
theorem ks_X9_cutTo : Cond.selects yX9_cutTo.cls yX9_cutTo yX9_cutTo ∈ gj_TB := gj_t1 (List.mem_of_getElem? (i := 208) rfl) rfl
theorem ks_X12_lays : Cond.selects yX12_lays.cls yX12_lays yX12_lays ∈ gj_TB := gj_p4 (q := (yX12_lays, 55)) (List.mem_of_getElem? (i := 8) rfl)
theorem ks_X11_shown : Cond.selects yX11_shown.cls yX11_shown yX11_shown ∈ gj_TB := gj_t3 (List.mem_of_getElem? (i := 17) rfl) rfl
theorem ks_X12_who : Cond.selects yX12_who.cls yX12_who yX12_who ∈ gj_TB := gj_p4 (q := (yX12_who, 55)) (List.mem_of_getElem? (i := 2) rfl)
theorem ks_X11_way : Cond.selects yX11_way.cls yX11_way yX11_way ∈ gj_TB := gj_t3 (List.mem_of_getElem? (i := 163) rfl) rfl
theorem ks_X12_found : Cond.selects yX12_found.cls yX12_found yX12_found ∈ gj_TB := gj_p3 (q := (yX12_found, 55)) (List.mem_of_getElem? (i := 12) rfl)
theorem ks_X12_joins : Cond.selects yX12_joins.cls yX12_joins yX12_joins ∈ gj_TB := gj_p5 (q := (yX12_joins, 55)) (List.mem_of_getElem? (i := 12) rfl)
theorem ks_X12_by : Cond.selects yX12_by.cls yX12_by yX12_by ∈ gj_TB := gj_p4 (q := (yX12_by, 55)) (List.mem_of_getElem? (i := 11) rfl)
theorem ks_X6_firstTold : Cond.selects yX6_firstTold.cls yX6_firstTold yX6_firstTold ∈ gj_TB := gj_p0 (q := (yX6_firstTold, 10)) (List.mem_of_getElem? (i := 14) rfl)
theorem ks_X2_openOne : Cond.selects yX2_openOne.cls yX2_openOne yX2_openOne ∈ gj_TB := gj_p2 (q := (yX2_openOne, 7)) (List.mem_of_getElem? (i := 6) rfl)
theorem ks_X6_numberHere : Cond.selects yX6_numberHere.cls yX6_numberHere yX6_numberHere ∈ gj_TB := gj_p0 (q := (yX6_numberHere, 10)) (List.mem_of_getElem? (i := 9) rfl)
theorem ks_X11_pictureAt : Cond.selects yX11_pictureAt.cls yX11_pictureAt yX11_pictureAt ∈ gj_TB := gj_p3 (q := (yX11_pictureAt, 12)) (List.mem_of_getElem? (i := 0) rfl)
theorem ks_X2_canMeet : Cond.selects yX2_canMeet.cls yX2_canMeet yX2_canMeet ∈ gj_TB := gj_p2 (q := (yX2_canMeet, 7)) (List.mem_of_getElem? (i := 0) rfl)
theorem ks_X11_best : Cond.selects yX11_best.cls yX11_best yX11_best ∈ gj_TB := gj_t3 (List.mem_of_getElem? (i := 68) rfl) rfl
theorem ks_X12_truly : Cond.selects yX12_truly.cls yX12_truly yX12_truly ∈ gj_TB := gj_p6 (q := (yX12_truly, 55)) (List.mem_of_getElem? (i := 2) rfl)
theorem ks_X5_otherAfter : Cond.selects yX5_otherAfter.cls yX5_otherAfter yX5_otherAfter ∈ gj_TB := gj_p1 (q := (yX5_otherAfter, 16)) (List.mem_of_getElem? (i := 6) rfl)
theorem ks_X11_bar : Cond.selects yX11_bar.cls yX11_bar yX11_bar ∈ gj_TB := gj_t3 (List.mem_of_getElem? (i := 133) rfl) rfl
theorem ks_X12_liking : Cond.selects yX12_liking.cls yX12_liking yX12_liking ∈ gj_TB := gj_t6 (List.mem_of_getElem? (i := 19) rfl) rfl
theorem ks_X6_read : Cond.selects yX6_read.cls yX6_read yX6_read ∈ gj_TB := gj_t1 (List.mem_of_getElem? (i := 216) rfl) rfl
theorem ks_X6_readFit : Cond.selects yX6_readFit.cls yX6_readFit yX6_readFit ∈ gj_TB := gj_p0 (q := (yX6_readFit, 10)) (List.mem_of_getElem? (i := 12) rfl)
theorem ks_X12_isSooner : Cond.selects yX12_isSooner.cls yX12_isSooner yX12_isSooner ∈ gj_TB := gj_p4 (q := (yX12_isSooner, 55)) (List.mem_of_getElem? (i := 6) rfl)
theorem ks_X5_gain : Cond.selects yX5_gain.cls yX5_gain yX5_gain ∈ gj_TB := gj_t3 (List.mem_of_getElem? (i := 40) rfl) rfl
theorem ks_X4_worthOf : Cond.selects yX4_worthOf.cls yX4_worthOf yX4_worthOf ∈ gj_TB := gj_p1 (q := (yX4_worthOf, 11)) (List.mem_of_getElem? (i := 11) rfl)
theorem ks_X12_on : Cond.selects yX12_on.cls yX12_on yX12_on ∈ gj_TB := gj_t7 (List.mem_of_getElem? (i := 13) rfl) rfl
theorem ks_X12_likes : Cond.selects yX12_likes.cls yX12_likes yX12_likes ∈ gj_TB := gj_p4 (q := (yX12_likes, 55)) (List.mem_of_getElem? (i := 5) rfl)
theorem ks_X1_clear : Cond.selects yX1_clear.cls yX1_clear yX1_clear ∈ gj_TB := gj_t2 (List.mem_of_getElem? (i := 220) rfl) rfl
theorem ks_X11_fault : Cond.selects yX11_fault.cls yX11_fault yX11_fault ∈ gj_TB := gj_t1 (List.mem_of_getElem? (i := 212) rfl) rfl
theorem ks_X12_act : Cond.selects yX12_act.cls yX12_act yX12_act ∈ gj_TB := gj_t6 (List.mem_of_getElem? (i := 80) rfl) rfl
theorem ks_X12_way : Cond.selects yX12_way.cls yX12_way yX12_way ∈ gj_TB := gj_t6 (List.mem_of_getElem? (i := 105) rfl) rfl
theorem ks_X2_ask : Cond.selects yX2_ask.cls yX2_ask yX2_ask ∈ gj_TB := gj_p2 (q := (yX2_ask, 7)) (List.mem_of_getElem? (i := 1) rfl)
theorem ks_X12_log : Cond.selects yX12_log.cls yX12_log yX12_log ∈ gj_TB := gj_t6 (List.mem_of_getElem? (i := 154) rfl) rfl
theorem ks_X12_may : Cond.selects yX12_may.cls yX12_may yX12_may ∈ gj_TB := gj_p5 (q := (yX12_may, 55)) (List.mem_of_getElem? (i := 8) rfl)
theorem ks_X12_gives : Cond.selects yX12_gives.cls yX12_gives yX12_gives ∈ gj_TB := gj_p5 (q := (yX12_gives, 55)) (List.mem_of_getElem? (i := 4) rfl)
theorem ks_X4_isShut : Cond.selects yX4_isShut.cls yX4_isShut yX4_isShut ∈ gj_TB := gj_p1 (q := (yX4_isShut, 11)) (List.mem_of_getElem? (i := 13) rfl)
theorem ks_X4_leastCow : Cond.selects yX4_leastCow.cls yX4_leastCow yX4_leastCow ∈ gj_TB := gj_t3 (List.mem_of_getElem? (i := 146) rfl) rfl
theorem ks_X2_look : Cond.selects yX2_look.cls yX2_look yX2_look ∈ gj_TB := gj_t3 (List.mem_of_getElem? (i := 49) rfl) rfl
theorem ks_X12_blocks : Cond.selects yX12_blocks.cls yX12_blocks yX12_blocks ∈ gj_TB := gj_t6 (List.mem_of_getElem? (i := 195) rfl) rfl
theorem ks_X6_readLine : Cond.selects yX6_readLine.cls yX6_readLine yX6_readLine ∈ gj_TB := gj_p0 (q := (yX6_readLine, 10)) (List.mem_of_getElem? (i := 2) rfl)
theorem ks_X9_byteAt : Cond.selects yX9_byteAt.cls yX9_byteAt yX9_byteAt ∈ gj_TB := gj_t1 (List.mem_of_getElem? (i := 233) rfl) rfl
theorem ks_X2_likingOf : Cond.selects yX2_likingOf.cls yX2_likingOf yX2_likingOf ∈ gj_TB := gj_t3 (List.mem_of_getElem? (i := 33) rfl) rfl
theorem ks_X12_best : Cond.selects yX12_best.cls yX12_best yX12_best ∈ gj_TB := gj_t6 (List.mem_of_getElem? (i := 39) rfl) rfl
theorem ks_X2_soonestToAsk : Cond.selects yX2_soonestToAsk.cls yX2_soonestToAsk yX2_soonestToAsk ∈ gj_TB := gj_p1 (q := (yX2_soonestToAsk, 7)) (List.mem_of_getElem? (i := 15) rfl)
theorem ks_X11_act : Cond.selects yX11_act.cls yX11_act yX11_act ∈ gj_TB := gj_t3 (List.mem_of_getElem? (i := 115) rfl) rfl
theorem ks_X12_fault : Cond.selects yX12_fault.cls yX12_fault yX12_fault ∈ gj_TB := gj_t5 (List.mem_of_getElem? (i := 138) rfl) rfl
theorem ks_X12_lives : Cond.selects yX12_lives.cls yX12_lives yX12_lives ∈ gj_TB := gj_p5 (q := (yX12_lives, 55)) (List.mem_of_getElem? (i := 13) rfl)
theorem ks_X11_two : Cond.selects yX11_two.cls yX11_two yX11_two ∈ gj_TB := gj_t3 (List.mem_of_getElem? (i := 1) rfl) rfl
theorem ks_X5_shownRight : Cond.selects yX5_shownRight.cls yX5_shownRight yX5_shownRight ∈ gj_TB := gj_t3 (List.mem_of_getElem? (i := 21) rfl) rfl
theorem ks_X12_never : Cond.selects yX12_never.cls yX12_never yX12_never ∈ gj_TB := gj_t6 (List.mem_of_getElem? (i := 233) rfl) rfl
theorem ks_X6_scan : Cond.selects yX6_scan.cls yX6_scan yX6_scan ∈ gj_TB := gj_p0 (q := (yX6_scan, 10)) (List.mem_of_getElem? (i := 1) rfl)
theorem ks_X12_line : Cond.selects yX12_line.cls yX12_line yX12_line ∈ gj_TB := gj_p3 (q := (yX12_line, 55)) (List.mem_of_getElem? (i := 7) rfl)
theorem ks_J0_length_8abf5 : Cond.selects yJ0_length_8abf5.cls yJ0_length_8abf5 yJ0_length_8abf5 ∈ gj_TB := gj_t2 (List.mem_of_getElem? (i := 13) rfl) rfl
theorem ks_X5_goodNext : Cond.selects yX5_goodNext.cls yX5_goodNext yX5_goodNext ∈ gj_TB := gj_p1 (q := (yX5_goodNext, 16)) (List.mem_of_getElem? (i := 4) rfl)
theorem ks_X12_shows : Cond.selects yX12_shows.cls yX12_shows yX12_shows ∈ gj_TB := gj_p4 (q := (yX12_shows, 55)) (List.mem_of_getElem? (i := 3) rfl)
theorem ks_X11_status : Cond.selects yX11_status.cls yX11_status yX11_status ∈ gj_TB := gj_t4 (List.mem_of_getElem? (i := 157) rfl) rfl
theorem ks_X12_status : Cond.selects yX12_status.cls yX12_status yX12_status ∈ gj_TB := gj_t5 (List.mem_of_getElem? (i := 110) rfl) rfl
theorem ks_X12_price : Cond.selects yX12_price.cls yX12_price yX12_price ∈ gj_TB := gj_t6 (List.mem_of_getElem? (i := 97) rfl) rfl
theorem ks_X6_nameHere : Cond.selects yX6_nameHere.cls yX6_nameHere yX6_nameHere ∈ gj_TB := gj_p0 (q := (yX6_nameHere, 10)) (List.mem_of_getElem? (i := 5) rfl)
theorem ks_X12_toldOf : Cond.selects yX12_toldOf.cls yX12_toldOf yX12_toldOf ∈ gj_TB := gj_p4 (q := (yX12_toldOf, 55)) (List.mem_of_getElem? (i := 14) rfl)
theorem ks_X12_inTurn : Cond.selects yX12_inTurn.cls yX12_inTurn yX12_inTurn ∈ gj_TB := gj_p5 (q := (yX12_inTurn, 55)) (List.mem_of_getElem? (i := 5) rfl)
theorem ks_X12_findsParents : Cond.selects yX12_findsParents.cls yX12_findsParents yX12_findsParents ∈ gj_TB := gj_p5 (q := (yX12_findsParents, 55)) (List.mem_of_getElem? (i := 15) rfl)
theorem ks_J0_isLatin1_aae02 : Cond.selects yJ0_isLatin1_aae02.cls yJ0_isLatin1_aae02 yJ0_isLatin1_aae02 ∈ gj_TB := gj_t2 (List.mem_of_getElem? (i := 27) rfl) rfl
theorem mn_X11_9 : (RX11, 9, yX9_init, RX11) ∈ gj_nest := by decide +kernel
theorem ff_X9_9 : gj_F RX9 9 8 0 2 4 true := ⟨_, _, rfl, kf_X9_9, by decide, rfl, rfl, rfl⟩
theorem ff_X9_15 : gj_F RX9 15 8 1 2 0 false := ⟨_, _, rfl, kf_X9_15, by decide, rfl, rfl, rfl⟩
theorem mn_X11_18 : (RX11, 18, yX5_init, RX11) ∈ gj_nest := by decide +kernel
theorem ff_X5_30 : gj_F RX5 30 5 0 16 0 false := ⟨_, _, rfl, kf_X5_30, by decide, rfl, rfl, rfl⟩
theorem ff_X4_38 : gj_F RX4 38 5 0 16 0 false := ⟨_, _, rfl, kf_X4_38, by decide, rfl, rfl, rfl⟩
theorem ff_X11_124 : gj_F RX11 124 5 0 16 0 false := ⟨_, _, rfl, kf_X11_124, by decide, rfl, rfl, rfl⟩
theorem ff_X6_87 : gj_F RX6 87 5 0 16 0 false := ⟨_, _, rfl, kf_X6_87, by decide, rfl, rfl, rfl⟩
theorem ff_X5_34 : gj_F RX5 34 5 1 16 0 false := ⟨_, _, rfl, kf_X5_34, by decide, rfl, rfl, rfl⟩
theorem ff_X4_33 : gj_F RX4 33 5 1 16 0 false := ⟨_, _, rfl, kf_X4_33, by decide, rfl, rfl, rfl⟩
theorem ff_X11_128 : gj_F RX11 128 5 1 16 0 false := ⟨_, _, rfl, kf_X11_128, by decide, rfl, rfl, rfl⟩
theorem ff_X6_96 : gj_F RX6 96 5 1 16 0 false := ⟨_, _, rfl, kf_X6_96, by decide, rfl, rfl, rfl⟩
theorem ff_X5_37 : gj_F RX5 37 5 2 16 0 false := ⟨_, _, rfl, kf_X5_37, by decide, rfl, rfl, rfl⟩
theorem ff_X8_165 : gj_F RX8 165 5 2 16 0 false := ⟨_, _, rfl, kf_X8_165, by decide, rfl, rfl, rfl⟩
theorem ff_X6_196 : gj_F RX6 196 5 2 16 0 false := ⟨_, _, rfl, kf_X6_196, by decide, rfl, rfl, rfl⟩
theorem ff_X4_136 : gj_F RX4 136 5 2 16 0 false := ⟨_, _, rfl, kf_X4_136, by decide, rfl, rfl, rfl⟩
theorem ff_X5_40 : gj_F RX5 40 5 3 16 0 false := ⟨_, _, rfl, kf_X5_40, by decide, rfl, rfl, rfl⟩
theorem ff_X8_168 : gj_F RX8 168 5 3 16 0 false := ⟨_, _, rfl, kf_X8_168, by decide, rfl, rfl, rfl⟩
theorem ff_X6_199 : gj_F RX6 199 5 3 16 0 false := ⟨_, _, rfl, kf_X6_199, by decide, rfl, rfl, rfl⟩
theorem ff_X4_139 : gj_F RX4 139 5 3 16 0 false := ⟨_, _, rfl, kf_X4_139, by decide, rfl, rfl, rfl⟩
theorem ff_X5_43 : gj_F RX5 43 5 4 16 0 false := ⟨_, _, rfl, kf_X5_43, by decide, rfl, rfl, rfl⟩
theorem ff_X8_174 : gj_F RX8 174 5 4 16 0 false := ⟨_, _, rfl, kf_X8_174, by decide, rfl, rfl, rfl⟩
theorem ff_X6_202 : gj_F RX6 202 5 4 16 0 false := ⟨_, _, rfl, kf_X6_202, by decide, rfl, rfl, rfl⟩
theorem ff_X4_142 : gj_F RX4 142 5 4 16 0 false := ⟨_, _, rfl, kf_X4_142, by decide, rfl, rfl, rfl⟩
theorem ff_X5_46 : gj_F RX5 46 5 5 16 0 false := ⟨_, _, rfl, kf_X5_46, by decide, rfl, rfl, rfl⟩
theorem ff_X8_177 : gj_F RX8 177 5 5 16 0 false := ⟨_, _, rfl, kf_X8_177, by decide, rfl, rfl, rfl⟩
theorem ff_X6_205 : gj_F RX6 205 5 5 16 0 false := ⟨_, _, rfl, kf_X6_205, by decide, rfl, rfl, rfl⟩
theorem ff_X4_145 : gj_F RX4 145 5 5 16 0 false := ⟨_, _, rfl, kf_X4_145, by decide, rfl, rfl, rfl⟩
theorem ff_X5_49 : gj_F RX5 49 5 6 16 0 false := ⟨_, _, rfl, kf_X5_49, by decide, rfl, rfl, rfl⟩
theorem ff_X8_159 : gj_F RX8 159 5 6 16 0 false := ⟨_, _, rfl, kf_X8_159, by decide, rfl, rfl, rfl⟩
theorem ff_X6_207 : gj_F RX6 207 5 6 16 0 false := ⟨_, _, rfl, kf_X6_207, by decide, rfl, rfl, rfl⟩
theorem ff_X5_52 : gj_F RX5 52 5 7 16 0 false := ⟨_, _, rfl, kf_X5_52, by decide, rfl, rfl, rfl⟩
theorem ff_X4_67 : gj_F RX4 67 5 7 16 0 false := ⟨_, _, rfl, kf_X4_67, by decide, rfl, rfl, rfl⟩
theorem ff_X2_121 : gj_F RX2 121 5 7 16 0 false := ⟨_, _, rfl, kf_X2_121, by decide, rfl, rfl, rfl⟩
theorem ff_X8_171 : gj_F RX8 171 5 7 16 0 false := ⟨_, _, rfl, kf_X8_171, by decide, rfl, rfl, rfl⟩
theorem ff_X6_210 : gj_F RX6 210 5 7 16 0 false := ⟨_, _, rfl, kf_X6_210, by decide, rfl, rfl, rfl⟩
theorem ff_X5_55 : gj_F RX5 55 5 8 16 0 false := ⟨_, _, rfl, kf_X5_55, by decide, rfl, rfl, rfl⟩
theorem ff_X4_89 : gj_F RX4 89 5 8 16 0 false := ⟨_, _, rfl, kf_X4_89, by decide, rfl, rfl, rfl⟩
theorem ff_X8_105 : gj_F RX8 105 5 8 16 0 false := ⟨_, _, rfl, kf_X8_105, by decide, rfl, rfl, rfl⟩
theorem ff_X6_212 : gj_F RX6 212 5 8 16 0 false := ⟨_, _, rfl, kf_X6_212, by decide, rfl, rfl, rfl⟩
theorem ff_X11_246 : gj_F RX11 246 5 8 16 0 false := ⟨_, _, rfl, kf_X11_246, by decide, rfl, rfl, rfl⟩
theorem ff_X5_58 : gj_F RX5 58 5 9 16 0 false := ⟨_, _, rfl, kf_X5_58, by decide, rfl, rfl, rfl⟩
theorem ff_X8_77 : gj_F RX8 77 5 9 16 0 false := ⟨_, _, rfl, kf_X8_77, by decide, rfl, rfl, rfl⟩
theorem ff_X6_214 : gj_F RX6 214 5 9 16 0 false := ⟨_, _, rfl, kf_X6_214, by decide, rfl, rfl, rfl⟩
theorem ff_X11_330 : gj_F RX11 330 5 9 16 0 false := ⟨_, _, rfl, kf_X11_330, by decide, rfl, rfl, rfl⟩
theorem ff_X5_9 : gj_F RX5 9 5 10 16 4 true := ⟨_, _, rfl, kf_X5_9, by decide, rfl, rfl, rfl⟩
theorem ff_X11_136 : gj_F RX11 136 5 10 16 4 true := ⟨_, _, rfl, kf_X11_136, by decide, rfl, rfl, rfl⟩
theorem ff_X8_146 : gj_F RX8 146 5 10 16 4 true := ⟨_, _, rfl, kf_X8_146, by decide, rfl, rfl, rfl⟩
theorem ff_X6_148 : gj_F RX6 148 5 10 16 4 true := ⟨_, _, rfl, kf_X6_148, by decide, rfl, rfl, rfl⟩
theorem ff_X2_128 : gj_F RX2 128 5 10 16 4 true := ⟨_, _, rfl, kf_X2_128, by decide, rfl, rfl, rfl⟩
theorem ff_X4_129 : gj_F RX4 129 5 10 16 4 true := ⟨_, _, rfl, kf_X4_129, by decide, rfl, rfl, rfl⟩
theorem ff_X5_15 : gj_F RX5 15 5 11 16 4 true := ⟨_, _, rfl, kf_X5_15, by decide, rfl, rfl, rfl⟩
theorem ff_X6_179 : gj_F RX6 179 5 11 16 4 true := ⟨_, _, rfl, kf_X6_179, by decide, rfl, rfl, rfl⟩
theorem ff_X11_186 : gj_F RX11 186 5 11 16 4 true := ⟨_, _, rfl, kf_X11_186, by decide, rfl, rfl, rfl⟩
theorem ff_X5_18 : gj_F RX5 18 5 12 16 4 true := ⟨_, _, rfl, kf_X5_18, by decide, rfl, rfl, rfl⟩
theorem ff_X6_182 : gj_F RX6 182 5 12 16 4 true := ⟨_, _, rfl, kf_X6_182, by decide, rfl, rfl, rfl⟩
theorem ff_X11_189 : gj_F RX11 189 5 12 16 4 true := ⟨_, _, rfl, kf_X11_189, by decide, rfl, rfl, rfl⟩
theorem ff_X5_21 : gj_F RX5 21 5 13 16 4 true := ⟨_, _, rfl, kf_X5_21, by decide, rfl, rfl, rfl⟩
theorem ff_X6_185 : gj_F RX6 185 5 13 16 4 true := ⟨_, _, rfl, kf_X6_185, by decide, rfl, rfl, rfl⟩
theorem ff_X11_192 : gj_F RX11 192 5 13 16 4 true := ⟨_, _, rfl, kf_X11_192, by decide, rfl, rfl, rfl⟩
theorem ff_X5_24 : gj_F RX5 24 5 14 16 4 true := ⟨_, _, rfl, kf_X5_24, by decide, rfl, rfl, rfl⟩
theorem ff_X8_156 : gj_F RX8 156 5 14 16 4 true := ⟨_, _, rfl, kf_X8_156, by decide, rfl, rfl, rfl⟩
theorem ff_X11_174 : gj_F RX11 174 5 14 16 4 true := ⟨_, _, rfl, kf_X11_174, by decide, rfl, rfl, rfl⟩
theorem ff_X6_191 : gj_F RX6 191 5 14 16 4 true := ⟨_, _, rfl, kf_X6_191, by decide, rfl, rfl, rfl⟩
theorem ff_X5_27 : gj_F RX5 27 5 15 16 4 true := ⟨_, _, rfl, kf_X5_27, by decide, rfl, rfl, rfl⟩
theorem ff_X6_22 : gj_F RX6 22 6 0 10 4 true := ⟨_, _, rfl, kf_X6_22, by decide, rfl, rfl, rfl⟩
theorem ff_X6_26 : gj_F RX6 26 6 1 10 4 true := ⟨_, _, rfl, kf_X6_26, by decide, rfl, rfl, rfl⟩
theorem ff_X6_9 : gj_F RX6 9 6 2 10 4 true := ⟨_, _, rfl, kf_X6_9, by decide, rfl, rfl, rfl⟩
theorem ff_X6_15 : gj_F RX6 15 6 3 10 4 true := ⟨_, _, rfl, kf_X6_15, by decide, rfl, rfl, rfl⟩
theorem ff_X6_19 : gj_F RX6 19 6 4 10 4 true := ⟨_, _, rfl, kf_X6_19, by decide, rfl, rfl, rfl⟩
theorem ff_X6_35 : gj_F RX6 35 6 5 10 0 false := ⟨_, _, rfl, kf_X6_35, by decide, rfl, rfl, rfl⟩
theorem ff_X6_57 : gj_F RX6 57 6 6 10 0 false := ⟨_, _, rfl, kf_X6_57, by decide, rfl, rfl, rfl⟩
theorem ff_X6_64 : gj_F RX6 64 6 7 10 0 false := ⟨_, _, rfl, kf_X6_64, by decide, rfl, rfl, rfl⟩
theorem ff_X6_39 : gj_F RX6 39 6 8 10 0 false := ⟨_, _, rfl, kf_X6_39, by decide, rfl, rfl, rfl⟩
theorem ff_X6_152 : gj_F RX6 152 6 9 10 0 false := ⟨_, _, rfl, kf_X6_152, by decide, rfl, rfl, rfl⟩
theorem mn_X3_35 : (RX3, 35, yX1_init, RX11) ∈ gj_nest := by decide +kernel
theorem ff_X1_11 : gj_F RX1 11 1 0 3 4 true := ⟨_, _, rfl, kf_X1_11, by decide, rfl, rfl, rfl⟩
theorem ff_X1_19 : gj_F RX1 19 1 1 3 0 false := ⟨_, _, rfl, kf_X1_19, by decide, rfl, rfl, rfl⟩
theorem ff_X1_15 : gj_F RX1 15 1 2 3 0 false := ⟨_, _, rfl, kf_X1_15, by decide, rfl, rfl, rfl⟩
theorem ff_X3_46 : gj_F RX3 46 3 0 11 0 false := ⟨_, _, rfl, kf_X3_46, by decide, rfl, rfl, rfl⟩
theorem ff_X8_115 : gj_F RX8 115 3 0 11 0 false := ⟨_, _, rfl, kf_X8_115, by decide, rfl, rfl, rfl⟩
theorem ff_X11_275 : gj_F RX11 275 3 0 11 0 false := ⟨_, _, rfl, kf_X11_275, by decide, rfl, rfl, rfl⟩
theorem ff_X3_50 : gj_F RX3 50 3 1 11 0 false := ⟨_, _, rfl, kf_X3_50, by decide, rfl, rfl, rfl⟩
theorem ff_X8_46 : gj_F RX8 46 3 1 11 0 false := ⟨_, _, rfl, kf_X8_46, by decide, rfl, rfl, rfl⟩
theorem ff_X11_254 : gj_F RX11 254 3 1 11 0 false := ⟨_, _, rfl, kf_X11_254, by decide, rfl, rfl, rfl⟩
theorem ff_X3_53 : gj_F RX3 53 3 2 11 0 false := ⟨_, _, rfl, kf_X3_53, by decide, rfl, rfl, rfl⟩
theorem ff_X11_258 : gj_F RX11 258 3 2 11 0 false := ⟨_, _, rfl, kf_X11_258, by decide, rfl, rfl, rfl⟩
theorem ff_X3_9 : gj_F RX3 9 3 3 11 4 true := ⟨_, _, rfl, kf_X3_9, by decide, rfl, rfl, rfl⟩
theorem ff_X2_36 : gj_F RX2 36 3 3 11 4 true := ⟨_, _, rfl, kf_X2_36, by decide, rfl, rfl, rfl⟩
theorem ff_X4_73 : gj_F RX4 73 3 3 11 4 true := ⟨_, _, rfl, kf_X4_73, by decide, rfl, rfl, rfl⟩
theorem ff_X8_62 : gj_F RX8 62 3 3 11 4 true := ⟨_, _, rfl, kf_X8_62, by decide, rfl, rfl, rfl⟩
theorem ff_X11_143 : gj_F RX11 143 3 3 11 4 true := ⟨_, _, rfl, kf_X11_143, by decide, rfl, rfl, rfl⟩
theorem ff_X3_15 : gj_F RX3 15 3 4 11 4 true := ⟨_, _, rfl, kf_X3_15, by decide, rfl, rfl, rfl⟩
theorem ff_X4_83 : gj_F RX4 83 3 4 11 4 true := ⟨_, _, rfl, kf_X4_83, by decide, rfl, rfl, rfl⟩
theorem ff_X8_124 : gj_F RX8 124 3 4 11 4 true := ⟨_, _, rfl, kf_X8_124, by decide, rfl, rfl, rfl⟩
theorem ff_X11_151 : gj_F RX11 151 3 4 11 4 true := ⟨_, _, rfl, kf_X11_151, by decide, rfl, rfl, rfl⟩
theorem ff_X3_18 : gj_F RX3 18 3 5 11 4 true := ⟨_, _, rfl, kf_X3_18, by decide, rfl, rfl, rfl⟩
theorem ff_X8_98 : gj_F RX8 98 3 5 11 4 true := ⟨_, _, rfl, kf_X8_98, by decide, rfl, rfl, rfl⟩
theorem ff_X11_180 : gj_F RX11 180 3 5 11 4 true := ⟨_, _, rfl, kf_X11_180, by decide, rfl, rfl, rfl⟩
theorem ff_X3_21 : gj_F RX3 21 3 6 11 4 true := ⟨_, _, rfl, kf_X3_21, by decide, rfl, rfl, rfl⟩
theorem ff_X11_154 : gj_F RX11 154 3 6 11 4 true := ⟨_, _, rfl, kf_X11_154, by decide, rfl, rfl, rfl⟩
theorem ff_X3_24 : gj_F RX3 24 3 7 11 4 true := ⟨_, _, rfl, kf_X3_24, by decide, rfl, rfl, rfl⟩
theorem ff_X4_53 : gj_F RX4 53 3 7 11 4 true := ⟨_, _, rfl, kf_X4_53, by decide, rfl, rfl, rfl⟩
theorem ff_X2_111 : gj_F RX2 111 3 7 11 4 true := ⟨_, _, rfl, kf_X2_111, by decide, rfl, rfl, rfl⟩
theorem ff_X11_165 : gj_F RX11 165 3 7 11 4 true := ⟨_, _, rfl, kf_X11_165, by decide, rfl, rfl, rfl⟩
theorem ff_X8_180 : gj_F RX8 180 3 7 11 4 true := ⟨_, _, rfl, kf_X8_180, by decide, rfl, rfl, rfl⟩
theorem ff_X3_27 : gj_F RX3 27 3 8 11 4 true := ⟨_, _, rfl, kf_X3_27, by decide, rfl, rfl, rfl⟩
theorem ff_X4_66 : gj_F RX4 66 3 8 11 4 true := ⟨_, _, rfl, kf_X4_66, by decide, rfl, rfl, rfl⟩
theorem ff_X2_114 : gj_F RX2 114 3 8 11 4 true := ⟨_, _, rfl, kf_X2_114, by decide, rfl, rfl, rfl⟩
theorem ff_X11_168 : gj_F RX11 168 3 8 11 4 true := ⟨_, _, rfl, kf_X11_168, by decide, rfl, rfl, rfl⟩
theorem ff_X8_183 : gj_F RX8 183 3 8 11 4 true := ⟨_, _, rfl, kf_X8_183, by decide, rfl, rfl, rfl⟩
theorem ff_X3_30 : gj_F RX3 30 3 9 11 4 true := ⟨_, _, rfl, kf_X3_30, by decide, rfl, rfl, rfl⟩
theorem ff_X4_70 : gj_F RX4 70 3 9 11 4 true := ⟨_, _, rfl, kf_X4_70, by decide, rfl, rfl, rfl⟩
theorem ff_X8_162 : gj_F RX8 162 3 9 11 4 true := ⟨_, _, rfl, kf_X8_162, by decide, rfl, rfl, rfl⟩
theorem ff_X2_125 : gj_F RX2 125 3 9 11 4 true := ⟨_, _, rfl, kf_X2_125, by decide, rfl, rfl, rfl⟩
theorem ff_X11_171 : gj_F RX11 171 3 9 11 4 true := ⟨_, _, rfl, kf_X11_171, by decide, rfl, rfl, rfl⟩
theorem ff_X3_36 : gj_F RX3 36 3 10 11 4 true := ⟨_, _, rfl, kf_X3_36, by decide, rfl, rfl, rfl⟩
theorem ff_X8_111 : gj_F RX8 111 3 10 11 4 true := ⟨_, _, rfl, kf_X8_111, by decide, rfl, rfl, rfl⟩
theorem ff_X11_285 : gj_F RX11 285 3 10 11 4 true := ⟨_, _, rfl, kf_X11_285, by decide, rfl, rfl, rfl⟩
theorem ff_X4_21 : gj_F RX4 21 4 0 11 4 true := ⟨_, _, rfl, kf_X4_21, by decide, rfl, rfl, rfl⟩
theorem ff_X4_25 : gj_F RX4 25 4 1 11 4 true := ⟨_, _, rfl, kf_X4_25, by decide, rfl, rfl, rfl⟩
theorem ff_X4_9 : gj_F RX4 9 4 2 11 4 true := ⟨_, _, rfl, kf_X4_9, by decide, rfl, rfl, rfl⟩
theorem ff_X4_15 : gj_F RX4 15 4 3 11 4 true := ⟨_, _, rfl, kf_X4_15, by decide, rfl, rfl, rfl⟩
theorem ff_X4_18 : gj_F RX4 18 4 4 11 4 true := ⟨_, _, rfl, kf_X4_18, by decide, rfl, rfl, rfl⟩
theorem ff_X4_29 : gj_F RX4 29 4 5 11 0 false := ⟨_, _, rfl, kf_X4_29, by decide, rfl, rfl, rfl⟩
theorem ff_X4_41 : gj_F RX4 41 4 6 11 0 false := ⟨_, _, rfl, kf_X4_41, by decide, rfl, rfl, rfl⟩
theorem ff_X4_80 : gj_F RX4 80 4 7 11 0 false := ⟨_, _, rfl, kf_X4_80, by decide, rfl, rfl, rfl⟩
theorem ff_X4_86 : gj_F RX4 86 4 8 11 0 false := ⟨_, _, rfl, kf_X4_86, by decide, rfl, rfl, rfl⟩
theorem ff_X4_92 : gj_F RX4 92 4 9 11 0 false := ⟨_, _, rfl, kf_X4_92, by decide, rfl, rfl, rfl⟩
theorem ff_X4_93 : gj_F RX4 93 4 10 11 0 false := ⟨_, _, rfl, kf_X4_93, by decide, rfl, rfl, rfl⟩
theorem ff_X2_28 : gj_F RX2 28 2 0 7 4 true := ⟨_, _, rfl, kf_X2_28, by decide, rfl, rfl, rfl⟩
theorem ff_X2_32 : gj_F RX2 32 2 1 7 4 true := ⟨_, _, rfl, kf_X2_32, by decide, rfl, rfl, rfl⟩
theorem ff_X2_9 : gj_F RX2 9 2 2 7 4 true := ⟨_, _, rfl, kf_X2_9, by decide, rfl, rfl, rfl⟩
theorem ff_X2_15 : gj_F RX2 15 2 3 7 4 true := ⟨_, _, rfl, kf_X2_15, by decide, rfl, rfl, rfl⟩
theorem ff_X2_19 : gj_F RX2 19 2 4 7 4 true := ⟨_, _, rfl, kf_X2_19, by decide, rfl, rfl, rfl⟩
theorem ff_X2_22 : gj_F RX2 22 2 5 7 4 true := ⟨_, _, rfl, kf_X2_22, by decide, rfl, rfl, rfl⟩
theorem ff_X2_25 : gj_F RX2 25 2 6 7 4 true := ⟨_, _, rfl, kf_X2_25, by decide, rfl, rfl, rfl⟩
theorem ff_X8_136 : gj_F RX8 136 2 6 7 4 true := ⟨_, _, rfl, kf_X8_136, by decide, rfl, rfl, rfl⟩
theorem ff_X11_267 : gj_F RX11 267 2 6 7 4 true := ⟨_, _, rfl, kf_X11_267, by decide, rfl, rfl, rfl⟩
theorem ff_X0_18 : gj_F RX0 18 0 0 3 4 true := ⟨_, _, rfl, kf_X0_18, by decide, rfl, rfl, rfl⟩
theorem ff_X0_11 : gj_F RX0 11 0 1 3 4 true := ⟨_, _, rfl, kf_X0_11, by decide, rfl, rfl, rfl⟩
theorem ff_X0_15 : gj_F RX0 15 0 2 3 4 true := ⟨_, _, rfl, kf_X0_15, by decide, rfl, rfl, rfl⟩
theorem ff_X11_300 : gj_F RX11 300 0 2 3 4 true := ⟨_, _, rfl, kf_X11_300, by decide, rfl, rfl, rfl⟩
theorem ff_X8_15 : gj_F RX8 15 7 0 5 4 true := ⟨_, _, rfl, kf_X8_15, by decide, rfl, rfl, rfl⟩
theorem ff_X8_19 : gj_F RX8 19 7 1 5 4 true := ⟨_, _, rfl, kf_X8_19, by decide, rfl, rfl, rfl⟩
theorem ff_X8_23 : gj_F RX8 23 7 2 5 4 true := ⟨_, _, rfl, kf_X8_23, by decide, rfl, rfl, rfl⟩
theorem ff_X8_27 : gj_F RX8 27 7 3 5 4 true := ⟨_, _, rfl, kf_X8_27, by decide, rfl, rfl, rfl⟩
theorem ff_X8_9 : gj_F RX8 9 7 4 5 4 true := ⟨_, _, rfl, kf_X8_9, by decide, rfl, rfl, rfl⟩
theorem ff_X11_10 : gj_F RX11 10 9 0 12 4 true := ⟨_, _, rfl, kf_X11_10, by decide, rfl, rfl, rfl⟩
theorem ff_X11_19 : gj_F RX11 19 9 1 12 4 true := ⟨_, _, rfl, kf_X11_19, by decide, rfl, rfl, rfl⟩
theorem ff_X11_28 : gj_F RX11 28 9 2 12 4 true := ⟨_, _, rfl, kf_X11_28, by decide, rfl, rfl, rfl⟩
theorem ff_X11_32 : gj_F RX11 32 9 3 12 4 true := ⟨_, _, rfl, kf_X11_32, by decide, rfl, rfl, rfl⟩
theorem ff_X11_38 : gj_F RX11 38 9 4 12 4 true := ⟨_, _, rfl, kf_X11_38, by decide, rfl, rfl, rfl⟩
theorem ff_X11_47 : gj_F RX11 47 9 5 12 4 true := ⟨_, _, rfl, kf_X11_47, by decide, rfl, rfl, rfl⟩
theorem ff_X11_54 : gj_F RX11 54 9 6 12 4 true := ⟨_, _, rfl, kf_X11_54, by decide, rfl, rfl, rfl⟩
theorem ff_X11_63 : gj_F RX11 63 9 7 12 4 true := ⟨_, _, rfl, kf_X11_63, by decide, rfl, rfl, rfl⟩
theorem ff_X11_72 : gj_F RX11 72 9 8 12 4 true := ⟨_, _, rfl, kf_X11_72, by decide, rfl, rfl, rfl⟩
theorem ff_X11_76 : gj_F RX11 76 9 9 12 4 true := ⟨_, _, rfl, kf_X11_76, by decide, rfl, rfl, rfl⟩
theorem ff_X11_80 : gj_F RX11 80 9 10 12 4 true := ⟨_, _, rfl, kf_X11_80, by decide, rfl, rfl, rfl⟩
theorem ff_X11_84 : gj_F RX11 84 9 11 12 4 true := ⟨_, _, rfl, kf_X11_84, by decide, rfl, rfl, rfl⟩
theorem ff_X12_7 : gj_F RX12 7 10 0 55 4 true := ⟨_, _, rfl, kf_X12_7, by decide, rfl, rfl, rfl⟩
theorem ff_X12_13 : gj_F RX12 13 10 1 55 4 true := ⟨_, _, rfl, kf_X12_13, by decide, rfl, rfl, rfl⟩
theorem ff_X12_162 : gj_F RX12 162 10 2 55 0 false := ⟨_, _, rfl, kf_X12_162, by decide, rfl, rfl, rfl⟩
theorem ff_X12_180 : gj_F RX12 180 10 3 55 0 false := ⟨_, _, rfl, kf_X12_180, by decide, rfl, rfl, rfl⟩
theorem ff_X12_177 : gj_F RX12 177 10 4 55 0 false := ⟨_, _, rfl, kf_X12_177, by decide, rfl, rfl, rfl⟩
theorem ff_X12_187 : gj_F RX12 187 10 5 55 0 false := ⟨_, _, rfl, kf_X12_187, by decide, rfl, rfl, rfl⟩
theorem ff_X12_205 : gj_F RX12 205 10 6 55 0 false := ⟨_, _, rfl, kf_X12_205, by decide, rfl, rfl, rfl⟩
theorem ff_X12_19 : gj_F RX12 19 10 7 55 4 true := ⟨_, _, rfl, kf_X12_19, by decide, rfl, rfl, rfl⟩
theorem ff_X12_22 : gj_F RX12 22 10 8 55 4 true := ⟨_, _, rfl, kf_X12_22, by decide, rfl, rfl, rfl⟩
theorem ff_X12_25 : gj_F RX12 25 10 9 55 4 true := ⟨_, _, rfl, kf_X12_25, by decide, rfl, rfl, rfl⟩
theorem ff_X12_28 : gj_F RX12 28 10 10 55 4 true := ⟨_, _, rfl, kf_X12_28, by decide, rfl, rfl, rfl⟩
theorem ff_X12_31 : gj_F RX12 31 10 11 55 4 true := ⟨_, _, rfl, kf_X12_31, by decide, rfl, rfl, rfl⟩
theorem ff_X12_34 : gj_F RX12 34 10 12 55 4 true := ⟨_, _, rfl, kf_X12_34, by decide, rfl, rfl, rfl⟩
theorem ff_X12_37 : gj_F RX12 37 10 13 55 4 true := ⟨_, _, rfl, kf_X12_37, by decide, rfl, rfl, rfl⟩
theorem ff_X12_40 : gj_F RX12 40 10 14 55 4 true := ⟨_, _, rfl, kf_X12_40, by decide, rfl, rfl, rfl⟩
theorem ff_X12_44 : gj_F RX12 44 10 15 55 4 true := ⟨_, _, rfl, kf_X12_44, by decide, rfl, rfl, rfl⟩
theorem ff_X12_48 : gj_F RX12 48 10 16 55 4 true := ⟨_, _, rfl, kf_X12_48, by decide, rfl, rfl, rfl⟩
theorem ff_X12_51 : gj_F RX12 51 10 17 55 4 true := ⟨_, _, rfl, kf_X12_51, by decide, rfl, rfl, rfl⟩
theorem ff_X12_260 : gj_F RX12 260 10 18 55 3 false := ⟨_, _, rfl, kf_X12_260, by decide, rfl, rfl, rfl⟩
theorem ff_X12_73 : gj_F RX12 73 10 19 55 4 true := ⟨_, _, rfl, kf_X12_73, by decide, rfl, rfl, rfl⟩
theorem ff_X12_77 : gj_F RX12 77 10 20 55 4 true := ⟨_, _, rfl, kf_X12_77, by decide, rfl, rfl, rfl⟩
theorem ff_X12_80 : gj_F RX12 80 10 21 55 4 true := ⟨_, _, rfl, kf_X12_80, by decide, rfl, rfl, rfl⟩
theorem ff_X12_83 : gj_F RX12 83 10 22 55 4 true := ⟨_, _, rfl, kf_X12_83, by decide, rfl, rfl, rfl⟩
theorem ff_X12_86 : gj_F RX12 86 10 23 55 4 true := ⟨_, _, rfl, kf_X12_86, by decide, rfl, rfl, rfl⟩
theorem ff_X12_89 : gj_F RX12 89 10 24 55 4 true := ⟨_, _, rfl, kf_X12_89, by decide, rfl, rfl, rfl⟩
theorem ff_X12_92 : gj_F RX12 92 10 25 55 4 true := ⟨_, _, rfl, kf_X12_92, by decide, rfl, rfl, rfl⟩
theorem ff_X12_95 : gj_F RX12 95 10 26 55 4 true := ⟨_, _, rfl, kf_X12_95, by decide, rfl, rfl, rfl⟩
theorem ff_X12_264 : gj_F RX12 264 10 27 55 0 false := ⟨_, _, rfl, kf_X12_264, by decide, rfl, rfl, rfl⟩
theorem ff_X12_267 : gj_F RX12 267 10 28 55 0 false := ⟨_, _, rfl, kf_X12_267, by decide, rfl, rfl, rfl⟩
theorem ff_X12_274 : gj_F RX12 274 10 29 55 0 false := ⟨_, _, rfl, kf_X12_274, by decide, rfl, rfl, rfl⟩
theorem ff_X12_270 : gj_F RX12 270 10 30 55 1 false := ⟨_, _, rfl, kf_X12_270, by decide, rfl, rfl, rfl⟩
theorem ff_X12_98 : gj_F RX12 98 10 31 55 4 true := ⟨_, _, rfl, kf_X12_98, by decide, rfl, rfl, rfl⟩
theorem ff_X12_101 : gj_F RX12 101 10 32 55 4 true := ⟨_, _, rfl, kf_X12_101, by decide, rfl, rfl, rfl⟩
theorem ff_X12_104 : gj_F RX12 104 10 33 55 4 true := ⟨_, _, rfl, kf_X12_104, by decide, rfl, rfl, rfl⟩
theorem ff_X12_107 : gj_F RX12 107 10 34 55 4 true := ⟨_, _, rfl, kf_X12_107, by decide, rfl, rfl, rfl⟩
theorem ff_X12_320 : gj_F RX12 320 10 35 55 0 false := ⟨_, _, rfl, kf_X12_320, by decide, rfl, rfl, rfl⟩
theorem ff_X12_323 : gj_F RX12 323 10 36 55 0 false := ⟨_, _, rfl, kf_X12_323, by decide, rfl, rfl, rfl⟩
theorem ff_X12_110 : gj_F RX12 110 10 37 55 0 false := ⟨_, _, rfl, kf_X12_110, by decide, rfl, rfl, rfl⟩
theorem ff_X12_342 : gj_F RX12 342 10 38 55 0 false := ⟨_, _, rfl, kf_X12_342, by decide, rfl, rfl, rfl⟩
theorem ff_X12_114 : gj_F RX12 114 10 39 55 4 true := ⟨_, _, rfl, kf_X12_114, by decide, rfl, rfl, rfl⟩
theorem ff_X12_117 : gj_F RX12 117 10 40 55 4 true := ⟨_, _, rfl, kf_X12_117, by decide, rfl, rfl, rfl⟩
theorem ff_X12_120 : gj_F RX12 120 10 41 55 4 true := ⟨_, _, rfl, kf_X12_120, by decide, rfl, rfl, rfl⟩
theorem ff_X12_123 : gj_F RX12 123 10 42 55 4 true := ⟨_, _, rfl, kf_X12_123, by decide, rfl, rfl, rfl⟩
theorem ff_X12_126 : gj_F RX12 126 10 43 55 4 true := ⟨_, _, rfl, kf_X12_126, by decide, rfl, rfl, rfl⟩
theorem ff_X12_129 : gj_F RX12 129 10 44 55 4 true := ⟨_, _, rfl, kf_X12_129, by decide, rfl, rfl, rfl⟩
theorem ff_X12_132 : gj_F RX12 132 10 45 55 4 true := ⟨_, _, rfl, kf_X12_132, by decide, rfl, rfl, rfl⟩
theorem ff_X12_429 : gj_F RX12 429 10 46 55 0 false := ⟨_, _, rfl, kf_X12_429, by decide, rfl, rfl, rfl⟩
theorem ff_X12_135 : gj_F RX12 135 10 47 55 4 true := ⟨_, _, rfl, kf_X12_135, by decide, rfl, rfl, rfl⟩
theorem ff_X12_138 : gj_F RX12 138 10 48 55 4 true := ⟨_, _, rfl, kf_X12_138, by decide, rfl, rfl, rfl⟩
theorem ff_X12_141 : gj_F RX12 141 10 49 55 4 true := ⟨_, _, rfl, kf_X12_141, by decide, rfl, rfl, rfl⟩
theorem ff_X12_144 : gj_F RX12 144 10 50 55 4 true := ⟨_, _, rfl, kf_X12_144, by decide, rfl, rfl, rfl⟩
theorem ff_X12_147 : gj_F RX12 147 10 51 55 4 true := ⟨_, _, rfl, kf_X12_147, by decide, rfl, rfl, rfl⟩
theorem ff_X12_150 : gj_F RX12 150 10 52 55 4 true := ⟨_, _, rfl, kf_X12_150, by decide, rfl, rfl, rfl⟩
theorem ff_X12_153 : gj_F RX12 153 10 53 55 4 true := ⟨_, _, rfl, kf_X12_153, by decide, rfl, rfl, rfl⟩
theorem ff_X12_447 : gj_F RX12 447 10 54 55 0 false := ⟨_, _, rfl, kf_X12_447, by decide, rfl, rfl, rfl⟩
theorem me_J0_charAt_5068e : gj_MV yJ0_charAt_5068e cJ0_charAt_5068e 2 (some .char) 1 := ⟨⟨kd_J0_charAt_5068e, ini_J0, ⟨by decide, by decide⟩, by decide +kernel⟩, ki_J0_charAt_5068e, ks_J0_charAt_5068e⟩
theorem me_J0_checkIndex_df160 : gj_MS yJ0_checkIndex_df160 cJ0_checkIndex_df160 2 none 2 := ⟨⟨kd_J0_checkIndex_df160, ini_J0, ⟨by decide, by decide⟩, by decide +kernel⟩, kt_J0_checkIndex_df160⟩
theorem me_J0_coder_7d493 : gj_MV yJ0_coder_7d493 cJ0_coder_7d493 1 (some .byte) 0 := ⟨⟨kd_J0_coder_7d493, ini_J0, ⟨by decide, by decide⟩, by decide +kernel⟩, ki_J0_coder_7d493, ks_J0_coder_7d493⟩
theorem me_J0_isLatin1_aae02 : gj_MV yJ0_isLatin1_aae02 cJ0_isLatin1_aae02 1 (some .boolean) 0 := ⟨⟨kd_J0_isLatin1_aae02, ini_J0, ⟨by decide, by decide⟩, by decide +kernel⟩, ki_J0_isLatin1_aae02, ks_J0_isLatin1_aae02⟩
theorem me_J0_length_8abf5 : gj_MV yJ0_length_8abf5 cJ0_length_8abf5 1 (some .int) 0 := ⟨⟨kd_J0_length_8abf5, ini_J0, ⟨by decide, by decide⟩, by decide +kernel⟩, ki_J0_length_8abf5, ks_J0_length_8abf5⟩
theorem me_J1_charAt_3b067 : gj_MS yJ1_charAt_3b067 cJ1_charAt_3b067 2 (some .char) 2 := ⟨⟨kd_J1_charAt_3b067, ini_J1, ⟨by decide, by decide⟩, by decide +kernel⟩, kt_J1_charAt_3b067⟩
theorem me_J2_charAt_3b067 : gj_MS yJ2_charAt_3b067 cJ2_charAt_3b067 2 (some .char) 2 := ⟨⟨kd_J2_charAt_3b067, ini_J2, ⟨by decide, by decide⟩, by decide +kernel⟩, kt_J2_charAt_3b067⟩
theorem me_J2_checkIndex_2214a : gj_MS yJ2_checkIndex_2214a cJ2_checkIndex_2214a 2 none 2 := ⟨⟨kd_J2_checkIndex_2214a, ini_J2, ⟨by decide, by decide⟩, by decide +kernel⟩, kt_J2_checkIndex_2214a⟩
theorem me_J2_getChar_3b067 : gj_MS yJ2_getChar_3b067 cJ2_getChar_3b067 2 (some .char) 2 := ⟨⟨kd_J2_getChar_3b067, ini_J2, ⟨by decide, by decide⟩, by decide +kernel⟩, kt_J2_getChar_3b067⟩
theorem me_J2_length_9d52b : gj_MS yJ2_length_9d52b cJ2_length_9d52b 1 (some .int) 1 := ⟨⟨kd_J2_length_9d52b, ini_J2, ⟨by decide, by decide⟩, by decide +kernel⟩, kt_J2_length_9d52b⟩
theorem me_J3_checkIndex_8e157 : gj_MS yJ3_checkIndex_8e157 cJ3_checkIndex_8e157 3 (some .int) 3 := ⟨⟨kd_J3_checkIndex_8e157, ini_J3, ⟨by decide, by decide⟩, by decide +kernel⟩, kt_J3_checkIndex_8e157⟩
theorem me_J9_max_7cf53 : gj_MS yJ9_max_7cf53 cJ9_max_7cf53 2 (some .int) 2 := ⟨⟨kd_J9_max_7cf53, ini_J9, ⟨by decide, by decide⟩, by decide +kernel⟩, kt_J9_max_7cf53⟩
theorem me_J9_max_f86c9 : gj_MS yJ9_max_f86c9 cJ9_max_f86c9 4 (some .long) 2 := ⟨⟨kd_J9_max_f86c9, ini_J9, ⟨by decide, by decide⟩, by decide +kernel⟩, kt_J9_max_f86c9⟩
theorem me_J9_min_7cf53 : gj_MS yJ9_min_7cf53 cJ9_min_7cf53 2 (some .int) 2 := ⟨⟨kd_J9_min_7cf53, ini_J9, ⟨by decide, by decide⟩, by decide +kernel⟩, kt_J9_min_7cf53⟩
theorem me_X0_choose : gj_MV yX0_choose cX0_choose 4 none 0 := ⟨⟨kd_X0_choose, ini_X0, ⟨by decide, by decide⟩, by decide +kernel⟩, ki_X0_choose, ks_X0_choose⟩
theorem me_X0_init : gj_MI yX0_init cX0_init 2 1 := ⟨⟨kd_X0_init, ini_X0, ⟨by decide, by decide⟩, by decide +kernel⟩, ki_X0_init, rfl⟩
theorem me_X0_spread : gj_MV yX0_spread cX0_spread 6 (some .boolean) 1 := ⟨⟨kd_X0_spread, ini_X0, ⟨by decide, by decide⟩, by decide +kernel⟩, ki_X0_spread, ks_X0_spread⟩
theorem me_X10_couple : gj_MS yX10_couple cX10_couple 2 (some .int) 2 := ⟨⟨kd_X10_couple, ini_X10, ⟨by decide, by decide⟩, by decide +kernel⟩, kt_X10_couple⟩
theorem me_X10_facing : gj_MS yX10_facing cX10_facing 2 (some .int) 2 := ⟨⟨kd_X10_facing, ini_X10, ⟨by decide, by decide⟩, by decide +kernel⟩, kt_X10_facing⟩
theorem me_X10_numberOf : gj_MS yX10_numberOf cX10_numberOf 1 (some .int) 1 := ⟨⟨kd_X10_numberOf, ini_X10, ⟨by decide, by decide⟩, by decide +kernel⟩, kt_X10_numberOf⟩
theorem me_X10_placeOf : gj_MS yX10_placeOf cX10_placeOf 1 (some .int) 1 := ⟨⟨kd_X10_placeOf, ini_X10, ⟨by decide, by decide⟩, by decide +kernel⟩, kt_X10_placeOf⟩
theorem me_X10_unlike : gj_MS yX10_unlike cX10_unlike 2 (some .boolean) 2 := ⟨⟨kd_X10_unlike, ini_X10, ⟨by decide, by decide⟩, by decide +kernel⟩, kt_X10_unlike⟩
theorem me_X10_view : gj_MS yX10_view cX10_view 2 (some .int) 2 := ⟨⟨kd_X10_view, ini_X10, ⟨by decide, by decide⟩, by decide +kernel⟩, kt_X10_view⟩
theorem me_X11_act : gj_MV yX11_act cX11_act 6 (some .int) 3 := ⟨⟨kd_X11_act, ini_X11, ⟨by decide, by decide⟩, by decide +kernel⟩, ki_X11_act, ks_X11_act⟩
theorem me_X11_bar : gj_MV yX11_bar cX11_bar 7 (some .int) 4 := ⟨⟨kd_X11_bar, ini_X11, ⟨by decide, by decide⟩, by decide +kernel⟩, ki_X11_bar, ks_X11_bar⟩
theorem me_X11_best : gj_MV yX11_best cX11_best 5 (some .int) 3 := ⟨⟨kd_X11_best, ini_X11, ⟨by decide, by decide⟩, by decide +kernel⟩, ki_X11_best, ks_X11_best⟩
theorem me_X11_blocks : gj_MV yX11_blocks cX11_blocks 5 (some .int) 1 := ⟨⟨kd_X11_blocks, ini_X11, ⟨by decide, by decide⟩, by decide +kernel⟩, ki_X11_blocks, ks_X11_blocks⟩
theorem me_X11_canReckon : gj_MS yX11_canReckon cX11_canReckon 1 (some .boolean) 1 := ⟨⟨kd_X11_canReckon, ini_X11, ⟨by decide, by decide⟩, by decide +kernel⟩, kt_X11_canReckon⟩
theorem me_X11_count : gj_MV yX11_count cX11_count 3 (some .int) 1 := ⟨⟨kd_X11_count, ini_X11, ⟨by decide, by decide⟩, by decide +kernel⟩, ki_X11_count, ks_X11_count⟩
theorem me_X11_earned : gj_MV yX11_earned cX11_earned 3 (some .int) 1 := ⟨⟨kd_X11_earned, ini_X11, ⟨by decide, by decide⟩, by decide +kernel⟩, ki_X11_earned, ks_X11_earned⟩
theorem me_X11_end : gj_MV yX11_end cX11_end 2 (some .boolean) 1 := ⟨⟨kd_X11_end, ini_X11, ⟨by decide, by decide⟩, by decide +kernel⟩, ki_X11_end, ks_X11_end⟩
theorem me_X11_fault : gj_MV yX11_fault cX11_fault 1 (some .int) 0 := ⟨⟨kd_X11_fault, ini_X11, ⟨by decide, by decide⟩, by decide +kernel⟩, ki_X11_fault, ks_X11_fault⟩
theorem me_X11_feed : gj_MV yX11_feed cX11_feed 6 (some .int) 5 := ⟨⟨kd_X11_feed, ini_X11, ⟨by decide, by decide⟩, by decide +kernel⟩, ki_X11_feed, ks_X11_feed⟩
theorem me_X11_green : gj_MV yX11_green cX11_green 4 (some .int) 2 := ⟨⟨kd_X11_green, ini_X11, ⟨by decide, by decide⟩, by decide +kernel⟩, ki_X11_green, ks_X11_green⟩
theorem me_X11_image : gj_MV yX11_image cX11_image 3 (some .boolean) 1 := ⟨⟨kd_X11_image, ini_X11, ⟨by decide, by decide⟩, by decide +kernel⟩, ki_X11_image, ks_X11_image⟩
theorem me_X11_init : gj_MI yX11_init cX11_init 2 0 := ⟨⟨kd_X11_init, ini_X11, ⟨by decide, by decide⟩, by decide +kernel⟩, ki_X11_init, rfl⟩
theorem me_X11_join : gj_MV yX11_join cX11_join 5 (some .boolean) 2 := ⟨⟨kd_X11_join, ini_X11, ⟨by decide, by decide⟩, by decide +kernel⟩, ki_X11_join, ks_X11_join⟩
theorem me_X11_life : gj_MV yX11_life cX11_life 4 (some .int) 2 := ⟨⟨kd_X11_life, ini_X11, ⟨by decide, by decide⟩, by decide +kernel⟩, ki_X11_life, ks_X11_life⟩
theorem me_X11_liking : gj_MV yX11_liking cX11_liking 5 (some .int) 2 := ⟨⟨kd_X11_liking, ini_X11, ⟨by decide, by decide⟩, by decide +kernel⟩, ki_X11_liking, ks_X11_liking⟩
theorem me_X11_log : gj_MV yX11_log cX11_log 3 (some .int) 2 := ⟨⟨kd_X11_log, ini_X11, ⟨by decide, by decide⟩, by decide +kernel⟩, ki_X11_log, ks_X11_log⟩
theorem me_X11_may : gj_MV yX11_may cX11_may 3 (some .int) 1 := ⟨⟨kd_X11_may, ini_X11, ⟨by decide, by decide⟩, by decide +kernel⟩, ki_X11_may, ks_X11_may⟩
theorem me_X11_never : gj_MV yX11_never cX11_never 2 (some .int) 1 := ⟨⟨kd_X11_never, ini_X11, ⟨by decide, by decide⟩, by decide +kernel⟩, ki_X11_never, ks_X11_never⟩
theorem me_X11_neverTried : gj_MV yX11_neverTried cX11_neverTried 4 (some .int) 0 := ⟨⟨kd_X11_neverTried, ini_X11, ⟨by decide, by decide⟩, by decide +kernel⟩, ki_X11_neverTried, ks_X11_neverTried⟩
theorem me_X11_on : gj_MV yX11_on cX11_on 3 (some .boolean) 1 := ⟨⟨kd_X11_on, ini_X11, ⟨by decide, by decide⟩, by decide +kernel⟩, ki_X11_on, ks_X11_on⟩
theorem me_X11_pairs : gj_MV yX11_pairs cX11_pairs 3 (some .int) 2 := ⟨⟨kd_X11_pairs, ini_X11, ⟨by decide, by decide⟩, by decide +kernel⟩, ki_X11_pairs, ks_X11_pairs⟩
theorem me_X11_parents : gj_MV yX11_parents cX11_parents 3 (some .int) 1 := ⟨⟨kd_X11_parents, ini_X11, ⟨by decide, by decide⟩, by decide +kernel⟩, ki_X11_parents, ks_X11_parents⟩
theorem me_X11_part : gj_MV yX11_part cX11_part 4 (some .boolean) 1 := ⟨⟨kd_X11_part, ini_X11, ⟨by decide, by decide⟩, by decide +kernel⟩, ki_X11_part, ks_X11_part⟩
theorem me_X11_person : gj_MV yX11_person cX11_person 4 (some .int) 2 := ⟨⟨kd_X11_person, ini_X11, ⟨by decide, by decide⟩, by decide +kernel⟩, ki_X11_person, ks_X11_person⟩
theorem me_X11_pictureAt : gj_MV yX11_pictureAt cX11_pictureAt 2 (some (.object "MayGreen$Life")) 1 := ⟨⟨kd_X11_pictureAt, ini_X11, ⟨by decide, by decide⟩, by decide +kernel⟩, ki_X11_pictureAt, ks_X11_pictureAt⟩
theorem me_X11_price : gj_MV yX11_price cX11_price 4 (some .int) 2 := ⟨⟨kd_X11_price, ini_X11, ⟨by decide, by decide⟩, by decide +kernel⟩, ki_X11_price, ks_X11_price⟩
theorem me_X11_refuse : gj_MV yX11_refuse cX11_refuse 2 (some .boolean) 1 := ⟨⟨kd_X11_refuse, ini_X11, ⟨by decide, by decide⟩, by decide +kernel⟩, ki_X11_refuse, ks_X11_refuse⟩
theorem me_X11_seed : gj_MV yX11_seed cX11_seed 2 (some .boolean) 1 := ⟨⟨kd_X11_seed, ini_X11, ⟨by decide, by decide⟩, by decide +kernel⟩, ki_X11_seed, ks_X11_seed⟩
theorem me_X11_shown : gj_MV yX11_shown cX11_shown 10 (some .int) 3 := ⟨⟨kd_X11_shown, ini_X11, ⟨by decide, by decide⟩, by decide +kernel⟩, ki_X11_shown, ks_X11_shown⟩
theorem me_X11_silent : gj_MV yX11_silent cX11_silent 4 (some .int) 2 := ⟨⟨kd_X11_silent, ini_X11, ⟨by decide, by decide⟩, by decide +kernel⟩, ki_X11_silent, ks_X11_silent⟩
theorem me_X11_sooner : gj_MV yX11_sooner cX11_sooner 7 (some .int) 3 := ⟨⟨kd_X11_sooner, ini_X11, ⟨by decide, by decide⟩, by decide +kernel⟩, ki_X11_sooner, ks_X11_sooner⟩
theorem me_X11_status : gj_MV yX11_status cX11_status 2 (some .int) 1 := ⟨⟨kd_X11_status, ini_X11, ⟨by decide, by decide⟩, by decide +kernel⟩, ki_X11_status, ks_X11_status⟩
theorem me_X11_think : gj_MV yX11_think cX11_think 7 (some .int) 3 := ⟨⟨kd_X11_think, ini_X11, ⟨by decide, by decide⟩, by decide +kernel⟩, ki_X11_think, ks_X11_think⟩
theorem me_X11_two : gj_MV yX11_two cX11_two 7 (some .int) 3 := ⟨⟨kd_X11_two, ini_X11, ⟨by decide, by decide⟩, by decide +kernel⟩, ki_X11_two, ks_X11_two⟩
theorem me_X11_village : gj_MV yX11_village cX11_village 1 (some .int) 0 := ⟨⟨kd_X11_village, ini_X11, ⟨by decide, by decide⟩, by decide +kernel⟩, ki_X11_village, ks_X11_village⟩
theorem me_X11_waits : gj_MV yX11_waits cX11_waits 9 (some .int) 3 := ⟨⟨kd_X11_waits, ini_X11, ⟨by decide, by decide⟩, by decide +kernel⟩, ki_X11_waits, ks_X11_waits⟩
theorem me_X11_way : gj_MV yX11_way cX11_way 2 (some .boolean) 1 := ⟨⟨kd_X11_way, ini_X11, ⟨by decide, by decide⟩, by decide +kernel⟩, ki_X11_way, ks_X11_way⟩
theorem me_X12_act : gj_MV yX12_act cX12_act 6 (some .int) 3 := ⟨⟨kd_X12_act, ini_X12, ⟨by decide, by decide⟩, by decide +kernel⟩, ki_X12_act, ks_X12_act⟩
theorem me_X12_areMays : gj_MS yX12_areMays cX12_areMays 1 (some .boolean) 1 := ⟨⟨kd_X12_areMays, ini_X12, ⟨by decide, by decide⟩, by decide +kernel⟩, kt_X12_areMays⟩
theorem me_X12_areTwo : gj_MS yX12_areTwo cX12_areTwo 2 (some .boolean) 2 := ⟨⟨kd_X12_areTwo, ini_X12, ⟨by decide, by decide⟩, by decide +kernel⟩, kt_X12_areTwo⟩
theorem me_X12_asked : gj_MV yX12_asked cX12_asked 3 none 0 := ⟨⟨kd_X12_asked, ini_X12, ⟨by decide, by decide⟩, by decide +kernel⟩, ki_X12_asked, ks_X12_asked⟩
theorem me_X12_asks : gj_MV yX12_asks cX12_asks 8 none 1 := ⟨⟨kd_X12_asks, ini_X12, ⟨by decide, by decide⟩, by decide +kernel⟩, ki_X12_asks, ks_X12_asks⟩
theorem me_X12_bar : gj_MV yX12_bar cX12_bar 10 (some .int) 4 := ⟨⟨kd_X12_bar, ini_X12, ⟨by decide, by decide⟩, by decide +kernel⟩, ki_X12_bar, ks_X12_bar⟩
theorem me_X12_best : gj_MV yX12_best cX12_best 6 (some .int) 3 := ⟨⟨kd_X12_best, ini_X12, ⟨by decide, by decide⟩, by decide +kernel⟩, ki_X12_best, ks_X12_best⟩
theorem me_X12_bestOf : gj_MV yX12_bestOf cX12_bestOf 3 (some .int) 2 := ⟨⟨kd_X12_bestOf, ini_X12, ⟨by decide, by decide⟩, by decide +kernel⟩, ki_X12_bestOf, ks_X12_bestOf⟩
theorem me_X12_between : gj_MV yX12_between cX12_between 4 (some .boolean) 3 := ⟨⟨kd_X12_between, ini_X12, ⟨by decide, by decide⟩, by decide +kernel⟩, ki_X12_between, ks_X12_between⟩
theorem me_X12_blocks : gj_MV yX12_blocks cX12_blocks 5 (some .int) 1 := ⟨⟨kd_X12_blocks, ini_X12, ⟨by decide, by decide⟩, by decide +kernel⟩, ki_X12_blocks, ks_X12_blocks⟩
theorem me_X12_both : gj_MV yX12_both cX12_both 3 (some .boolean) 2 := ⟨⟨kd_X12_both, ini_X12, ⟨by decide, by decide⟩, by decide +kernel⟩, ki_X12_both, ks_X12_both⟩
theorem me_X12_by : gj_MV yX12_by cX12_by 6 (some .int) 4 := ⟨⟨kd_X12_by, ini_X12, ⟨by decide, by decide⟩, by decide +kernel⟩, ki_X12_by, ks_X12_by⟩
theorem me_X12_byLot : gj_MV yX12_byLot cX12_byLot 5 none 0 := ⟨⟨kd_X12_byLot, ini_X12, ⟨by decide, by decide⟩, by decide +kernel⟩, ki_X12_byLot, ks_X12_byLot⟩
theorem me_X12_closes : gj_MV yX12_closes cX12_closes 1 (some .boolean) 0 := ⟨⟨kd_X12_closes, ini_X12, ⟨by decide, by decide⟩, by decide +kernel⟩, ki_X12_closes, ks_X12_closes⟩
theorem me_X12_copies : gj_MS yX12_copies cX12_copies 2 none 1 := ⟨⟨kd_X12_copies, ini_X12, ⟨by decide, by decide⟩, by decide +kernel⟩, kt_X12_copies⟩
theorem me_X12_count : gj_MV yX12_count cX12_count 2 (some .int) 1 := ⟨⟨kd_X12_count, ini_X12, ⟨by decide, by decide⟩, by decide +kernel⟩, ki_X12_count, ks_X12_count⟩
theorem me_X12_coupleOf : gj_MS yX12_coupleOf cX12_coupleOf 2 (some .int) 2 := ⟨⟨kd_X12_coupleOf, ini_X12, ⟨by decide, by decide⟩, by decide +kernel⟩, kt_X12_coupleOf⟩
theorem me_X12_deny : gj_MV yX12_deny cX12_deny 2 (some .boolean) 1 := ⟨⟨kd_X12_deny, ini_X12, ⟨by decide, by decide⟩, by decide +kernel⟩, ki_X12_deny, ks_X12_deny⟩
theorem me_X12_earned : gj_MV yX12_earned cX12_earned 3 (some .int) 1 := ⟨⟨kd_X12_earned, ini_X12, ⟨by decide, by decide⟩, by decide +kernel⟩, ki_X12_earned, ks_X12_earned⟩
theorem me_X12_end : gj_MV yX12_end cX12_end 2 (some .boolean) 1 := ⟨⟨kd_X12_end, ini_X12, ⟨by decide, by decide⟩, by decide +kernel⟩, ki_X12_end, ks_X12_end⟩
theorem me_X12_fault : gj_MV yX12_fault cX12_fault 1 (some .int) 0 := ⟨⟨kd_X12_fault, ini_X12, ⟨by decide, by decide⟩, by decide +kernel⟩, ki_X12_fault, ks_X12_fault⟩
theorem me_X12_feed : gj_MV yX12_feed cX12_feed 6 (some .int) 5 := ⟨⟨kd_X12_feed, ini_X12, ⟨by decide, by decide⟩, by decide +kernel⟩, ki_X12_feed, ks_X12_feed⟩
theorem me_X12_feeds : gj_MV yX12_feeds cX12_feeds 3 none 1 := ⟨⟨kd_X12_feeds, ini_X12, ⟨by decide, by decide⟩, by decide +kernel⟩, ki_X12_feeds, ks_X12_feeds⟩
theorem me_X12_findsParents : gj_MV yX12_findsParents cX12_findsParents 2 none 0 := ⟨⟨kd_X12_findsParents, ini_X12, ⟨by decide, by decide⟩, by decide +kernel⟩, ki_X12_findsParents, ks_X12_findsParents⟩
theorem me_X12_fitRead : gj_MV yX12_fitRead cX12_fitRead 3 (some .boolean) 0 := ⟨⟨kd_X12_fitRead, ini_X12, ⟨by decide, by decide⟩, by decide +kernel⟩, ki_X12_fitRead, ks_X12_fitRead⟩
theorem me_X12_found : gj_MV yX12_found cX12_found 5 (some .int) 0 := ⟨⟨kd_X12_found, ini_X12, ⟨by decide, by decide⟩, by decide +kernel⟩, ki_X12_found, ks_X12_found⟩
theorem me_X12_gives : gj_MV yX12_gives cX12_gives 3 none 2 := ⟨⟨kd_X12_gives, ini_X12, ⟨by decide, by decide⟩, by decide +kernel⟩, ki_X12_gives, ks_X12_gives⟩
theorem me_X12_goes : gj_MV yX12_goes cX12_goes 3 none 1 := ⟨⟨kd_X12_goes, ini_X12, ⟨by decide, by decide⟩, by decide +kernel⟩, ki_X12_goes, ks_X12_goes⟩
theorem me_X12_green : gj_MV yX12_green cX12_green 5 (some .int) 2 := ⟨⟨kd_X12_green, ini_X12, ⟨by decide, by decide⟩, by decide +kernel⟩, ki_X12_green, ks_X12_green⟩
theorem me_X12_image : gj_MV yX12_image cX12_image 2 (some .boolean) 1 := ⟨⟨kd_X12_image, ini_X12, ⟨by decide, by decide⟩, by decide +kernel⟩, ki_X12_image, ks_X12_image⟩
theorem me_X12_in : gj_MS yX12_in cX12_in 6 (some .boolean) 3 := ⟨⟨kd_X12_in, ini_X12, ⟨by decide, by decide⟩, by decide +kernel⟩, kt_X12_in⟩
theorem me_X12_inTurn : gj_MV yX12_inTurn cX12_inTurn 4 none 0 := ⟨⟨kd_X12_inTurn, ini_X12, ⟨by decide, by decide⟩, by decide +kernel⟩, ki_X12_inTurn, ks_X12_inTurn⟩
theorem me_X12_init : gj_MI yX12_init cX12_init 1 0 := ⟨⟨kd_X12_init, ini_X12, ⟨by decide, by decide⟩, by decide +kernel⟩, ki_X12_init, rfl⟩
theorem me_X12_into : gj_MV yX12_into cX12_into 6 (some .boolean) 4 := ⟨⟨kd_X12_into, ini_X12, ⟨by decide, by decide⟩, by decide +kernel⟩, ki_X12_into, ks_X12_into⟩
theorem me_X12_isFree : gj_MV yX12_isFree cX12_isFree 3 (some .boolean) 2 := ⟨⟨kd_X12_isFree, ini_X12, ⟨by decide, by decide⟩, by decide +kernel⟩, ki_X12_isFree, ks_X12_isFree⟩
theorem me_X12_isSilent : gj_MV yX12_isSilent cX12_isSilent 4 (some .boolean) 2 := ⟨⟨kd_X12_isSilent, ini_X12, ⟨by decide, by decide⟩, by decide +kernel⟩, ki_X12_isSilent, ks_X12_isSilent⟩
theorem me_X12_isSooner : gj_MV yX12_isSooner cX12_isSooner 6 (some .boolean) 3 := ⟨⟨kd_X12_isSooner, ini_X12, ⟨by decide, by decide⟩, by decide +kernel⟩, ki_X12_isSooner, ks_X12_isSooner⟩
theorem me_X12_join : gj_MV yX12_join cX12_join 5 (some .boolean) 2 := ⟨⟨kd_X12_join, ini_X12, ⟨by decide, by decide⟩, by decide +kernel⟩, ki_X12_join, ks_X12_join⟩
theorem me_X12_joins : gj_MV yX12_joins cX12_joins 3 none 2 := ⟨⟨kd_X12_joins, ini_X12, ⟨by decide, by decide⟩, by decide +kernel⟩, ki_X12_joins, ks_X12_joins⟩
theorem me_X12_lays : gj_MV yX12_lays cX12_lays 5 none 1 := ⟨⟨kd_X12_lays, ini_X12, ⟨by decide, by decide⟩, by decide +kernel⟩, ki_X12_lays, ks_X12_lays⟩
theorem me_X12_life : gj_MV yX12_life cX12_life 4 (some .int) 2 := ⟨⟨kd_X12_life, ini_X12, ⟨by decide, by decide⟩, by decide +kernel⟩, ki_X12_life, ks_X12_life⟩
theorem me_X12_lifeOf : gj_MV yX12_lifeOf cX12_lifeOf 5 (some .int) 2 := ⟨⟨kd_X12_lifeOf, ini_X12, ⟨by decide, by decide⟩, by decide +kernel⟩, ki_X12_lifeOf, ks_X12_lifeOf⟩
theorem me_X12_likes : gj_MV yX12_likes cX12_likes 4 (some .int) 3 := ⟨⟨kd_X12_likes, ini_X12, ⟨by decide, by decide⟩, by decide +kernel⟩, ki_X12_likes, ks_X12_likes⟩
theorem me_X12_likesNow : gj_MV yX12_likesNow cX12_likesNow 3 (some .int) 2 := ⟨⟨kd_X12_likesNow, ini_X12, ⟨by decide, by decide⟩, by decide +kernel⟩, ki_X12_likesNow, ks_X12_likesNow⟩
theorem me_X12_liking : gj_MV yX12_liking cX12_liking 5 (some .int) 2 := ⟨⟨kd_X12_liking, ini_X12, ⟨by decide, by decide⟩, by decide +kernel⟩, ki_X12_liking, ks_X12_liking⟩
theorem me_X12_line : gj_MV yX12_line cX12_line 2 (some .boolean) 0 := ⟨⟨kd_X12_line, ini_X12, ⟨by decide, by decide⟩, by decide +kernel⟩, ki_X12_line, ks_X12_line⟩
theorem me_X12_lives : gj_MV yX12_lives cX12_lives 6 none 1 := ⟨⟨kd_X12_lives, ini_X12, ⟨by decide, by decide⟩, by decide +kernel⟩, ki_X12_lives, ks_X12_lives⟩
theorem me_X12_log : gj_MV yX12_log cX12_log 3 (some .int) 2 := ⟨⟨kd_X12_log, ini_X12, ⟨by decide, by decide⟩, by decide +kernel⟩, ki_X12_log, ks_X12_log⟩
theorem me_X12_lot : gj_MV yX12_lot cX12_lot 2 (some .int) 1 := ⟨⟨kd_X12_lot, ini_X12, ⟨by decide, by decide⟩, by decide +kernel⟩, ki_X12_lot, ks_X12_lot⟩
theorem me_X12_mateOf : gj_MV yX12_mateOf cX12_mateOf 2 (some .int) 1 := ⟨⟨kd_X12_mateOf, ini_X12, ⟨by decide, by decide⟩, by decide +kernel⟩, ki_X12_mateOf, ks_X12_mateOf⟩
theorem me_X12_may : gj_MV yX12_may cX12_may 2 none 0 := ⟨⟨kd_X12_may, ini_X12, ⟨by decide, by decide⟩, by decide +kernel⟩, ki_X12_may, ks_X12_may⟩
theorem me_X12_may_ : gj_MV yX12_may_ cX12_may_ 3 (some .int) 1 := ⟨⟨kd_X12_may_, ini_X12, ⟨by decide, by decide⟩, by decide +kernel⟩, ki_X12_may_, ks_X12_may_⟩
theorem me_X12_move : gj_MV yX12_move cX12_move 5 none 3 := ⟨⟨kd_X12_move, ini_X12, ⟨by decide, by decide⟩, by decide +kernel⟩, ki_X12_move, ks_X12_move⟩
theorem me_X12_moves : gj_MV yX12_moves cX12_moves 3 none 2 := ⟨⟨kd_X12_moves, ini_X12, ⟨by decide, by decide⟩, by decide +kernel⟩, ki_X12_moves, ks_X12_moves⟩
theorem me_X12_nameHere : gj_MV yX12_nameHere cX12_nameHere 4 (some .long) 0 := ⟨⟨kd_X12_nameHere, ini_X12, ⟨by decide, by decide⟩, by decide +kernel⟩, ki_X12_nameHere, ks_X12_nameHere⟩
theorem me_X12_never : gj_MV yX12_never cX12_never 4 (some .int) 1 := ⟨⟨kd_X12_never, ini_X12, ⟨by decide, by decide⟩, by decide +kernel⟩, ki_X12_never, ks_X12_never⟩
theorem me_X12_next : gj_MV yX12_next cX12_next 1 none 0 := ⟨⟨kd_X12_next, ini_X12, ⟨by decide, by decide⟩, by decide +kernel⟩, ki_X12_next, ks_X12_next⟩
theorem me_X12_notes : gj_MV yX12_notes cX12_notes 5 none 2 := ⟨⟨kd_X12_notes, ini_X12, ⟨by decide, by decide⟩, by decide +kernel⟩, ki_X12_notes, ks_X12_notes⟩
theorem me_X12_on : gj_MV yX12_on cX12_on 2 (some .boolean) 1 := ⟨⟨kd_X12_on, ini_X12, ⟨by decide, by decide⟩, by decide +kernel⟩, ki_X12_on, ks_X12_on⟩
theorem me_X12_onceRead : gj_MV yX12_onceRead cX12_onceRead 3 (some .boolean) 1 := ⟨⟨kd_X12_onceRead, ini_X12, ⟨by decide, by decide⟩, by decide +kernel⟩, ki_X12_onceRead, ks_X12_onceRead⟩
theorem me_X12_othersMany : gj_MV yX12_othersMany cX12_othersMany 1 (some .int) 0 := ⟨⟨kd_X12_othersMany, ini_X12, ⟨by decide, by decide⟩, by decide +kernel⟩, ki_X12_othersMany, ks_X12_othersMany⟩
theorem me_X12_pairs : gj_MV yX12_pairs cX12_pairs 5 (some .int) 2 := ⟨⟨kd_X12_pairs, ini_X12, ⟨by decide, by decide⟩, by decide +kernel⟩, ki_X12_pairs, ks_X12_pairs⟩
theorem me_X12_parents : gj_MV yX12_parents cX12_parents 3 (some .int) 1 := ⟨⟨kd_X12_parents, ini_X12, ⟨by decide, by decide⟩, by decide +kernel⟩, ki_X12_parents, ks_X12_parents⟩
theorem me_X12_parentsFrom : gj_MV yX12_parentsFrom cX12_parentsFrom 4 none 1 := ⟨⟨kd_X12_parentsFrom, ini_X12, ⟨by decide, by decide⟩, by decide +kernel⟩, ki_X12_parentsFrom, ks_X12_parentsFrom⟩
theorem me_X12_part : gj_MV yX12_part cX12_part 3 (some .boolean) 1 := ⟨⟨kd_X12_part, ini_X12, ⟨by decide, by decide⟩, by decide +kernel⟩, ki_X12_part, ks_X12_part⟩
theorem me_X12_parts : gj_MV yX12_parts cX12_parts 2 none 1 := ⟨⟨kd_X12_parts, ini_X12, ⟨by decide, by decide⟩, by decide +kernel⟩, ki_X12_parts, ks_X12_parts⟩
theorem me_X12_passes : gj_MV yX12_passes cX12_passes 2 (some .boolean) 1 := ⟨⟨kd_X12_passes, ini_X12, ⟨by decide, by decide⟩, by decide +kernel⟩, ki_X12_passes, ks_X12_passes⟩
theorem me_X12_person : gj_MV yX12_person cX12_person 4 (some .int) 2 := ⟨⟨kd_X12_person, ini_X12, ⟨by decide, by decide⟩, by decide +kernel⟩, ki_X12_person, ks_X12_person⟩
theorem me_X12_personRead : gj_MV yX12_personRead cX12_personRead 5 (some .boolean) 1 := ⟨⟨kd_X12_personRead, ini_X12, ⟨by decide, by decide⟩, by decide +kernel⟩, ki_X12_personRead, ks_X12_personRead⟩
theorem me_X12_power : gj_MS yX12_power cX12_power 5 (some .long) 2 := ⟨⟨kd_X12_power, ini_X12, ⟨by decide, by decide⟩, by decide +kernel⟩, kt_X12_power⟩
theorem me_X12_price : gj_MV yX12_price cX12_price 6 (some .int) 2 := ⟨⟨kd_X12_price, ini_X12, ⟨by decide, by decide⟩, by decide +kernel⟩, ki_X12_price, ks_X12_price⟩
theorem me_X12_reads : gj_MV yX12_reads cX12_reads 3 none 0 := ⟨⟨kd_X12_reads, ini_X12, ⟨by decide, by decide⟩, by decide +kernel⟩, ki_X12_reads, ks_X12_reads⟩
theorem me_X12_refuse : gj_MV yX12_refuse cX12_refuse 2 (some .int) 1 := ⟨⟨kd_X12_refuse, ini_X12, ⟨by decide, by decide⟩, by decide +kernel⟩, ki_X12_refuse, ks_X12_refuse⟩
theorem me_X12_seed : gj_MV yX12_seed cX12_seed 2 (some .boolean) 1 := ⟨⟨kd_X12_seed, ini_X12, ⟨by decide, by decide⟩, by decide +kernel⟩, ki_X12_seed, ks_X12_seed⟩
theorem me_X12_shown : gj_MV yX12_shown cX12_shown 6 (some .int) 3 := ⟨⟨kd_X12_shown, ini_X12, ⟨by decide, by decide⟩, by decide +kernel⟩, ki_X12_shown, ks_X12_shown⟩
theorem me_X12_shows : gj_MV yX12_shows cX12_shows 11 (some .int) 5 := ⟨⟨kd_X12_shows, ini_X12, ⟨by decide, by decide⟩, by decide +kernel⟩, ki_X12_shows, ks_X12_shows⟩
theorem me_X12_silent : gj_MV yX12_silent cX12_silent 4 (some .int) 2 := ⟨⟨kd_X12_silent, ini_X12, ⟨by decide, by decide⟩, by decide +kernel⟩, ki_X12_silent, ks_X12_silent⟩
theorem me_X12_sooner : gj_MV yX12_sooner cX12_sooner 7 (some .int) 3 := ⟨⟨kd_X12_sooner, ini_X12, ⟨by decide, by decide⟩, by decide +kernel⟩, ki_X12_sooner, ks_X12_sooner⟩
theorem me_X12_status : gj_MV yX12_status cX12_status 2 (some .int) 1 := ⟨⟨kd_X12_status, ini_X12, ⟨by decide, by decide⟩, by decide +kernel⟩, ki_X12_status, ks_X12_status⟩
theorem me_X12_sumOf : gj_MV yX12_sumOf cX12_sumOf 4 (some .int) 1 := ⟨⟨kd_X12_sumOf, ini_X12, ⟨by decide, by decide⟩, by decide +kernel⟩, ki_X12_sumOf, ks_X12_sumOf⟩
theorem me_X12_think : gj_MV yX12_think cX12_think 7 (some .int) 3 := ⟨⟨kd_X12_think, ini_X12, ⟨by decide, by decide⟩, by decide +kernel⟩, ki_X12_think, ks_X12_think⟩
theorem me_X12_thinkRead : gj_MV yX12_thinkRead cX12_thinkRead 4 (some .boolean) 0 := ⟨⟨kd_X12_thinkRead, ini_X12, ⟨by decide, by decide⟩, by decide +kernel⟩, ki_X12_thinkRead, ks_X12_thinkRead⟩
theorem me_X12_told : gj_MS yX12_told cX12_told 1 (some .int) 1 := ⟨⟨kd_X12_told, ini_X12, ⟨by decide, by decide⟩, by decide +kernel⟩, kt_X12_told⟩
theorem me_X12_toldOf : gj_MV yX12_toldOf cX12_toldOf 3 (some .int) 2 := ⟨⟨kd_X12_toldOf, ini_X12, ⟨by decide, by decide⟩, by decide +kernel⟩, ki_X12_toldOf, ks_X12_toldOf⟩
theorem me_X12_truly : gj_MV yX12_truly cX12_truly 4 (some .int) 2 := ⟨⟨kd_X12_truly, ini_X12, ⟨by decide, by decide⟩, by decide +kernel⟩, ki_X12_truly, ks_X12_truly⟩
theorem me_X12_two : gj_MS yX12_two cX12_two 2 (some .int) 2 := ⟨⟨kd_X12_two, ini_X12, ⟨by decide, by decide⟩, by decide +kernel⟩, kt_X12_two⟩
theorem me_X12_two_ : gj_MV yX12_two_ cX12_two_ 7 (some .int) 3 := ⟨⟨kd_X12_two_, ini_X12, ⟨by decide, by decide⟩, by decide +kernel⟩, ki_X12_two_, ks_X12_two_⟩
theorem me_X12_village : gj_MV yX12_village cX12_village 2 (some .int) 0 := ⟨⟨kd_X12_village, ini_X12, ⟨by decide, by decide⟩, by decide +kernel⟩, ki_X12_village, ks_X12_village⟩
theorem me_X12_waits : gj_MV yX12_waits cX12_waits 8 (some .int) 3 := ⟨⟨kd_X12_waits, ini_X12, ⟨by decide, by decide⟩, by decide +kernel⟩, ki_X12_waits, ks_X12_waits⟩
theorem me_X12_way : gj_MV yX12_way cX12_way 2 (some .boolean) 1 := ⟨⟨kd_X12_way, ini_X12, ⟨by decide, by decide⟩, by decide +kernel⟩, ki_X12_way, ks_X12_way⟩
theorem me_X12_who : gj_MV yX12_who cX12_who 3 (some .int) 1 := ⟨⟨kd_X12_who, ini_X12, ⟨by decide, by decide⟩, by decide +kernel⟩, ki_X12_who, ks_X12_who⟩
theorem me_X12_with : gj_MV yX12_with cX12_with 11 (some .int) 3 := ⟨⟨kd_X12_with, ini_X12, ⟨by decide, by decide⟩, by decide +kernel⟩, ki_X12_with, ks_X12_with⟩
theorem me_X12_wordHere : gj_MV yX12_wordHere cX12_wordHere 4 (some .int) 0 := ⟨⟨kd_X12_wordHere, ini_X12, ⟨by decide, by decide⟩, by decide +kernel⟩, ki_X12_wordHere, ks_X12_wordHere⟩
theorem me_X12_worth : gj_MV yX12_worth cX12_worth 8 (some .int) 3 := ⟨⟨kd_X12_worth, ini_X12, ⟨by decide, by decide⟩, by decide +kernel⟩, ki_X12_worth, ks_X12_worth⟩
theorem me_X12_would : gj_MV yX12_would cX12_would 3 (some .boolean) 2 := ⟨⟨kd_X12_would, ini_X12, ⟨by decide, by decide⟩, by decide +kernel⟩, ki_X12_would, ks_X12_would⟩
theorem me_X1_add : gj_MV yX1_add cX1_add 7 none 5 := ⟨⟨kd_X1_add, ini_X1, ⟨by decide, by decide⟩, by decide +kernel⟩, ki_X1_add, ks_X1_add⟩
theorem me_X1_clear : gj_MV yX1_clear cX1_clear 1 none 0 := ⟨⟨kd_X1_clear, ini_X1, ⟨by decide, by decide⟩, by decide +kernel⟩, ki_X1_clear, ks_X1_clear⟩
theorem me_X1_copyOf : gj_MV yX1_copyOf cX1_copyOf 2 none 1 := ⟨⟨kd_X1_copyOf, ini_X1, ⟨by decide, by decide⟩, by decide +kernel⟩, ki_X1_copyOf, ks_X1_copyOf⟩
theorem me_X1_init : gj_MI yX1_init cX1_init 1 0 := ⟨⟨kd_X1_init, ini_X1, ⟨by decide, by decide⟩, by decide +kernel⟩, ki_X1_init, rfl⟩
theorem me_X1_size : gj_MV yX1_size cX1_size 1 (some .int) 0 := ⟨⟨kd_X1_size, ini_X1, ⟨by decide, by decide⟩, by decide +kernel⟩, ki_X1_size, ks_X1_size⟩
theorem me_X1_tell : gj_MV yX1_tell cX1_tell 3 (some .int) 2 := ⟨⟨kd_X1_tell, ini_X1, ⟨by decide, by decide⟩, by decide +kernel⟩, ki_X1_tell, ks_X1_tell⟩
theorem me_X2_ask : gj_MV yX2_ask cX2_ask 4 none 2 := ⟨⟨kd_X2_ask, ini_X2, ⟨by decide, by decide⟩, by decide +kernel⟩, ki_X2_ask, ks_X2_ask⟩
theorem me_X2_askAll : gj_MV yX2_askAll cX2_askAll 4 none 1 := ⟨⟨kd_X2_askAll, ini_X2, ⟨by decide, by decide⟩, by decide +kernel⟩, ki_X2_askAll, ks_X2_askAll⟩
theorem me_X2_canMeet : gj_MV yX2_canMeet cX2_canMeet 3 (some .boolean) 2 := ⟨⟨kd_X2_canMeet, ini_X2, ⟨by decide, by decide⟩, by decide +kernel⟩, ki_X2_canMeet, ks_X2_canMeet⟩
theorem me_X2_drawLots : gj_MV yX2_drawLots cX2_drawLots 4 none 0 := ⟨⟨kd_X2_drawLots, ini_X2, ⟨by decide, by decide⟩, by decide +kernel⟩, ki_X2_drawLots, ks_X2_drawLots⟩
theorem me_X2_gather : gj_MV yX2_gather cX2_gather 4 none 1 := ⟨⟨kd_X2_gather, ini_X2, ⟨by decide, by decide⟩, by decide +kernel⟩, ki_X2_gather, ks_X2_gather⟩
theorem me_X2_init : gj_MI yX2_init cX2_init 3 2 := ⟨⟨kd_X2_init, ini_X2, ⟨by decide, by decide⟩, by decide +kernel⟩, ki_X2_init, rfl⟩
theorem me_X2_isBetter : gj_MV yX2_isBetter cX2_isBetter 4 (some .boolean) 2 := ⟨⟨kd_X2_isBetter, ini_X2, ⟨by decide, by decide⟩, by decide +kernel⟩, ki_X2_isBetter, ks_X2_isBetter⟩
theorem me_X2_isLeftFor : gj_MV yX2_isLeftFor cX2_isLeftFor 3 (some .boolean) 2 := ⟨⟨kd_X2_isLeftFor, ini_X2, ⟨by decide, by decide⟩, by decide +kernel⟩, ki_X2_isLeftFor, ks_X2_isLeftFor⟩
theorem me_X2_likes : gj_MV yX2_likes cX2_likes 3 (some .int) 2 := ⟨⟨kd_X2_likes, ini_X2, ⟨by decide, by decide⟩, by decide +kernel⟩, ki_X2_likes, ks_X2_likes⟩
theorem me_X2_likingOf : gj_MV yX2_likingOf cX2_likingOf 8 (some .int) 3 := ⟨⟨kd_X2_likingOf, ini_X2, ⟨by decide, by decide⟩, by decide +kernel⟩, ki_X2_likingOf, ks_X2_likingOf⟩
theorem me_X2_look : gj_MV yX2_look cX2_look 4 none 1 := ⟨⟨kd_X2_look, ini_X2, ⟨by decide, by decide⟩, by decide +kernel⟩, ki_X2_look, ks_X2_look⟩
theorem me_X2_openOne : gj_MV yX2_openOne cX2_openOne 5 (some .int) 2 := ⟨⟨kd_X2_openOne, ini_X2, ⟨by decide, by decide⟩, by decide +kernel⟩, ki_X2_openOne, ks_X2_openOne⟩
theorem me_X2_pairUp : gj_MV yX2_pairUp cX2_pairUp 2 none 1 := ⟨⟨kd_X2_pairUp, ini_X2, ⟨by decide, by decide⟩, by decide +kernel⟩, ki_X2_pairUp, ks_X2_pairUp⟩
theorem me_X2_soonerOf : gj_MV yX2_soonerOf cX2_soonerOf 6 (some .boolean) 3 := ⟨⟨kd_X2_soonerOf, ini_X2, ⟨by decide, by decide⟩, by decide +kernel⟩, ki_X2_soonerOf, ks_X2_soonerOf⟩
theorem me_X2_soonestToAsk : gj_MV yX2_soonestToAsk cX2_soonestToAsk 6 (some .int) 1 := ⟨⟨kd_X2_soonestToAsk, ini_X2, ⟨by decide, by decide⟩, by decide +kernel⟩, ki_X2_soonestToAsk, ks_X2_soonestToAsk⟩
theorem me_X2_takeTurns : gj_MV yX2_takeTurns cX2_takeTurns 4 none 0 := ⟨⟨kd_X2_takeTurns, ini_X2, ⟨by decide, by decide⟩, by decide +kernel⟩, ki_X2_takeTurns, ks_X2_takeTurns⟩
theorem me_X2_tie : gj_MV yX2_tie cX2_tie 3 none 2 := ⟨⟨kd_X2_tie, ini_X2, ⟨by decide, by decide⟩, by decide +kernel⟩, ki_X2_tie, ks_X2_tie⟩
theorem me_X2_would : gj_MV yX2_would cX2_would 3 (some .boolean) 2 := ⟨⟨kd_X2_would, ini_X2, ⟨by decide, by decide⟩, by decide +kernel⟩, ki_X2_would, ks_X2_would⟩
theorem me_X2_wouldSooner : gj_MV yX2_wouldSooner cX2_wouldSooner 3 (some .boolean) 2 := ⟨⟨kd_X2_wouldSooner, ini_X2, ⟨by decide, by decide⟩, by decide +kernel⟩, ki_X2_wouldSooner, ks_X2_wouldSooner⟩
theorem me_X3_arePair : gj_MV yX3_arePair cX3_arePair 3 (some .boolean) 2 := ⟨⟨kd_X3_arePair, ini_X3, ⟨by decide, by decide⟩, by decide +kernel⟩, ki_X3_arePair, ks_X3_arePair⟩
theorem me_X3_begin : gj_MV yX3_begin cX3_begin 1 none 0 := ⟨⟨kd_X3_begin, ini_X3, ⟨by decide, by decide⟩, by decide +kernel⟩, ki_X3_begin, ks_X3_begin⟩
theorem me_X3_bind : gj_MV yX3_bind cX3_bind 3 none 2 := ⟨⟨kd_X3_bind, ini_X3, ⟨by decide, by decide⟩, by decide +kernel⟩, ki_X3_bind, ks_X3_bind⟩
theorem me_X3_copyOf : gj_MV yX3_copyOf cX3_copyOf 2 none 1 := ⟨⟨kd_X3_copyOf, ini_X3, ⟨by decide, by decide⟩, by decide +kernel⟩, ki_X3_copyOf, ks_X3_copyOf⟩
theorem me_X3_earn : gj_MV yX3_earn cX3_earn 3 none 2 := ⟨⟨kd_X3_earn, ini_X3, ⟨by decide, by decide⟩, by decide +kernel⟩, ki_X3_earn, ks_X3_earn⟩
theorem me_X3_free : gj_MV yX3_free cX3_free 2 none 1 := ⟨⟨kd_X3_free, ini_X3, ⟨by decide, by decide⟩, by decide +kernel⟩, ki_X3_free, ks_X3_free⟩
theorem me_X3_haveTried : gj_MV yX3_haveTried cX3_haveTried 2 (some .boolean) 1 := ⟨⟨kd_X3_haveTried, ini_X3, ⟨by decide, by decide⟩, by decide +kernel⟩, ki_X3_haveTried, ks_X3_haveTried⟩
theorem me_X3_init : gj_MI yX3_init cX3_init 1 0 := ⟨⟨kd_X3_init, ini_X3, ⟨by decide, by decide⟩, by decide +kernel⟩, ki_X3_init, rfl⟩
theorem me_X3_loosen : gj_MV yX3_loosen cX3_loosen 3 none 2 := ⟨⟨kd_X3_loosen, ini_X3, ⟨by decide, by decide⟩, by decide +kernel⟩, ki_X3_loosen, ks_X3_loosen⟩
theorem me_X3_lot : gj_MV yX3_lot cX3_lot 2 (some .int) 1 := ⟨⟨kd_X3_lot, ini_X3, ⟨by decide, by decide⟩, by decide +kernel⟩, ki_X3_lot, ks_X3_lot⟩
theorem me_X3_pairsOf : gj_MV yX3_pairsOf cX3_pairsOf 4 (some .int) 1 := ⟨⟨kd_X3_pairsOf, ini_X3, ⟨by decide, by decide⟩, by decide +kernel⟩, ki_X3_pairsOf, ks_X3_pairsOf⟩
theorem me_X4_bestAct : gj_MV yX4_bestAct cX4_bestAct 8 (some .int) 1 := ⟨⟨kd_X4_bestAct, ini_X4, ⟨by decide, by decide⟩, by decide +kernel⟩, ki_X4_bestAct, ks_X4_bestAct⟩
theorem me_X4_bestWorth : gj_MV yX4_bestWorth cX4_bestWorth 2 (some .long) 1 := ⟨⟨kd_X4_bestWorth, ini_X4, ⟨by decide, by decide⟩, by decide +kernel⟩, ki_X4_bestWorth, ks_X4_bestWorth⟩
theorem me_X4_doing : gj_MV yX4_doing cX4_doing 18 (some .long) 4 := ⟨⟨kd_X4_doing, ini_X4, ⟨by decide, by decide⟩, by decide +kernel⟩, ki_X4_doing, ks_X4_doing⟩
theorem me_X4_enter : gj_MV yX4_enter cX4_enter 4 none 1 := ⟨⟨kd_X4_enter, ini_X4, ⟨by decide, by decide⟩, by decide +kernel⟩, ki_X4_enter, ks_X4_enter⟩
theorem me_X4_init : gj_MI yX4_init cX4_init 3 2 := ⟨⟨kd_X4_init, ini_X4, ⟨by decide, by decide⟩, by decide +kernel⟩, ki_X4_init, rfl⟩
theorem me_X4_isShut : gj_MV yX4_isShut cX4_isShut 2 (some .boolean) 1 := ⟨⟨kd_X4_isShut, ini_X4, ⟨by decide, by decide⟩, by decide +kernel⟩, ki_X4_isShut, ks_X4_isShut⟩
theorem me_X4_leastCow : gj_MV yX4_leastCow cX4_leastCow 9 (some .int) 1 := ⟨⟨kd_X4_leastCow, ini_X4, ⟨by decide, by decide⟩, by decide +kernel⟩, ki_X4_leastCow, ks_X4_leastCow⟩
theorem me_X4_leastGood : gj_MV yX4_leastGood cX4_leastGood 5 (some .int) 3 := ⟨⟨kd_X4_leastGood, ini_X4, ⟨by decide, by decide⟩, by decide +kernel⟩, ki_X4_leastGood, ks_X4_leastGood⟩
theorem me_X4_shutOut : gj_MV yX4_shutOut cX4_shutOut 2 none 1 := ⟨⟨kd_X4_shutOut, ini_X4, ⟨by decide, by decide⟩, by decide +kernel⟩, ki_X4_shutOut, ks_X4_shutOut⟩
theorem me_X4_stays : gj_MV yX4_stays cX4_stays 2 (some .boolean) 1 := ⟨⟨kd_X4_stays, ini_X4, ⟨by decide, by decide⟩, by decide +kernel⟩, ki_X4_stays, ks_X4_stays⟩
theorem me_X4_worthOf : gj_MV yX4_worthOf cX4_worthOf 7 (some .long) 3 := ⟨⟨kd_X4_worthOf, ini_X4, ⟨by decide, by decide⟩, by decide +kernel⟩, ki_X4_worthOf, ks_X4_worthOf⟩
theorem me_X4_worthOfAct : gj_MV yX4_worthOfAct cX4_worthOfAct 3 (some .long) 2 := ⟨⟨kd_X4_worthOfAct, ini_X4, ⟨by decide, by decide⟩, by decide +kernel⟩, ki_X4_worthOfAct, ks_X4_worthOfAct⟩
theorem me_X5_clear : gj_MV yX5_clear cX5_clear 1 none 0 := ⟨⟨kd_X5_clear, ini_X5, ⟨by decide, by decide⟩, by decide +kernel⟩, ki_X5_clear, ks_X5_clear⟩
theorem me_X5_gain : gj_MV yX5_gain cX5_gain 5 (some .int) 3 := ⟨⟨kd_X5_gain, ini_X5, ⟨by decide, by decide⟩, by decide +kernel⟩, ki_X5_gain, ks_X5_gain⟩
theorem me_X5_goodNext : gj_MV yX5_goodNext cX5_goodNext 10 (some .int) 3 := ⟨⟨kd_X5_goodNext, ini_X5, ⟨by decide, by decide⟩, by decide +kernel⟩, ki_X5_goodNext, ks_X5_goodNext⟩
theorem me_X5_init : gj_MI yX5_init cX5_init 1 0 := ⟨⟨kd_X5_init, ini_X5, ⟨by decide, by decide⟩, by decide +kernel⟩, ki_X5_init, rfl⟩
theorem me_X5_isPerson : gj_MV yX5_isPerson cX5_isPerson 2 (some .boolean) 1 := ⟨⟨kd_X5_isPerson, ini_X5, ⟨by decide, by decide⟩, by decide +kernel⟩, ki_X5_isPerson, ks_X5_isPerson⟩
theorem me_X5_oddsOf : gj_MS yX5_oddsOf cX5_oddsOf 6 (some .long) 3 := ⟨⟨kd_X5_oddsOf, ini_X5, ⟨by decide, by decide⟩, by decide +kernel⟩, kt_X5_oddsOf⟩
theorem me_X5_otherAfter : gj_MV yX5_otherAfter cX5_otherAfter 4 (some .long) 3 := ⟨⟨kd_X5_otherAfter, ini_X5, ⟨by decide, by decide⟩, by decide +kernel⟩, ki_X5_otherAfter, ks_X5_otherAfter⟩
theorem me_X5_reckonShown : gj_MV yX5_reckonShown cX5_reckonShown 4 none 0 := ⟨⟨kd_X5_reckonShown, ini_X5, ⟨by decide, by decide⟩, by decide +kernel⟩, ki_X5_reckonShown, ks_X5_reckonShown⟩
theorem me_X5_rightAfter : gj_MV yX5_rightAfter cX5_rightAfter 4 (some .long) 3 := ⟨⟨kd_X5_rightAfter, ini_X5, ⟨by decide, by decide⟩, by decide +kernel⟩, ki_X5_rightAfter, ks_X5_rightAfter⟩
theorem me_X5_shownGood : gj_MV yX5_shownGood cX5_shownGood 4 (some .int) 3 := ⟨⟨kd_X5_shownGood, ini_X5, ⟨by decide, by decide⟩, by decide +kernel⟩, ki_X5_shownGood, ks_X5_shownGood⟩
theorem me_X5_shownRight : gj_MV yX5_shownRight cX5_shownRight 8 (some .int) 3 := ⟨⟨kd_X5_shownRight, ini_X5, ⟨by decide, by decide⟩, by decide +kernel⟩, ki_X5_shownRight, ks_X5_shownRight⟩
theorem me_X5_slotOf : gj_MV yX5_slotOf cX5_slotOf 2 (some .int) 1 := ⟨⟨kd_X5_slotOf, ini_X5, ⟨by decide, by decide⟩, by decide +kernel⟩, ki_X5_slotOf, ks_X5_slotOf⟩
theorem me_X5_stands : gj_MV yX5_stands cX5_stands 1 (some .boolean) 0 := ⟨⟨kd_X5_stands, ini_X5, ⟨by decide, by decide⟩, by decide +kernel⟩, ki_X5_stands, ks_X5_stands⟩
theorem me_X5_sumOf : gj_MV yX5_sumOf cX5_sumOf 6 (some .int) 2 := ⟨⟨kd_X5_sumOf, ini_X5, ⟨by decide, by decide⟩, by decide +kernel⟩, ki_X5_sumOf, ks_X5_sumOf⟩
theorem me_X5_take : gj_MV yX5_take cX5_take 2 none 1 := ⟨⟨kd_X5_take, ini_X5, ⟨by decide, by decide⟩, by decide +kernel⟩, ki_X5_take, ks_X5_take⟩
theorem me_X5_trueYear : gj_MV yX5_trueYear cX5_trueYear 4 (some .int) 2 := ⟨⟨kd_X5_trueYear, ini_X5, ⟨by decide, by decide⟩, by decide +kernel⟩, ki_X5_trueYear, ks_X5_trueYear⟩
theorem me_X5_yearSum : gj_MV yX5_yearSum cX5_yearSum 4 (some .int) 1 := ⟨⟨kd_X5_yearSum, ini_X5, ⟨by decide, by decide⟩, by decide +kernel⟩, ki_X5_yearSum, ks_X5_yearSum⟩
theorem me_X6_firstTold : gj_MV yX6_firstTold cX6_firstTold 2 (some .boolean) 1 := ⟨⟨kd_X6_firstTold, ini_X6, ⟨by decide, by decide⟩, by decide +kernel⟩, ki_X6_firstTold, ks_X6_firstTold⟩
theorem me_X6_init : gj_MI yX6_init cX6_init 3 2 := ⟨⟨kd_X6_init, ini_X6, ⟨by decide, by decide⟩, by decide +kernel⟩, ki_X6_init, rfl⟩
theorem me_X6_isBlank : gj_MS yX6_isBlank cX6_isBlank 1 (some .boolean) 1 := ⟨⟨kd_X6_isBlank, ini_X6, ⟨by decide, by decide⟩, by decide +kernel⟩, kt_X6_isBlank⟩
theorem me_X6_isLineWord : gj_MV yX6_isLineWord cX6_isLineWord 1 (some .boolean) 0 := ⟨⟨kd_X6_isLineWord, ini_X6, ⟨by decide, by decide⟩, by decide +kernel⟩, ki_X6_isLineWord, ks_X6_isLineWord⟩
theorem me_X6_isWord : gj_MV yX6_isWord cX6_isWord 3 (some .boolean) 1 := ⟨⟨kd_X6_isWord, ini_X6, ⟨by decide, by decide⟩, by decide +kernel⟩, ki_X6_isWord, ks_X6_isWord⟩
theorem me_X6_kindOf : gj_MS yX6_kindOf cX6_kindOf 1 (some .int) 1 := ⟨⟨kd_X6_kindOf, ini_X6, ⟨by decide, by decide⟩, by decide +kernel⟩, kt_X6_kindOf⟩
theorem me_X6_nameHere : gj_MV yX6_nameHere cX6_nameHere 4 (some .long) 0 := ⟨⟨kd_X6_nameHere, ini_X6, ⟨by decide, by decide⟩, by decide +kernel⟩, ki_X6_nameHere, ks_X6_nameHere⟩
theorem me_X6_numberHere : gj_MV yX6_numberHere cX6_numberHere 3 (some .int) 0 := ⟨⟨kd_X6_numberHere, ini_X6, ⟨by decide, by decide⟩, by decide +kernel⟩, ki_X6_numberHere, ks_X6_numberHere⟩
theorem me_X6_read : gj_MV yX6_read cX6_read 2 (some .int) 0 := ⟨⟨kd_X6_read, ini_X6, ⟨by decide, by decide⟩, by decide +kernel⟩, ki_X6_read, ks_X6_read⟩
theorem me_X6_readAhead : gj_MV yX6_readAhead cX6_readAhead 1 (some .boolean) 0 := ⟨⟨kd_X6_readAhead, ini_X6, ⟨by decide, by decide⟩, by decide +kernel⟩, ki_X6_readAhead, ks_X6_readAhead⟩
theorem me_X6_readChild : gj_MV yX6_readChild cX6_readChild 1 (some .boolean) 0 := ⟨⟨kd_X6_readChild, ini_X6, ⟨by decide, by decide⟩, by decide +kernel⟩, ki_X6_readChild, ks_X6_readChild⟩
theorem me_X6_readCow : gj_MV yX6_readCow cX6_readCow 1 (some .boolean) 0 := ⟨⟨kd_X6_readCow, ini_X6, ⟨by decide, by decide⟩, by decide +kernel⟩, ki_X6_readCow, ks_X6_readCow⟩
theorem me_X6_readFit : gj_MV yX6_readFit cX6_readFit 4 (some .boolean) 0 := ⟨⟨kd_X6_readFit, ini_X6, ⟨by decide, by decide⟩, by decide +kernel⟩, ki_X6_readFit, ks_X6_readFit⟩
theorem me_X6_readHouse : gj_MV yX6_readHouse cX6_readHouse 1 (some .boolean) 0 := ⟨⟨kd_X6_readHouse, ini_X6, ⟨by decide, by decide⟩, by decide +kernel⟩, ki_X6_readHouse, ks_X6_readHouse⟩
theorem me_X6_readLine : gj_MV yX6_readLine cX6_readLine 1 (some .boolean) 0 := ⟨⟨kd_X6_readLine, ini_X6, ⟨by decide, by decide⟩, by decide +kernel⟩, ki_X6_readLine, ks_X6_readLine⟩
theorem me_X6_readPerson : gj_MV yX6_readPerson cX6_readPerson 6 (some .boolean) 2 := ⟨⟨kd_X6_readPerson, ini_X6, ⟨by decide, by decide⟩, by decide +kernel⟩, ki_X6_readPerson, ks_X6_readPerson⟩
theorem me_X6_readThink : gj_MV yX6_readThink cX6_readThink 4 (some .boolean) 0 := ⟨⟨kd_X6_readThink, ini_X6, ⟨by decide, by decide⟩, by decide +kernel⟩, ki_X6_readThink, ks_X6_readThink⟩
theorem me_X6_readWorth : gj_MV yX6_readWorth cX6_readWorth 1 (some .boolean) 0 := ⟨⟨kd_X6_readWorth, ini_X6, ⟨by decide, by decide⟩, by decide +kernel⟩, ki_X6_readWorth, ks_X6_readWorth⟩
theorem me_X6_scan : gj_MV yX6_scan cX6_scan 1 none 0 := ⟨⟨kd_X6_scan, ini_X6, ⟨by decide, by decide⟩, by decide +kernel⟩, ki_X6_scan, ks_X6_scan⟩
theorem me_X6_slotNamed : gj_MV yX6_slotNamed cX6_slotNamed 4 (some .int) 1 := ⟨⟨kd_X6_slotNamed, ini_X6, ⟨by decide, by decide⟩, by decide +kernel⟩, ki_X6_slotNamed, ks_X6_slotNamed⟩
theorem me_X6_takeNumber : gj_MV yX6_takeNumber cX6_takeNumber 4 (some .boolean) 2 := ⟨⟨kd_X6_takeNumber, ini_X6, ⟨by decide, by decide⟩, by decide +kernel⟩, ki_X6_takeNumber, ks_X6_takeNumber⟩
theorem me_X6_takeStop : gj_MV yX6_takeStop cX6_takeStop 1 (some .boolean) 0 := ⟨⟨kd_X6_takeStop, ini_X6, ⟨by decide, by decide⟩, by decide +kernel⟩, ki_X6_takeStop, ks_X6_takeStop⟩
theorem me_X7_at : gj_MS yX7_at cX7_at 2 (some .int) 2 := ⟨⟨kd_X7_at, ini_X7, ⟨by decide, by decide⟩, by decide +kernel⟩, kt_X7_at⟩
theorem me_X7_copy : gj_MS yX7_copy cX7_copy 3 none 2 := ⟨⟨kd_X7_copy, ini_X7, ⟨by decide, by decide⟩, by decide +kernel⟩, kt_X7_copy⟩
theorem me_X7_fill : gj_MS yX7_fill cX7_fill 3 none 2 := ⟨⟨kd_X7_fill, ini_X7, ⟨by decide, by decide⟩, by decide +kernel⟩, kt_X7_fill⟩
theorem me_X7_is : gj_MS yX7_is cX7_is 2 (some .boolean) 2 := ⟨⟨kd_X7_is, ini_X7, ⟨by decide, by decide⟩, by decide +kernel⟩, kt_X7_is⟩
theorem me_X7_mark : gj_MS yX7_mark cX7_mark 3 none 3 := ⟨⟨kd_X7_mark, ini_X7, ⟨by decide, by decide⟩, by decide +kernel⟩, kt_X7_mark⟩
theorem me_X7_put : gj_MS yX7_put cX7_put 3 none 3 := ⟨⟨kd_X7_put, ini_X7, ⟨by decide, by decide⟩, by decide +kernel⟩, kt_X7_put⟩
theorem me_X7_unmark : gj_MS yX7_unmark cX7_unmark 2 none 1 := ⟨⟨kd_X7_unmark, ini_X7, ⟨by decide, by decide⟩, by decide +kernel⟩, kt_X7_unmark⟩
theorem me_X8_askPaired : gj_MV yX8_askPaired cX8_askPaired 3 none 0 := ⟨⟨kd_X8_askPaired, ini_X8, ⟨by decide, by decide⟩, by decide +kernel⟩, ki_X8_askPaired, ks_X8_askPaired⟩
theorem me_X8_bindNewPairs : gj_MV yX8_bindNewPairs cX8_bindNewPairs 3 none 0 := ⟨⟨kd_X8_bindNewPairs, ini_X8, ⟨by decide, by decide⟩, by decide +kernel⟩, ki_X8_bindNewPairs, ks_X8_bindNewPairs⟩
theorem me_X8_endPairs : gj_MV yX8_endPairs cX8_endPairs 3 none 0 := ⟨⟨kd_X8_endPairs, ini_X8, ⟨by decide, by decide⟩, by decide +kernel⟩, ki_X8_endPairs, ks_X8_endPairs⟩
theorem me_X8_hear : gj_MV yX8_hear cX8_hear 5 none 2 := ⟨⟨kd_X8_hear, ini_X8, ⟨by decide, by decide⟩, by decide +kernel⟩, ki_X8_hear, ks_X8_hear⟩
theorem me_X8_hold : gj_MV yX8_hold cX8_hold 1 none 0 := ⟨⟨kd_X8_hold, ini_X8, ⟨by decide, by decide⟩, by decide +kernel⟩, ki_X8_hold, ks_X8_hold⟩
theorem me_X8_init : gj_MI yX8_init cX8_init 5 4 := ⟨⟨kd_X8_init, ini_X8, ⟨by decide, by decide⟩, by decide +kernel⟩, ki_X8_init, rfl⟩
theorem me_X8_liveTogether : gj_MV yX8_liveTogether cX8_liveTogether 10 none 2 := ⟨⟨kd_X8_liveTogether, ini_X8, ⟨by decide, by decide⟩, by decide +kernel⟩, ki_X8_liveTogether, ks_X8_liveTogether⟩
theorem me_X8_passYear : gj_MV yX8_passYear cX8_passYear 3 none 0 := ⟨⟨kd_X8_passYear, ini_X8, ⟨by decide, by decide⟩, by decide +kernel⟩, ki_X8_passYear, ks_X8_passYear⟩
theorem me_X9_append : gj_MV yX9_append cX9_append 3 none 1 := ⟨⟨kd_X9_append, ini_X9, ⟨by decide, by decide⟩, by decide +kernel⟩, ki_X9_append, ks_X9_append⟩
theorem me_X9_byteAt : gj_MV yX9_byteAt cX9_byteAt 2 (some .int) 1 := ⟨⟨kd_X9_byteAt, ini_X9, ⟨by decide, by decide⟩, by decide +kernel⟩, ki_X9_byteAt, ks_X9_byteAt⟩
theorem me_X9_cutTo : gj_MV yX9_cutTo cX9_cutTo 2 none 1 := ⟨⟨kd_X9_cutTo, ini_X9, ⟨by decide, by decide⟩, by decide +kernel⟩, ki_X9_cutTo, ks_X9_cutTo⟩
theorem me_X9_hasRoomFor : gj_MV yX9_hasRoomFor cX9_hasRoomFor 2 (some .boolean) 1 := ⟨⟨kd_X9_hasRoomFor, ini_X9, ⟨by decide, by decide⟩, by decide +kernel⟩, ki_X9_hasRoomFor, ks_X9_hasRoomFor⟩
theorem me_X9_init : gj_MI yX9_init cX9_init 1 0 := ⟨⟨kd_X9_init, ini_X9, ⟨by decide, by decide⟩, by decide +kernel⟩, ki_X9_init, rfl⟩
theorem me_X9_length : gj_MV yX9_length cX9_length 1 (some .int) 0 := ⟨⟨kd_X9_length, ini_X9, ⟨by decide, by decide⟩, by decide +kernel⟩, ki_X9_length, ks_X9_length⟩
