/-! the class's row of keywords, by value -/
set_option maxRecDepth 100000 in
theorem kwd_0 : kwd 0 = 1836412517 := by decide
set_option maxRecDepth 100000 in
theorem kwd_1 : kwd 1 = 127970521019507 := by decide
set_option maxRecDepth 100000 in
theorem kwd_2 : kwd 2 = 26217 := by decide
set_option maxRecDepth 100000 in
theorem kwd_3 : kwd 3 = 29545 := by decide
set_option maxRecDepth 100000 in
theorem kwd_4 : kwd 4 = 1937008994 := by decide
set_option maxRecDepth 100000 in
theorem kwd_5 : kwd 5 = 1954047348 := by decide
set_option maxRecDepth 100000 in
theorem kwd_6 : kwd 6 = 465625706101 := by decide
set_option maxRecDepth 100000 in
theorem kwd_7 : kwd 7 = 474315583093 := by decide
set_option maxRecDepth 100000 in
theorem kwd_8 : kwd 8 = 31074 := by decide
set_option maxRecDepth 100000 in
theorem kwd_9 : kwd 9 = 1702063205 := by decide
set_option maxRecDepth 100000 in
theorem kwd_10 : kwd 10 = 28532 := by decide
set_option maxRecDepth 100000 in
theorem kwd_11 : kwd 11 = 1836020326 := by decide
set_option maxRecDepth 100000 in
theorem kwd_12 : kwd 12 = 1701995880 := by decide
set_option maxRecDepth 100000 in
theorem kwd_13 : kwd 13 = 495622908276 := by decide
set_option maxRecDepth 100000 in
theorem kwd_14 : kwd 14 = 6578544 := by decide
set_option maxRecDepth 100000 in
theorem kwd_15 : kwd 15 = 426970145133 := by decide
set_option maxRecDepth 100000 in
theorem kwd_16 : kwd 16 = 7173491 := by decide
set_option maxRecDepth 100000 in
theorem kwd_17 : kwd 17 = 6579297 := by decide
set_option maxRecDepth 100000 in
theorem kwd_18 : kwd 18 = 7499640 := by decide
set_option maxRecDepth 100000 in
theorem kwd_19 : kwd 19 = 1936027247 := by decide
set_option maxRecDepth 100000 in
theorem kwd_20 : kwd 20 = 1819045746 := by decide
set_option maxRecDepth 100000 in
theorem kwd_21 : kwd 21 = 26223 := by decide
set_option maxRecDepth 100000 in
theorem kwd_22 : kwd 22 = 1952867692 := by decide
set_option maxRecDepth 100000 in
theorem kwd_23 : kwd 23 = 474214786402 := by decide
set_option maxRecDepth 100000 in
theorem kwd_24 : kwd 24 = 6581857 := by decide
set_option maxRecDepth 100000 in
theorem kwd_25 : kwd 25 = 29295 := by decide
set_option maxRecDepth 100000 in
theorem kwd_26 : kwd 26 = 7630702 := by decide
