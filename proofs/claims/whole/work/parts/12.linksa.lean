set_option maxRecDepth 100000 in
theorem tbk_1 {w : Cond} (i : Nat) (h : tables_1_1[i]? = some w) (h2 : okWord w = true) : w ∈ lw_use := List.mem_filter.mpr ⟨List.mem_append_right _ (List.mem_append_left _ (List.mem_of_getElem? h)), h2⟩
set_option maxRecDepth 100000 in
theorem tbk_2 {w : Cond} (i : Nat) (h : tables_1_2[i]? = some w) (h2 : okWord w = true) : w ∈ lw_use := List.mem_filter.mpr ⟨List.mem_append_right _ (List.mem_append_right _ (List.mem_append_left _ (List.mem_of_getElem? h))), h2⟩
set_option maxRecDepth 100000 in
theorem tbk_3 {w : Cond} (i : Nat) (h : tables_1_3[i]? = some w) (h2 : okWord w = true) : w ∈ lw_use := List.mem_filter.mpr ⟨List.mem_append_right _ (List.mem_append_right _ (List.mem_append_right _ (List.mem_append_left _ (List.mem_of_getElem? h)))), h2⟩
set_option maxRecDepth 100000 in
theorem tbk_4 {w : Cond} (i : Nat) (h : tables_1_4[i]? = some w) (h2 : okWord w = true) : w ∈ lw_use := List.mem_filter.mpr ⟨List.mem_append_right _ (List.mem_append_right _ (List.mem_append_right _ (List.mem_append_right _ (List.mem_append_left _ (List.mem_of_getElem? h))))), h2⟩
set_option maxRecDepth 100000 in
theorem tbk_5 {w : Cond} (i : Nat) (h : tables_1_5[i]? = some w) (h2 : okWord w = true) : w ∈ lw_use := List.mem_filter.mpr ⟨List.mem_append_right _ (List.mem_append_right _ (List.mem_append_right _ (List.mem_append_right _ (List.mem_append_right _ (List.mem_append_left _ (List.mem_of_getElem? h)))))), h2⟩
set_option maxRecDepth 100000 in
theorem tbk_6 {w : Cond} (i : Nat) (h : tables_1_6[i]? = some w) (h2 : okWord w = true) : w ∈ lw_use := List.mem_filter.mpr ⟨List.mem_append_right _ (List.mem_append_right _ (List.mem_append_right _ (List.mem_append_right _ (List.mem_append_right _ (List.mem_append_right _ (List.mem_append_left _ (List.mem_of_getElem? h))))))), h2⟩
set_option maxRecDepth 100000 in
theorem tbk_7 {w : Cond} (i : Nat) (h : tables_1_7[i]? = some w) (h2 : okWord w = true) : w ∈ lw_use := List.mem_filter.mpr ⟨List.mem_append_right _ (List.mem_append_right _ (List.mem_append_right _ (List.mem_append_right _ (List.mem_append_right _ (List.mem_append_right _ (List.mem_append_right _ (List.mem_append_left _ (List.mem_of_getElem? h)))))))), h2⟩
set_option maxRecDepth 100000 in
theorem tbk_8 {w : Cond} (i : Nat) (h : tables_1_8[i]? = some w) (h2 : okWord w = true) : w ∈ lw_use := List.mem_filter.mpr ⟨List.mem_append_right _ (List.mem_append_right _ (List.mem_append_right _ (List.mem_append_right _ (List.mem_append_right _ (List.mem_append_right _ (List.mem_append_right _ (List.mem_append_right _ (List.mem_append_left _ (List.mem_of_getElem? h))))))))), h2⟩
set_option maxRecDepth 100000 in
theorem tbk_9 {w : Cond} (i : Nat) (h : tables_1_9[i]? = some w) (h2 : okWord w = true) : w ∈ lw_use := List.mem_filter.mpr ⟨List.mem_append_right _ (List.mem_append_right _ (List.mem_append_right _ (List.mem_append_right _ (List.mem_append_right _ (List.mem_append_right _ (List.mem_append_right _ (List.mem_append_right _ (List.mem_append_right _ (List.mem_append_left _ (List.mem_of_getElem? h)))))))))), h2⟩
set_option maxRecDepth 100000 in
theorem tbk_10 {w : Cond} (i : Nat) (h : tables_1_10[i]? = some w) (h2 : okWord w = true) : w ∈ lw_use := List.mem_filter.mpr ⟨List.mem_append_right _ (List.mem_append_right _ (List.mem_append_right _ (List.mem_append_right _ (List.mem_append_right _ (List.mem_append_right _ (List.mem_append_right _ (List.mem_append_right _ (List.mem_append_right _ (List.mem_append_right _ ((List.mem_of_getElem? h))))))))))), h2⟩
set_option maxRecDepth 100000 in
theorem fk_0 : FOK 0 (.array .int) "OverlayViewer$Code" "steps" "[I" true := ⟨_, _, rfl, by decide, rfl, rfl, by decide +kernel⟩
set_option maxRecDepth 100000 in
theorem fk_1 : FOK 1 (.array .long) "OverlayViewer$Code" "operands" "[J" true := ⟨_, _, rfl, by decide, rfl, rfl, by decide +kernel⟩
set_option maxRecDepth 100000 in
theorem fk_2 : FOK 2 .int "OverlayViewer$Code" "count" "I" false := ⟨_, _, rfl, by decide, rfl, rfl, by decide +kernel⟩
set_option maxRecDepth 100000 in
theorem fk_100 : FOK 100 (.array (.object "OverlayViewer$Structure")) "OverlayViewer$Description" "structures" "[LOverlayViewer$Structure;" true := ⟨_, _, rfl, by decide, rfl, rfl, by decide +kernel⟩
set_option maxRecDepth 100000 in
theorem fk_101 : FOK 101 .int "OverlayViewer$Description" "structureCount" "I" false := ⟨_, _, rfl, by decide, rfl, rfl, by decide +kernel⟩
set_option maxRecDepth 100000 in
theorem fk_102 : FOK 102 (.array .long) "OverlayViewer$Description" "enumNames" "[J" true := ⟨_, _, rfl, by decide, rfl, rfl, by decide +kernel⟩
set_option maxRecDepth 100000 in
theorem fk_103 : FOK 103 (.array .int) "OverlayViewer$Description" "pairStart" "[I" true := ⟨_, _, rfl, by decide, rfl, rfl, by decide +kernel⟩
set_option maxRecDepth 100000 in
theorem fk_104 : FOK 104 (.array .int) "OverlayViewer$Description" "pairCount" "[I" true := ⟨_, _, rfl, by decide, rfl, rfl, by decide +kernel⟩
set_option maxRecDepth 100000 in
theorem fk_105 : FOK 105 .int "OverlayViewer$Description" "enumCount" "I" false := ⟨_, _, rfl, by decide, rfl, rfl, by decide +kernel⟩
set_option maxRecDepth 100000 in
theorem fk_106 : FOK 106 (.array .long) "OverlayViewer$Description" "entryNames" "[J" true := ⟨_, _, rfl, by decide, rfl, rfl, by decide +kernel⟩
set_option maxRecDepth 100000 in
theorem fk_107 : FOK 107 (.array .long) "OverlayViewer$Description" "entryNumbers" "[J" true := ⟨_, _, rfl, by decide, rfl, rfl, by decide +kernel⟩
set_option maxRecDepth 100000 in
theorem fk_108 : FOK 108 (.array .int) "OverlayViewer$Description" "entryTargets" "[I" true := ⟨_, _, rfl, by decide, rfl, rfl, by decide +kernel⟩
set_option maxRecDepth 100000 in
theorem fk_109 : FOK 109 .int "OverlayViewer$Description" "entryCount" "I" false := ⟨_, _, rfl, by decide, rfl, rfl, by decide +kernel⟩
set_option maxRecDepth 100000 in
theorem fk_110 : FOK 110 (.object "OverlayViewer$Code") "OverlayViewer$Description" "code" "LOverlayViewer$Code;" true := ⟨_, _, rfl, by decide, rfl, rfl, by decide +kernel⟩
set_option maxRecDepth 100000 in
theorem fk_200 : FOK 200 .int "OverlayViewer$Field" "index" "I" true := ⟨_, _, rfl, by decide, rfl, rfl, by decide +kernel⟩
set_option maxRecDepth 100000 in
theorem fk_201 : FOK 201 .int "OverlayViewer$Field" "kind" "I" false := ⟨_, _, rfl, by decide, rfl, rfl, by decide +kernel⟩
set_option maxRecDepth 100000 in
theorem fk_202 : FOK 202 .long "OverlayViewer$Field" "name" "J" false := ⟨_, _, rfl, by decide, rfl, rfl, by decide +kernel⟩
set_option maxRecDepth 100000 in
theorem fk_203 : FOK 203 .int "OverlayViewer$Field" "width" "I" false := ⟨_, _, rfl, by decide, rfl, rfl, by decide +kernel⟩
set_option maxRecDepth 100000 in
theorem fk_204 : FOK 204 .boolean "OverlayViewer$Field" "signed" "Z" false := ⟨_, _, rfl, by decide, rfl, rfl, by decide +kernel⟩
set_option maxRecDepth 100000 in
theorem fk_205 : FOK 205 .boolean "OverlayViewer$Field" "big" "Z" false := ⟨_, _, rfl, by decide, rfl, rfl, by decide +kernel⟩
set_option maxRecDepth 100000 in
theorem fk_206 : FOK 206 .int "OverlayViewer$Field" "structure" "I" false := ⟨_, _, rfl, by decide, rfl, rfl, by decide +kernel⟩
set_option maxRecDepth 100000 in
theorem fk_207 : FOK 207 .int "OverlayViewer$Field" "pairs" "I" false := ⟨_, _, rfl, by decide, rfl, rfl, by decide +kernel⟩
set_option maxRecDepth 100000 in
theorem fk_208 : FOK 208 .int "OverlayViewer$Field" "condition" "I" false := ⟨_, _, rfl, by decide, rfl, rfl, by decide +kernel⟩
set_option maxRecDepth 100000 in
theorem fk_209 : FOK 209 .int "OverlayViewer$Field" "first" "I" false := ⟨_, _, rfl, by decide, rfl, rfl, by decide +kernel⟩
set_option maxRecDepth 100000 in
theorem fk_210 : FOK 210 .int "OverlayViewer$Field" "second" "I" false := ⟨_, _, rfl, by decide, rfl, rfl, by decide +kernel⟩
set_option maxRecDepth 100000 in
theorem fk_211 : FOK 211 .long "OverlayViewer$Field" "number" "J" false := ⟨_, _, rfl, by decide, rfl, rfl, by decide +kernel⟩
set_option maxRecDepth 100000 in
theorem fk_212 : FOK 212 .int "OverlayViewer$Field" "otherwise" "I" false := ⟨_, _, rfl, by decide, rfl, rfl, by decide +kernel⟩
set_option maxRecDepth 100000 in
theorem fk_213 : FOK 213 .int "OverlayViewer$Field" "entryStart" "I" false := ⟨_, _, rfl, by decide, rfl, rfl, by decide +kernel⟩
set_option maxRecDepth 100000 in
theorem fk_214 : FOK 214 .int "OverlayViewer$Field" "entryCount" "I" false := ⟨_, _, rfl, by decide, rfl, rfl, by decide +kernel⟩
set_option maxRecDepth 100000 in
theorem fk_215 : FOK 215 .long "OverlayViewer$Field" "aimName" "J" false := ⟨_, _, rfl, by decide, rfl, rfl, by decide +kernel⟩
set_option maxRecDepth 100000 in
theorem fk_216 : FOK 216 .int "OverlayViewer$Field" "aimPlace" "I" false := ⟨_, _, rfl, by decide, rfl, rfl, by decide +kernel⟩
set_option maxRecDepth 100000 in
theorem fk_300 : FOK 300 (.array .int) "OverlayViewer$Image" "own" "[I" true := ⟨_, _, rfl, by decide, rfl, rfl, by decide +kernel⟩
set_option maxRecDepth 100000 in
theorem fk_301 : FOK 301 (.array .int) "OverlayViewer$Image" "now" "[I" true := ⟨_, _, rfl, by decide, rfl, rfl, by decide +kernel⟩
set_option maxRecDepth 100000 in
theorem fk_302 : FOK 302 (.array (.object "OverlayViewer$Layer")) "OverlayViewer$Image" "layers" "[LOverlayViewer$Layer;" true := ⟨_, _, rfl, by decide, rfl, rfl, by decide +kernel⟩
set_option maxRecDepth 100000 in
theorem fk_303 : FOK 303 .int "OverlayViewer$Image" "layerCount" "I" false := ⟨_, _, rfl, by decide, rfl, rfl, by decide +kernel⟩
set_option maxRecDepth 100000 in
theorem fk_304 : FOK 304 .int "OverlayViewer$Image" "length" "I" false := ⟨_, _, rfl, by decide, rfl, rfl, by decide +kernel⟩
set_option maxRecDepth 100000 in
theorem fk_400 : FOK 400 (.array .int) "OverlayViewer$Layer" "bytes" "[I" true := ⟨_, _, rfl, by decide, rfl, rfl, by decide +kernel⟩
set_option maxRecDepth 100000 in
theorem fk_401 : FOK 401 .int "OverlayViewer$Layer" "byteCount" "I" false := ⟨_, _, rfl, by decide, rfl, rfl, by decide +kernel⟩
set_option maxRecDepth 100000 in
theorem fk_402 : FOK 402 (.array .int) "OverlayViewer$Layer" "keptFrom" "[I" true := ⟨_, _, rfl, by decide, rfl, rfl, by decide +kernel⟩
set_option maxRecDepth 100000 in
theorem fk_403 : FOK 403 (.array .int) "OverlayViewer$Layer" "keptWidth" "[I" true := ⟨_, _, rfl, by decide, rfl, rfl, by decide +kernel⟩
set_option maxRecDepth 100000 in
theorem fk_404 : FOK 404 (.array .int) "OverlayViewer$Layer" "keptBytes" "[I" true := ⟨_, _, rfl, by decide, rfl, rfl, by decide +kernel⟩
set_option maxRecDepth 100000 in
theorem fk_405 : FOK 405 .int "OverlayViewer$Layer" "kept" "I" false := ⟨_, _, rfl, by decide, rfl, rfl, by decide +kernel⟩
set_option maxRecDepth 100000 in
theorem fk_500 : FOK 500 .int "OverlayViewer$Node" "number" "I" true := ⟨_, _, rfl, by decide, rfl, rfl, by decide +kernel⟩
set_option maxRecDepth 100000 in
theorem fk_501 : FOK 501 .int "OverlayViewer$Node" "kind" "I" false := ⟨_, _, rfl, by decide, rfl, rfl, by decide +kernel⟩
set_option maxRecDepth 100000 in
theorem fk_502 : FOK 502 .int "OverlayViewer$Node" "from" "I" false := ⟨_, _, rfl, by decide, rfl, rfl, by decide +kernel⟩
set_option maxRecDepth 100000 in
theorem fk_503 : FOK 503 .int "OverlayViewer$Node" "to" "I" false := ⟨_, _, rfl, by decide, rfl, rfl, by decide +kernel⟩
set_option maxRecDepth 100000 in
theorem fk_504 : FOK 504 .int "OverlayViewer$Node" "fault" "I" false := ⟨_, _, rfl, by decide, rfl, rfl, by decide +kernel⟩
set_option maxRecDepth 100000 in
theorem fk_505 : FOK 505 .boolean "OverlayViewer$Node" "met" "Z" false := ⟨_, _, rfl, by decide, rfl, rfl, by decide +kernel⟩
set_option maxRecDepth 100000 in
theorem fk_506 : FOK 506 .long "OverlayViewer$Node" "name" "J" false := ⟨_, _, rfl, by decide, rfl, rfl, by decide +kernel⟩
set_option maxRecDepth 100000 in
theorem fk_507 : FOK 507 (.object "OverlayViewer$Node") "OverlayViewer$Node" "parent" "LOverlayViewer$Node;" false := ⟨_, _, rfl, by decide, rfl, rfl, by decide +kernel⟩
set_option maxRecDepth 100000 in
theorem fk_508 : FOK 508 (.object "OverlayViewer$Node") "OverlayViewer$Node" "firstKid" "LOverlayViewer$Node;" false := ⟨_, _, rfl, by decide, rfl, rfl, by decide +kernel⟩
set_option maxRecDepth 100000 in
theorem fk_509 : FOK 509 (.object "OverlayViewer$Node") "OverlayViewer$Node" "lastKid" "LOverlayViewer$Node;" false := ⟨_, _, rfl, by decide, rfl, rfl, by decide +kernel⟩
set_option maxRecDepth 100000 in
theorem fk_510 : FOK 510 (.object "OverlayViewer$Node") "OverlayViewer$Node" "next" "LOverlayViewer$Node;" false := ⟨_, _, rfl, by decide, rfl, rfl, by decide +kernel⟩
set_option maxRecDepth 100000 in
theorem fk_511 : FOK 511 .int "OverlayViewer$Node" "kids" "I" false := ⟨_, _, rfl, by decide, rfl, rfl, by decide +kernel⟩
set_option maxRecDepth 100000 in
theorem fk_512 : FOK 512 .int "OverlayViewer$Node" "away" "I" false := ⟨_, _, rfl, by decide, rfl, rfl, by decide +kernel⟩
set_option maxRecDepth 100000 in
theorem fk_513 : FOK 513 (.object "OverlayViewer$Field") "OverlayViewer$Node" "field" "LOverlayViewer$Field;" false := ⟨_, _, rfl, by decide, rfl, rfl, by decide +kernel⟩
set_option maxRecDepth 100000 in
theorem fk_514 : FOK 514 .int "OverlayViewer$Node" "structure" "I" false := ⟨_, _, rfl, by decide, rfl, rfl, by decide +kernel⟩
set_option maxRecDepth 100000 in
theorem fk_515 : FOK 515 .int "OverlayViewer$Node" "lowest" "I" false := ⟨_, _, rfl, by decide, rfl, rfl, by decide +kernel⟩
set_option maxRecDepth 100000 in
theorem fk_516 : FOK 516 .int "OverlayViewer$Node" "bits" "I" false := ⟨_, _, rfl, by decide, rfl, rfl, by decide +kernel⟩
set_option maxRecDepth 100000 in
theorem fk_600 : FOK 600 .int "OverlayViewer$Parser" "fault" "I" false := ⟨_, _, rfl, by decide, rfl, rfl, by decide +kernel⟩
set_option maxRecDepth 100000 in
theorem fk_601 : FOK 601 .int "OverlayViewer$Parser" "faultPlace" "I" false := ⟨_, _, rfl, by decide, rfl, rfl, by decide +kernel⟩
set_option maxRecDepth 100000 in
theorem fk_602 : FOK 602 (.object "OverlayViewer$Tape") "OverlayViewer$Parser" "tape" "LOverlayViewer$Tape;" false := ⟨_, _, rfl, by decide, rfl, rfl, by decide +kernel⟩
set_option maxRecDepth 100000 in
theorem fk_603 : FOK 603 .int "OverlayViewer$Parser" "position" "I" false := ⟨_, _, rfl, by decide, rfl, rfl, by decide +kernel⟩
set_option maxRecDepth 100000 in
theorem fk_604 : FOK 604 .int "OverlayViewer$Parser" "kind" "I" false := ⟨_, _, rfl, by decide, rfl, rfl, by decide +kernel⟩
set_option maxRecDepth 100000 in
theorem fk_605 : FOK 605 .long "OverlayViewer$Parser" "value" "J" false := ⟨_, _, rfl, by decide, rfl, rfl, by decide +kernel⟩
set_option maxRecDepth 100000 in
theorem fk_606 : FOK 606 (.object "OverlayViewer$Description") "OverlayViewer$Parser" "description" "LOverlayViewer$Description;" false := ⟨_, _, rfl, by decide, rfl, rfl, by decide +kernel⟩
set_option maxRecDepth 100000 in
theorem fk_607 : FOK 607 (.object "OverlayViewer$Code") "OverlayViewer$Parser" "code" "LOverlayViewer$Code;" false := ⟨_, _, rfl, by decide, rfl, rfl, by decide +kernel⟩
set_option maxRecDepth 100000 in
theorem fk_608 : FOK 608 (.object "OverlayViewer$Structure") "OverlayViewer$Parser" "structure" "LOverlayViewer$Structure;" false := ⟨_, _, rfl, by decide, rfl, rfl, by decide +kernel⟩
set_option maxRecDepth 100000 in
theorem fk_609 : FOK 609 (.object "OverlayViewer$Field") "OverlayViewer$Parser" "field" "LOverlayViewer$Field;" false := ⟨_, _, rfl, by decide, rfl, rfl, by decide +kernel⟩
set_option maxRecDepth 100000 in
theorem fk_610 : FOK 610 .long "OverlayViewer$Parser" "number" "J" false := ⟨_, _, rfl, by decide, rfl, rfl, by decide +kernel⟩
set_option maxRecDepth 100000 in
theorem fk_700 : FOK 700 .boolean "OverlayViewer$Reckoner" "failed" "Z" false := ⟨_, _, rfl, by decide, rfl, rfl, by decide +kernel⟩
set_option maxRecDepth 100000 in
theorem fk_701 : FOK 701 (.array .long) "OverlayViewer$Reckoner" "stack" "[J" true := ⟨_, _, rfl, by decide, rfl, rfl, by decide +kernel⟩
set_option maxRecDepth 100000 in
theorem fk_702 : FOK 702 .int "OverlayViewer$Reckoner" "depth" "I" false := ⟨_, _, rfl, by decide, rfl, rfl, by decide +kernel⟩
set_option maxRecDepth 100000 in
theorem fk_800 : FOK 800 .long "OverlayViewer$Structure" "name" "J" false := ⟨_, _, rfl, by decide, rfl, rfl, by decide +kernel⟩
set_option maxRecDepth 100000 in
theorem fk_801 : FOK 801 (.array (.object "OverlayViewer$Field")) "OverlayViewer$Structure" "fields" "[LOverlayViewer$Field;" true := ⟨_, _, rfl, by decide, rfl, rfl, by decide +kernel⟩
set_option maxRecDepth 100000 in
theorem fk_802 : FOK 802 .int "OverlayViewer$Structure" "fieldCount" "I" false := ⟨_, _, rfl, by decide, rfl, rfl, by decide +kernel⟩
set_option maxRecDepth 100000 in
theorem fk_803 : FOK 803 .int "OverlayViewer$Structure" "size" "I" false := ⟨_, _, rfl, by decide, rfl, rfl, by decide +kernel⟩
set_option maxRecDepth 100000 in
theorem fk_804 : FOK 804 .int "OverlayViewer$Structure" "used" "I" false := ⟨_, _, rfl, by decide, rfl, rfl, by decide +kernel⟩
set_option maxRecDepth 100000 in
theorem fk_900 : FOK 900 (.array .int) "OverlayViewer$Tape" "bytes" "[I" true := ⟨_, _, rfl, by decide, rfl, rfl, by decide +kernel⟩
set_option maxRecDepth 100000 in
theorem fk_901 : FOK 901 .int "OverlayViewer$Tape" "count" "I" false := ⟨_, _, rfl, by decide, rfl, rfl, by decide +kernel⟩
set_option maxRecDepth 100000 in
theorem fk_902 : FOK 902 (.array .int) "OverlayViewer$Tape" "kinds" "[I" true := ⟨_, _, rfl, by decide, rfl, rfl, by decide +kernel⟩
set_option maxRecDepth 100000 in
theorem fk_903 : FOK 903 (.array .int) "OverlayViewer$Tape" "places" "[I" true := ⟨_, _, rfl, by decide, rfl, rfl, by decide +kernel⟩
set_option maxRecDepth 100000 in
theorem fk_904 : FOK 904 (.array .long) "OverlayViewer$Tape" "values" "[J" true := ⟨_, _, rfl, by decide, rfl, rfl, by decide +kernel⟩
set_option maxRecDepth 100000 in
theorem fk_905 : FOK 905 .int "OverlayViewer$Tape" "tokenCount" "I" false := ⟨_, _, rfl, by decide, rfl, rfl, by decide +kernel⟩
set_option maxRecDepth 100000 in
theorem fk_906 : FOK 906 (.array .long) "OverlayViewer$Tape" "keywords" "[J" true := ⟨_, _, rfl, by decide, rfl, rfl, by decide +kernel⟩
set_option maxRecDepth 100000 in
theorem fk_1000 : FOK 1000 (.object "OverlayViewer$Image") "OverlayViewer$Tree" "image" "LOverlayViewer$Image;" false := ⟨_, _, rfl, by decide, rfl, rfl, by decide +kernel⟩
set_option maxRecDepth 100000 in
theorem fk_1001 : FOK 1001 .int "OverlayViewer$Tree" "structure" "I" false := ⟨_, _, rfl, by decide, rfl, rfl, by decide +kernel⟩
set_option maxRecDepth 100000 in
theorem fk_1002 : FOK 1002 .int "OverlayViewer$Tree" "place" "I" false := ⟨_, _, rfl, by decide, rfl, rfl, by decide +kernel⟩
set_option maxRecDepth 100000 in
theorem fk_1003 : FOK 1003 (.array (.object "OverlayViewer$Node")) "OverlayViewer$Tree" "nodes" "[LOverlayViewer$Node;" true := ⟨_, _, rfl, by decide, rfl, rfl, by decide +kernel⟩
set_option maxRecDepth 100000 in
theorem fk_1004 : FOK 1004 .int "OverlayViewer$Tree" "count" "I" false := ⟨_, _, rfl, by decide, rfl, rfl, by decide +kernel⟩
set_option maxRecDepth 100000 in
theorem fk_1005 : FOK 1005 .boolean "OverlayViewer$Tree" "many" "Z" false := ⟨_, _, rfl, by decide, rfl, rfl, by decide +kernel⟩
set_option maxRecDepth 100000 in
theorem fk_1006 : FOK 1006 (.object "OverlayViewer$Description") "OverlayViewer$Tree" "description" "LOverlayViewer$Description;" false := ⟨_, _, rfl, by decide, rfl, rfl, by decide +kernel⟩
set_option maxRecDepth 100000 in
theorem fk_1007 : FOK 1007 (.object "OverlayViewer$Reckoner") "OverlayViewer$Tree" "reckoner" "LOverlayViewer$Reckoner;" false := ⟨_, _, rfl, by decide, rfl, rfl, by decide +kernel⟩
set_option maxRecDepth 100000 in
theorem fk_1008 : FOK 1008 .int "OverlayViewer$Tree" "sumFrom" "I" false := ⟨_, _, rfl, by decide, rfl, rfl, by decide +kernel⟩
set_option maxRecDepth 100000 in
theorem fk_1009 : FOK 1009 .int "OverlayViewer$Tree" "sumTo" "I" false := ⟨_, _, rfl, by decide, rfl, rfl, by decide +kernel⟩
set_option maxRecDepth 100000 in
theorem fk_1100 : FOK 1100 (.array (.object "OverlayViewer$Image")) "OverlayViewer" "images" "[LOverlayViewer$Image;" true := ⟨_, _, rfl, by decide, rfl, rfl, by decide +kernel⟩
set_option maxRecDepth 100000 in
theorem fk_1101 : FOK 1101 .int "OverlayViewer" "imageCount" "I" false := ⟨_, _, rfl, by decide, rfl, rfl, by decide +kernel⟩
set_option maxRecDepth 100000 in
theorem fk_1102 : FOK 1102 (.object "OverlayViewer$Tape") "OverlayViewer" "tape" "LOverlayViewer$Tape;" true := ⟨_, _, rfl, by decide, rfl, rfl, by decide +kernel⟩
set_option maxRecDepth 100000 in
theorem fk_1103 : FOK 1103 (.object "OverlayViewer$Parser") "OverlayViewer" "parser" "LOverlayViewer$Parser;" true := ⟨_, _, rfl, by decide, rfl, rfl, by decide +kernel⟩
set_option maxRecDepth 100000 in
theorem fk_1104 : FOK 1104 (.object "OverlayViewer$Reckoner") "OverlayViewer" "reckoner" "LOverlayViewer$Reckoner;" true := ⟨_, _, rfl, by decide, rfl, rfl, by decide +kernel⟩
set_option maxRecDepth 100000 in
theorem fk_1105 : FOK 1105 (.object "OverlayViewer$Description") "OverlayViewer" "description" "LOverlayViewer$Description;" false := ⟨_, _, rfl, by decide, rfl, rfl, by decide +kernel⟩
set_option maxRecDepth 100000 in
theorem fk_1106 : FOK 1106 (.object "OverlayViewer$Description") "OverlayViewer" "spareDescription" "LOverlayViewer$Description;" false := ⟨_, _, rfl, by decide, rfl, rfl, by decide +kernel⟩
set_option maxRecDepth 100000 in
theorem fk_1107 : FOK 1107 (.object "OverlayViewer$Code") "OverlayViewer" "question" "LOverlayViewer$Code;" true := ⟨_, _, rfl, by decide, rfl, rfl, by decide +kernel⟩
set_option maxRecDepth 100000 in
theorem fk_1108 : FOK 1108 (.array (.object "OverlayViewer$Tree")) "OverlayViewer" "trees" "[LOverlayViewer$Tree;" true := ⟨_, _, rfl, by decide, rfl, rfl, by decide +kernel⟩
set_option maxRecDepth 100000 in
theorem fk_1109 : FOK 1109 (.object "OverlayViewer$Tree") "OverlayViewer" "spareTree" "LOverlayViewer$Tree;" false := ⟨_, _, rfl, by decide, rfl, rfl, by decide +kernel⟩
set_option maxRecDepth 100000 in
theorem fk_1110 : FOK 1110 .int "OverlayViewer" "treeCount" "I" false := ⟨_, _, rfl, by decide, rfl, rfl, by decide +kernel⟩
set_option maxRecDepth 100000 in
theorem fk_1111 : FOK 1111 .int "OverlayViewer" "lastFault" "I" false := ⟨_, _, rfl, by decide, rfl, rfl, by decide +kernel⟩
set_option maxRecDepth 100000 in
theorem fk_1112 : FOK 1112 .long "OverlayViewer" "lastOut" "J" false := ⟨_, _, rfl, by decide, rfl, rfl, by decide +kernel⟩
set_option maxRecDepth 100000 in
theorem fk_1113 : FOK 1113 (.array .int) "OverlayViewer" "pattern" "[I" true := ⟨_, _, rfl, by decide, rfl, rfl, by decide +kernel⟩
set_option maxRecDepth 100000 in
theorem fk_1114 : FOK 1114 (.array .int) "OverlayViewer" "mask" "[I" true := ⟨_, _, rfl, by decide, rfl, rfl, by decide +kernel⟩
set_option maxRecDepth 100000 in
theorem fk_1115 : FOK 1115 (.array .int) "OverlayViewer" "marks" "[I" true := ⟨_, _, rfl, by decide, rfl, rfl, by decide +kernel⟩
set_option maxRecDepth 100000 in
theorem fk_1200 : FOK 1200 .int "OverlayViewerModel" "images" "I" false := ⟨_, _, rfl, by decide, rfl, rfl, by decide +kernel⟩
set_option maxRecDepth 100000 in
theorem fk_1201 : FOK 1201 (.array .int) "OverlayViewerModel" "length" "[I" true := ⟨_, _, rfl, by decide, rfl, rfl, by decide +kernel⟩
set_option maxRecDepth 100000 in
theorem fk_1202 : FOK 1202 (.array .int) "OverlayViewerModel" "layers" "[I" true := ⟨_, _, rfl, by decide, rfl, rfl, by decide +kernel⟩
set_option maxRecDepth 100000 in
theorem fk_1203 : FOK 1203 (.array .int) "OverlayViewerModel" "own" "[I" true := ⟨_, _, rfl, by decide, rfl, rfl, by decide +kernel⟩
set_option maxRecDepth 100000 in
theorem fk_1204 : FOK 1204 (.array .int) "OverlayViewerModel" "over" "[I" true := ⟨_, _, rfl, by decide, rfl, rfl, by decide +kernel⟩
set_option maxRecDepth 100000 in
theorem fk_1205 : FOK 1205 (.array .int) "OverlayViewerModel" "kept" "[I" true := ⟨_, _, rfl, by decide, rfl, rfl, by decide +kernel⟩
set_option maxRecDepth 100000 in
theorem fk_1206 : FOK 1206 (.array .int) "OverlayViewerModel" "keptMany" "[I" true := ⟨_, _, rfl, by decide, rfl, rfl, by decide +kernel⟩
set_option maxRecDepth 100000 in
theorem fk_1207 : FOK 1207 (.array .int) "OverlayViewerModel" "keptPlace" "[I" true := ⟨_, _, rfl, by decide, rfl, rfl, by decide +kernel⟩
set_option maxRecDepth 100000 in
theorem fk_1208 : FOK 1208 (.array .int) "OverlayViewerModel" "keptWas" "[I" true := ⟨_, _, rfl, by decide, rfl, rfl, by decide +kernel⟩
set_option maxRecDepth 100000 in
theorem fk_1209 : FOK 1209 (.array .int) "OverlayViewerModel" "row" "[I" true := ⟨_, _, rfl, by decide, rfl, rfl, by decide +kernel⟩
set_option maxRecDepth 100000 in
theorem fk_1210 : FOK 1210 (.array .int) "OverlayViewerModel" "tape" "[I" true := ⟨_, _, rfl, by decide, rfl, rfl, by decide +kernel⟩
set_option maxRecDepth 100000 in
theorem fk_1211 : FOK 1211 .int "OverlayViewerModel" "taped" "I" false := ⟨_, _, rfl, by decide, rfl, rfl, by decide +kernel⟩
set_option maxRecDepth 100000 in
theorem fk_1212 : FOK 1212 .int "OverlayViewerModel" "wrong" "I" false := ⟨_, _, rfl, by decide, rfl, rfl, by decide +kernel⟩
set_option maxRecDepth 100000 in
theorem fk_1213 : FOK 1213 .int "OverlayViewerModel" "sort" "I" false := ⟨_, _, rfl, by decide, rfl, rfl, by decide +kernel⟩
set_option maxRecDepth 100000 in
theorem fk_1214 : FOK 1214 .int "OverlayViewerModel" "from" "I" false := ⟨_, _, rfl, by decide, rfl, rfl, by decide +kernel⟩
set_option maxRecDepth 100000 in
theorem fk_1215 : FOK 1215 .int "OverlayViewerModel" "to" "I" false := ⟨_, _, rfl, by decide, rfl, rfl, by decide +kernel⟩
set_option maxRecDepth 100000 in
theorem fk_1216 : FOK 1216 .long "OverlayViewerModel" "word" "J" false := ⟨_, _, rfl, by decide, rfl, rfl, by decide +kernel⟩
set_option maxRecDepth 100000 in
theorem fk_1217 : FOK 1217 .long "OverlayViewerModel" "number" "J" false := ⟨_, _, rfl, by decide, rfl, rfl, by decide +kernel⟩
set_option maxRecDepth 100000 in
theorem fk_1218 : FOK 1218 .int "OverlayViewerModel" "side" "I" false := ⟨_, _, rfl, by decide, rfl, rfl, by decide +kernel⟩
set_option maxRecDepth 100000 in
theorem fk_1219 : FOK 1219 (.array .int) "OverlayViewerModel" "structs" "[I" true := ⟨_, _, rfl, by decide, rfl, rfl, by decide +kernel⟩
set_option maxRecDepth 100000 in
theorem fk_1220 : FOK 1220 (.array .int) "OverlayViewerModel" "enums" "[I" true := ⟨_, _, rfl, by decide, rfl, rfl, by decide +kernel⟩
set_option maxRecDepth 100000 in
theorem fk_1221 : FOK 1221 (.array .long) "OverlayViewerModel" "structName" "[J" true := ⟨_, _, rfl, by decide, rfl, rfl, by decide +kernel⟩
set_option maxRecDepth 100000 in
theorem fk_1222 : FOK 1222 (.array .int) "OverlayViewerModel" "fields" "[I" true := ⟨_, _, rfl, by decide, rfl, rfl, by decide +kernel⟩
set_option maxRecDepth 100000 in
theorem fk_1223 : FOK 1223 (.array .int) "OverlayViewerModel" "sizes" "[I" true := ⟨_, _, rfl, by decide, rfl, rfl, by decide +kernel⟩
set_option maxRecDepth 100000 in
theorem fk_1224 : FOK 1224 (.array .long) "OverlayViewerModel" "enumName" "[J" true := ⟨_, _, rfl, by decide, rfl, rfl, by decide +kernel⟩
set_option maxRecDepth 100000 in
theorem fk_1225 : FOK 1225 (.array .int) "OverlayViewerModel" "pairs" "[I" true := ⟨_, _, rfl, by decide, rfl, rfl, by decide +kernel⟩
set_option maxRecDepth 100000 in
theorem fk_1226 : FOK 1226 (.array .long) "OverlayViewerModel" "pairName" "[J" true := ⟨_, _, rfl, by decide, rfl, rfl, by decide +kernel⟩
set_option maxRecDepth 100000 in
theorem fk_1227 : FOK 1227 (.array .long) "OverlayViewerModel" "pairValue" "[J" true := ⟨_, _, rfl, by decide, rfl, rfl, by decide +kernel⟩
set_option maxRecDepth 100000 in
theorem fk_1228 : FOK 1228 (.array .int) "OverlayViewerModel" "kind" "[I" true := ⟨_, _, rfl, by decide, rfl, rfl, by decide +kernel⟩
set_option maxRecDepth 100000 in
theorem fk_1229 : FOK 1229 (.array .int) "OverlayViewerModel" "wholeOf" "[I" true := ⟨_, _, rfl, by decide, rfl, rfl, by decide +kernel⟩
set_option maxRecDepth 100000 in
theorem fk_1230 : FOK 1230 (.array .int) "OverlayViewerModel" "enumOf" "[I" true := ⟨_, _, rfl, by decide, rfl, rfl, by decide +kernel⟩
set_option maxRecDepth 100000 in
theorem fk_1231 : FOK 1231 (.array .int) "OverlayViewerModel" "refOf" "[I" true := ⟨_, _, rfl, by decide, rfl, rfl, by decide +kernel⟩
set_option maxRecDepth 100000 in
theorem fk_1232 : FOK 1232 (.array .int) "OverlayViewerModel" "ifOf" "[I" true := ⟨_, _, rfl, by decide, rfl, rfl, by decide +kernel⟩
set_option maxRecDepth 100000 in
theorem fk_1233 : FOK 1233 (.array .int) "OverlayViewerModel" "firstOf" "[I" true := ⟨_, _, rfl, by decide, rfl, rfl, by decide +kernel⟩
set_option maxRecDepth 100000 in
theorem fk_1234 : FOK 1234 (.array .int) "OverlayViewerModel" "secondOf" "[I" true := ⟨_, _, rfl, by decide, rfl, rfl, by decide +kernel⟩
set_option maxRecDepth 100000 in
theorem fk_1235 : FOK 1235 (.array .int) "OverlayViewerModel" "numberOf" "[I" true := ⟨_, _, rfl, by decide, rfl, rfl, by decide +kernel⟩
set_option maxRecDepth 100000 in
theorem fk_1236 : FOK 1236 (.array .int) "OverlayViewerModel" "elseOf" "[I" true := ⟨_, _, rfl, by decide, rfl, rfl, by decide +kernel⟩
set_option maxRecDepth 100000 in
theorem fk_1237 : FOK 1237 (.array .int) "OverlayViewerModel" "manyOf" "[I" true := ⟨_, _, rfl, by decide, rfl, rfl, by decide +kernel⟩
set_option maxRecDepth 100000 in
theorem fk_1238 : FOK 1238 (.array .long) "OverlayViewerModel" "fieldName" "[J" true := ⟨_, _, rfl, by decide, rfl, rfl, by decide +kernel⟩
set_option maxRecDepth 100000 in
theorem fk_1239 : FOK 1239 (.array .long) "OverlayViewerModel" "partName" "[J" true := ⟨_, _, rfl, by decide, rfl, rfl, by decide +kernel⟩
set_option maxRecDepth 100000 in
theorem fk_1240 : FOK 1240 (.array .long) "OverlayViewerModel" "partValue" "[J" true := ⟨_, _, rfl, by decide, rfl, rfl, by decide +kernel⟩
set_option maxRecDepth 100000 in
theorem fk_1241 : FOK 1241 (.array .int) "OverlayViewerModel" "partRef" "[I" true := ⟨_, _, rfl, by decide, rfl, rfl, by decide +kernel⟩
set_option maxRecDepth 100000 in
theorem fk_1242 : FOK 1242 (.array .int) "OverlayViewerModel" "op" "[I" true := ⟨_, _, rfl, by decide, rfl, rfl, by decide +kernel⟩
set_option maxRecDepth 100000 in
theorem fk_1243 : FOK 1243 (.array .int) "OverlayViewerModel" "left" "[I" true := ⟨_, _, rfl, by decide, rfl, rfl, by decide +kernel⟩
set_option maxRecDepth 100000 in
theorem fk_1244 : FOK 1244 (.array .int) "OverlayViewerModel" "right" "[I" true := ⟨_, _, rfl, by decide, rfl, rfl, by decide +kernel⟩
set_option maxRecDepth 100000 in
theorem fk_1245 : FOK 1245 (.array .long) "OverlayViewerModel" "value" "[J" true := ⟨_, _, rfl, by decide, rfl, rfl, by decide +kernel⟩
set_option maxRecDepth 100000 in
theorem fk_1246 : FOK 1246 .int "OverlayViewerModel" "nodesOfText" "I" false := ⟨_, _, rfl, by decide, rfl, rfl, by decide +kernel⟩
set_option maxRecDepth 100000 in
theorem fk_1247 : FOK 1247 (.array .int) "OverlayViewerModel" "aimField" "[I" true := ⟨_, _, rfl, by decide, rfl, rfl, by decide +kernel⟩
set_option maxRecDepth 100000 in
theorem fk_1248 : FOK 1248 (.array .int) "OverlayViewerModel" "aimPlace" "[I" true := ⟨_, _, rfl, by decide, rfl, rfl, by decide +kernel⟩
set_option maxRecDepth 100000 in
theorem fk_1249 : FOK 1249 (.array .long) "OverlayViewerModel" "aimName" "[J" true := ⟨_, _, rfl, by decide, rfl, rfl, by decide +kernel⟩
set_option maxRecDepth 100000 in
theorem fk_1250 : FOK 1250 .int "OverlayViewerModel" "aims" "I" false := ⟨_, _, rfl, by decide, rfl, rfl, by decide +kernel⟩
set_option maxRecDepth 100000 in
theorem fk_1251 : FOK 1251 .int "OverlayViewerModel" "bad" "I" false := ⟨_, _, rfl, by decide, rfl, rfl, by decide +kernel⟩
set_option maxRecDepth 100000 in
theorem fk_1252 : FOK 1252 .int "OverlayViewerModel" "badAt" "I" false := ⟨_, _, rfl, by decide, rfl, rfl, by decide +kernel⟩
set_option maxRecDepth 100000 in
theorem fk_1253 : FOK 1253 .int "OverlayViewerModel" "base" "I" false := ⟨_, _, rfl, by decide, rfl, rfl, by decide +kernel⟩
set_option maxRecDepth 100000 in
theorem fk_1254 : FOK 1254 .int "OverlayViewerModel" "s" "I" false := ⟨_, _, rfl, by decide, rfl, rfl, by decide +kernel⟩
set_option maxRecDepth 100000 in
theorem fk_1255 : FOK 1255 .int "OverlayViewerModel" "deep" "I" false := ⟨_, _, rfl, by decide, rfl, rfl, by decide +kernel⟩
set_option maxRecDepth 100000 in
theorem fk_1256 : FOK 1256 .boolean "OverlayViewerModel" "begun" "Z" false := ⟨_, _, rfl, by decide, rfl, rfl, by decide +kernel⟩
set_option maxRecDepth 100000 in
theorem fk_1257 : FOK 1257 .int "OverlayViewerModel" "known" "I" false := ⟨_, _, rfl, by decide, rfl, rfl, by decide +kernel⟩
set_option maxRecDepth 100000 in
theorem fk_1258 : FOK 1258 (.array .int) "OverlayViewerModel" "waits" "[I" true := ⟨_, _, rfl, by decide, rfl, rfl, by decide +kernel⟩
set_option maxRecDepth 100000 in
theorem fk_1259 : FOK 1259 (.array .int) "OverlayViewerModel" "held" "[I" true := ⟨_, _, rfl, by decide, rfl, rfl, by decide +kernel⟩
set_option maxRecDepth 100000 in
theorem fk_1260 : FOK 1260 .int "OverlayViewerModel" "waiting" "I" false := ⟨_, _, rfl, by decide, rfl, rfl, by decide +kernel⟩
set_option maxRecDepth 100000 in
theorem fk_1261 : FOK 1261 .int "OverlayViewerModel" "holding" "I" false := ⟨_, _, rfl, by decide, rfl, rfl, by decide +kernel⟩
set_option maxRecDepth 100000 in
theorem fk_1262 : FOK 1262 (.array .int) "OverlayViewerModel" "beginOf" "[I" true := ⟨_, _, rfl, by decide, rfl, rfl, by decide +kernel⟩
set_option maxRecDepth 100000 in
theorem fk_1263 : FOK 1263 (.array .boolean) "OverlayViewerModel" "reached" "[Z" true := ⟨_, _, rfl, by decide, rfl, rfl, by decide +kernel⟩
set_option maxRecDepth 100000 in
theorem fk_1264 : FOK 1264 .int "OverlayViewerModel" "trees" "I" false := ⟨_, _, rfl, by decide, rfl, rfl, by decide +kernel⟩
set_option maxRecDepth 100000 in
theorem fk_1265 : FOK 1265 (.array .int) "OverlayViewerModel" "imageOf" "[I" true := ⟨_, _, rfl, by decide, rfl, rfl, by decide +kernel⟩
set_option maxRecDepth 100000 in
theorem fk_1266 : FOK 1266 (.array .int) "OverlayViewerModel" "nodes" "[I" true := ⟨_, _, rfl, by decide, rfl, rfl, by decide +kernel⟩
set_option maxRecDepth 100000 in
theorem fk_1267 : FOK 1267 (.array .int) "OverlayViewerModel" "sortOf" "[I" true := ⟨_, _, rfl, by decide, rfl, rfl, by decide +kernel⟩
set_option maxRecDepth 100000 in
theorem fk_1268 : FOK 1268 (.array .int) "OverlayViewerModel" "begins" "[I" true := ⟨_, _, rfl, by decide, rfl, rfl, by decide +kernel⟩
set_option maxRecDepth 100000 in
theorem fk_1269 : FOK 1269 (.array .int) "OverlayViewerModel" "ends" "[I" true := ⟨_, _, rfl, by decide, rfl, rfl, by decide +kernel⟩
set_option maxRecDepth 100000 in
theorem fk_1270 : FOK 1270 (.array .int) "OverlayViewerModel" "parent" "[I" true := ⟨_, _, rfl, by decide, rfl, rfl, by decide +kernel⟩
set_option maxRecDepth 100000 in
theorem fk_1271 : FOK 1271 (.array .int) "OverlayViewerModel" "kids" "[I" true := ⟨_, _, rfl, by decide, rfl, rfl, by decide +kernel⟩
set_option maxRecDepth 100000 in
theorem fk_1272 : FOK 1272 (.array .int) "OverlayViewerModel" "faultOf" "[I" true := ⟨_, _, rfl, by decide, rfl, rfl, by decide +kernel⟩
set_option maxRecDepth 100000 in
theorem fk_1273 : FOK 1273 (.array .int) "OverlayViewerModel" "structOf" "[I" true := ⟨_, _, rfl, by decide, rfl, rfl, by decide +kernel⟩
set_option maxRecDepth 100000 in
theorem fk_1274 : FOK 1274 (.array .int) "OverlayViewerModel" "fieldOf" "[I" true := ⟨_, _, rfl, by decide, rfl, rfl, by decide +kernel⟩
set_option maxRecDepth 100000 in
theorem fk_1275 : FOK 1275 (.array .int) "OverlayViewerModel" "partOf" "[I" true := ⟨_, _, rfl, by decide, rfl, rfl, by decide +kernel⟩
set_option maxRecDepth 100000 in
theorem fk_1276 : FOK 1276 (.array .int) "OverlayViewerModel" "firstKid" "[I" true := ⟨_, _, rfl, by decide, rfl, rfl, by decide +kernel⟩
set_option maxRecDepth 100000 in
theorem fk_1277 : FOK 1277 (.array .int) "OverlayViewerModel" "lastKid" "[I" true := ⟨_, _, rfl, by decide, rfl, rfl, by decide +kernel⟩
set_option maxRecDepth 100000 in
theorem fk_1278 : FOK 1278 (.array .int) "OverlayViewerModel" "nextKid" "[I" true := ⟨_, _, rfl, by decide, rfl, rfl, by decide +kernel⟩
set_option maxRecDepth 100000 in
theorem fk_1279 : FOK 1279 (.array .boolean) "OverlayViewerModel" "met" "[Z" true := ⟨_, _, rfl, by decide, rfl, rfl, by decide +kernel⟩
set_option maxRecDepth 100000 in
theorem fk_1280 : FOK 1280 .int "OverlayViewerModel" "t" "I" false := ⟨_, _, rfl, by decide, rfl, rfl, by decide +kernel⟩
set_option maxRecDepth 100000 in
theorem fk_1281 : FOK 1281 .int "OverlayViewerModel" "im" "I" false := ⟨_, _, rfl, by decide, rfl, rfl, by decide +kernel⟩
set_option maxRecDepth 100000 in
theorem fk_1282 : FOK 1282 .boolean "OverlayViewerModel" "many" "Z" false := ⟨_, _, rfl, by decide, rfl, rfl, by decide +kernel⟩
set_option maxRecDepth 100000 in
theorem fk_1283 : FOK 1283 (.array .int) "OverlayViewerModel" "open" "[I" true := ⟨_, _, rfl, by decide, rfl, rfl, by decide +kernel⟩
set_option maxRecDepth 100000 in
theorem fk_1284 : FOK 1284 (.array .int) "OverlayViewerModel" "nextOf" "[I" true := ⟨_, _, rfl, by decide, rfl, rfl, by decide +kernel⟩
set_option maxRecDepth 100000 in
theorem fk_1285 : FOK 1285 .int "OverlayViewerModel" "opened" "I" false := ⟨_, _, rfl, by decide, rfl, rfl, by decide +kernel⟩
set_option maxRecDepth 100000 in
theorem fk_1286 : FOK 1286 .boolean "OverlayViewerModel" "fails" "Z" false := ⟨_, _, rfl, by decide, rfl, rfl, by decide +kernel⟩
set_option maxRecDepth 100000 in
theorem fk_1287 : FOK 1287 (.array .long) "OverlayViewerModel" "result" "[J" true := ⟨_, _, rfl, by decide, rfl, rfl, by decide +kernel⟩
set_option maxRecDepth 100000 in
theorem fk_1288 : FOK 1288 .long "OverlayViewerModel" "sumFrom" "J" false := ⟨_, _, rfl, by decide, rfl, rfl, by decide +kernel⟩
set_option maxRecDepth 100000 in
theorem fk_1289 : FOK 1289 .long "OverlayViewerModel" "sumTo" "J" false := ⟨_, _, rfl, by decide, rfl, rfl, by decide +kernel⟩
set_option maxRecDepth 100000 in
theorem fk_1290 : FOK 1290 .long "OverlayViewerModel" "out" "J" false := ⟨_, _, rfl, by decide, rfl, rfl, by decide +kernel⟩
set_option maxRecDepth 100000 in
theorem lf_X11_11 : Cond.fieldLink RX11 11 "OverlayViewer" "images" "[LOverlayViewer$Image;" ∈ lw_use := tbk_2 212 rfl (by decide +kernel)
set_option maxRecDepth 100000 in
theorem lf_X11_18 : Cond.fieldLink RX11 18 "OverlayViewer" "tape" "LOverlayViewer$Tape;" ∈ lw_use := tbk_2 214 rfl (by decide +kernel)
set_option maxRecDepth 100000 in
theorem lf_X11_25 : Cond.fieldLink RX11 25 "OverlayViewer" "parser" "LOverlayViewer$Parser;" ∈ lw_use := tbk_2 215 rfl (by decide +kernel)
set_option maxRecDepth 100000 in
theorem lf_X11_32 : Cond.fieldLink RX11 32 "OverlayViewer" "reckoner" "LOverlayViewer$Reckoner;" ∈ lw_use := tbk_2 216 rfl (by decide +kernel)
set_option maxRecDepth 100000 in
theorem lf_X11_39 : Cond.fieldLink RX11 39 "OverlayViewer" "description" "LOverlayViewer$Description;" ∈ lw_use := tbk_2 217 rfl (by decide +kernel)
set_option maxRecDepth 100000 in
theorem lf_X11_43 : Cond.fieldLink RX11 43 "OverlayViewer" "spareDescription" "LOverlayViewer$Description;" ∈ lw_use := tbk_2 218 rfl (by decide +kernel)
set_option maxRecDepth 100000 in
theorem lf_X11_49 : Cond.fieldLink RX11 49 "OverlayViewer" "question" "LOverlayViewer$Code;" ∈ lw_use := tbk_2 219 rfl (by decide +kernel)
set_option maxRecDepth 100000 in
theorem lf_X11_55 : Cond.fieldLink RX11 55 "OverlayViewer" "trees" "[LOverlayViewer$Tree;" ∈ lw_use := tbk_2 220 rfl (by decide +kernel)
set_option maxRecDepth 100000 in
theorem lf_X11_60 : Cond.fieldLink RX11 60 "OverlayViewer" "spareTree" "LOverlayViewer$Tree;" ∈ lw_use := tbk_2 221 rfl (by decide +kernel)
set_option maxRecDepth 100000 in
theorem lf_X11_64 : Cond.fieldLink RX11 64 "OverlayViewer" "pattern" "[I" ∈ lw_use := tbk_2 225 rfl (by decide +kernel)
set_option maxRecDepth 100000 in
theorem lf_X11_68 : Cond.fieldLink RX11 68 "OverlayViewer" "mask" "[I" ∈ lw_use := tbk_2 226 rfl (by decide +kernel)
set_option maxRecDepth 100000 in
theorem lf_X11_71 : Cond.fieldLink RX11 71 "OverlayViewer" "marks" "[I" ∈ lw_use := tbk_2 227 rfl (by decide +kernel)
set_option maxRecDepth 100000 in
theorem lf_X11_74 : Cond.fieldLink RX11 74 "OverlayViewer" "imageCount" "I" ∈ lw_use := tbk_2 213 rfl (by decide +kernel)
set_option maxRecDepth 100000 in
theorem lf_X11_83 : Cond.fieldLink RX11 83 "OverlayViewer$Image" "layerCount" "I" ∈ lw_use := tbk_3 38 rfl (by decide +kernel)
set_option maxRecDepth 100000 in
theorem lf_X11_86 : Cond.fieldLink RX11 86 "OverlayViewer$Image" "length" "I" ∈ lw_use := tbk_3 41 rfl (by decide +kernel)
set_option maxRecDepth 100000 in
theorem lf_X11_123 : Cond.fieldLink RX11 123 "OverlayViewer$Tape" "count" "I" ∈ lw_use := tbk_1 90 rfl (by decide +kernel)
set_option maxRecDepth 100000 in
theorem lf_X11_134 : Cond.fieldLink RX11 134 "OverlayViewer$Parser" "fault" "I" ∈ lw_use := tbk_1 128 rfl (by decide +kernel)
set_option maxRecDepth 100000 in
theorem lf_X11_137 : Cond.fieldLink RX11 137 "OverlayViewer" "lastFault" "I" ∈ lw_use := tbk_2 223 rfl (by decide +kernel)
set_option maxRecDepth 100000 in
theorem lf_X11_140 : Cond.fieldLink RX11 140 "OverlayViewer$Parser" "faultPlace" "I" ∈ lw_use := tbk_1 130 rfl (by decide +kernel)
set_option maxRecDepth 100000 in
theorem lf_X11_143 : Cond.fieldLink RX11 143 "OverlayViewer" "treeCount" "I" ∈ lw_use := tbk_2 222 rfl (by decide +kernel)
set_option maxRecDepth 100000 in
theorem lf_X11_146 : Cond.fieldLink RX11 146 "OverlayViewer$Description" "structureCount" "I" ∈ lw_use := tbk_2 116 rfl (by decide +kernel)
set_option maxRecDepth 100000 in
theorem lf_X11_153 : Cond.fieldLink RX11 153 "OverlayViewer$Description" "structures" "[LOverlayViewer$Structure;" ∈ lw_use := tbk_2 114 rfl (by decide +kernel)
set_option maxRecDepth 100000 in
theorem lf_X11_157 : Cond.fieldLink RX11 157 "OverlayViewer$Structure" "size" "I" ∈ lw_use := tbk_2 96 rfl (by decide +kernel)
set_option maxRecDepth 100000 in
theorem lf_X11_162 : Cond.fieldLink RX11 162 "OverlayViewer$Structure" "used" "I" ∈ lw_use := tbk_2 99 rfl (by decide +kernel)
set_option maxRecDepth 100000 in
theorem lf_X11_169 : Cond.fieldLink RX11 169 "OverlayViewer$Tree" "many" "Z" ∈ lw_use := tbk_2 186 rfl (by decide +kernel)
set_option maxRecDepth 100000 in
theorem lf_X11_177 : Cond.fieldLink RX11 177 "OverlayViewer$Tree" "image" "LOverlayViewer$Image;" ∈ lw_use := tbk_2 176 rfl (by decide +kernel)
set_option maxRecDepth 100000 in
theorem lf_X11_181 : Cond.fieldLink RX11 181 "OverlayViewer$Tree" "structure" "I" ∈ lw_use := tbk_2 178 rfl (by decide +kernel)
set_option maxRecDepth 100000 in
theorem lf_X11_184 : Cond.fieldLink RX11 184 "OverlayViewer$Tree" "place" "I" ∈ lw_use := tbk_2 180 rfl (by decide +kernel)
set_option maxRecDepth 100000 in
theorem lf_X11_187 : Cond.fieldLink RX11 187 "OverlayViewer$Tree" "count" "I" ∈ lw_use := tbk_2 184 rfl (by decide +kernel)
set_option maxRecDepth 100000 in
theorem lf_X11_192 : Cond.fieldLink RX11 192 "OverlayViewer$Node" "kind" "I" ∈ lw_use := tbk_5 105 rfl (by decide +kernel)
set_option maxRecDepth 100000 in
theorem lf_X11_197 : Cond.fieldLink RX11 197 "OverlayViewer$Node" "from" "I" ∈ lw_use := tbk_5 110 rfl (by decide +kernel)
set_option maxRecDepth 100000 in
theorem lf_X11_200 : Cond.fieldLink RX11 200 "OverlayViewer$Node" "to" "I" ∈ lw_use := tbk_5 113 rfl (by decide +kernel)
set_option maxRecDepth 100000 in
theorem lf_X11_203 : Cond.fieldLink RX11 203 "OverlayViewer$Node" "parent" "LOverlayViewer$Node;" ∈ lw_use := tbk_5 125 rfl (by decide +kernel)
set_option maxRecDepth 100000 in
theorem lf_X11_207 : Cond.fieldLink RX11 207 "OverlayViewer$Node" "number" "I" ∈ lw_use := tbk_5 103 rfl (by decide +kernel)
set_option maxRecDepth 100000 in
theorem lf_X11_210 : Cond.fieldLink RX11 210 "OverlayViewer$Node" "kids" "I" ∈ lw_use := tbk_5 130 rfl (by decide +kernel)
set_option maxRecDepth 100000 in
theorem lf_X11_213 : Cond.fieldLink RX11 213 "OverlayViewer$Node" "fault" "I" ∈ lw_use := tbk_5 117 rfl (by decide +kernel)
set_option maxRecDepth 100000 in
theorem lf_X11_214 : Cond.fieldLink RX11 214 "OverlayViewer$Node" "met" "Z" ∈ lw_use := tbk_5 119 rfl (by decide +kernel)
set_option maxRecDepth 100000 in
theorem lf_X11_217 : Cond.fieldLink RX11 217 "OverlayViewer$Node" "structure" "I" ∈ lw_use := tbk_5 138 rfl (by decide +kernel)
set_option maxRecDepth 100000 in
theorem lf_X11_229 : Cond.fieldLink RX11 229 "OverlayViewer$Node" "name" "J" ∈ lw_use := tbk_5 122 rfl (by decide +kernel)
set_option maxRecDepth 100000 in
theorem lf_X11_237 : Cond.fieldLink RX11 237 "OverlayViewer$Node" "field" "LOverlayViewer$Field;" ∈ lw_use := tbk_5 135 rfl (by decide +kernel)
set_option maxRecDepth 100000 in
theorem lf_X11_241 : Cond.fieldLink RX11 241 "OverlayViewer$Field" "pairs" "I" ∈ lw_use := tbk_2 11 rfl (by decide +kernel)
set_option maxRecDepth 100000 in
theorem lf_X11_250 : Cond.fieldLink RX11 250 "OverlayViewer$Description" "entryNames" "[J" ∈ lw_use := tbk_2 129 rfl (by decide +kernel)
set_option maxRecDepth 100000 in
theorem lf_X11_260 : Cond.fieldLink RX11 260 "OverlayViewer$Tape" "tokenCount" "I" ∈ lw_use := tbk_1 101 rfl (by decide +kernel)
set_option maxRecDepth 100000 in
theorem lf_X11_263 : Cond.fieldLink RX11 263 "OverlayViewer$Tape" "kinds" "[I" ∈ lw_use := tbk_1 93 rfl (by decide +kernel)
set_option maxRecDepth 100000 in
theorem lf_X11_278 : Cond.fieldLink RX11 278 "OverlayViewer$Reckoner" "failed" "Z" ∈ lw_use := tbk_1 171 rfl (by decide +kernel)
set_option maxRecDepth 100000 in
theorem lf_X11_281 : Cond.fieldLink RX11 281 "OverlayViewer" "lastOut" "J" ∈ lw_use := tbk_2 224 rfl (by decide +kernel)
set_option maxRecDepth 100000 in
theorem lf_X11_292 : Cond.fieldLink RX11 292 "OverlayViewer$Field" "width" "I" ∈ lw_use := tbk_1 237 rfl (by decide +kernel)
set_option maxRecDepth 100000 in
theorem lf_X11_295 : Cond.fieldLink RX11 295 "OverlayViewer$Field" "big" "Z" ∈ lw_use := tbk_2 3 rfl (by decide +kernel)
set_option maxRecDepth 100000 in
theorem lf_X11_306 : Cond.fieldLink RX11 306 "OverlayViewer$Field" "first" "I" ∈ lw_use := tbk_2 22 rfl (by decide +kernel)
set_option maxRecDepth 100000 in
theorem lf_X11_309 : Cond.fieldLink RX11 309 "OverlayViewer$Field" "number" "J" ∈ lw_use := tbk_2 29 rfl (by decide +kernel)
set_option maxRecDepth 100000 in
theorem lf_X11_322 : Cond.fieldLink RX11 322 "OverlayViewer$Tape" "bytes" "[I" ∈ lw_use := tbk_1 88 rfl (by decide +kernel)
set_option maxRecDepth 100000 in
theorem lf_X11_325 : Cond.fieldLink RX11 325 "OverlayViewer$Structure" "fieldCount" "I" ∈ lw_use := tbk_2 94 rfl (by decide +kernel)
set_option maxRecDepth 100000 in
theorem lf_X11_328 : Cond.fieldLink RX11 328 "OverlayViewer$Structure" "fields" "[LOverlayViewer$Field;" ∈ lw_use := tbk_2 90 rfl (by decide +kernel)
set_option maxRecDepth 100000 in
theorem lf_X11_332 : Cond.fieldLink RX11 332 "OverlayViewer$Field" "kind" "I" ∈ lw_use := tbk_1 228 rfl (by decide +kernel)
set_option maxRecDepth 100000 in
theorem lf_X11_333 : Cond.fieldLink RX11 333 "OverlayViewer$Field" "condition" "I" ∈ lw_use := tbk_2 16 rfl (by decide +kernel)
set_option maxRecDepth 100000 in
theorem lf_X11_336 : Cond.fieldLink RX11 336 "OverlayViewer$Field" "entryCount" "I" ∈ lw_use := tbk_2 43 rfl (by decide +kernel)
set_option maxRecDepth 100000 in
theorem lf_X11_339 : Cond.fieldLink RX11 339 "OverlayViewer$Description" "entryNumbers" "[J" ∈ lw_use := tbk_2 133 rfl (by decide +kernel)
set_option maxRecDepth 100000 in
theorem lf_X11_342 : Cond.fieldLink RX11 342 "OverlayViewer$Field" "entryStart" "I" ∈ lw_use := tbk_2 38 rfl (by decide +kernel)
set_option maxRecDepth 100000 in
theorem lf_X11_373 : Cond.fieldLink RX11 373 "OverlayViewer$Description" "enumCount" "I" ∈ lw_use := tbk_2 126 rfl (by decide +kernel)
set_option maxRecDepth 100000 in
theorem lf_X11_385 : Cond.fieldLink RX11 385 "OverlayViewer$Tree" "nodes" "[LOverlayViewer$Node;" ∈ lw_use := tbk_2 182 rfl (by decide +kernel)
set_option maxRecDepth 100000 in
theorem lf_X11_389 : Cond.fieldLink RX11 389 "OverlayViewer$Tape" "values" "[J" ∈ lw_use := tbk_1 98 rfl (by decide +kernel)
set_option maxRecDepth 100000 in
theorem lf_X11_402 : Cond.fieldLink RX11 402 "OverlayViewer$Image" "layers" "[LOverlayViewer$Layer;" ∈ lw_use := tbk_3 36 rfl (by decide +kernel)
set_option maxRecDepth 100000 in
theorem lf_X11_406 : Cond.fieldLink RX11 406 "OverlayViewer$Layer" "kept" "I" ∈ lw_use := tbk_3 106 rfl (by decide +kernel)
set_option maxRecDepth 100000 in
theorem lf_X0_9 : Cond.fieldLink RX0 9 "OverlayViewer$Code" "steps" "[I" ∈ lw_use := tbk_1 195 rfl (by decide +kernel)
set_option maxRecDepth 100000 in
theorem lf_X0_15 : Cond.fieldLink RX0 15 "OverlayViewer$Code" "operands" "[J" ∈ lw_use := tbk_1 197 rfl (by decide +kernel)
set_option maxRecDepth 100000 in
theorem lf_X0_19 : Cond.fieldLink RX0 19 "OverlayViewer$Code" "count" "I" ∈ lw_use := tbk_1 199 rfl (by decide +kernel)
set_option maxRecDepth 100000 in
theorem lf_X1_11 : Cond.fieldLink RX1 11 "OverlayViewer$Description" "structures" "[LOverlayViewer$Structure;" ∈ lw_use := tbk_2 111 rfl (by decide +kernel)
set_option maxRecDepth 100000 in
theorem lf_X1_17 : Cond.fieldLink RX1 17 "OverlayViewer$Description" "enumNames" "[J" ∈ lw_use := tbk_2 118 rfl (by decide +kernel)
set_option maxRecDepth 100000 in
theorem lf_X1_21 : Cond.fieldLink RX1 21 "OverlayViewer$Description" "pairStart" "[I" ∈ lw_use := tbk_2 120 rfl (by decide +kernel)
set_option maxRecDepth 100000 in
theorem lf_X1_25 : Cond.fieldLink RX1 25 "OverlayViewer$Description" "pairCount" "[I" ∈ lw_use := tbk_2 122 rfl (by decide +kernel)
set_option maxRecDepth 100000 in
theorem lf_X1_28 : Cond.fieldLink RX1 28 "OverlayViewer$Description" "entryNames" "[J" ∈ lw_use := tbk_2 127 rfl (by decide +kernel)
set_option maxRecDepth 100000 in
theorem lf_X1_31 : Cond.fieldLink RX1 31 "OverlayViewer$Description" "entryNumbers" "[J" ∈ lw_use := tbk_2 131 rfl (by decide +kernel)
set_option maxRecDepth 100000 in
theorem lf_X1_34 : Cond.fieldLink RX1 34 "OverlayViewer$Description" "entryTargets" "[I" ∈ lw_use := tbk_2 134 rfl (by decide +kernel)
set_option maxRecDepth 100000 in
theorem lf_X1_40 : Cond.fieldLink RX1 40 "OverlayViewer$Description" "code" "LOverlayViewer$Code;" ∈ lw_use := tbk_2 138 rfl (by decide +kernel)
set_option maxRecDepth 100000 in
theorem lf_X1_45 : Cond.fieldLink RX1 45 "OverlayViewer$Description" "structureCount" "I" ∈ lw_use := tbk_2 115 rfl (by decide +kernel)
set_option maxRecDepth 100000 in
theorem lf_X1_49 : Cond.fieldLink RX1 49 "OverlayViewer$Description" "enumCount" "I" ∈ lw_use := tbk_2 124 rfl (by decide +kernel)
set_option maxRecDepth 100000 in
theorem lf_X1_52 : Cond.fieldLink RX1 52 "OverlayViewer$Description" "entryCount" "I" ∈ lw_use := tbk_2 136 rfl (by decide +kernel)
set_option maxRecDepth 100000 in
theorem lf_X1_55 : Cond.fieldLink RX1 55 "OverlayViewer$Code" "count" "I" ∈ lw_use := tbk_1 200 rfl (by decide +kernel)
set_option maxRecDepth 100000 in
theorem lf_X1_58 : Cond.fieldLink RX1 58 "OverlayViewer$Structure" "name" "J" ∈ lw_use := tbk_2 83 rfl (by decide +kernel)
set_option maxRecDepth 100000 in
theorem lf_X1_66 : Cond.fieldLink RX1 66 "OverlayViewer$Structure" "size" "I" ∈ lw_use := tbk_2 95 rfl (by decide +kernel)
set_option maxRecDepth 100000 in
theorem lf_X1_69 : Cond.fieldLink RX1 69 "OverlayViewer$Structure" "fieldCount" "I" ∈ lw_use := tbk_2 91 rfl (by decide +kernel)
set_option maxRecDepth 100000 in
theorem lf_X1_72 : Cond.fieldLink RX1 72 "OverlayViewer$Structure" "fields" "[LOverlayViewer$Field;" ∈ lw_use := tbk_2 87 rfl (by decide +kernel)
set_option maxRecDepth 100000 in
theorem lf_X1_82 : Cond.fieldLink RX1 82 "OverlayViewer$Field" "condition" "I" ∈ lw_use := tbk_2 13 rfl (by decide +kernel)
set_option maxRecDepth 100000 in
theorem lf_X1_89 : Cond.fieldLink RX1 89 "OverlayViewer$Field" "kind" "I" ∈ lw_use := tbk_1 225 rfl (by decide +kernel)
set_option maxRecDepth 100000 in
theorem lf_X1_92 : Cond.fieldLink RX1 92 "OverlayViewer$Field" "structure" "I" ∈ lw_use := tbk_2 5 rfl (by decide +kernel)
set_option maxRecDepth 100000 in
theorem lf_X1_103 : Cond.fieldLink RX1 103 "OverlayViewer$Field" "first" "I" ∈ lw_use := tbk_2 19 rfl (by decide +kernel)
set_option maxRecDepth 100000 in
theorem lf_X1_118 : Cond.fieldLink RX1 118 "OverlayViewer$Field" "entryCount" "I" ∈ lw_use := tbk_2 40 rfl (by decide +kernel)
set_option maxRecDepth 100000 in
theorem lf_X1_119 : Cond.fieldLink RX1 119 "OverlayViewer$Field" "width" "I" ∈ lw_use := tbk_1 234 rfl (by decide +kernel)
set_option maxRecDepth 100000 in
theorem lf_X1_122 : Cond.fieldLink RX1 122 "OverlayViewer$Field" "otherwise" "I" ∈ lw_use := tbk_2 31 rfl (by decide +kernel)
set_option maxRecDepth 100000 in
theorem lf_X1_125 : Cond.fieldLink RX1 125 "OverlayViewer$Field" "entryStart" "I" ∈ lw_use := tbk_2 35 rfl (by decide +kernel)
set_option maxRecDepth 100000 in
theorem lf_X1_128 : Cond.fieldLink RX1 128 "OverlayViewer$Structure" "used" "I" ∈ lw_use := tbk_2 98 rfl (by decide +kernel)
set_option maxRecDepth 100000 in
theorem lf_X2_9 : Cond.fieldLink RX2 9 "OverlayViewer$Field" "index" "I" ∈ lw_use := tbk_1 222 rfl (by decide +kernel)
set_option maxRecDepth 100000 in
theorem lf_X2_15 : Cond.fieldLink RX2 15 "OverlayViewer$Field" "kind" "I" ∈ lw_use := tbk_1 224 rfl (by decide +kernel)
set_option maxRecDepth 100000 in
theorem lf_X2_18 : Cond.fieldLink RX2 18 "OverlayViewer$Field" "name" "J" ∈ lw_use := tbk_1 229 rfl (by decide +kernel)
set_option maxRecDepth 100000 in
theorem lf_X2_22 : Cond.fieldLink RX2 22 "OverlayViewer$Field" "width" "I" ∈ lw_use := tbk_1 232 rfl (by decide +kernel)
set_option maxRecDepth 100000 in
theorem lf_X2_25 : Cond.fieldLink RX2 25 "OverlayViewer$Field" "signed" "Z" ∈ lw_use := tbk_1 238 rfl (by decide +kernel)
set_option maxRecDepth 100000 in
theorem lf_X2_29 : Cond.fieldLink RX2 29 "OverlayViewer$Field" "big" "Z" ∈ lw_use := tbk_2 0 rfl (by decide +kernel)
set_option maxRecDepth 100000 in
theorem lf_X2_32 : Cond.fieldLink RX2 32 "OverlayViewer$Field" "structure" "I" ∈ lw_use := tbk_2 4 rfl (by decide +kernel)
set_option maxRecDepth 100000 in
theorem lf_X2_35 : Cond.fieldLink RX2 35 "OverlayViewer$Field" "pairs" "I" ∈ lw_use := tbk_2 8 rfl (by decide +kernel)
set_option maxRecDepth 100000 in
theorem lf_X2_38 : Cond.fieldLink RX2 38 "OverlayViewer$Field" "condition" "I" ∈ lw_use := tbk_2 12 rfl (by decide +kernel)
set_option maxRecDepth 100000 in
theorem lf_X2_41 : Cond.fieldLink RX2 41 "OverlayViewer$Field" "first" "I" ∈ lw_use := tbk_2 17 rfl (by decide +kernel)
set_option maxRecDepth 100000 in
theorem lf_X2_44 : Cond.fieldLink RX2 44 "OverlayViewer$Field" "second" "I" ∈ lw_use := tbk_2 23 rfl (by decide +kernel)
set_option maxRecDepth 100000 in
theorem lf_X2_47 : Cond.fieldLink RX2 47 "OverlayViewer$Field" "number" "J" ∈ lw_use := tbk_2 26 rfl (by decide +kernel)
set_option maxRecDepth 100000 in
theorem lf_X2_50 : Cond.fieldLink RX2 50 "OverlayViewer$Field" "otherwise" "I" ∈ lw_use := tbk_2 30 rfl (by decide +kernel)
set_option maxRecDepth 100000 in
theorem lf_X2_53 : Cond.fieldLink RX2 53 "OverlayViewer$Field" "entryStart" "I" ∈ lw_use := tbk_2 34 rfl (by decide +kernel)
set_option maxRecDepth 100000 in
theorem lf_X2_56 : Cond.fieldLink RX2 56 "OverlayViewer$Field" "entryCount" "I" ∈ lw_use := tbk_2 39 rfl (by decide +kernel)
set_option maxRecDepth 100000 in
theorem lf_X2_59 : Cond.fieldLink RX2 59 "OverlayViewer$Field" "aimName" "J" ∈ lw_use := tbk_2 44 rfl (by decide +kernel)
set_option maxRecDepth 100000 in
theorem lf_X2_62 : Cond.fieldLink RX2 62 "OverlayViewer$Field" "aimPlace" "I" ∈ lw_use := tbk_2 46 rfl (by decide +kernel)
set_option maxRecDepth 100000 in
theorem lf_X3_9 : Cond.fieldLink RX3 9 "OverlayViewer$Image" "own" "[I" ∈ lw_use := tbk_3 32 rfl (by decide +kernel)
set_option maxRecDepth 100000 in
theorem lf_X3_15 : Cond.fieldLink RX3 15 "OverlayViewer$Image" "now" "[I" ∈ lw_use := tbk_3 33 rfl (by decide +kernel)
set_option maxRecDepth 100000 in
theorem lf_X3_20 : Cond.fieldLink RX3 20 "OverlayViewer$Image" "layers" "[LOverlayViewer$Layer;" ∈ lw_use := tbk_3 35 rfl (by decide +kernel)
set_option maxRecDepth 100000 in
theorem lf_X3_24 : Cond.fieldLink RX3 24 "OverlayViewer$Image" "length" "I" ∈ lw_use := tbk_3 39 rfl (by decide +kernel)
set_option maxRecDepth 100000 in
theorem lf_X3_28 : Cond.fieldLink RX3 28 "OverlayViewer$Image" "layerCount" "I" ∈ lw_use := tbk_3 37 rfl (by decide +kernel)
set_option maxRecDepth 100000 in
theorem lf_X3_43 : Cond.fieldLink RX3 43 "OverlayViewer$Layer" "bytes" "[I" ∈ lw_use := tbk_3 95 rfl (by decide +kernel)
set_option maxRecDepth 100000 in
theorem lf_X3_50 : Cond.fieldLink RX3 50 "OverlayViewer$Layer" "byteCount" "I" ∈ lw_use := tbk_3 97 rfl (by decide +kernel)
set_option maxRecDepth 100000 in
theorem lf_X3_57 : Cond.fieldLink RX3 57 "OverlayViewer$Layer" "kept" "I" ∈ lw_use := tbk_3 105 rfl (by decide +kernel)
set_option maxRecDepth 100000 in
theorem lf_X3_60 : Cond.fieldLink RX3 60 "OverlayViewer$Layer" "keptFrom" "[I" ∈ lw_use := tbk_3 99 rfl (by decide +kernel)
set_option maxRecDepth 100000 in
theorem lf_X3_63 : Cond.fieldLink RX3 63 "OverlayViewer$Layer" "keptWidth" "[I" ∈ lw_use := tbk_3 101 rfl (by decide +kernel)
set_option maxRecDepth 100000 in
theorem lf_X3_66 : Cond.fieldLink RX3 66 "OverlayViewer$Layer" "keptBytes" "[I" ∈ lw_use := tbk_3 103 rfl (by decide +kernel)
set_option maxRecDepth 100000 in
theorem lf_X4_9 : Cond.fieldLink RX4 9 "OverlayViewer$Layer" "bytes" "[I" ∈ lw_use := tbk_3 94 rfl (by decide +kernel)
set_option maxRecDepth 100000 in
theorem lf_X4_15 : Cond.fieldLink RX4 15 "OverlayViewer$Layer" "keptFrom" "[I" ∈ lw_use := tbk_3 98 rfl (by decide +kernel)
set_option maxRecDepth 100000 in
theorem lf_X4_18 : Cond.fieldLink RX4 18 "OverlayViewer$Layer" "keptWidth" "[I" ∈ lw_use := tbk_3 100 rfl (by decide +kernel)
set_option maxRecDepth 100000 in
theorem lf_X4_21 : Cond.fieldLink RX4 21 "OverlayViewer$Layer" "keptBytes" "[I" ∈ lw_use := tbk_3 102 rfl (by decide +kernel)
set_option maxRecDepth 100000 in
theorem lf_X4_30 : Cond.fieldLink RX4 30 "OverlayViewer$Layer" "byteCount" "I" ∈ lw_use := tbk_3 96 rfl (by decide +kernel)
set_option maxRecDepth 100000 in
theorem lf_X4_34 : Cond.fieldLink RX4 34 "OverlayViewer$Layer" "kept" "I" ∈ lw_use := tbk_3 104 rfl (by decide +kernel)
set_option maxRecDepth 100000 in
theorem lf_X5_9 : Cond.fieldLink RX5 9 "OverlayViewer$Node" "number" "I" ∈ lw_use := tbk_5 102 rfl (by decide +kernel)
set_option maxRecDepth 100000 in
theorem lf_X5_15 : Cond.fieldLink RX5 15 "OverlayViewer$Node" "kind" "I" ∈ lw_use := tbk_5 104 rfl (by decide +kernel)
set_option maxRecDepth 100000 in
theorem lf_X5_18 : Cond.fieldLink RX5 18 "OverlayViewer$Node" "from" "I" ∈ lw_use := tbk_5 107 rfl (by decide +kernel)
set_option maxRecDepth 100000 in
theorem lf_X5_21 : Cond.fieldLink RX5 21 "OverlayViewer$Node" "to" "I" ∈ lw_use := tbk_5 111 rfl (by decide +kernel)
set_option maxRecDepth 100000 in
theorem lf_X5_24 : Cond.fieldLink RX5 24 "OverlayViewer$Node" "fault" "I" ∈ lw_use := tbk_5 114 rfl (by decide +kernel)
set_option maxRecDepth 100000 in
theorem lf_X5_27 : Cond.fieldLink RX5 27 "OverlayViewer$Node" "met" "Z" ∈ lw_use := tbk_5 118 rfl (by decide +kernel)
set_option maxRecDepth 100000 in
theorem lf_X5_31 : Cond.fieldLink RX5 31 "OverlayViewer$Node" "name" "J" ∈ lw_use := tbk_5 121 rfl (by decide +kernel)
set_option maxRecDepth 100000 in
theorem lf_X5_35 : Cond.fieldLink RX5 35 "OverlayViewer$Node" "parent" "LOverlayViewer$Node;" ∈ lw_use := tbk_5 123 rfl (by decide +kernel)
set_option maxRecDepth 100000 in
theorem lf_X5_39 : Cond.fieldLink RX5 39 "OverlayViewer$Node" "firstKid" "LOverlayViewer$Node;" ∈ lw_use := tbk_5 126 rfl (by decide +kernel)
set_option maxRecDepth 100000 in
theorem lf_X5_42 : Cond.fieldLink RX5 42 "OverlayViewer$Node" "lastKid" "LOverlayViewer$Node;" ∈ lw_use := tbk_5 127 rfl (by decide +kernel)
set_option maxRecDepth 100000 in
theorem lf_X5_45 : Cond.fieldLink RX5 45 "OverlayViewer$Node" "next" "LOverlayViewer$Node;" ∈ lw_use := tbk_5 128 rfl (by decide +kernel)
set_option maxRecDepth 100000 in
theorem lf_X5_48 : Cond.fieldLink RX5 48 "OverlayViewer$Node" "kids" "I" ∈ lw_use := tbk_5 129 rfl (by decide +kernel)
set_option maxRecDepth 100000 in
theorem lf_X5_51 : Cond.fieldLink RX5 51 "OverlayViewer$Node" "away" "I" ∈ lw_use := tbk_5 131 rfl (by decide +kernel)
set_option maxRecDepth 100000 in
theorem lf_X5_54 : Cond.fieldLink RX5 54 "OverlayViewer$Node" "field" "LOverlayViewer$Field;" ∈ lw_use := tbk_5 133 rfl (by decide +kernel)
set_option maxRecDepth 100000 in
theorem lf_X5_58 : Cond.fieldLink RX5 58 "OverlayViewer$Node" "structure" "I" ∈ lw_use := tbk_5 136 rfl (by decide +kernel)
set_option maxRecDepth 100000 in
theorem lf_X5_61 : Cond.fieldLink RX5 61 "OverlayViewer$Node" "lowest" "I" ∈ lw_use := tbk_5 139 rfl (by decide +kernel)
set_option maxRecDepth 100000 in
theorem lf_X5_64 : Cond.fieldLink RX5 64 "OverlayViewer$Node" "bits" "I" ∈ lw_use := tbk_5 141 rfl (by decide +kernel)
set_option maxRecDepth 100000 in
theorem lf_X5_67 : Cond.fieldLink RX5 67 "OverlayViewer$Field" "index" "I" ∈ lw_use := tbk_1 223 rfl (by decide +kernel)
set_option maxRecDepth 100000 in
theorem lf_X5_80 : Cond.fieldLink RX5 80 "OverlayViewer$Field" "first" "I" ∈ lw_use := tbk_2 18 rfl (by decide +kernel)
set_option maxRecDepth 100000 in
theorem lf_X5_87 : Cond.fieldLink RX5 87 "OverlayViewer$Field" "width" "I" ∈ lw_use := tbk_1 235 rfl (by decide +kernel)
set_option maxRecDepth 100000 in
theorem lf_X5_90 : Cond.fieldLink RX5 90 "OverlayViewer$Field" "big" "Z" ∈ lw_use := tbk_2 2 rfl (by decide +kernel)
set_option maxRecDepth 100000 in
theorem lf_X5_103 : Cond.fieldLink RX5 103 "OverlayViewer$Field" "signed" "Z" ∈ lw_use := tbk_1 239 rfl (by decide +kernel)
set_option maxRecDepth 100000 in
theorem lf_X6_9 : Cond.fieldLink RX6 9 "OverlayViewer$Description" "code" "LOverlayViewer$Code;" ∈ lw_use := tbk_2 139 rfl (by decide +kernel)
set_option maxRecDepth 100000 in
theorem lf_X6_24 : Cond.fieldLink RX6 24 "OverlayViewer$Parser" "kind" "I" ∈ lw_use := tbk_1 133 rfl (by decide +kernel)
set_option maxRecDepth 100000 in
theorem lf_X6_45 : Cond.fieldLink RX6 45 "OverlayViewer$Code" "count" "I" ∈ lw_use := tbk_1 202 rfl (by decide +kernel)
set_option maxRecDepth 100000 in
theorem lf_X6_50 : Cond.fieldLink RX6 50 "OverlayViewer$Description" "structures" "[LOverlayViewer$Structure;" ∈ lw_use := tbk_2 112 rfl (by decide +kernel)
set_option maxRecDepth 100000 in
theorem lf_X6_54 : Cond.fieldLink RX6 54 "OverlayViewer$Parser" "structure" "LOverlayViewer$Structure;" ∈ lw_use := tbk_1 137 rfl (by decide +kernel)
set_option maxRecDepth 100000 in
theorem lf_X6_62 : Cond.fieldLink RX6 62 "OverlayViewer$Parser" "tape" "LOverlayViewer$Tape;" ∈ lw_use := tbk_1 131 rfl (by decide +kernel)
set_option maxRecDepth 100000 in
theorem lf_X6_66 : Cond.fieldLink RX6 66 "OverlayViewer$Parser" "description" "LOverlayViewer$Description;" ∈ lw_use := tbk_1 135 rfl (by decide +kernel)
set_option maxRecDepth 100000 in
theorem lf_X6_70 : Cond.fieldLink RX6 70 "OverlayViewer$Parser" "code" "LOverlayViewer$Code;" ∈ lw_use := tbk_1 136 rfl (by decide +kernel)
set_option maxRecDepth 100000 in
theorem lf_X6_71 : Cond.fieldLink RX6 71 "OverlayViewer$Parser" "fault" "I" ∈ lw_use := tbk_1 127 rfl (by decide +kernel)
set_option maxRecDepth 100000 in
theorem lf_X6_74 : Cond.fieldLink RX6 74 "OverlayViewer$Parser" "faultPlace" "I" ∈ lw_use := tbk_1 129 rfl (by decide +kernel)
set_option maxRecDepth 100000 in
theorem lf_X6_77 : Cond.fieldLink RX6 77 "OverlayViewer$Parser" "position" "I" ∈ lw_use := tbk_1 132 rfl (by decide +kernel)
set_option maxRecDepth 100000 in
theorem lf_X6_80 : Cond.fieldLink RX6 80 "OverlayViewer$Tape" "kinds" "[I" ∈ lw_use := tbk_1 92 rfl (by decide +kernel)
set_option maxRecDepth 100000 in
theorem lf_X6_86 : Cond.fieldLink RX6 86 "OverlayViewer$Tape" "values" "[J" ∈ lw_use := tbk_1 97 rfl (by decide +kernel)
set_option maxRecDepth 100000 in
theorem lf_X6_90 : Cond.fieldLink RX6 90 "OverlayViewer$Parser" "value" "J" ∈ lw_use := tbk_1 134 rfl (by decide +kernel)
set_option maxRecDepth 100000 in
theorem lf_X6_94 : Cond.fieldLink RX6 94 "OverlayViewer$Tape" "places" "[I" ∈ lw_use := tbk_1 95 rfl (by decide +kernel)
set_option maxRecDepth 100000 in
theorem lf_X6_97 : Cond.fieldLink RX6 97 "OverlayViewer$Tape" "tokenCount" "I" ∈ lw_use := tbk_1 100 rfl (by decide +kernel)
set_option maxRecDepth 100000 in
theorem lf_X6_103 : Cond.fieldLink RX6 103 "OverlayViewer$Parser" "number" "J" ∈ lw_use := tbk_1 139 rfl (by decide +kernel)
set_option maxRecDepth 100000 in
theorem lf_X6_106 : Cond.fieldLink RX6 106 "OverlayViewer$Parser" "field" "LOverlayViewer$Field;" ∈ lw_use := tbk_1 138 rfl (by decide +kernel)
set_option maxRecDepth 100000 in
theorem lf_X6_127 : Cond.fieldLink RX6 127 "OverlayViewer$Description" "enumCount" "I" ∈ lw_use := tbk_2 125 rfl (by decide +kernel)
set_option maxRecDepth 100000 in
theorem lf_X6_133 : Cond.fieldLink RX6 133 "OverlayViewer$Description" "enumNames" "[J" ∈ lw_use := tbk_2 119 rfl (by decide +kernel)
set_option maxRecDepth 100000 in
theorem lf_X6_136 : Cond.fieldLink RX6 136 "OverlayViewer$Description" "pairStart" "[I" ∈ lw_use := tbk_2 121 rfl (by decide +kernel)
set_option maxRecDepth 100000 in
theorem lf_X6_139 : Cond.fieldLink RX6 139 "OverlayViewer$Description" "entryCount" "I" ∈ lw_use := tbk_2 137 rfl (by decide +kernel)
set_option maxRecDepth 100000 in
theorem lf_X6_142 : Cond.fieldLink RX6 142 "OverlayViewer$Description" "pairCount" "[I" ∈ lw_use := tbk_2 123 rfl (by decide +kernel)
set_option maxRecDepth 100000 in
theorem lf_X6_162 : Cond.fieldLink RX6 162 "OverlayViewer$Description" "structureCount" "I" ∈ lw_use := tbk_2 117 rfl (by decide +kernel)
set_option maxRecDepth 100000 in
theorem lf_X6_165 : Cond.fieldLink RX6 165 "OverlayViewer$Structure" "name" "J" ∈ lw_use := tbk_2 85 rfl (by decide +kernel)
set_option maxRecDepth 100000 in
theorem lf_X6_170 : Cond.fieldLink RX6 170 "OverlayViewer$Structure" "fieldCount" "I" ∈ lw_use := tbk_2 93 rfl (by decide +kernel)
set_option maxRecDepth 100000 in
theorem lf_X6_180 : Cond.fieldLink RX6 180 "OverlayViewer$Structure" "size" "I" ∈ lw_use := tbk_2 97 rfl (by decide +kernel)
set_option maxRecDepth 100000 in
theorem lf_X6_186 : Cond.fieldLink RX6 186 "OverlayViewer$Structure" "fields" "[LOverlayViewer$Field;" ∈ lw_use := tbk_2 89 rfl (by decide +kernel)
set_option maxRecDepth 100000 in
theorem lf_X6_191 : Cond.fieldLink RX6 191 "OverlayViewer$Field" "condition" "I" ∈ lw_use := tbk_2 15 rfl (by decide +kernel)
set_option maxRecDepth 100000 in
theorem lf_X6_228 : Cond.fieldLink RX6 228 "OverlayViewer$Field" "name" "J" ∈ lw_use := tbk_1 231 rfl (by decide +kernel)
set_option maxRecDepth 100000 in
theorem lf_X6_229 : Cond.fieldLink RX6 229 "OverlayViewer$Field" "kind" "I" ∈ lw_use := tbk_1 227 rfl (by decide +kernel)
set_option maxRecDepth 100000 in
theorem lf_X6_230 : Cond.fieldLink RX6 230 "OverlayViewer$Field" "entryStart" "I" ∈ lw_use := tbk_2 37 rfl (by decide +kernel)
set_option maxRecDepth 100000 in
theorem lf_X6_233 : Cond.fieldLink RX6 233 "OverlayViewer$Field" "entryCount" "I" ∈ lw_use := tbk_2 42 rfl (by decide +kernel)
set_option maxRecDepth 100000 in
theorem lf_X6_243 : Cond.fieldLink RX6 243 "OverlayViewer$Field" "structure" "I" ∈ lw_use := tbk_2 7 rfl (by decide +kernel)
set_option maxRecDepth 100000 in
theorem lf_X6_248 : Cond.fieldLink RX6 248 "OverlayViewer$Field" "pairs" "I" ∈ lw_use := tbk_2 10 rfl (by decide +kernel)
set_option maxRecDepth 100000 in
theorem lf_X6_251 : Cond.fieldLink RX6 251 "OverlayViewer$Field" "first" "I" ∈ lw_use := tbk_2 21 rfl (by decide +kernel)
set_option maxRecDepth 100000 in
theorem lf_X6_261 : Cond.fieldLink RX6 261 "OverlayViewer$Field" "width" "I" ∈ lw_use := tbk_1 236 rfl (by decide +kernel)
set_option maxRecDepth 100000 in
theorem lf_X6_276 : Cond.fieldLink RX6 276 "OverlayViewer$Field" "number" "J" ∈ lw_use := tbk_2 28 rfl (by decide +kernel)
set_option maxRecDepth 100000 in
theorem lf_X6_280 : Cond.fieldLink RX6 280 "OverlayViewer$Field" "otherwise" "I" ∈ lw_use := tbk_2 33 rfl (by decide +kernel)
set_option maxRecDepth 100000 in
theorem lf_X6_283 : Cond.fieldLink RX6 283 "OverlayViewer$Field" "aimName" "J" ∈ lw_use := tbk_2 45 rfl (by decide +kernel)
set_option maxRecDepth 100000 in
theorem lf_X6_286 : Cond.fieldLink RX6 286 "OverlayViewer$Field" "aimPlace" "I" ∈ lw_use := tbk_2 47 rfl (by decide +kernel)
set_option maxRecDepth 100000 in
theorem lf_X6_298 : Cond.fieldLink RX6 298 "OverlayViewer$Field" "second" "I" ∈ lw_use := tbk_2 25 rfl (by decide +kernel)
set_option maxRecDepth 100000 in
theorem lf_X6_322 : Cond.fieldLink RX6 322 "OverlayViewer$Description" "entryNames" "[J" ∈ lw_use := tbk_2 130 rfl (by decide +kernel)
set_option maxRecDepth 100000 in
theorem lf_X7_9 : Cond.fieldLink RX7 9 "OverlayViewer$Reckoner" "stack" "[J" ∈ lw_use := tbk_1 172 rfl (by decide +kernel)
set_option maxRecDepth 100000 in
theorem lf_X7_15 : Cond.fieldLink RX7 15 "OverlayViewer$Reckoner" "failed" "Z" ∈ lw_use := tbk_1 169 rfl (by decide +kernel)
set_option maxRecDepth 100000 in
theorem lf_X7_19 : Cond.fieldLink RX7 19 "OverlayViewer$Reckoner" "depth" "I" ∈ lw_use := tbk_1 173 rfl (by decide +kernel)
set_option maxRecDepth 100000 in
theorem lf_X7_23 : Cond.fieldLink RX7 23 "OverlayViewer$Code" "count" "I" ∈ lw_use := tbk_1 201 rfl (by decide +kernel)
set_option maxRecDepth 100000 in
theorem lf_X7_28 : Cond.fieldLink RX7 28 "OverlayViewer$Code" "steps" "[I" ∈ lw_use := tbk_1 196 rfl (by decide +kernel)
set_option maxRecDepth 100000 in
theorem lf_X7_32 : Cond.fieldLink RX7 32 "OverlayViewer$Code" "operands" "[J" ∈ lw_use := tbk_1 198 rfl (by decide +kernel)
set_option maxRecDepth 100000 in
theorem lf_X7_39 : Cond.fieldLink RX7 39 "OverlayViewer$Image" "length" "I" ∈ lw_use := tbk_3 40 rfl (by decide +kernel)
set_option maxRecDepth 100000 in
theorem lf_X7_44 : Cond.fieldLink RX7 44 "OverlayViewer$Node" "from" "I" ∈ lw_use := tbk_5 108 rfl (by decide +kernel)
set_option maxRecDepth 100000 in
theorem lf_X7_53 : Cond.fieldLink RX7 53 "OverlayViewer$Node" "fault" "I" ∈ lw_use := tbk_5 115 rfl (by decide +kernel)
set_option maxRecDepth 100000 in
theorem lf_X8_11 : Cond.fieldLink RX8 11 "OverlayViewer$Structure" "fields" "[LOverlayViewer$Field;" ∈ lw_use := tbk_2 86 rfl (by decide +kernel)
set_option maxRecDepth 100000 in
theorem lf_X9_9 : Cond.fieldLink RX9 9 "OverlayViewer$Tape" "bytes" "[I" ∈ lw_use := tbk_1 87 rfl (by decide +kernel)
set_option maxRecDepth 100000 in
theorem lf_X9_15 : Cond.fieldLink RX9 15 "OverlayViewer$Tape" "kinds" "[I" ∈ lw_use := tbk_1 91 rfl (by decide +kernel)
set_option maxRecDepth 100000 in
theorem lf_X9_18 : Cond.fieldLink RX9 18 "OverlayViewer$Tape" "places" "[I" ∈ lw_use := tbk_1 94 rfl (by decide +kernel)
set_option maxRecDepth 100000 in
theorem lf_X9_21 : Cond.fieldLink RX9 21 "OverlayViewer$Tape" "values" "[J" ∈ lw_use := tbk_1 96 rfl (by decide +kernel)
set_option maxRecDepth 100000 in
theorem lf_X9_25 : Cond.fieldLink RX9 25 "OverlayViewer$Tape" "keywords" "[J" ∈ lw_use := tbk_1 102 rfl (by decide +kernel)
set_option maxRecDepth 100000 in
theorem lf_X9_40 : Cond.fieldLink RX9 40 "OverlayViewer$Tape" "count" "I" ∈ lw_use := tbk_1 89 rfl (by decide +kernel)
set_option maxRecDepth 100000 in
theorem lf_X9_48 : Cond.fieldLink RX9 48 "OverlayViewer$Tape" "tokenCount" "I" ∈ lw_use := tbk_1 99 rfl (by decide +kernel)
set_option maxRecDepth 100000 in
theorem lf_X10_11 : Cond.fieldLink RX10 11 "OverlayViewer$Tree" "nodes" "[LOverlayViewer$Node;" ∈ lw_use := tbk_2 181 rfl (by decide +kernel)
set_option maxRecDepth 100000 in
theorem lf_X10_17 : Cond.fieldLink RX10 17 "OverlayViewer$Tree" "image" "LOverlayViewer$Image;" ∈ lw_use := tbk_2 175 rfl (by decide +kernel)
set_option maxRecDepth 100000 in
theorem lf_X10_21 : Cond.fieldLink RX10 21 "OverlayViewer$Tree" "structure" "I" ∈ lw_use := tbk_2 177 rfl (by decide +kernel)
set_option maxRecDepth 100000 in
theorem lf_X10_25 : Cond.fieldLink RX10 25 "OverlayViewer$Tree" "place" "I" ∈ lw_use := tbk_2 179 rfl (by decide +kernel)
set_option maxRecDepth 100000 in
theorem lf_X10_28 : Cond.fieldLink RX10 28 "OverlayViewer$Tree" "description" "LOverlayViewer$Description;" ∈ lw_use := tbk_2 187 rfl (by decide +kernel)
set_option maxRecDepth 100000 in
theorem lf_X10_32 : Cond.fieldLink RX10 32 "OverlayViewer$Tree" "reckoner" "LOverlayViewer$Reckoner;" ∈ lw_use := tbk_2 188 rfl (by decide +kernel)
set_option maxRecDepth 100000 in
theorem lf_X10_36 : Cond.fieldLink RX10 36 "OverlayViewer$Tree" "count" "I" ∈ lw_use := tbk_2 183 rfl (by decide +kernel)
set_option maxRecDepth 100000 in
theorem lf_X10_39 : Cond.fieldLink RX10 39 "OverlayViewer$Tree" "many" "Z" ∈ lw_use := tbk_2 185 rfl (by decide +kernel)
set_option maxRecDepth 100000 in
theorem lf_X10_47 : Cond.fieldLink RX10 47 "OverlayViewer$Node" "fault" "I" ∈ lw_use := tbk_5 116 rfl (by decide +kernel)
set_option maxRecDepth 100000 in
theorem lf_X10_54 : Cond.fieldLink RX10 54 "OverlayViewer$Node" "away" "I" ∈ lw_use := tbk_5 132 rfl (by decide +kernel)
set_option maxRecDepth 100000 in
theorem lf_X10_67 : Cond.fieldLink RX10 67 "OverlayViewer$Node" "from" "I" ∈ lw_use := tbk_5 109 rfl (by decide +kernel)
set_option maxRecDepth 100000 in
theorem lf_X10_70 : Cond.fieldLink RX10 70 "OverlayViewer$Node" "to" "I" ∈ lw_use := tbk_5 112 rfl (by decide +kernel)
set_option maxRecDepth 100000 in
theorem lf_X10_73 : Cond.fieldLink RX10 73 "OverlayViewer$Image" "length" "I" ∈ lw_use := tbk_3 42 rfl (by decide +kernel)
set_option maxRecDepth 100000 in
theorem lf_X10_78 : Cond.fieldLink RX10 78 "OverlayViewer$Node" "field" "LOverlayViewer$Field;" ∈ lw_use := tbk_5 134 rfl (by decide +kernel)
set_option maxRecDepth 100000 in
theorem lf_X10_82 : Cond.fieldLink RX10 82 "OverlayViewer$Node" "parent" "LOverlayViewer$Node;" ∈ lw_use := tbk_5 124 rfl (by decide +kernel)
set_option maxRecDepth 100000 in
theorem lf_X10_90 : Cond.fieldLink RX10 90 "OverlayViewer$Field" "width" "I" ∈ lw_use := tbk_1 233 rfl (by decide +kernel)
set_option maxRecDepth 100000 in
theorem lf_X10_99 : Cond.fieldLink RX10 99 "OverlayViewer$Field" "big" "Z" ∈ lw_use := tbk_2 1 rfl (by decide +kernel)
set_option maxRecDepth 100000 in
theorem lf_X10_117 : Cond.fieldLink RX10 117 "OverlayViewer$Description" "structures" "[LOverlayViewer$Structure;" ∈ lw_use := tbk_2 113 rfl (by decide +kernel)
set_option maxRecDepth 100000 in
theorem lf_X10_123 : Cond.fieldLink RX10 123 "OverlayViewer$Structure" "name" "J" ∈ lw_use := tbk_2 84 rfl (by decide +kernel)
set_option maxRecDepth 100000 in
theorem lf_X10_137 : Cond.fieldLink RX10 137 "OverlayViewer$Node" "structure" "I" ∈ lw_use := tbk_5 137 rfl (by decide +kernel)
set_option maxRecDepth 100000 in
theorem lf_X10_138 : Cond.fieldLink RX10 138 "OverlayViewer$Structure" "fieldCount" "I" ∈ lw_use := tbk_2 92 rfl (by decide +kernel)
set_option maxRecDepth 100000 in
theorem lf_X10_141 : Cond.fieldLink RX10 141 "OverlayViewer$Structure" "fields" "[LOverlayViewer$Field;" ∈ lw_use := tbk_2 88 rfl (by decide +kernel)
set_option maxRecDepth 100000 in
theorem lf_X10_153 : Cond.fieldLink RX10 153 "OverlayViewer$Field" "condition" "I" ∈ lw_use := tbk_2 14 rfl (by decide +kernel)
set_option maxRecDepth 100000 in
theorem lf_X10_156 : Cond.fieldLink RX10 156 "OverlayViewer$Description" "code" "LOverlayViewer$Code;" ∈ lw_use := tbk_2 140 rfl (by decide +kernel)
set_option maxRecDepth 100000 in
theorem lf_X10_166 : Cond.fieldLink RX10 166 "OverlayViewer$Reckoner" "failed" "Z" ∈ lw_use := tbk_1 170 rfl (by decide +kernel)
set_option maxRecDepth 100000 in
theorem lf_X10_169 : Cond.fieldLink RX10 169 "OverlayViewer$Field" "kind" "I" ∈ lw_use := tbk_1 226 rfl (by decide +kernel)
set_option maxRecDepth 100000 in
theorem lf_X10_172 : Cond.fieldLink RX10 172 "OverlayViewer$Field" "name" "J" ∈ lw_use := tbk_1 230 rfl (by decide +kernel)
set_option maxRecDepth 100000 in
theorem lf_X10_173 : Cond.fieldLink RX10 173 "OverlayViewer$Field" "structure" "I" ∈ lw_use := tbk_2 6 rfl (by decide +kernel)
set_option maxRecDepth 100000 in
theorem lf_X10_184 : Cond.fieldLink RX10 184 "OverlayViewer$Field" "first" "I" ∈ lw_use := tbk_2 20 rfl (by decide +kernel)
set_option maxRecDepth 100000 in
theorem lf_X10_214 : Cond.fieldLink RX10 214 "OverlayViewer$Field" "pairs" "I" ∈ lw_use := tbk_2 9 rfl (by decide +kernel)
set_option maxRecDepth 100000 in
theorem lf_X10_243 : Cond.fieldLink RX10 243 "OverlayViewer$Field" "entryStart" "I" ∈ lw_use := tbk_2 36 rfl (by decide +kernel)
set_option maxRecDepth 100000 in
theorem lf_X10_246 : Cond.fieldLink RX10 246 "OverlayViewer$Field" "entryCount" "I" ∈ lw_use := tbk_2 41 rfl (by decide +kernel)
set_option maxRecDepth 100000 in
theorem lf_X10_249 : Cond.fieldLink RX10 249 "OverlayViewer$Description" "entryNames" "[J" ∈ lw_use := tbk_2 128 rfl (by decide +kernel)
set_option maxRecDepth 100000 in
theorem lf_X10_253 : Cond.fieldLink RX10 253 "OverlayViewer$Description" "entryTargets" "[I" ∈ lw_use := tbk_2 135 rfl (by decide +kernel)
set_option maxRecDepth 100000 in
theorem lf_X10_257 : Cond.fieldLink RX10 257 "OverlayViewer$Node" "lowest" "I" ∈ lw_use := tbk_5 140 rfl (by decide +kernel)
set_option maxRecDepth 100000 in
theorem lf_X10_260 : Cond.fieldLink RX10 260 "OverlayViewer$Description" "entryNumbers" "[J" ∈ lw_use := tbk_2 132 rfl (by decide +kernel)
set_option maxRecDepth 100000 in
theorem lf_X10_263 : Cond.fieldLink RX10 263 "OverlayViewer$Node" "bits" "I" ∈ lw_use := tbk_5 142 rfl (by decide +kernel)
set_option maxRecDepth 100000 in
theorem lf_X10_266 : Cond.fieldLink RX10 266 "OverlayViewer$Image" "now" "[I" ∈ lw_use := tbk_3 34 rfl (by decide +kernel)
set_option maxRecDepth 100000 in
theorem lf_X10_269 : Cond.fieldLink RX10 269 "OverlayViewer$Field" "number" "J" ∈ lw_use := tbk_2 27 rfl (by decide +kernel)
set_option maxRecDepth 100000 in
theorem lf_X10_276 : Cond.fieldLink RX10 276 "OverlayViewer$Field" "otherwise" "I" ∈ lw_use := tbk_2 32 rfl (by decide +kernel)
set_option maxRecDepth 100000 in
theorem lf_X10_283 : Cond.fieldLink RX10 283 "OverlayViewer$Node" "met" "Z" ∈ lw_use := tbk_5 120 rfl (by decide +kernel)
set_option maxRecDepth 100000 in
theorem lf_X10_286 : Cond.fieldLink RX10 286 "OverlayViewer$Node" "kind" "I" ∈ lw_use := tbk_5 106 rfl (by decide +kernel)
set_option maxRecDepth 100000 in
theorem lf_X10_296 : Cond.fieldLink RX10 296 "OverlayViewer$Field" "second" "I" ∈ lw_use := tbk_2 24 rfl (by decide +kernel)
set_option maxRecDepth 100000 in
theorem lf_X10_299 : Cond.fieldLink RX10 299 "OverlayViewer$Tree" "sumFrom" "I" ∈ lw_use := tbk_2 189 rfl (by decide +kernel)
set_option maxRecDepth 100000 in
theorem lf_X10_302 : Cond.fieldLink RX10 302 "OverlayViewer$Tree" "sumTo" "I" ∈ lw_use := tbk_2 190 rfl (by decide +kernel)
set_option maxRecDepth 100000 in
theorem lf_X12_7 : Cond.fieldLink RX12 7 "OverlayViewerModel" "images" "I" ∈ lw_use := tbk_7 42 rfl (by decide +kernel)
set_option maxRecDepth 100000 in
theorem lf_X12_13 : Cond.fieldLink RX12 13 "OverlayViewerModel" "length" "[I" ∈ lw_use := tbk_7 43 rfl (by decide +kernel)
set_option maxRecDepth 100000 in
theorem lf_X12_17 : Cond.fieldLink RX12 17 "OverlayViewerModel" "layers" "[I" ∈ lw_use := tbk_7 44 rfl (by decide +kernel)
set_option maxRecDepth 100000 in
theorem lf_X12_20 : Cond.fieldLink RX12 20 "OverlayViewerModel" "own" "[I" ∈ lw_use := tbk_7 45 rfl (by decide +kernel)
set_option maxRecDepth 100000 in
theorem lf_X12_24 : Cond.fieldLink RX12 24 "OverlayViewerModel" "over" "[I" ∈ lw_use := tbk_7 46 rfl (by decide +kernel)
set_option maxRecDepth 100000 in
theorem lf_X12_27 : Cond.fieldLink RX12 27 "OverlayViewerModel" "kept" "[I" ∈ lw_use := tbk_7 47 rfl (by decide +kernel)
set_option maxRecDepth 100000 in
theorem lf_X12_30 : Cond.fieldLink RX12 30 "OverlayViewerModel" "keptMany" "[I" ∈ lw_use := tbk_7 48 rfl (by decide +kernel)
set_option maxRecDepth 100000 in
theorem lf_X12_33 : Cond.fieldLink RX12 33 "OverlayViewerModel" "keptPlace" "[I" ∈ lw_use := tbk_7 49 rfl (by decide +kernel)
set_option maxRecDepth 100000 in
theorem lf_X12_36 : Cond.fieldLink RX12 36 "OverlayViewerModel" "keptWas" "[I" ∈ lw_use := tbk_7 50 rfl (by decide +kernel)
set_option maxRecDepth 100000 in
theorem lf_X12_39 : Cond.fieldLink RX12 39 "OverlayViewerModel" "row" "[I" ∈ lw_use := tbk_7 51 rfl (by decide +kernel)
set_option maxRecDepth 100000 in
theorem lf_X12_42 : Cond.fieldLink RX12 42 "OverlayViewerModel" "tape" "[I" ∈ lw_use := tbk_7 52 rfl (by decide +kernel)
set_option maxRecDepth 100000 in
theorem lf_X12_45 : Cond.fieldLink RX12 45 "OverlayViewerModel" "taped" "I" ∈ lw_use := tbk_7 53 rfl (by decide +kernel)
set_option maxRecDepth 100000 in
theorem lf_X12_48 : Cond.fieldLink RX12 48 "OverlayViewerModel" "wrong" "I" ∈ lw_use := tbk_7 54 rfl (by decide +kernel)
set_option maxRecDepth 100000 in
theorem lf_X12_51 : Cond.fieldLink RX12 51 "OverlayViewerModel" "sort" "I" ∈ lw_use := tbk_7 55 rfl (by decide +kernel)
set_option maxRecDepth 100000 in
theorem lf_X12_54 : Cond.fieldLink RX12 54 "OverlayViewerModel" "from" "I" ∈ lw_use := tbk_7 56 rfl (by decide +kernel)
set_option maxRecDepth 100000 in
theorem lf_X12_57 : Cond.fieldLink RX12 57 "OverlayViewerModel" "to" "I" ∈ lw_use := tbk_7 57 rfl (by decide +kernel)
set_option maxRecDepth 100000 in
theorem lf_X12_60 : Cond.fieldLink RX12 60 "OverlayViewerModel" "word" "J" ∈ lw_use := tbk_7 58 rfl (by decide +kernel)
set_option maxRecDepth 100000 in
theorem lf_X12_64 : Cond.fieldLink RX12 64 "OverlayViewerModel" "number" "J" ∈ lw_use := tbk_7 59 rfl (by decide +kernel)
set_option maxRecDepth 100000 in
theorem lf_X12_67 : Cond.fieldLink RX12 67 "OverlayViewerModel" "side" "I" ∈ lw_use := tbk_7 60 rfl (by decide +kernel)
set_option maxRecDepth 100000 in
theorem lf_X12_70 : Cond.fieldLink RX12 70 "OverlayViewerModel" "structs" "[I" ∈ lw_use := tbk_7 61 rfl (by decide +kernel)
set_option maxRecDepth 100000 in
theorem lf_X12_73 : Cond.fieldLink RX12 73 "OverlayViewerModel" "enums" "[I" ∈ lw_use := tbk_7 62 rfl (by decide +kernel)
set_option maxRecDepth 100000 in
theorem lf_X12_76 : Cond.fieldLink RX12 76 "OverlayViewerModel" "structName" "[J" ∈ lw_use := tbk_7 63 rfl (by decide +kernel)
set_option maxRecDepth 100000 in
theorem lf_X12_80 : Cond.fieldLink RX12 80 "OverlayViewerModel" "fields" "[I" ∈ lw_use := tbk_7 64 rfl (by decide +kernel)
set_option maxRecDepth 100000 in
theorem lf_X12_83 : Cond.fieldLink RX12 83 "OverlayViewerModel" "sizes" "[I" ∈ lw_use := tbk_7 65 rfl (by decide +kernel)
set_option maxRecDepth 100000 in
theorem lf_X12_86 : Cond.fieldLink RX12 86 "OverlayViewerModel" "enumName" "[J" ∈ lw_use := tbk_7 66 rfl (by decide +kernel)
set_option maxRecDepth 100000 in
theorem lf_X12_89 : Cond.fieldLink RX12 89 "OverlayViewerModel" "pairs" "[I" ∈ lw_use := tbk_7 67 rfl (by decide +kernel)
set_option maxRecDepth 100000 in
theorem lf_X12_92 : Cond.fieldLink RX12 92 "OverlayViewerModel" "pairName" "[J" ∈ lw_use := tbk_7 68 rfl (by decide +kernel)
set_option maxRecDepth 100000 in
theorem lf_X12_95 : Cond.fieldLink RX12 95 "OverlayViewerModel" "pairValue" "[J" ∈ lw_use := tbk_7 69 rfl (by decide +kernel)
set_option maxRecDepth 100000 in
theorem lf_X12_98 : Cond.fieldLink RX12 98 "OverlayViewerModel" "kind" "[I" ∈ lw_use := tbk_7 70 rfl (by decide +kernel)
set_option maxRecDepth 100000 in
theorem lf_X12_101 : Cond.fieldLink RX12 101 "OverlayViewerModel" "wholeOf" "[I" ∈ lw_use := tbk_7 71 rfl (by decide +kernel)
set_option maxRecDepth 100000 in
theorem lf_X12_104 : Cond.fieldLink RX12 104 "OverlayViewerModel" "enumOf" "[I" ∈ lw_use := tbk_7 72 rfl (by decide +kernel)
set_option maxRecDepth 100000 in
theorem lf_X12_107 : Cond.fieldLink RX12 107 "OverlayViewerModel" "refOf" "[I" ∈ lw_use := tbk_7 73 rfl (by decide +kernel)
set_option maxRecDepth 100000 in
theorem lf_X12_110 : Cond.fieldLink RX12 110 "OverlayViewerModel" "ifOf" "[I" ∈ lw_use := tbk_7 74 rfl (by decide +kernel)
set_option maxRecDepth 100000 in
theorem lf_X12_113 : Cond.fieldLink RX12 113 "OverlayViewerModel" "firstOf" "[I" ∈ lw_use := tbk_7 75 rfl (by decide +kernel)
set_option maxRecDepth 100000 in
theorem lf_X12_116 : Cond.fieldLink RX12 116 "OverlayViewerModel" "secondOf" "[I" ∈ lw_use := tbk_7 76 rfl (by decide +kernel)
set_option maxRecDepth 100000 in
theorem lf_X12_119 : Cond.fieldLink RX12 119 "OverlayViewerModel" "numberOf" "[I" ∈ lw_use := tbk_7 77 rfl (by decide +kernel)
set_option maxRecDepth 100000 in
theorem lf_X12_122 : Cond.fieldLink RX12 122 "OverlayViewerModel" "elseOf" "[I" ∈ lw_use := tbk_7 78 rfl (by decide +kernel)
set_option maxRecDepth 100000 in
theorem lf_X12_125 : Cond.fieldLink RX12 125 "OverlayViewerModel" "manyOf" "[I" ∈ lw_use := tbk_7 79 rfl (by decide +kernel)
set_option maxRecDepth 100000 in
theorem lf_X12_128 : Cond.fieldLink RX12 128 "OverlayViewerModel" "fieldName" "[J" ∈ lw_use := tbk_7 80 rfl (by decide +kernel)
set_option maxRecDepth 100000 in
theorem lf_X12_131 : Cond.fieldLink RX12 131 "OverlayViewerModel" "partName" "[J" ∈ lw_use := tbk_7 81 rfl (by decide +kernel)
set_option maxRecDepth 100000 in
theorem lf_X12_134 : Cond.fieldLink RX12 134 "OverlayViewerModel" "partValue" "[J" ∈ lw_use := tbk_7 82 rfl (by decide +kernel)
set_option maxRecDepth 100000 in
theorem lf_X12_137 : Cond.fieldLink RX12 137 "OverlayViewerModel" "partRef" "[I" ∈ lw_use := tbk_7 83 rfl (by decide +kernel)
set_option maxRecDepth 100000 in
theorem lf_X12_140 : Cond.fieldLink RX12 140 "OverlayViewerModel" "op" "[I" ∈ lw_use := tbk_7 84 rfl (by decide +kernel)
set_option maxRecDepth 100000 in
theorem lf_X12_143 : Cond.fieldLink RX12 143 "OverlayViewerModel" "left" "[I" ∈ lw_use := tbk_7 85 rfl (by decide +kernel)
set_option maxRecDepth 100000 in
theorem lf_X12_146 : Cond.fieldLink RX12 146 "OverlayViewerModel" "right" "[I" ∈ lw_use := tbk_7 86 rfl (by decide +kernel)
set_option maxRecDepth 100000 in
theorem lf_X12_149 : Cond.fieldLink RX12 149 "OverlayViewerModel" "value" "[J" ∈ lw_use := tbk_7 87 rfl (by decide +kernel)
set_option maxRecDepth 100000 in
theorem lf_X12_152 : Cond.fieldLink RX12 152 "OverlayViewerModel" "nodesOfText" "I" ∈ lw_use := tbk_7 88 rfl (by decide +kernel)
set_option maxRecDepth 100000 in
theorem lf_X12_155 : Cond.fieldLink RX12 155 "OverlayViewerModel" "aimField" "[I" ∈ lw_use := tbk_7 89 rfl (by decide +kernel)
set_option maxRecDepth 100000 in
theorem lf_X12_158 : Cond.fieldLink RX12 158 "OverlayViewerModel" "aimPlace" "[I" ∈ lw_use := tbk_7 90 rfl (by decide +kernel)
set_option maxRecDepth 100000 in
theorem lf_X12_161 : Cond.fieldLink RX12 161 "OverlayViewerModel" "aimName" "[J" ∈ lw_use := tbk_7 91 rfl (by decide +kernel)
set_option maxRecDepth 100000 in
theorem lf_X12_164 : Cond.fieldLink RX12 164 "OverlayViewerModel" "aims" "I" ∈ lw_use := tbk_7 92 rfl (by decide +kernel)
set_option maxRecDepth 100000 in
theorem lf_X12_167 : Cond.fieldLink RX12 167 "OverlayViewerModel" "bad" "I" ∈ lw_use := tbk_7 93 rfl (by decide +kernel)
set_option maxRecDepth 100000 in
theorem lf_X12_170 : Cond.fieldLink RX12 170 "OverlayViewerModel" "badAt" "I" ∈ lw_use := tbk_7 94 rfl (by decide +kernel)
set_option maxRecDepth 100000 in
theorem lf_X12_173 : Cond.fieldLink RX12 173 "OverlayViewerModel" "base" "I" ∈ lw_use := tbk_7 95 rfl (by decide +kernel)
set_option maxRecDepth 100000 in
theorem lf_X12_176 : Cond.fieldLink RX12 176 "OverlayViewerModel" "s" "I" ∈ lw_use := tbk_7 96 rfl (by decide +kernel)
set_option maxRecDepth 100000 in
theorem lf_X12_179 : Cond.fieldLink RX12 179 "OverlayViewerModel" "deep" "I" ∈ lw_use := tbk_7 97 rfl (by decide +kernel)
set_option maxRecDepth 100000 in
theorem lf_X12_182 : Cond.fieldLink RX12 182 "OverlayViewerModel" "begun" "Z" ∈ lw_use := tbk_7 98 rfl (by decide +kernel)
set_option maxRecDepth 100000 in
theorem lf_X12_186 : Cond.fieldLink RX12 186 "OverlayViewerModel" "known" "I" ∈ lw_use := tbk_7 99 rfl (by decide +kernel)
set_option maxRecDepth 100000 in
theorem lf_X12_189 : Cond.fieldLink RX12 189 "OverlayViewerModel" "waits" "[I" ∈ lw_use := tbk_7 100 rfl (by decide +kernel)
set_option maxRecDepth 100000 in
theorem lf_X12_192 : Cond.fieldLink RX12 192 "OverlayViewerModel" "held" "[I" ∈ lw_use := tbk_7 101 rfl (by decide +kernel)
set_option maxRecDepth 100000 in
theorem lf_X12_195 : Cond.fieldLink RX12 195 "OverlayViewerModel" "waiting" "I" ∈ lw_use := tbk_7 102 rfl (by decide +kernel)
set_option maxRecDepth 100000 in
theorem lf_X12_198 : Cond.fieldLink RX12 198 "OverlayViewerModel" "holding" "I" ∈ lw_use := tbk_7 103 rfl (by decide +kernel)
set_option maxRecDepth 100000 in
theorem lf_X12_201 : Cond.fieldLink RX12 201 "OverlayViewerModel" "beginOf" "[I" ∈ lw_use := tbk_7 104 rfl (by decide +kernel)
set_option maxRecDepth 100000 in
theorem lf_X12_204 : Cond.fieldLink RX12 204 "OverlayViewerModel" "reached" "[Z" ∈ lw_use := tbk_7 105 rfl (by decide +kernel)
set_option maxRecDepth 100000 in
theorem lf_X12_208 : Cond.fieldLink RX12 208 "OverlayViewerModel" "trees" "I" ∈ lw_use := tbk_7 106 rfl (by decide +kernel)
set_option maxRecDepth 100000 in
theorem lf_X12_211 : Cond.fieldLink RX12 211 "OverlayViewerModel" "imageOf" "[I" ∈ lw_use := tbk_7 107 rfl (by decide +kernel)
set_option maxRecDepth 100000 in
theorem lf_X12_214 : Cond.fieldLink RX12 214 "OverlayViewerModel" "nodes" "[I" ∈ lw_use := tbk_7 108 rfl (by decide +kernel)
set_option maxRecDepth 100000 in
theorem lf_X12_217 : Cond.fieldLink RX12 217 "OverlayViewerModel" "sortOf" "[I" ∈ lw_use := tbk_7 109 rfl (by decide +kernel)
set_option maxRecDepth 100000 in
theorem lf_X12_220 : Cond.fieldLink RX12 220 "OverlayViewerModel" "begins" "[I" ∈ lw_use := tbk_7 110 rfl (by decide +kernel)
set_option maxRecDepth 100000 in
theorem lf_X12_223 : Cond.fieldLink RX12 223 "OverlayViewerModel" "ends" "[I" ∈ lw_use := tbk_7 111 rfl (by decide +kernel)
set_option maxRecDepth 100000 in
theorem lf_X12_226 : Cond.fieldLink RX12 226 "OverlayViewerModel" "parent" "[I" ∈ lw_use := tbk_7 112 rfl (by decide +kernel)
set_option maxRecDepth 100000 in
theorem lf_X12_229 : Cond.fieldLink RX12 229 "OverlayViewerModel" "kids" "[I" ∈ lw_use := tbk_7 113 rfl (by decide +kernel)
set_option maxRecDepth 100000 in
theorem lf_X12_232 : Cond.fieldLink RX12 232 "OverlayViewerModel" "faultOf" "[I" ∈ lw_use := tbk_7 114 rfl (by decide +kernel)
set_option maxRecDepth 100000 in
theorem lf_X12_235 : Cond.fieldLink RX12 235 "OverlayViewerModel" "structOf" "[I" ∈ lw_use := tbk_7 115 rfl (by decide +kernel)
set_option maxRecDepth 100000 in
theorem lf_X12_238 : Cond.fieldLink RX12 238 "OverlayViewerModel" "fieldOf" "[I" ∈ lw_use := tbk_7 116 rfl (by decide +kernel)
set_option maxRecDepth 100000 in
theorem lf_X12_241 : Cond.fieldLink RX12 241 "OverlayViewerModel" "partOf" "[I" ∈ lw_use := tbk_7 117 rfl (by decide +kernel)
set_option maxRecDepth 100000 in
theorem lf_X12_244 : Cond.fieldLink RX12 244 "OverlayViewerModel" "firstKid" "[I" ∈ lw_use := tbk_7 118 rfl (by decide +kernel)
set_option maxRecDepth 100000 in
theorem lf_X12_247 : Cond.fieldLink RX12 247 "OverlayViewerModel" "lastKid" "[I" ∈ lw_use := tbk_7 119 rfl (by decide +kernel)
set_option maxRecDepth 100000 in
theorem lf_X12_250 : Cond.fieldLink RX12 250 "OverlayViewerModel" "nextKid" "[I" ∈ lw_use := tbk_7 120 rfl (by decide +kernel)
set_option maxRecDepth 100000 in
theorem lf_X12_253 : Cond.fieldLink RX12 253 "OverlayViewerModel" "met" "[Z" ∈ lw_use := tbk_7 121 rfl (by decide +kernel)
set_option maxRecDepth 100000 in
theorem lf_X12_256 : Cond.fieldLink RX12 256 "OverlayViewerModel" "t" "I" ∈ lw_use := tbk_7 122 rfl (by decide +kernel)
set_option maxRecDepth 100000 in
theorem lf_X12_259 : Cond.fieldLink RX12 259 "OverlayViewerModel" "im" "I" ∈ lw_use := tbk_7 123 rfl (by decide +kernel)
set_option maxRecDepth 100000 in
theorem lf_X12_262 : Cond.fieldLink RX12 262 "OverlayViewerModel" "many" "Z" ∈ lw_use := tbk_7 124 rfl (by decide +kernel)
set_option maxRecDepth 100000 in
theorem lf_X12_265 : Cond.fieldLink RX12 265 "OverlayViewerModel" "open" "[I" ∈ lw_use := tbk_7 125 rfl (by decide +kernel)
set_option maxRecDepth 100000 in
theorem lf_X12_268 : Cond.fieldLink RX12 268 "OverlayViewerModel" "nextOf" "[I" ∈ lw_use := tbk_7 126 rfl (by decide +kernel)
set_option maxRecDepth 100000 in
theorem lf_X12_271 : Cond.fieldLink RX12 271 "OverlayViewerModel" "opened" "I" ∈ lw_use := tbk_7 127 rfl (by decide +kernel)
set_option maxRecDepth 100000 in
theorem lf_X12_274 : Cond.fieldLink RX12 274 "OverlayViewerModel" "fails" "Z" ∈ lw_use := tbk_7 128 rfl (by decide +kernel)
set_option maxRecDepth 100000 in
theorem lf_X12_277 : Cond.fieldLink RX12 277 "OverlayViewerModel" "result" "[J" ∈ lw_use := tbk_7 129 rfl (by decide +kernel)
set_option maxRecDepth 100000 in
theorem lf_X12_280 : Cond.fieldLink RX12 280 "OverlayViewerModel" "sumFrom" "J" ∈ lw_use := tbk_7 130 rfl (by decide +kernel)
set_option maxRecDepth 100000 in
theorem lf_X12_283 : Cond.fieldLink RX12 283 "OverlayViewerModel" "sumTo" "J" ∈ lw_use := tbk_7 131 rfl (by decide +kernel)
set_option maxRecDepth 100000 in
theorem lf_X12_286 : Cond.fieldLink RX12 286 "OverlayViewerModel" "out" "J" ∈ lw_use := tbk_7 132 rfl (by decide +kernel)
set_option maxRecDepth 100000 in
theorem lc_X11_9 : Cond.classLink RX11 9 "OverlayViewer$Image" ∈ lw_use := tbk_1 30 rfl (by decide +kernel)
set_option maxRecDepth 100000 in
theorem lc_X11_15 : Cond.classLink RX11 15 "OverlayViewer$Tape" ∈ lw_use := tbk_1 32 rfl (by decide +kernel)
set_option maxRecDepth 100000 in
theorem lc_X11_22 : Cond.classLink RX11 22 "OverlayViewer$Parser" ∈ lw_use := tbk_1 121 rfl (by decide +kernel)
set_option maxRecDepth 100000 in
theorem lc_X11_29 : Cond.classLink RX11 29 "OverlayViewer$Reckoner" ∈ lw_use := tbk_1 163 rfl (by decide +kernel)
set_option maxRecDepth 100000 in
theorem lc_X11_36 : Cond.classLink RX11 36 "OverlayViewer$Description" ∈ lw_use := tbk_1 181 rfl (by decide +kernel)
set_option maxRecDepth 100000 in
theorem lc_X11_46 : Cond.classLink RX11 46 "OverlayViewer$Code" ∈ lw_use := tbk_2 164 rfl (by decide +kernel)
set_option maxRecDepth 100000 in
theorem lc_X11_53 : Cond.classLink RX11 53 "OverlayViewer$Tree" ∈ lw_use := tbk_2 166 rfl (by decide +kernel)
set_option maxRecDepth 100000 in
theorem lc_X1_9 : Cond.classLink RX1 9 "OverlayViewer$Structure" ∈ lw_use := tbk_1 187 rfl (by decide +kernel)
set_option maxRecDepth 100000 in
theorem lc_X1_37 : Cond.classLink RX1 37 "OverlayViewer$Code" ∈ lw_use := tbk_1 189 rfl (by decide +kernel)
set_option maxRecDepth 100000 in
theorem lc_X3_18 : Cond.classLink RX3 18 "OverlayViewer$Layer" ∈ lw_use := tbk_3 30 rfl (by decide +kernel)
set_option maxRecDepth 100000 in
theorem lc_X8_9 : Cond.classLink RX8 9 "OverlayViewer$Field" ∈ lw_use := tbk_1 215 rfl (by decide +kernel)
set_option maxRecDepth 100000 in
theorem lc_X10_9 : Cond.classLink RX10 9 "OverlayViewer$Node" ∈ lw_use := tbk_2 173 rfl (by decide +kernel)
set_option maxRecDepth 100000 in
theorem lc_L_7 : Cond.classLink RL 7 "OverlayViewer" ∈ lw_use := tbk_1 22 rfl (by decide +kernel)
set_option maxRecDepth 100000 in
theorem lc_L_10 : Cond.classLink RL 10 "OverlayViewerModel" ∈ lw_use := tbk_7 35 rfl (by decide +kernel)
set_option maxRecDepth 100000 in
theorem lk_X11_345 : Cond.constantLong RX11 345 (-1) ∈ lw_use := tbk_5 229 rfl (by decide +kernel)
set_option maxRecDepth 100000 in
theorem lk_X11_396 : Cond.constantLong RX11 396 (400) ∈ lw_use := tbk_6 156 rfl (by decide +kernel)
set_option maxRecDepth 100000 in
theorem lk_X0_27 : Cond.constantLong RX0 27 (-1) ∈ lw_use := tbk_5 36 rfl (by decide +kernel)
set_option maxRecDepth 100000 in
theorem lk_X1_80 : Cond.constantLong RX1 80 (1000000) ∈ lw_use := tbk_5 48 rfl (by decide +kernel)
set_option maxRecDepth 100000 in
theorem lk_X1_87 : Cond.constantLong RX1 87 (-1) ∈ lw_use := tbk_5 22 rfl (by decide +kernel)
set_option maxRecDepth 100000 in
theorem lk_X2_65 : Cond.constantLong RX2 65 (16) ∈ lw_use := tbk_4 176 rfl (by decide +kernel)
set_option maxRecDepth 100000 in
theorem lk_X2_67 : Cond.constantLong RX2 67 (32) ∈ lw_use := tbk_4 177 rfl (by decide +kernel)
set_option maxRecDepth 100000 in
theorem lk_X5_106 : Cond.constantLong RX5 106 (-1) ∈ lw_use := tbk_6 184 rfl (by decide +kernel)
set_option maxRecDepth 100000 in
theorem lk_X6_274 : Cond.constantLong RX6 274 (255) ∈ lw_use := tbk_4 223 rfl (by decide +kernel)
set_option maxRecDepth 100000 in
theorem lk_X6_289 : Cond.constantLong RX6 289 (4096) ∈ lw_use := tbk_4 236 rfl (by decide +kernel)
set_option maxRecDepth 100000 in
theorem lk_X6_291 : Cond.constantLong RX6 291 (64) ∈ lw_use := tbk_5 1 rfl (by decide +kernel)
set_option maxRecDepth 100000 in
theorem lk_X6_296 : Cond.constantLong RX6 296 (-1) ∈ lw_use := tbk_4 156 rfl (by decide +kernel)
set_option maxRecDepth 100000 in
theorem lk_X9_70 : Cond.constantLong RX9 70 (-1) ∈ lw_use := tbk_4 2 rfl (by decide +kernel)
set_option maxRecDepth 100000 in
theorem lk_X10_287 : Cond.constantLong RX10 287 (-1) ∈ lw_use := tbk_6 65 rfl (by decide +kernel)
set_option maxRecDepth 100000 in
theorem lk_X10_305 : Cond.constantLong RX10 305 (31) ∈ lw_use := tbk_6 83 rfl (by decide +kernel)
set_option maxRecDepth 100000 in
theorem lk_L_18 : Cond.constantLong RL 18 (4294967295) ∈ lw_use := tbk_10 219 rfl (by decide +kernel)
set_option maxRecDepth 100000 in
theorem lk_X12_297 : Cond.constantLong RX12 297 (255) ∈ lw_use := tbk_8 89 rfl (by decide +kernel)
set_option maxRecDepth 100000 in
theorem lk_X12_328 : Cond.constantLong RX12 328 (16) ∈ lw_use := tbk_8 174 rfl (by decide +kernel)
set_option maxRecDepth 100000 in
theorem lk_X12_330 : Cond.constantLong RX12 330 (10) ∈ lw_use := tbk_8 175 rfl (by decide +kernel)
set_option maxRecDepth 100000 in
theorem lk_X12_332 : Cond.constantLong RX12 332 (1701737837) ∈ lw_use := tbk_8 180 rfl (by decide +kernel)
set_option maxRecDepth 100000 in
theorem lk_X12_338 : Cond.constantLong RX12 338 (126943973696372) ∈ lw_use := tbk_8 185 rfl (by decide +kernel)
set_option maxRecDepth 100000 in
theorem lk_X12_340 : Cond.constantLong RX12 340 (26982) ∈ lw_use := tbk_8 206 rfl (by decide +kernel)
set_option maxRecDepth 100000 in
theorem lk_X12_342 : Cond.constantLong RX12 342 (26995) ∈ lw_use := tbk_8 207 rfl (by decide +kernel)
set_option maxRecDepth 100000 in
theorem lk_X12_344 : Cond.constantLong RX12 344 (1651078259) ∈ lw_use := tbk_8 208 rfl (by decide +kernel)
set_option maxRecDepth 100000 in
theorem lk_X12_346 : Cond.constantLong RX12 346 (1952807028) ∈ lw_use := tbk_8 209 rfl (by decide +kernel)
set_option maxRecDepth 100000 in
theorem lk_X12_348 : Cond.constantLong RX12 348 (504364296556) ∈ lw_use := tbk_8 210 rfl (by decide +kernel)
set_option maxRecDepth 100000 in
theorem lk_X12_350 : Cond.constantLong RX12 350 (504363577198) ∈ lw_use := tbk_8 211 rfl (by decide +kernel)
set_option maxRecDepth 100000 in
theorem lk_X12_352 : Cond.constantLong RX12 352 (25209) ∈ lw_use := tbk_8 212 rfl (by decide +kernel)
set_option maxRecDepth 100000 in
theorem lk_X12_354 : Cond.constantLong RX12 354 (1701606245) ∈ lw_use := tbk_8 213 rfl (by decide +kernel)
set_option maxRecDepth 100000 in
theorem lk_X12_356 : Cond.constantLong RX12 356 (29807) ∈ lw_use := tbk_8 214 rfl (by decide +kernel)
set_option maxRecDepth 100000 in
theorem lk_X12_358 : Cond.constantLong RX12 358 (1718775661) ∈ lw_use := tbk_8 215 rfl (by decide +kernel)
set_option maxRecDepth 100000 in
theorem lk_X12_360 : Cond.constantLong RX12 360 (1751478885) ∈ lw_use := tbk_8 216 rfl (by decide +kernel)
set_option maxRecDepth 100000 in
theorem lk_X12_362 : Cond.constantLong RX12 362 (499984983411) ∈ lw_use := tbk_8 217 rfl (by decide +kernel)
set_option maxRecDepth 100000 in
theorem lk_X12_364 : Cond.constantLong RX12 364 (7364964) ∈ lw_use := tbk_8 218 rfl (by decide +kernel)
set_option maxRecDepth 100000 in
theorem lk_X12_366 : Cond.constantLong RX12 366 (469785602403) ∈ lw_use := tbk_8 219 rfl (by decide +kernel)
set_option maxRecDepth 100000 in
theorem lk_X12_368 : Cond.constantLong RX12 368 (7566701) ∈ lw_use := tbk_8 220 rfl (by decide +kernel)
set_option maxRecDepth 100000 in
theorem lk_X12_370 : Cond.constantLong RX12 370 (6382692) ∈ lw_use := tbk_8 221 rfl (by decide +kernel)
set_option maxRecDepth 100000 in
theorem lk_X12_372 : Cond.constantLong RX12 372 (7892850) ∈ lw_use := tbk_8 222 rfl (by decide +kernel)
set_option maxRecDepth 100000 in
theorem lk_X12_374 : Cond.constantLong RX12 374 (1869505907) ∈ lw_use := tbk_8 223 rfl (by decide +kernel)
set_option maxRecDepth 100000 in
theorem lk_X12_376 : Cond.constantLong RX12 376 (1919904876) ∈ lw_use := tbk_8 224 rfl (by decide +kernel)
set_option maxRecDepth 100000 in
theorem lk_X12_378 : Cond.constantLong RX12 378 (28518) ∈ lw_use := tbk_8 225 rfl (by decide +kernel)
set_option maxRecDepth 100000 in
theorem lk_X12_380 : Cond.constantLong RX12 380 (1818584692) ∈ lw_use := tbk_8 226 rfl (by decide +kernel)
set_option maxRecDepth 100000 in
theorem lk_X12_382 : Cond.constantLong RX12 382 (422608071022) ∈ lw_use := tbk_8 227 rfl (by decide +kernel)
set_option maxRecDepth 100000 in
theorem lk_X12_384 : Cond.constantLong RX12 384 (6385252) ∈ lw_use := tbk_8 228 rfl (by decide +kernel)
set_option maxRecDepth 100000 in
theorem lk_X12_386 : Cond.constantLong RX12 386 (28530) ∈ lw_use := tbk_8 229 rfl (by decide +kernel)
set_option maxRecDepth 100000 in
theorem lk_X12_388 : Cond.constantLong RX12 388 (7237492) ∈ lw_use := tbk_8 230 rfl (by decide +kernel)
set_option maxRecDepth 100000 in
theorem lk_X12_487 : Cond.constantLong RX12 487 (64) ∈ lw_use := tbk_9 123 rfl (by decide +kernel)
set_option maxRecDepth 100000 in
theorem lk_X12_516 : Cond.constantLong RX12 516 (4096) ∈ lw_use := tbk_9 152 rfl (by decide +kernel)
set_option maxRecDepth 100000 in
theorem lk_X12_521 : Cond.constantLong RX12 521 (-1) ∈ lw_use := tbk_9 161 rfl (by decide +kernel)
set_option maxRecDepth 100000 in
theorem lk_X12_561 : Cond.constantLong RX12 561 (1000000) ∈ lw_use := tbk_9 180 rfl (by decide +kernel)
set_option maxRecDepth 100000 in
theorem lk_X12_563 : Cond.constantLong RX12 563 (200) ∈ lw_use := tbk_9 174 rfl (by decide +kernel)
set_option maxRecDepth 100000 in
theorem lk_X12_568 : Cond.constantLong RX12 568 (2000) ∈ lw_use := tbk_9 179 rfl (by decide +kernel)
set_option maxRecDepth 100000 in
theorem lk_X12_670 : Cond.constantLong RX12 670 (31) ∈ lw_use := tbk_10 81 rfl (by decide +kernel)
set_option maxRecDepth 100000 in
theorem lk_X12_708 : Cond.constantLong RX12 708 (2) ∈ lw_use := tbk_10 166 rfl (by decide +kernel)
set_option maxRecDepth 100000 in
theorem lq_X12_23 : Cond.constant RX12 23 (48000) ∈ lw_use := tbk_7 41 rfl (by decide +kernel)
set_option maxRecDepth 100000 in
theorem ln_X11 : Cond.instantiable "OverlayViewer" 16 ∈ lw_use := tbk_1 23 rfl (by decide +kernel)
set_option maxRecDepth 100000 in
theorem lz_X11 : Cond.initialized "OverlayViewer" ∈ lw_use := tbk_1 1 rfl (by decide +kernel)
set_option maxRecDepth 100000 in
theorem ln_X9 : Cond.instantiable "OverlayViewer$Tape" 7 ∈ lw_use := tbk_1 33 rfl (by decide +kernel)
set_option maxRecDepth 100000 in
theorem lz_X9 : Cond.initialized "OverlayViewer$Tape" ∈ lw_use := tbk_1 2 rfl (by decide +kernel)
set_option maxRecDepth 100000 in
theorem ln_X6 : Cond.instantiable "OverlayViewer$Parser" 11 ∈ lw_use := tbk_1 122 rfl (by decide +kernel)
set_option maxRecDepth 100000 in
theorem lz_X6 : Cond.initialized "OverlayViewer$Parser" ∈ lw_use := tbk_1 7 rfl (by decide +kernel)
set_option maxRecDepth 100000 in
theorem ln_X7 : Cond.instantiable "OverlayViewer$Reckoner" 3 ∈ lw_use := tbk_1 164 rfl (by decide +kernel)
set_option maxRecDepth 100000 in
theorem lz_X7 : Cond.initialized "OverlayViewer$Reckoner" ∈ lw_use := tbk_1 8 rfl (by decide +kernel)
set_option maxRecDepth 100000 in
theorem ln_X1 : Cond.instantiable "OverlayViewer$Description" 11 ∈ lw_use := tbk_1 182 rfl (by decide +kernel)
set_option maxRecDepth 100000 in
theorem lz_X1 : Cond.initialized "OverlayViewer$Description" ∈ lw_use := tbk_1 9 rfl (by decide +kernel)
set_option maxRecDepth 100000 in
theorem ln_X0 : Cond.instantiable "OverlayViewer$Code" 3 ∈ lw_use := tbk_1 190 rfl (by decide +kernel)
set_option maxRecDepth 100000 in
theorem lz_X0 : Cond.initialized "OverlayViewer$Code" ∈ lw_use := tbk_1 10 rfl (by decide +kernel)
set_option maxRecDepth 100000 in
theorem ln_X8 : Cond.instantiable "OverlayViewer$Structure" 5 ∈ lw_use := tbk_1 210 rfl (by decide +kernel)
set_option maxRecDepth 100000 in
theorem lz_X8 : Cond.initialized "OverlayViewer$Structure" ∈ lw_use := tbk_1 11 rfl (by decide +kernel)
set_option maxRecDepth 100000 in
theorem ln_X2 : Cond.instantiable "OverlayViewer$Field" 17 ∈ lw_use := tbk_1 217 rfl (by decide +kernel)
set_option maxRecDepth 100000 in
theorem lz_X2 : Cond.initialized "OverlayViewer$Field" ∈ lw_use := tbk_1 12 rfl (by decide +kernel)
set_option maxRecDepth 100000 in
theorem ln_X10 : Cond.instantiable "OverlayViewer$Tree" 10 ∈ lw_use := tbk_2 168 rfl (by decide +kernel)
set_option maxRecDepth 100000 in
theorem lz_X10 : Cond.initialized "OverlayViewer$Tree" ∈ lw_use := tbk_1 13 rfl (by decide +kernel)
set_option maxRecDepth 100000 in
theorem ln_X3 : Cond.instantiable "OverlayViewer$Image" 5 ∈ lw_use := tbk_3 25 rfl (by decide +kernel)
set_option maxRecDepth 100000 in
theorem lz_X3 : Cond.initialized "OverlayViewer$Image" ∈ lw_use := tbk_1 15 rfl (by decide +kernel)
set_option maxRecDepth 100000 in
theorem ln_X4 : Cond.instantiable "OverlayViewer$Layer" 6 ∈ lw_use := tbk_3 89 rfl (by decide +kernel)
set_option maxRecDepth 100000 in
theorem lz_X4 : Cond.initialized "OverlayViewer$Layer" ∈ lw_use := tbk_1 16 rfl (by decide +kernel)
set_option maxRecDepth 100000 in
theorem ln_X5 : Cond.instantiable "OverlayViewer$Node" 17 ∈ lw_use := tbk_5 97 rfl (by decide +kernel)
set_option maxRecDepth 100000 in
theorem lz_X5 : Cond.initialized "OverlayViewer$Node" ∈ lw_use := tbk_1 21 rfl (by decide +kernel)
set_option maxRecDepth 100000 in
theorem ln_X12 : Cond.instantiable "OverlayViewerModel" 91 ∈ lw_use := tbk_7 36 rfl (by decide +kernel)
set_option maxRecDepth 100000 in
theorem lz_X12 : Cond.initialized "OverlayViewerModel" ∈ lw_use := tbk_1 14 rfl (by decide +kernel)
set_option maxRecDepth 100000 in
theorem lo_X3 : Cond.arrayOver (.object "OverlayViewer$Image") ∈ lw_use := tbk_1 31 rfl (by decide +kernel)
set_option maxRecDepth 100000 in
theorem lo_X8 : Cond.arrayOver (.object "OverlayViewer$Structure") ∈ lw_use := tbk_1 188 rfl (by decide +kernel)
set_option maxRecDepth 100000 in
theorem lo_X2 : Cond.arrayOver (.object "OverlayViewer$Field") ∈ lw_use := tbk_1 216 rfl (by decide +kernel)
set_option maxRecDepth 100000 in
theorem lo_X10 : Cond.arrayOver (.object "OverlayViewer$Tree") ∈ lw_use := tbk_2 167 rfl (by decide +kernel)
set_option maxRecDepth 100000 in
theorem lo_X5 : Cond.arrayOver (.object "OverlayViewer$Node") ∈ lw_use := tbk_2 174 rfl (by decide +kernel)
set_option maxRecDepth 100000 in
theorem lo_X4 : Cond.arrayOver (.object "OverlayViewer$Layer") ∈ lw_use := tbk_3 31 rfl (by decide +kernel)
set_option maxRecDepth 100000 in
theorem la_int : Cond.arrayClass .int ∈ lw_use := tbk_1 118 rfl (by decide +kernel)
set_option maxRecDepth 100000 in
theorem la_long : Cond.arrayClass .long ∈ lw_use := tbk_1 119 rfl (by decide +kernel)
set_option maxRecDepth 100000 in
theorem la_byte : Cond.arrayClass .byte ∈ lw_use := tbk_1 120 rfl (by decide +kernel)
set_option maxRecDepth 100000 in
theorem la_boolean : Cond.arrayClass .boolean ∈ lw_use := tbk_8 76 rfl (by decide +kernel)
set_option maxRecDepth 100000 in
theorem loi_i : Cond.instanceMethod Lib.objectInit ∈ lw_use := tbk_1 28 rfl (by decide +kernel)
set_option maxRecDepth 100000 in
theorem loi_c : Cond.code Lib.objectInit ⟨#[0xb1]⟩ 1 none ∈ lw_use := tbk_1 29 rfl (by decide +kernel)
