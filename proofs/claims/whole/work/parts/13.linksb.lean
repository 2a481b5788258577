abbrev MX11_init : MD := (yX11_init, cX11_init, 1, none)
set_option maxRecDepth 100000 in
theorem mo_X11_init : MOK MX11_init 0 := ⟨tbk_1 26 rfl (by decide +kernel), tbk_1 1 rfl (by decide +kernel), ⟨by decide +kernel, by decide +kernel⟩, by decide +kernel, by decide, by decide +kernel⟩
set_option maxRecDepth 100000 in
theorem li_X11_init : Cond.instanceMethod yX11_init ∈ lw_use := tbk_1 25 rfl (by decide +kernel)
abbrev MX11_at : MD := (yX11_at, cX11_at, 4, some .int)
set_option maxRecDepth 100000 in
theorem mo_X11_at : MOK MX11_at 2 := ⟨tbk_3 72 rfl (by decide +kernel), tbk_1 1 rfl (by decide +kernel), ⟨by decide +kernel, by decide +kernel⟩, by decide +kernel, by decide, by decide +kernel⟩
set_option maxRecDepth 100000 in
theorem li_X11_at : Cond.instanceMethod yX11_at ∈ lw_use := tbk_3 70 rfl (by decide +kernel)
set_option maxRecDepth 100000 in
theorem ls_X11_at : Cond.selects yX11_at.cls yX11_at yX11_at ∈ lw_use := tbk_3 71 rfl (by decide +kernel)
abbrev MX11_byteOf : MD := (yX11_byteOf, cX11_byteOf, 3, some .int)
set_option maxRecDepth 100000 in
theorem mo_X11_byteOf : MOK MX11_byteOf 2 := ⟨tbk_3 68 rfl (by decide +kernel), tbk_1 1 rfl (by decide +kernel), ⟨by decide +kernel, by decide +kernel⟩, by decide +kernel, by decide, by decide +kernel⟩
set_option maxRecDepth 100000 in
theorem lt_X11_byteOf : Cond.static yX11_byteOf ∈ lw_use := tbk_3 67 rfl (by decide +kernel)
abbrev MX11_cellByte : MD := (yX11_cellByte, cX11_cellByte, 4, some .int)
set_option maxRecDepth 100000 in
theorem mo_X11_cellByte : MOK MX11_cellByte 3 := ⟨tbk_7 18 rfl (by decide +kernel), tbk_1 1 rfl (by decide +kernel), ⟨by decide +kernel, by decide +kernel⟩, by decide +kernel, by decide, by decide +kernel⟩
set_option maxRecDepth 100000 in
theorem lt_X11_cellByte : Cond.static yX11_cellByte ∈ lw_use := tbk_7 17 rfl (by decide +kernel)
abbrev MX11_changed : MD := (yX11_changed, cX11_changed, 5, some .int)
set_option maxRecDepth 100000 in
theorem mo_X11_changed : MOK MX11_changed 2 := ⟨tbk_3 185 rfl (by decide +kernel), tbk_1 1 rfl (by decide +kernel), ⟨by decide +kernel, by decide +kernel⟩, by decide +kernel, by decide, by decide +kernel⟩
set_option maxRecDepth 100000 in
theorem li_X11_changed : Cond.instanceMethod yX11_changed ∈ lw_use := tbk_3 183 rfl (by decide +kernel)
set_option maxRecDepth 100000 in
theorem ls_X11_changed : Cond.selects yX11_changed.cls yX11_changed yX11_changed ∈ lw_use := tbk_3 184 rfl (by decide +kernel)
abbrev MX11_clear : MD := (yX11_clear, cX11_clear, 2, some .int)
set_option maxRecDepth 100000 in
theorem mo_X11_clear : MOK MX11_clear 0 := ⟨tbk_6 96 rfl (by decide +kernel), tbk_1 1 rfl (by decide +kernel), ⟨by decide +kernel, by decide +kernel⟩, by decide +kernel, by decide, by decide +kernel⟩
set_option maxRecDepth 100000 in
theorem li_X11_clear : Cond.instanceMethod yX11_clear ∈ lw_use := tbk_6 94 rfl (by decide +kernel)
set_option maxRecDepth 100000 in
theorem ls_X11_clear : Cond.selects yX11_clear.cls yX11_clear yX11_clear ∈ lw_use := tbk_6 95 rfl (by decide +kernel)
abbrev MX11_commit : MD := (yX11_commit, cX11_commit, 3, some .int)
set_option maxRecDepth 100000 in
theorem mo_X11_commit : MOK MX11_commit 1 := ⟨tbk_3 130 rfl (by decide +kernel), tbk_1 1 rfl (by decide +kernel), ⟨by decide +kernel, by decide +kernel⟩, by decide +kernel, by decide, by decide +kernel⟩
set_option maxRecDepth 100000 in
theorem li_X11_commit : Cond.instanceMethod yX11_commit ∈ lw_use := tbk_3 128 rfl (by decide +kernel)
set_option maxRecDepth 100000 in
theorem ls_X11_commit : Cond.selects yX11_commit.cls yX11_commit yX11_commit ∈ lw_use := tbk_3 129 rfl (by decide +kernel)
abbrev MX11_count : MD := (yX11_count, cX11_count, 2, some .int)
set_option maxRecDepth 100000 in
theorem mo_X11_count : MOK MX11_count 1 := ⟨tbk_7 22 rfl (by decide +kernel), tbk_1 1 rfl (by decide +kernel), ⟨by decide +kernel, by decide +kernel⟩, by decide +kernel, by decide, by decide +kernel⟩
set_option maxRecDepth 100000 in
theorem li_X11_count : Cond.instanceMethod yX11_count ∈ lw_use := tbk_7 20 rfl (by decide +kernel)
set_option maxRecDepth 100000 in
theorem ls_X11_count : Cond.selects yX11_count.cls yX11_count yX11_count ∈ lw_use := tbk_7 21 rfl (by decide +kernel)
abbrev MX11_covered : MD := (yX11_covered, cX11_covered, 4, some .int)
set_option maxRecDepth 100000 in
theorem mo_X11_covered : MOK MX11_covered 2 := ⟨tbk_6 221 rfl (by decide +kernel), tbk_1 1 rfl (by decide +kernel), ⟨by decide +kernel, by decide +kernel⟩, by decide +kernel, by decide, by decide +kernel⟩
set_option maxRecDepth 100000 in
theorem li_X11_covered : Cond.instanceMethod yX11_covered ∈ lw_use := tbk_6 219 rfl (by decide +kernel)
set_option maxRecDepth 100000 in
theorem ls_X11_covered : Cond.selects yX11_covered.cls yX11_covered yX11_covered ∈ lw_use := tbk_6 220 rfl (by decide +kernel)
abbrev MX11_cut : MD := (yX11_cut, cX11_cut, 2, some .int)
set_option maxRecDepth 100000 in
theorem mo_X11_cut : MOK MX11_cut 1 := ⟨tbk_3 203 rfl (by decide +kernel), tbk_1 1 rfl (by decide +kernel), ⟨by decide +kernel, by decide +kernel⟩, by decide +kernel, by decide, by decide +kernel⟩
set_option maxRecDepth 100000 in
theorem li_X11_cut : Cond.instanceMethod yX11_cut ∈ lw_use := tbk_3 201 rfl (by decide +kernel)
set_option maxRecDepth 100000 in
theorem ls_X11_cut : Cond.selects yX11_cut.cls yX11_cut yX11_cut ∈ lw_use := tbk_3 202 rfl (by decide +kernel)
abbrev MX11_describe : MD := (yX11_describe, cX11_describe, 3, some .int)
set_option maxRecDepth 100000 in
theorem mo_X11_describe : MOK MX11_describe 0 := ⟨tbk_3 207 rfl (by decide +kernel), tbk_1 1 rfl (by decide +kernel), ⟨by decide +kernel, by decide +kernel⟩, by decide +kernel, by decide, by decide +kernel⟩
set_option maxRecDepth 100000 in
theorem li_X11_describe : Cond.instanceMethod yX11_describe ∈ lw_use := tbk_3 205 rfl (by decide +kernel)
set_option maxRecDepth 100000 in
theorem ls_X11_describe : Cond.selects yX11_describe.cls yX11_describe yX11_describe ∈ lw_use := tbk_3 206 rfl (by decide +kernel)
abbrev MX11_differ : MD := (yX11_differ, cX11_differ, 9, some .int)
set_option maxRecDepth 100000 in
theorem mo_X11_differ : MOK MX11_differ 4 := ⟨tbk_7 6 rfl (by decide +kernel), tbk_1 1 rfl (by decide +kernel), ⟨by decide +kernel, by decide +kernel⟩, by decide +kernel, by decide, by decide +kernel⟩
set_option maxRecDepth 100000 in
theorem li_X11_differ : Cond.instanceMethod yX11_differ ∈ lw_use := tbk_7 4 rfl (by decide +kernel)
set_option maxRecDepth 100000 in
theorem ls_X11_differ : Cond.selects yX11_differ.cls yX11_differ yX11_differ ∈ lw_use := tbk_7 5 rfl (by decide +kernel)
abbrev MX11_drop : MD := (yX11_drop, cX11_drop, 3, some .int)
set_option maxRecDepth 100000 in
theorem mo_X11_drop : MOK MX11_drop 1 := ⟨tbk_3 146 rfl (by decide +kernel), tbk_1 1 rfl (by decide +kernel), ⟨by decide +kernel, by decide +kernel⟩, by decide +kernel, by decide, by decide +kernel⟩
set_option maxRecDepth 100000 in
theorem li_X11_drop : Cond.instanceMethod yX11_drop ∈ lw_use := tbk_3 144 rfl (by decide +kernel)
set_option maxRecDepth 100000 in
theorem ls_X11_drop : Cond.selects yX11_drop.cls yX11_drop yX11_drop ∈ lw_use := tbk_3 145 rfl (by decide +kernel)
abbrev MX11_evaluate : MD := (yX11_evaluate, cX11_evaluate, 8, some .int)
set_option maxRecDepth 100000 in
theorem mo_X11_evaluate : MOK MX11_evaluate 2 := ⟨tbk_6 160 rfl (by decide +kernel), tbk_1 1 rfl (by decide +kernel), ⟨by decide +kernel, by decide +kernel⟩, by decide +kernel, by decide, by decide +kernel⟩
set_option maxRecDepth 100000 in
theorem li_X11_evaluate : Cond.instanceMethod yX11_evaluate ∈ lw_use := tbk_6 158 rfl (by decide +kernel)
set_option maxRecDepth 100000 in
theorem ls_X11_evaluate : Cond.selects yX11_evaluate.cls yX11_evaluate yX11_evaluate ∈ lw_use := tbk_6 159 rfl (by decide +kernel)
abbrev MX11_faults : MD := (yX11_faults, cX11_faults, 4, some .int)
set_option maxRecDepth 100000 in
theorem mo_X11_faults : MOK MX11_faults 2 := ⟨tbk_6 135 rfl (by decide +kernel), tbk_1 1 rfl (by decide +kernel), ⟨by decide +kernel, by decide +kernel⟩, by decide +kernel, by decide, by decide +kernel⟩
set_option maxRecDepth 100000 in
theorem li_X11_faults : Cond.instanceMethod yX11_faults ∈ lw_use := tbk_6 133 rfl (by decide +kernel)
set_option maxRecDepth 100000 in
theorem ls_X11_faults : Cond.selects yX11_faults.cls yX11_faults yX11_faults ∈ lw_use := tbk_6 134 rfl (by decide +kernel)
abbrev MX11_feed : MD := (yX11_feed, cX11_feed, 4, some .int)
set_option maxRecDepth 100000 in
theorem mo_X11_feed : MOK MX11_feed 2 := ⟨tbk_3 194 rfl (by decide +kernel), tbk_1 1 rfl (by decide +kernel), ⟨by decide +kernel, by decide +kernel⟩, by decide +kernel, by decide, by decide +kernel⟩
set_option maxRecDepth 100000 in
theorem li_X11_feed : Cond.instanceMethod yX11_feed ∈ lw_use := tbk_3 192 rfl (by decide +kernel)
set_option maxRecDepth 100000 in
theorem ls_X11_feed : Cond.selects yX11_feed.cls yX11_feed yX11_feed ∈ lw_use := tbk_3 193 rfl (by decide +kernel)
abbrev MX11_figureOf : MD := (yX11_figureOf, cX11_figureOf, 2, some .int)
set_option maxRecDepth 100000 in
theorem mo_X11_figureOf : MOK MX11_figureOf 1 := ⟨tbk_7 15 rfl (by decide +kernel), tbk_1 1 rfl (by decide +kernel), ⟨by decide +kernel, by decide +kernel⟩, by decide +kernel, by decide, by decide +kernel⟩
set_option maxRecDepth 100000 in
theorem lt_X11_figureOf : Cond.static yX11_figureOf ∈ lw_use := tbk_7 14 rfl (by decide +kernel)
abbrev MX11_find : MD := (yX11_find, cX11_find, 5, some .int)
set_option maxRecDepth 100000 in
theorem mo_X11_find : MOK MX11_find 1 := ⟨tbk_6 147 rfl (by decide +kernel), tbk_1 1 rfl (by decide +kernel), ⟨by decide +kernel, by decide +kernel⟩, by decide +kernel, by decide, by decide +kernel⟩
set_option maxRecDepth 100000 in
theorem li_X11_find : Cond.instanceMethod yX11_find ∈ lw_use := tbk_6 145 rfl (by decide +kernel)
set_option maxRecDepth 100000 in
theorem ls_X11_find : Cond.selects yX11_find.cls yX11_find yX11_find ∈ lw_use := tbk_6 146 rfl (by decide +kernel)
abbrev MX11_fix : MD := (yX11_fix, cX11_fix, 5, some .int)
set_option maxRecDepth 100000 in
theorem mo_X11_fix : MOK MX11_fix 2 := ⟨tbk_6 192 rfl (by decide +kernel), tbk_1 1 rfl (by decide +kernel), ⟨by decide +kernel, by decide +kernel⟩, by decide +kernel, by decide, by decide +kernel⟩
set_option maxRecDepth 100000 in
theorem li_X11_fix : Cond.instanceMethod yX11_fix ∈ lw_use := tbk_6 190 rfl (by decide +kernel)
set_option maxRecDepth 100000 in
theorem ls_X11_fix : Cond.selects yX11_fix.cls yX11_fix yX11_fix ∈ lw_use := tbk_6 191 rfl (by decide +kernel)
abbrev MX11_gap : MD := (yX11_gap, cX11_gap, 5, some .int)
set_option maxRecDepth 100000 in
theorem mo_X11_gap : MOK MX11_gap 3 := ⟨tbk_6 229 rfl (by decide +kernel), tbk_1 1 rfl (by decide +kernel), ⟨by decide +kernel, by decide +kernel⟩, by decide +kernel, by decide, by decide +kernel⟩
set_option maxRecDepth 100000 in
theorem li_X11_gap : Cond.instanceMethod yX11_gap ∈ lw_use := tbk_6 227 rfl (by decide +kernel)
set_option maxRecDepth 100000 in
theorem ls_X11_gap : Cond.selects yX11_gap.cls yX11_gap yX11_gap ∈ lw_use := tbk_6 228 rfl (by decide +kernel)
abbrev MX11_hex : MD := (yX11_hex, cX11_hex, 7, some .int)
set_option maxRecDepth 100000 in
theorem mo_X11_hex : MOK MX11_hex 3 := ⟨tbk_7 11 rfl (by decide +kernel), tbk_1 1 rfl (by decide +kernel), ⟨by decide +kernel, by decide +kernel⟩, by decide +kernel, by decide, by decide +kernel⟩
set_option maxRecDepth 100000 in
theorem li_X11_hex : Cond.instanceMethod yX11_hex ∈ lw_use := tbk_7 9 rfl (by decide +kernel)
set_option maxRecDepth 100000 in
theorem ls_X11_hex : Cond.selects yX11_hex.cls yX11_hex yX11_hex ∈ lw_use := tbk_7 10 rfl (by decide +kernel)
abbrev MX11_image : MD := (yX11_image, cX11_image, 1, some .int)
set_option maxRecDepth 100000 in
theorem mo_X11_image : MOK MX11_image 0 := ⟨tbk_3 24 rfl (by decide +kernel), tbk_1 1 rfl (by decide +kernel), ⟨by decide +kernel, by decide +kernel⟩, by decide +kernel, by decide, by decide +kernel⟩
set_option maxRecDepth 100000 in
theorem li_X11_image : Cond.instanceMethod yX11_image ∈ lw_use := tbk_3 22 rfl (by decide +kernel)
set_option maxRecDepth 100000 in
theorem ls_X11_image : Cond.selects yX11_image.cls yX11_image yX11_image ∈ lw_use := tbk_3 23 rfl (by decide +kernel)
abbrev MX11_imageOf : MD := (yX11_imageOf, cX11_imageOf, 2, some (.object "OverlayViewer$Image"))
set_option maxRecDepth 100000 in
theorem mo_X11_imageOf : MOK MX11_imageOf 1 := ⟨tbk_3 61 rfl (by decide +kernel), tbk_1 1 rfl (by decide +kernel), ⟨by decide +kernel, by decide +kernel⟩, by decide +kernel, by decide, by decide +kernel⟩
set_option maxRecDepth 100000 in
theorem li_X11_imageOf : Cond.instanceMethod yX11_imageOf ∈ lw_use := tbk_3 60 rfl (by decide +kernel)
set_option maxRecDepth 100000 in
theorem ls_X11_imageOf : Cond.selects yX11_imageOf.cls yX11_imageOf yX11_imageOf ∈ lw_use := tb_s 0 (by decide +kernel) (by decide +kernel)
abbrev MX11_isStructure : MD := (yX11_isStructure, cX11_isStructure, 2, some .boolean)
set_option maxRecDepth 100000 in
theorem mo_X11_isStructure : MOK MX11_isStructure 1 := ⟨tbk_5 76 rfl (by decide +kernel), tbk_1 1 rfl (by decide +kernel), ⟨by decide +kernel, by decide +kernel⟩, by decide +kernel, by decide, by decide +kernel⟩
set_option maxRecDepth 100000 in
theorem li_X11_isStructure : Cond.instanceMethod yX11_isStructure ∈ lw_use := tbk_5 75 rfl (by decide +kernel)
set_option maxRecDepth 100000 in
theorem ls_X11_isStructure : Cond.selects yX11_isStructure.cls yX11_isStructure yX11_isStructure ∈ lw_use := tb_s 50 (by decide +kernel) (by decide +kernel)
abbrev MX11_kid : MD := (yX11_kid, cX11_kid, 6, some .int)
set_option maxRecDepth 100000 in
theorem mo_X11_kid : MOK MX11_kid 3 := ⟨tbk_6 108 rfl (by decide +kernel), tbk_1 1 rfl (by decide +kernel), ⟨by decide +kernel, by decide +kernel⟩, by decide +kernel, by decide, by decide +kernel⟩
set_option maxRecDepth 100000 in
theorem li_X11_kid : Cond.instanceMethod yX11_kid ∈ lw_use := tbk_6 106 rfl (by decide +kernel)
set_option maxRecDepth 100000 in
theorem ls_X11_kid : Cond.selects yX11_kid.cls yX11_kid yX11_kid ∈ lw_use := tbk_6 107 rfl (by decide +kernel)
abbrev MX11_kidByToken : MD := (yX11_kidByToken, cX11_kidByToken, 4, some (.object "OverlayViewer$Node"))
set_option maxRecDepth 100000 in
theorem mo_X11_kidByToken : MOK MX11_kidByToken 2 := ⟨tbk_6 151 rfl (by decide +kernel), tbk_1 1 rfl (by decide +kernel), ⟨by decide +kernel, by decide +kernel⟩, by decide +kernel, by decide, by decide +kernel⟩
set_option maxRecDepth 100000 in
theorem li_X11_kidByToken : Cond.instanceMethod yX11_kidByToken ∈ lw_use := tbk_6 150 rfl (by decide +kernel)
set_option maxRecDepth 100000 in
theorem ls_X11_kidByToken : Cond.selects yX11_kidByToken.cls yX11_kidByToken yX11_kidByToken ∈ lw_use := tb_s 76 (by decide +kernel) (by decide +kernel)
abbrev MX11_lay : MD := (yX11_lay, cX11_lay, 6, some .int)
set_option maxRecDepth 100000 in
theorem mo_X11_lay : MOK MX11_lay 3 := ⟨tbk_5 84 rfl (by decide +kernel), tbk_1 1 rfl (by decide +kernel), ⟨by decide +kernel, by decide +kernel⟩, by decide +kernel, by decide, by decide +kernel⟩
set_option maxRecDepth 100000 in
theorem li_X11_lay : Cond.instanceMethod yX11_lay ∈ lw_use := tbk_5 82 rfl (by decide +kernel)
set_option maxRecDepth 100000 in
theorem ls_X11_lay : Cond.selects yX11_lay.cls yX11_lay yX11_lay ∈ lw_use := tbk_5 83 rfl (by decide +kernel)
abbrev MX11_layer : MD := (yX11_layer, cX11_layer, 3, some .int)
set_option maxRecDepth 100000 in
theorem mo_X11_layer : MOK MX11_layer 1 := ⟨tbk_3 84 rfl (by decide +kernel), tbk_1 1 rfl (by decide +kernel), ⟨by decide +kernel, by decide +kernel⟩, by decide +kernel, by decide, by decide +kernel⟩
set_option maxRecDepth 100000 in
theorem li_X11_layer : Cond.instanceMethod yX11_layer ∈ lw_use := tbk_3 82 rfl (by decide +kernel)
set_option maxRecDepth 100000 in
theorem ls_X11_layer : Cond.selects yX11_layer.cls yX11_layer yX11_layer ∈ lw_use := tbk_3 83 rfl (by decide +kernel)
abbrev MX11_layerTotal : MD := (yX11_layerTotal, cX11_layerTotal, 3, some .int)
set_option maxRecDepth 100000 in
theorem mo_X11_layerTotal : MOK MX11_layerTotal 0 := ⟨tbk_7 30 rfl (by decide +kernel), tbk_1 1 rfl (by decide +kernel), ⟨by decide +kernel, by decide +kernel⟩, by decide +kernel, by decide, by decide +kernel⟩
set_option maxRecDepth 100000 in
theorem li_X11_layerTotal : Cond.instanceMethod yX11_layerTotal ∈ lw_use := tbk_7 29 rfl (by decide +kernel)
set_option maxRecDepth 100000 in
theorem ls_X11_layerTotal : Cond.selects yX11_layerTotal.cls yX11_layerTotal yX11_layerTotal ∈ lw_use := tb_s 81 (by decide +kernel) (by decide +kernel)
abbrev MX11_length : MD := (yX11_length, cX11_length, 3, some .int)
set_option maxRecDepth 100000 in
theorem mo_X11_length : MOK MX11_length 1 := ⟨tbk_3 80 rfl (by decide +kernel), tbk_1 1 rfl (by decide +kernel), ⟨by decide +kernel, by decide +kernel⟩, by decide +kernel, by decide, by decide +kernel⟩
set_option maxRecDepth 100000 in
theorem li_X11_length : Cond.instanceMethod yX11_length ∈ lw_use := tbk_3 78 rfl (by decide +kernel)
set_option maxRecDepth 100000 in
theorem ls_X11_length : Cond.selects yX11_length.cls yX11_length yX11_length ∈ lw_use := tbk_3 79 rfl (by decide +kernel)
abbrev MX11_letter : MD := (yX11_letter, cX11_letter, 8, some .int)
set_option maxRecDepth 100000 in
theorem mo_X11_letter : MOK MX11_letter 4 := ⟨tbk_6 126 rfl (by decide +kernel), tbk_1 1 rfl (by decide +kernel), ⟨by decide +kernel, by decide +kernel⟩, by decide +kernel, by decide, by decide +kernel⟩
set_option maxRecDepth 100000 in
theorem li_X11_letter : Cond.instanceMethod yX11_letter ∈ lw_use := tbk_6 124 rfl (by decide +kernel)
set_option maxRecDepth 100000 in
theorem ls_X11_letter : Cond.selects yX11_letter.cls yX11_letter yX11_letter ∈ lw_use := tbk_6 125 rfl (by decide +kernel)
abbrev MX11_letterOf : MD := (yX11_letterOf, cX11_letterOf, 4, some .int)
set_option maxRecDepth 100000 in
theorem mo_X11_letterOf : MOK MX11_letterOf 2 := ⟨tbk_6 129 rfl (by decide +kernel), tbk_1 1 rfl (by decide +kernel), ⟨by decide +kernel, by decide +kernel⟩, by decide +kernel, by decide, by decide +kernel⟩
set_option maxRecDepth 100000 in
theorem lt_X11_letterOf : Cond.static yX11_letterOf ∈ lw_use := tbk_6 128 rfl (by decide +kernel)
abbrev MX11_lowBits : MD := (yX11_lowBits, cX11_lowBits, 1, some .long)
set_option maxRecDepth 100000 in
theorem mo_X11_lowBits : MOK MX11_lowBits 1 := ⟨tbk_5 228 rfl (by decide +kernel), tbk_1 1 rfl (by decide +kernel), ⟨by decide +kernel, by decide +kernel⟩, by decide +kernel, by decide, by decide +kernel⟩
set_option maxRecDepth 100000 in
theorem lt_X11_lowBits : Cond.static yX11_lowBits ∈ lw_use := tbk_5 227 rfl (by decide +kernel)
abbrev MX11_magic : MD := (yX11_magic, cX11_magic, 9, some .int)
set_option maxRecDepth 100000 in
theorem mo_X11_magic : MOK MX11_magic 3 := ⟨tbk_6 217 rfl (by decide +kernel), tbk_1 1 rfl (by decide +kernel), ⟨by decide +kernel, by decide +kernel⟩, by decide +kernel, by decide, by decide +kernel⟩
set_option maxRecDepth 100000 in
theorem li_X11_magic : Cond.instanceMethod yX11_magic ∈ lw_use := tbk_6 215 rfl (by decide +kernel)
set_option maxRecDepth 100000 in
theorem ls_X11_magic : Cond.selects yX11_magic.cls yX11_magic yX11_magic ∈ lw_use := tbk_6 216 rfl (by decide +kernel)
abbrev MX11_masked : MD := (yX11_masked, cX11_masked, 6, some .int)
set_option maxRecDepth 100000 in
theorem mo_X11_masked : MOK MX11_masked 2 := ⟨tbk_6 213 rfl (by decide +kernel), tbk_1 1 rfl (by decide +kernel), ⟨by decide +kernel, by decide +kernel⟩, by decide +kernel, by decide, by decide +kernel⟩
set_option maxRecDepth 100000 in
theorem li_X11_masked : Cond.instanceMethod yX11_masked ∈ lw_use := tbk_6 211 rfl (by decide +kernel)
set_option maxRecDepth 100000 in
theorem ls_X11_masked : Cond.selects yX11_masked.cls yX11_masked yX11_masked ∈ lw_use := tbk_6 212 rfl (by decide +kernel)
abbrev MX11_matchOf : MD := (yX11_matchOf, cX11_matchOf, 6, some .int)
set_option maxRecDepth 100000 in
theorem mo_X11_matchOf : MOK MX11_matchOf 3 := ⟨tbk_6 205 rfl (by decide +kernel), tbk_1 1 rfl (by decide +kernel), ⟨by decide +kernel, by decide +kernel⟩, by decide +kernel, by decide, by decide +kernel⟩
set_option maxRecDepth 100000 in
theorem li_X11_matchOf : Cond.instanceMethod yX11_matchOf ∈ lw_use := tbk_6 204 rfl (by decide +kernel)
set_option maxRecDepth 100000 in
theorem ls_X11_matchOf : Cond.selects yX11_matchOf.cls yX11_matchOf yX11_matchOf ∈ lw_use := tb_s 77 (by decide +kernel) (by decide +kernel)
abbrev MX11_matches : MD := (yX11_matches, cX11_matches, 5, some .boolean)
set_option maxRecDepth 100000 in
theorem mo_X11_matches : MOK MX11_matches 3 := ⟨tbk_6 209 rfl (by decide +kernel), tbk_1 1 rfl (by decide +kernel), ⟨by decide +kernel, by decide +kernel⟩, by decide +kernel, by decide, by decide +kernel⟩
set_option maxRecDepth 100000 in
theorem li_X11_matches : Cond.instanceMethod yX11_matches ∈ lw_use := tbk_6 208 rfl (by decide +kernel)
set_option maxRecDepth 100000 in
theorem ls_X11_matches : Cond.selects yX11_matches.cls yX11_matches yX11_matches ∈ lw_use := tb_s 78 (by decide +kernel) (by decide +kernel)
abbrev MX11_node : MD := (yX11_node, cX11_node, 5, some .int)
set_option maxRecDepth 100000 in
theorem mo_X11_node : MOK MX11_node 3 := ⟨tbk_6 100 rfl (by decide +kernel), tbk_1 1 rfl (by decide +kernel), ⟨by decide +kernel, by decide +kernel⟩, by decide +kernel, by decide, by decide +kernel⟩
set_option maxRecDepth 100000 in
theorem li_X11_node : Cond.instanceMethod yX11_node ∈ lw_use := tbk_6 98 rfl (by decide +kernel)
set_option maxRecDepth 100000 in
theorem ls_X11_node : Cond.selects yX11_node.cls yX11_node yX11_node ∈ lw_use := tbk_6 99 rfl (by decide +kernel)
abbrev MX11_nodeOf : MD := (yX11_nodeOf, cX11_nodeOf, 4, some (.object "OverlayViewer$Node"))
set_option maxRecDepth 100000 in
theorem mo_X11_nodeOf : MOK MX11_nodeOf 2 := ⟨tbk_6 104 rfl (by decide +kernel), tbk_1 1 rfl (by decide +kernel), ⟨by decide +kernel, by decide +kernel⟩, by decide +kernel, by decide, by decide +kernel⟩
set_option maxRecDepth 100000 in
theorem li_X11_nodeOf : Cond.instanceMethod yX11_nodeOf ∈ lw_use := tbk_6 103 rfl (by decide +kernel)
set_option maxRecDepth 100000 in
theorem ls_X11_nodeOf : Cond.selects yX11_nodeOf.cls yX11_nodeOf yX11_nodeOf ∈ lw_use := tb_s 75 (by decide +kernel) (by decide +kernel)
abbrev MX11_nodeTotal : MD := (yX11_nodeTotal, cX11_nodeTotal, 3, some .int)
set_option maxRecDepth 100000 in
theorem mo_X11_nodeTotal : MOK MX11_nodeTotal 0 := ⟨tbk_7 26 rfl (by decide +kernel), tbk_1 1 rfl (by decide +kernel), ⟨by decide +kernel, by decide +kernel⟩, by decide +kernel, by decide, by decide +kernel⟩
set_option maxRecDepth 100000 in
theorem li_X11_nodeTotal : Cond.instanceMethod yX11_nodeTotal ∈ lw_use := tbk_7 25 rfl (by decide +kernel)
set_option maxRecDepth 100000 in
theorem ls_X11_nodeTotal : Cond.selects yX11_nodeTotal.cls yX11_nodeTotal yX11_nodeTotal ∈ lw_use := tb_s 80 (by decide +kernel) (by decide +kernel)
abbrev MX11_out : MD := (yX11_out, cX11_out, 1, some .long)
set_option maxRecDepth 100000 in
theorem mo_X11_out : MOK MX11_out 0 := ⟨tbk_6 169 rfl (by decide +kernel), tbk_1 1 rfl (by decide +kernel), ⟨by decide +kernel, by decide +kernel⟩, by decide +kernel, by decide, by decide +kernel⟩
set_option maxRecDepth 100000 in
theorem li_X11_out : Cond.instanceMethod yX11_out ∈ lw_use := tbk_6 167 rfl (by decide +kernel)
set_option maxRecDepth 100000 in
theorem ls_X11_out : Cond.selects yX11_out.cls yX11_out yX11_out ∈ lw_use := tbk_6 168 rfl (by decide +kernel)
abbrev MX11_poke : MD := (yX11_poke, cX11_poke, 6, some .int)
set_option maxRecDepth 100000 in
theorem mo_X11_poke : MOK MX11_poke 3 := ⟨tbk_3 158 rfl (by decide +kernel), tbk_1 1 rfl (by decide +kernel), ⟨by decide +kernel, by decide +kernel⟩, by decide +kernel, by decide, by decide +kernel⟩
set_option maxRecDepth 100000 in
theorem li_X11_poke : Cond.instanceMethod yX11_poke ∈ lw_use := tbk_3 156 rfl (by decide +kernel)
set_option maxRecDepth 100000 in
theorem ls_X11_poke : Cond.selects yX11_poke.cls yX11_poke yX11_poke ∈ lw_use := tbk_3 157 rfl (by decide +kernel)
abbrev MX11_push : MD := (yX11_push, cX11_push, 6, some .int)
set_option maxRecDepth 100000 in
theorem mo_X11_push : MOK MX11_push 3 := ⟨tbk_3 57 rfl (by decide +kernel), tbk_1 1 rfl (by decide +kernel), ⟨by decide +kernel, by decide +kernel⟩, by decide +kernel, by decide, by decide +kernel⟩
set_option maxRecDepth 100000 in
theorem li_X11_push : Cond.instanceMethod yX11_push ∈ lw_use := tbk_3 55 rfl (by decide +kernel)
set_option maxRecDepth 100000 in
theorem ls_X11_push : Cond.selects yX11_push.cls yX11_push yX11_push ∈ lw_use := tbk_3 56 rfl (by decide +kernel)
abbrev MX11_put : MD := (yX11_put, cX11_put, 8, some .int)
set_option maxRecDepth 100000 in
theorem mo_X11_put : MOK MX11_put 4 := ⟨tbk_6 188 rfl (by decide +kernel), tbk_1 1 rfl (by decide +kernel), ⟨by decide +kernel, by decide +kernel⟩, by decide +kernel, by decide, by decide +kernel⟩
set_option maxRecDepth 100000 in
theorem li_X11_put : Cond.instanceMethod yX11_put ∈ lw_use := tbk_6 186 rfl (by decide +kernel)
set_option maxRecDepth 100000 in
theorem ls_X11_put : Cond.selects yX11_put.cls yX11_put yX11_put ∈ lw_use := tbk_6 187 rfl (by decide +kernel)
abbrev MX11_relay : MD := (yX11_relay, cX11_relay, 3, some .int)
set_option maxRecDepth 100000 in
theorem mo_X11_relay : MOK MX11_relay 1 := ⟨tbk_6 88 rfl (by decide +kernel), tbk_1 1 rfl (by decide +kernel), ⟨by decide +kernel, by decide +kernel⟩, by decide +kernel, by decide, by decide +kernel⟩
set_option maxRecDepth 100000 in
theorem li_X11_relay : Cond.instanceMethod yX11_relay ∈ lw_use := tbk_6 86 rfl (by decide +kernel)
set_option maxRecDepth 100000 in
theorem ls_X11_relay : Cond.selects yX11_relay.cls yX11_relay yX11_relay ∈ lw_use := tbk_6 87 rfl (by decide +kernel)
abbrev MX11_search : MD := (yX11_search, cX11_search, 9, some .int)
set_option maxRecDepth 100000 in
theorem mo_X11_search : MOK MX11_search 5 := ⟨tbk_6 201 rfl (by decide +kernel), tbk_1 1 rfl (by decide +kernel), ⟨by decide +kernel, by decide +kernel⟩, by decide +kernel, by decide, by decide +kernel⟩
set_option maxRecDepth 100000 in
theorem li_X11_search : Cond.instanceMethod yX11_search ∈ lw_use := tbk_6 199 rfl (by decide +kernel)
set_option maxRecDepth 100000 in
theorem ls_X11_search : Cond.selects yX11_search.cls yX11_search yX11_search ∈ lw_use := tbk_6 200 rfl (by decide +kernel)
abbrev MX11_set : MD := (yX11_set, cX11_set, 11, some .int)
set_option maxRecDepth 100000 in
theorem mo_X11_set : MOK MX11_set 3 := ⟨tbk_6 173 rfl (by decide +kernel), tbk_1 1 rfl (by decide +kernel), ⟨by decide +kernel, by decide +kernel⟩, by decide +kernel, by decide, by decide +kernel⟩
set_option maxRecDepth 100000 in
theorem li_X11_set : Cond.instanceMethod yX11_set ∈ lw_use := tbk_6 171 rfl (by decide +kernel)
set_option maxRecDepth 100000 in
theorem ls_X11_set : Cond.selects yX11_set.cls yX11_set yX11_set ∈ lw_use := tbk_6 172 rfl (by decide +kernel)
abbrev MX11_sign : MD := (yX11_sign, cX11_sign, 6, some .int)
set_option maxRecDepth 100000 in
theorem mo_X11_sign : MOK MX11_sign 3 := ⟨tbk_6 118 rfl (by decide +kernel), tbk_1 1 rfl (by decide +kernel), ⟨by decide +kernel, by decide +kernel⟩, by decide +kernel, by decide, by decide +kernel⟩
set_option maxRecDepth 100000 in
theorem li_X11_sign : Cond.instanceMethod yX11_sign ∈ lw_use := tbk_6 116 rfl (by decide +kernel)
set_option maxRecDepth 100000 in
theorem ls_X11_sign : Cond.selects yX11_sign.cls yX11_sign yX11_sign ∈ lw_use := tbk_6 117 rfl (by decide +kernel)
abbrev MX11_size : MD := (yX11_size, cX11_size, 3, some .int)
set_option maxRecDepth 100000 in
theorem mo_X11_size : MOK MX11_size 1 := ⟨tbk_5 72 rfl (by decide +kernel), tbk_1 1 rfl (by decide +kernel), ⟨by decide +kernel, by decide +kernel⟩, by decide +kernel, by decide, by decide +kernel⟩
set_option maxRecDepth 100000 in
theorem li_X11_size : Cond.instanceMethod yX11_size ∈ lw_use := tbk_5 70 rfl (by decide +kernel)
set_option maxRecDepth 100000 in
theorem ls_X11_size : Cond.selects yX11_size.cls yX11_size yX11_size ∈ lw_use := tbk_5 71 rfl (by decide +kernel)
abbrev MX11_stretchOf : MD := (yX11_stretchOf, cX11_stretchOf, 8, some .int)
set_option maxRecDepth 100000 in
theorem mo_X11_stretchOf : MOK MX11_stretchOf 3 := ⟨tbk_7 2 rfl (by decide +kernel), tbk_1 1 rfl (by decide +kernel), ⟨by decide +kernel, by decide +kernel⟩, by decide +kernel, by decide, by decide +kernel⟩
set_option maxRecDepth 100000 in
theorem li_X11_stretchOf : Cond.instanceMethod yX11_stretchOf ∈ lw_use := tbk_7 1 rfl (by decide +kernel)
set_option maxRecDepth 100000 in
theorem ls_X11_stretchOf : Cond.selects yX11_stretchOf.cls yX11_stretchOf yX11_stretchOf ∈ lw_use := tb_s 79 (by decide +kernel) (by decide +kernel)
abbrev MX11_treeOf : MD := (yX11_treeOf, cX11_treeOf, 2, some (.object "OverlayViewer$Tree"))
set_option maxRecDepth 100000 in
theorem mo_X11_treeOf : MOK MX11_treeOf 1 := ⟨tbk_6 92 rfl (by decide +kernel), tbk_1 1 rfl (by decide +kernel), ⟨by decide +kernel, by decide +kernel⟩, by decide +kernel, by decide, by decide +kernel⟩
set_option maxRecDepth 100000 in
theorem li_X11_treeOf : Cond.instanceMethod yX11_treeOf ∈ lw_use := tbk_6 91 rfl (by decide +kernel)
set_option maxRecDepth 100000 in
theorem ls_X11_treeOf : Cond.selects yX11_treeOf.cls yX11_treeOf yX11_treeOf ∈ lw_use := tb_s 74 (by decide +kernel) (by decide +kernel)
abbrev MX11_undo : MD := (yX11_undo, cX11_undo, 3, some .int)
set_option maxRecDepth 100000 in
theorem mo_X11_undo : MOK MX11_undo 1 := ⟨tbk_3 177 rfl (by decide +kernel), tbk_1 1 rfl (by decide +kernel), ⟨by decide +kernel, by decide +kernel⟩, by decide +kernel, by decide, by decide +kernel⟩
set_option maxRecDepth 100000 in
theorem li_X11_undo : Cond.instanceMethod yX11_undo ∈ lw_use := tbk_3 175 rfl (by decide +kernel)
set_option maxRecDepth 100000 in
theorem ls_X11_undo : Cond.selects yX11_undo.cls yX11_undo yX11_undo ∈ lw_use := tbk_3 176 rfl (by decide +kernel)
abbrev MX11_uses : MD := (yX11_uses, cX11_uses, 3, some .int)
set_option maxRecDepth 100000 in
theorem mo_X11_uses : MOK MX11_uses 2 := ⟨tbk_5 80 rfl (by decide +kernel), tbk_1 1 rfl (by decide +kernel), ⟨by decide +kernel, by decide +kernel⟩, by decide +kernel, by decide, by decide +kernel⟩
set_option maxRecDepth 100000 in
theorem li_X11_uses : Cond.instanceMethod yX11_uses ∈ lw_use := tbk_5 78 rfl (by decide +kernel)
set_option maxRecDepth 100000 in
theorem ls_X11_uses : Cond.selects yX11_uses.cls yX11_uses yX11_uses ∈ lw_use := tbk_5 79 rfl (by decide +kernel)
abbrev MX11_value : MD := (yX11_value, cX11_value, 5, some .long)
set_option maxRecDepth 100000 in
theorem mo_X11_value : MOK MX11_value 2 := ⟨tbk_6 113 rfl (by decide +kernel), tbk_1 1 rfl (by decide +kernel), ⟨by decide +kernel, by decide +kernel⟩, by decide +kernel, by decide, by decide +kernel⟩
set_option maxRecDepth 100000 in
theorem li_X11_value : Cond.instanceMethod yX11_value ∈ lw_use := tbk_6 111 rfl (by decide +kernel)
set_option maxRecDepth 100000 in
theorem ls_X11_value : Cond.selects yX11_value.cls yX11_value yX11_value ∈ lw_use := tbk_6 112 rfl (by decide +kernel)
abbrev MX11_writeTotal : MD := (yX11_writeTotal, cX11_writeTotal, 4, some .int)
set_option maxRecDepth 100000 in
theorem mo_X11_writeTotal : MOK MX11_writeTotal 0 := ⟨tbk_7 34 rfl (by decide +kernel), tbk_1 1 rfl (by decide +kernel), ⟨by decide +kernel, by decide +kernel⟩, by decide +kernel, by decide, by decide +kernel⟩
set_option maxRecDepth 100000 in
theorem li_X11_writeTotal : Cond.instanceMethod yX11_writeTotal ∈ lw_use := tbk_7 33 rfl (by decide +kernel)
set_option maxRecDepth 100000 in
theorem ls_X11_writeTotal : Cond.selects yX11_writeTotal.cls yX11_writeTotal yX11_writeTotal ∈ lw_use := tb_s 82 (by decide +kernel) (by decide +kernel)
abbrev MX11_wrong : MD := (yX11_wrong, cX11_wrong, 1, some .int)
set_option maxRecDepth 100000 in
theorem mo_X11_wrong : MOK MX11_wrong 0 := ⟨tbk_5 68 rfl (by decide +kernel), tbk_1 1 rfl (by decide +kernel), ⟨by decide +kernel, by decide +kernel⟩, by decide +kernel, by decide, by decide +kernel⟩
set_option maxRecDepth 100000 in
theorem li_X11_wrong : Cond.instanceMethod yX11_wrong ∈ lw_use := tbk_5 66 rfl (by decide +kernel)
set_option maxRecDepth 100000 in
theorem ls_X11_wrong : Cond.selects yX11_wrong.cls yX11_wrong yX11_wrong ∈ lw_use := tbk_5 67 rfl (by decide +kernel)
abbrev MX0_init : MD := (yX0_init, cX0_init, 1, none)
set_option maxRecDepth 100000 in
theorem mo_X0_init : MOK MX0_init 0 := ⟨tbk_1 193 rfl (by decide +kernel), tbk_1 10 rfl (by decide +kernel), ⟨by decide +kernel, by decide +kernel⟩, by decide +kernel, by decide, by decide +kernel⟩
set_option maxRecDepth 100000 in
theorem li_X0_init : Cond.instanceMethod yX0_init ∈ lw_use := tbk_1 192 rfl (by decide +kernel)
abbrev MX0_add : MD := (yX0_add, cX0_add, 4, none)
set_option maxRecDepth 100000 in
theorem mo_X0_add : MOK MX0_add 2 := ⟨tbk_4 160 rfl (by decide +kernel), tbk_1 10 rfl (by decide +kernel), ⟨by decide +kernel, by decide +kernel⟩, by decide +kernel, by decide, by decide +kernel⟩
set_option maxRecDepth 100000 in
theorem li_X0_add : Cond.instanceMethod yX0_add ∈ lw_use := tbk_4 158 rfl (by decide +kernel)
set_option maxRecDepth 100000 in
theorem ls_X0_add : Cond.selects yX0_add.cls yX0_add yX0_add ∈ lw_use := tbk_4 159 rfl (by decide +kernel)
abbrev MX0_alone : MD := (yX0_alone, cX0_alone, 4, some .long)
set_option maxRecDepth 100000 in
theorem mo_X0_alone : MOK MX0_alone 2 := ⟨tbk_5 31 rfl (by decide +kernel), tbk_1 10 rfl (by decide +kernel), ⟨by decide +kernel, by decide +kernel⟩, by decide +kernel, by decide, by decide +kernel⟩
set_option maxRecDepth 100000 in
theorem li_X0_alone : Cond.instanceMethod yX0_alone ∈ lw_use := tbk_5 29 rfl (by decide +kernel)
set_option maxRecDepth 100000 in
theorem ls_X0_alone : Cond.selects yX0_alone.cls yX0_alone yX0_alone ∈ lw_use := tbk_5 30 rfl (by decide +kernel)
abbrev MX0_stepAt : MD := (yX0_stepAt, cX0_stepAt, 2, some .int)
set_option maxRecDepth 100000 in
theorem mo_X0_stepAt : MOK MX0_stepAt 1 := ⟨tbk_5 35 rfl (by decide +kernel), tbk_1 10 rfl (by decide +kernel), ⟨by decide +kernel, by decide +kernel⟩, by decide +kernel, by decide, by decide +kernel⟩
set_option maxRecDepth 100000 in
theorem li_X0_stepAt : Cond.instanceMethod yX0_stepAt ∈ lw_use := tbk_5 33 rfl (by decide +kernel)
set_option maxRecDepth 100000 in
theorem ls_X0_stepAt : Cond.selects yX0_stepAt.cls yX0_stepAt yX0_stepAt ∈ lw_use := tbk_5 34 rfl (by decide +kernel)
abbrev MX1_init : MD := (yX1_init, cX1_init, 2, none)
set_option maxRecDepth 100000 in
theorem mo_X1_init : MOK MX1_init 0 := ⟨tbk_1 185 rfl (by decide +kernel), tbk_1 9 rfl (by decide +kernel), ⟨by decide +kernel, by decide +kernel⟩, by decide +kernel, by decide, by decide +kernel⟩
set_option maxRecDepth 100000 in
theorem li_X1_init : Cond.instanceMethod yX1_init ∈ lw_use := tbk_1 184 rfl (by decide +kernel)
abbrev MX1_addEntry : MD := (yX1_addEntry, cX1_addEntry, 6, none)
set_option maxRecDepth 100000 in
theorem mo_X1_addEntry : MOK MX1_addEntry 3 := ⟨tbk_4 119 rfl (by decide +kernel), tbk_1 9 rfl (by decide +kernel), ⟨by decide +kernel, by decide +kernel⟩, by decide +kernel, by decide, by decide +kernel⟩
set_option maxRecDepth 100000 in
theorem li_X1_addEntry : Cond.instanceMethod yX1_addEntry ∈ lw_use := tbk_4 117 rfl (by decide +kernel)
set_option maxRecDepth 100000 in
theorem ls_X1_addEntry : Cond.selects yX1_addEntry.cls yX1_addEntry yX1_addEntry ∈ lw_use := tbk_4 118 rfl (by decide +kernel)
abbrev MX1_arraySize : MD := (yX1_arraySize, cX1_arraySize, 5, some .long)
set_option maxRecDepth 100000 in
theorem mo_X1_arraySize : MOK MX1_arraySize 1 := ⟨tbk_5 27 rfl (by decide +kernel), tbk_1 9 rfl (by decide +kernel), ⟨by decide +kernel, by decide +kernel⟩, by decide +kernel, by decide, by decide +kernel⟩
set_option maxRecDepth 100000 in
theorem li_X1_arraySize : Cond.instanceMethod yX1_arraySize ∈ lw_use := tbk_5 26 rfl (by decide +kernel)
set_option maxRecDepth 100000 in
theorem ls_X1_arraySize : Cond.selects yX1_arraySize.cls yX1_arraySize yX1_arraySize ∈ lw_use := tb_s 45 (by decide +kernel) (by decide +kernel)
abbrev MX1_entryNamed : MD := (yX1_entryNamed, cX1_entryNamed, 6, some .int)
set_option maxRecDepth 100000 in
theorem mo_X1_entryNamed : MOK MX1_entryNamed 3 := ⟨tbk_4 111 rfl (by decide +kernel), tbk_1 9 rfl (by decide +kernel), ⟨by decide +kernel, by decide +kernel⟩, by decide +kernel, by decide, by decide +kernel⟩
set_option maxRecDepth 100000 in
theorem li_X1_entryNamed : Cond.instanceMethod yX1_entryNamed ∈ lw_use := tbk_4 109 rfl (by decide +kernel)
set_option maxRecDepth 100000 in
theorem ls_X1_entryNamed : Cond.selects yX1_entryNamed.cls yX1_entryNamed yX1_entryNamed ∈ lw_use := tbk_4 110 rfl (by decide +kernel)
abbrev MX1_entryWith : MD := (yX1_entryWith, cX1_entryWith, 6, some .int)
set_option maxRecDepth 100000 in
theorem mo_X1_entryWith : MOK MX1_entryWith 3 := ⟨tbk_6 21 rfl (by decide +kernel), tbk_1 9 rfl (by decide +kernel), ⟨by decide +kernel, by decide +kernel⟩, by decide +kernel, by decide, by decide +kernel⟩
set_option maxRecDepth 100000 in
theorem li_X1_entryWith : Cond.instanceMethod yX1_entryWith ∈ lw_use := tbk_6 19 rfl (by decide +kernel)
set_option maxRecDepth 100000 in
theorem ls_X1_entryWith : Cond.selects yX1_entryWith.cls yX1_entryWith yX1_entryWith ∈ lw_use := tbk_6 20 rfl (by decide +kernel)
abbrev MX1_enumNamed : MD := (yX1_enumNamed, cX1_enumNamed, 4, some .int)
set_option maxRecDepth 100000 in
theorem mo_X1_enumNamed : MOK MX1_enumNamed 1 := ⟨tbk_4 95 rfl (by decide +kernel), tbk_1 9 rfl (by decide +kernel), ⟨by decide +kernel, by decide +kernel⟩, by decide +kernel, by decide, by decide +kernel⟩
set_option maxRecDepth 100000 in
theorem li_X1_enumNamed : Cond.instanceMethod yX1_enumNamed ∈ lw_use := tbk_4 93 rfl (by decide +kernel)
set_option maxRecDepth 100000 in
theorem ls_X1_enumNamed : Cond.selects yX1_enumNamed.cls yX1_enumNamed yX1_enumNamed ∈ lw_use := tbk_4 94 rfl (by decide +kernel)
abbrev MX1_fieldSize : MD := (yX1_fieldSize, cX1_fieldSize, 4, some .long)
set_option maxRecDepth 100000 in
theorem mo_X1_fieldSize : MOK MX1_fieldSize 2 := ⟨tbk_5 21 rfl (by decide +kernel), tbk_1 9 rfl (by decide +kernel), ⟨by decide +kernel, by decide +kernel⟩, by decide +kernel, by decide, by decide +kernel⟩
set_option maxRecDepth 100000 in
theorem li_X1_fieldSize : Cond.instanceMethod yX1_fieldSize ∈ lw_use := tbk_5 20 rfl (by decide +kernel)
set_option maxRecDepth 100000 in
theorem ls_X1_fieldSize : Cond.selects yX1_fieldSize.cls yX1_fieldSize yX1_fieldSize ∈ lw_use := tb_s 44 (by decide +kernel) (by decide +kernel)
abbrev MX1_forget : MD := (yX1_forget, cX1_forget, 1, none)
set_option maxRecDepth 100000 in
theorem mo_X1_forget : MOK MX1_forget 0 := ⟨tbk_4 75 rfl (by decide +kernel), tbk_1 9 rfl (by decide +kernel), ⟨by decide +kernel, by decide +kernel⟩, by decide +kernel, by decide, by decide +kernel⟩
set_option maxRecDepth 100000 in
theorem li_X1_forget : Cond.instanceMethod yX1_forget ∈ lw_use := tbk_4 73 rfl (by decide +kernel)
set_option maxRecDepth 100000 in
theorem ls_X1_forget : Cond.selects yX1_forget.cls yX1_forget yX1_forget ∈ lw_use := tbk_4 74 rfl (by decide +kernel)
abbrev MX1_gatherUses : MD := (yX1_gatherUses, cX1_gatherUses, 4, none)
set_option maxRecDepth 100000 in
theorem mo_X1_gatherUses : MOK MX1_gatherUses 0 := ⟨tbk_5 60 rfl (by decide +kernel), tbk_1 9 rfl (by decide +kernel), ⟨by decide +kernel, by decide +kernel⟩, by decide +kernel, by decide, by decide +kernel⟩
set_option maxRecDepth 100000 in
theorem li_X1_gatherUses : Cond.instanceMethod yX1_gatherUses ∈ lw_use := tbk_5 58 rfl (by decide +kernel)
set_option maxRecDepth 100000 in
theorem ls_X1_gatherUses : Cond.selects yX1_gatherUses.cls yX1_gatherUses yX1_gatherUses ∈ lw_use := tbk_5 59 rfl (by decide +kernel)
abbrev MX1_measure : MD := (yX1_measure, cX1_measure, 7, some .int)
set_option maxRecDepth 100000 in
theorem mo_X1_measure : MOK MX1_measure 1 := ⟨tbk_5 17 rfl (by decide +kernel), tbk_1 9 rfl (by decide +kernel), ⟨by decide +kernel, by decide +kernel⟩, by decide +kernel, by decide, by decide +kernel⟩
set_option maxRecDepth 100000 in
theorem li_X1_measure : Cond.instanceMethod yX1_measure ∈ lw_use := tbk_5 15 rfl (by decide +kernel)
set_option maxRecDepth 100000 in
theorem ls_X1_measure : Cond.selects yX1_measure.cls yX1_measure yX1_measure ∈ lw_use := tbk_5 16 rfl (by decide +kernel)
abbrev MX1_pairWith : MD := (yX1_pairWith, cX1_pairWith, 4, some .int)
set_option maxRecDepth 100000 in
theorem mo_X1_pairWith : MOK MX1_pairWith 2 := ⟨tbk_6 17 rfl (by decide +kernel), tbk_1 9 rfl (by decide +kernel), ⟨by decide +kernel, by decide +kernel⟩, by decide +kernel, by decide, by decide +kernel⟩
set_option maxRecDepth 100000 in
theorem li_X1_pairWith : Cond.instanceMethod yX1_pairWith ∈ lw_use := tbk_6 15 rfl (by decide +kernel)
set_option maxRecDepth 100000 in
theorem ls_X1_pairWith : Cond.selects yX1_pairWith.cls yX1_pairWith yX1_pairWith ∈ lw_use := tbk_6 16 rfl (by decide +kernel)
abbrev MX1_sizeOf : MD := (yX1_sizeOf, cX1_sizeOf, 2, some .int)
set_option maxRecDepth 100000 in
theorem mo_X1_sizeOf : MOK MX1_sizeOf 1 := ⟨tbk_4 197 rfl (by decide +kernel), tbk_1 9 rfl (by decide +kernel), ⟨by decide +kernel, by decide +kernel⟩, by decide +kernel, by decide, by decide +kernel⟩
set_option maxRecDepth 100000 in
theorem li_X1_sizeOf : Cond.instanceMethod yX1_sizeOf ∈ lw_use := tbk_4 195 rfl (by decide +kernel)
set_option maxRecDepth 100000 in
theorem ls_X1_sizeOf : Cond.selects yX1_sizeOf.cls yX1_sizeOf yX1_sizeOf ∈ lw_use := tbk_4 196 rfl (by decide +kernel)
abbrev MX1_structureNamed : MD := (yX1_structureNamed, cX1_structureNamed, 4, some .int)
set_option maxRecDepth 100000 in
theorem mo_X1_structureNamed : MOK MX1_structureNamed 1 := ⟨tbk_4 99 rfl (by decide +kernel), tbk_1 9 rfl (by decide +kernel), ⟨by decide +kernel, by decide +kernel⟩, by decide +kernel, by decide, by decide +kernel⟩
set_option maxRecDepth 100000 in
theorem li_X1_structureNamed : Cond.instanceMethod yX1_structureNamed ∈ lw_use := tbk_4 97 rfl (by decide +kernel)
set_option maxRecDepth 100000 in
theorem ls_X1_structureNamed : Cond.selects yX1_structureNamed.cls yX1_structureNamed yX1_structureNamed ∈ lw_use := tbk_4 98 rfl (by decide +kernel)
abbrev MX1_unionSize : MD := (yX1_unionSize, cX1_unionSize, 4, some .int)
set_option maxRecDepth 100000 in
theorem mo_X1_unionSize : MOK MX1_unionSize 1 := ⟨tbk_5 40 rfl (by decide +kernel), tbk_1 9 rfl (by decide +kernel), ⟨by decide +kernel, by decide +kernel⟩, by decide +kernel, by decide, by decide +kernel⟩
set_option maxRecDepth 100000 in
theorem li_X1_unionSize : Cond.instanceMethod yX1_unionSize ∈ lw_use := tbk_5 39 rfl (by decide +kernel)
set_option maxRecDepth 100000 in
theorem ls_X1_unionSize : Cond.selects yX1_unionSize.cls yX1_unionSize yX1_unionSize ∈ lw_use := tb_s 46 (by decide +kernel) (by decide +kernel)
abbrev MX1_usedBy : MD := (yX1_usedBy, cX1_usedBy, 4, some .int)
set_option maxRecDepth 100000 in
theorem mo_X1_usedBy : MOK MX1_usedBy 1 := ⟨tbk_5 64 rfl (by decide +kernel), tbk_1 9 rfl (by decide +kernel), ⟨by decide +kernel, by decide +kernel⟩, by decide +kernel, by decide, by decide +kernel⟩
set_option maxRecDepth 100000 in
theorem li_X1_usedBy : Cond.instanceMethod yX1_usedBy ∈ lw_use := tbk_5 63 rfl (by decide +kernel)
set_option maxRecDepth 100000 in
theorem ls_X1_usedBy : Cond.selects yX1_usedBy.cls yX1_usedBy yX1_usedBy ∈ lw_use := tb_s 49 (by decide +kernel) (by decide +kernel)
abbrev MX2_init : MD := (yX2_init, cX2_init, 2, none)
set_option maxRecDepth 100000 in
theorem mo_X2_init : MOK MX2_init 1 := ⟨tbk_1 220 rfl (by decide +kernel), tbk_1 12 rfl (by decide +kernel), ⟨by decide +kernel, by decide +kernel⟩, by decide +kernel, by decide, by decide +kernel⟩
set_option maxRecDepth 100000 in
theorem li_X2_init : Cond.instanceMethod yX2_init ∈ lw_use := tbk_1 219 rfl (by decide +kernel)
abbrev MX2_forget : MD := (yX2_forget, cX2_forget, 1, none)
set_option maxRecDepth 100000 in
theorem mo_X2_forget : MOK MX2_forget 0 := ⟨tbk_4 139 rfl (by decide +kernel), tbk_1 12 rfl (by decide +kernel), ⟨by decide +kernel, by decide +kernel⟩, by decide +kernel, by decide, by decide +kernel⟩
set_option maxRecDepth 100000 in
theorem li_X2_forget : Cond.instanceMethod yX2_forget ∈ lw_use := tbk_4 137 rfl (by decide +kernel)
set_option maxRecDepth 100000 in
theorem ls_X2_forget : Cond.selects yX2_forget.cls yX2_forget yX2_forget ∈ lw_use := tbk_4 138 rfl (by decide +kernel)
abbrev MX2_padding : MD := (yX2_padding, cX2_padding, 3, some .long)
set_option maxRecDepth 100000 in
theorem mo_X2_padding : MOK MX2_padding 1 := ⟨tbk_5 44 rfl (by decide +kernel), tbk_1 12 rfl (by decide +kernel), ⟨by decide +kernel, by decide +kernel⟩, by decide +kernel, by decide, by decide +kernel⟩
set_option maxRecDepth 100000 in
theorem li_X2_padding : Cond.instanceMethod yX2_padding ∈ lw_use := tbk_5 42 rfl (by decide +kernel)
set_option maxRecDepth 100000 in
theorem ls_X2_padding : Cond.selects yX2_padding.cls yX2_padding yX2_padding ∈ lw_use := tbk_5 43 rfl (by decide +kernel)
abbrev MX2_setType : MD := (yX2_setType, cX2_setType, 3, none)
set_option maxRecDepth 100000 in
theorem mo_X2_setType : MOK MX2_setType 1 := ⟨tbk_4 175 rfl (by decide +kernel), tbk_1 12 rfl (by decide +kernel), ⟨by decide +kernel, by decide +kernel⟩, by decide +kernel, by decide, by decide +kernel⟩
set_option maxRecDepth 100000 in
theorem li_X2_setType : Cond.instanceMethod yX2_setType ∈ lw_use := tbk_4 173 rfl (by decide +kernel)
set_option maxRecDepth 100000 in
theorem ls_X2_setType : Cond.selects yX2_setType.cls yX2_setType yX2_setType ∈ lw_use := tbk_4 174 rfl (by decide +kernel)
abbrev MX3_init : MD := (yX3_init, cX3_init, 1, none)
set_option maxRecDepth 100000 in
theorem mo_X3_init : MOK MX3_init 0 := ⟨tbk_3 28 rfl (by decide +kernel), tbk_1 15 rfl (by decide +kernel), ⟨by decide +kernel, by decide +kernel⟩, by decide +kernel, by decide, by decide +kernel⟩
set_option maxRecDepth 100000 in
theorem li_X3_init : Cond.instanceMethod yX3_init ∈ lw_use := tbk_3 27 rfl (by decide +kernel)
abbrev MX3_addLayer : MD := (yX3_addLayer, cX3_addLayer, 1, none)
set_option maxRecDepth 100000 in
theorem mo_X3_addLayer : MOK MX3_addLayer 0 := ⟨tbk_3 88 rfl (by decide +kernel), tbk_1 15 rfl (by decide +kernel), ⟨by decide +kernel, by decide +kernel⟩, by decide +kernel, by decide, by decide +kernel⟩
set_option maxRecDepth 100000 in
theorem li_X3_addLayer : Cond.instanceMethod yX3_addLayer ∈ lw_use := tbk_3 86 rfl (by decide +kernel)
set_option maxRecDepth 100000 in
theorem ls_X3_addLayer : Cond.selects yX3_addLayer.cls yX3_addLayer yX3_addLayer ∈ lw_use := tbk_3 87 rfl (by decide +kernel)
abbrev MX3_append : MD := (yX3_append, cX3_append, 5, none)
set_option maxRecDepth 100000 in
theorem mo_X3_append : MOK MX3_append 2 := ⟨tbk_3 65 rfl (by decide +kernel), tbk_1 15 rfl (by decide +kernel), ⟨by decide +kernel, by decide +kernel⟩, by decide +kernel, by decide, by decide +kernel⟩
set_option maxRecDepth 100000 in
theorem li_X3_append : Cond.instanceMethod yX3_append ∈ lw_use := tbk_3 63 rfl (by decide +kernel)
set_option maxRecDepth 100000 in
theorem ls_X3_append : Cond.selects yX3_append.cls yX3_append yX3_append ∈ lw_use := tbk_3 64 rfl (by decide +kernel)
abbrev MX3_has : MD := (yX3_has, cX3_has, 2, some .int)
set_option maxRecDepth 100000 in
theorem mo_X3_has : MOK MX3_has 1 := ⟨tbk_3 76 rfl (by decide +kernel), tbk_1 15 rfl (by decide +kernel), ⟨by decide +kernel, by decide +kernel⟩, by decide +kernel, by decide, by decide +kernel⟩
set_option maxRecDepth 100000 in
theorem li_X3_has : Cond.instanceMethod yX3_has ∈ lw_use := tbk_3 74 rfl (by decide +kernel)
set_option maxRecDepth 100000 in
theorem ls_X3_has : Cond.selects yX3_has.cls yX3_has yX3_has ∈ lw_use := tbk_3 75 rfl (by decide +kernel)
abbrev MX3_read : MD := (yX3_read, cX3_read, 7, some .long)
set_option maxRecDepth 100000 in
theorem mo_X3_read : MOK MX3_read 3 := ⟨tbk_5 225 rfl (by decide +kernel), tbk_1 15 rfl (by decide +kernel), ⟨by decide +kernel, by decide +kernel⟩, by decide +kernel, by decide, by decide +kernel⟩
set_option maxRecDepth 100000 in
theorem li_X3_read : Cond.instanceMethod yX3_read ∈ lw_use := tbk_5 223 rfl (by decide +kernel)
set_option maxRecDepth 100000 in
theorem ls_X3_read : Cond.selects yX3_read.cls yX3_read yX3_read ∈ lw_use := tbk_5 224 rfl (by decide +kernel)
abbrev MX3_refresh : MD := (yX3_refresh, cX3_refresh, 4, none)
set_option maxRecDepth 100000 in
theorem mo_X3_refresh : MOK MX3_refresh 1 := ⟨tbk_3 154 rfl (by decide +kernel), tbk_1 15 rfl (by decide +kernel), ⟨by decide +kernel, by decide +kernel⟩, by decide +kernel, by decide, by decide +kernel⟩
set_option maxRecDepth 100000 in
theorem li_X3_refresh : Cond.instanceMethod yX3_refresh ∈ lw_use := tbk_3 153 rfl (by decide +kernel)
set_option maxRecDepth 100000 in
theorem ls_X3_refresh : Cond.selects yX3_refresh.cls yX3_refresh yX3_refresh ∈ lw_use := tb_s 1 (by decide +kernel) (by decide +kernel)
abbrev MX3_shedTop : MD := (yX3_shedTop, cX3_shedTop, 3, some .int)
set_option maxRecDepth 100000 in
theorem mo_X3_shedTop : MOK MX3_shedTop 0 := ⟨tbk_3 150 rfl (by decide +kernel), tbk_1 15 rfl (by decide +kernel), ⟨by decide +kernel, by decide +kernel⟩, by decide +kernel, by decide, by decide +kernel⟩
set_option maxRecDepth 100000 in
theorem li_X3_shedTop : Cond.instanceMethod yX3_shedTop ∈ lw_use := tbk_3 148 rfl (by decide +kernel)
set_option maxRecDepth 100000 in
theorem ls_X3_shedTop : Cond.selects yX3_shedTop.cls yX3_shedTop yX3_shedTop ∈ lw_use := tbk_3 149 rfl (by decide +kernel)
abbrev MX3_sinkTop : MD := (yX3_sinkTop, cX3_sinkTop, 5, some .int)
set_option maxRecDepth 100000 in
theorem mo_X3_sinkTop : MOK MX3_sinkTop 0 := ⟨tbk_3 134 rfl (by decide +kernel), tbk_1 15 rfl (by decide +kernel), ⟨by decide +kernel, by decide +kernel⟩, by decide +kernel, by decide, by decide +kernel⟩
set_option maxRecDepth 100000 in
theorem li_X3_sinkTop : Cond.instanceMethod yX3_sinkTop ∈ lw_use := tbk_3 132 rfl (by decide +kernel)
set_option maxRecDepth 100000 in
theorem ls_X3_sinkTop : Cond.selects yX3_sinkTop.cls yX3_sinkTop yX3_sinkTop ∈ lw_use := tbk_3 133 rfl (by decide +kernel)
abbrev MX3_takeBack : MD := (yX3_takeBack, cX3_takeBack, 5, some .int)
set_option maxRecDepth 100000 in
theorem mo_X3_takeBack : MOK MX3_takeBack 0 := ⟨tbk_3 181 rfl (by decide +kernel), tbk_1 15 rfl (by decide +kernel), ⟨by decide +kernel, by decide +kernel⟩, by decide +kernel, by decide, by decide +kernel⟩
set_option maxRecDepth 100000 in
theorem li_X3_takeBack : Cond.instanceMethod yX3_takeBack ∈ lw_use := tbk_3 179 rfl (by decide +kernel)
set_option maxRecDepth 100000 in
theorem ls_X3_takeBack : Cond.selects yX3_takeBack.cls yX3_takeBack yX3_takeBack ∈ lw_use := tbk_3 180 rfl (by decide +kernel)
abbrev MX3_top : MD := (yX3_top, cX3_top, 1, some (.object "OverlayViewer$Layer"))
set_option maxRecDepth 100000 in
theorem mo_X3_top : MOK MX3_top 0 := ⟨tbk_3 138 rfl (by decide +kernel), tbk_1 15 rfl (by decide +kernel), ⟨by decide +kernel, by decide +kernel⟩, by decide +kernel, by decide, by decide +kernel⟩
set_option maxRecDepth 100000 in
theorem li_X3_top : Cond.instanceMethod yX3_top ∈ lw_use := tbk_3 136 rfl (by decide +kernel)
set_option maxRecDepth 100000 in
theorem ls_X3_top : Cond.selects yX3_top.cls yX3_top yX3_top ∈ lw_use := tbk_3 137 rfl (by decide +kernel)
abbrev MX3_write : MD := (yX3_write, cX3_write, 9, none)
set_option maxRecDepth 100000 in
theorem mo_X3_write : MOK MX3_write 4 := ⟨tbk_3 162 rfl (by decide +kernel), tbk_1 15 rfl (by decide +kernel), ⟨by decide +kernel, by decide +kernel⟩, by decide +kernel, by decide, by decide +kernel⟩
set_option maxRecDepth 100000 in
theorem li_X3_write : Cond.instanceMethod yX3_write ∈ lw_use := tbk_3 160 rfl (by decide +kernel)
set_option maxRecDepth 100000 in
theorem ls_X3_write : Cond.selects yX3_write.cls yX3_write yX3_write ∈ lw_use := tbk_3 161 rfl (by decide +kernel)
abbrev MX4_init : MD := (yX4_init, cX4_init, 1, none)
set_option maxRecDepth 100000 in
theorem mo_X4_init : MOK MX4_init 0 := ⟨tbk_3 92 rfl (by decide +kernel), tbk_1 16 rfl (by decide +kernel), ⟨by decide +kernel, by decide +kernel⟩, by decide +kernel, by decide, by decide +kernel⟩
set_option maxRecDepth 100000 in
theorem li_X4_init : Cond.instanceMethod yX4_init ∈ lw_use := tbk_3 91 rfl (by decide +kernel)
abbrev MX4_forgetOldest : MD := (yX4_forgetOldest, cX4_forgetOldest, 1, none)
set_option maxRecDepth 100000 in
theorem mo_X4_forgetOldest : MOK MX4_forgetOldest 0 := ⟨tbk_3 170 rfl (by decide +kernel), tbk_1 16 rfl (by decide +kernel), ⟨by decide +kernel, by decide +kernel⟩, by decide +kernel, by decide, by decide +kernel⟩
set_option maxRecDepth 100000 in
theorem li_X4_forgetOldest : Cond.instanceMethod yX4_forgetOldest ∈ lw_use := tbk_3 169 rfl (by decide +kernel)
set_option maxRecDepth 100000 in
theorem ls_X4_forgetOldest : Cond.selects yX4_forgetOldest.cls yX4_forgetOldest yX4_forgetOldest ∈ lw_use := tb_s 2 (by decide +kernel) (by decide +kernel)
abbrev MX4_give : MD := (yX4_give, cX4_give, 3, none)
set_option maxRecDepth 100000 in
theorem mo_X4_give : MOK MX4_give 2 := ⟨tbk_3 142 rfl (by decide +kernel), tbk_1 16 rfl (by decide +kernel), ⟨by decide +kernel, by decide +kernel⟩, by decide +kernel, by decide, by decide +kernel⟩
set_option maxRecDepth 100000 in
theorem li_X4_give : Cond.instanceMethod yX4_give ∈ lw_use := tbk_3 140 rfl (by decide +kernel)
set_option maxRecDepth 100000 in
theorem ls_X4_give : Cond.selects yX4_give.cls yX4_give yX4_give ∈ lw_use := tbk_3 141 rfl (by decide +kernel)
abbrev MX4_keep : MD := (yX4_keep, cX4_keep, 4, none)
set_option maxRecDepth 100000 in
theorem mo_X4_keep : MOK MX4_keep 2 := ⟨tbk_3 166 rfl (by decide +kernel), tbk_1 16 rfl (by decide +kernel), ⟨by decide +kernel, by decide +kernel⟩, by decide +kernel, by decide, by decide +kernel⟩
set_option maxRecDepth 100000 in
theorem li_X4_keep : Cond.instanceMethod yX4_keep ∈ lw_use := tbk_3 164 rfl (by decide +kernel)
set_option maxRecDepth 100000 in
theorem ls_X4_keep : Cond.selects yX4_keep.cls yX4_keep yX4_keep ∈ lw_use := tbk_3 165 rfl (by decide +kernel)
abbrev MX4_placeOf : MD := (yX4_placeOf, cX4_placeOf, 4, some .int)
set_option maxRecDepth 100000 in
theorem mo_X4_placeOf : MOK MX4_placeOf 1 := ⟨tbk_3 190 rfl (by decide +kernel), tbk_1 16 rfl (by decide +kernel), ⟨by decide +kernel, by decide +kernel⟩, by decide +kernel, by decide, by decide +kernel⟩
set_option maxRecDepth 100000 in
theorem li_X4_placeOf : Cond.instanceMethod yX4_placeOf ∈ lw_use := tbk_3 188 rfl (by decide +kernel)
set_option maxRecDepth 100000 in
theorem ls_X4_placeOf : Cond.selects yX4_placeOf.cls yX4_placeOf yX4_placeOf ∈ lw_use := tbk_3 189 rfl (by decide +kernel)
abbrev MX4_wipe : MD := (yX4_wipe, cX4_wipe, 1, none)
set_option maxRecDepth 100000 in
theorem mo_X4_wipe : MOK MX4_wipe 0 := ⟨tbk_3 123 rfl (by decide +kernel), tbk_1 16 rfl (by decide +kernel), ⟨by decide +kernel, by decide +kernel⟩, by decide +kernel, by decide, by decide +kernel⟩
set_option maxRecDepth 100000 in
theorem li_X4_wipe : Cond.instanceMethod yX4_wipe ∈ lw_use := tbk_3 121 rfl (by decide +kernel)
set_option maxRecDepth 100000 in
theorem ls_X4_wipe : Cond.selects yX4_wipe.cls yX4_wipe yX4_wipe ∈ lw_use := tbk_3 122 rfl (by decide +kernel)
abbrev MX5_init : MD := (yX5_init, cX5_init, 2, none)
set_option maxRecDepth 100000 in
theorem mo_X5_init : MOK MX5_init 1 := ⟨tbk_5 100 rfl (by decide +kernel), tbk_1 21 rfl (by decide +kernel), ⟨by decide +kernel, by decide +kernel⟩, by decide +kernel, by decide, by decide +kernel⟩
set_option maxRecDepth 100000 in
theorem li_X5_init : Cond.instanceMethod yX5_init ∈ lw_use := tbk_5 99 rfl (by decide +kernel)
abbrev MX5_addKid : MD := (yX5_addKid, cX5_addKid, 2, none)
set_option maxRecDepth 100000 in
theorem mo_X5_addKid : MOK MX5_addKid 1 := ⟨tbk_5 185 rfl (by decide +kernel), tbk_1 21 rfl (by decide +kernel), ⟨by decide +kernel, by decide +kernel⟩, by decide +kernel, by decide, by decide +kernel⟩
set_option maxRecDepth 100000 in
theorem li_X5_addKid : Cond.instanceMethod yX5_addKid ∈ lw_use := tbk_5 183 rfl (by decide +kernel)
set_option maxRecDepth 100000 in
theorem ls_X5_addKid : Cond.selects yX5_addKid.cls yX5_addKid yX5_addKid ∈ lw_use := tbk_5 184 rfl (by decide +kernel)
abbrev MX5_begin : MD := (yX5_begin, cX5_begin, 7, none)
set_option maxRecDepth 100000 in
theorem mo_X5_begin : MOK MX5_begin 5 := ⟨tbk_5 181 rfl (by decide +kernel), tbk_1 21 rfl (by decide +kernel), ⟨by decide +kernel, by decide +kernel⟩, by decide +kernel, by decide, by decide +kernel⟩
set_option maxRecDepth 100000 in
theorem li_X5_begin : Cond.instanceMethod yX5_begin ∈ lw_use := tbk_5 179 rfl (by decide +kernel)
set_option maxRecDepth 100000 in
theorem ls_X5_begin : Cond.selects yX5_begin.cls yX5_begin yX5_begin ∈ lw_use := tbk_5 180 rfl (by decide +kernel)
abbrev MX5_canHave : MD := (yX5_canHave, cX5_canHave, 6, some .boolean)
set_option maxRecDepth 100000 in
theorem mo_X5_canHave : MOK MX5_canHave 1 := ⟨tbk_6 178 rfl (by decide +kernel), tbk_1 21 rfl (by decide +kernel), ⟨by decide +kernel, by decide +kernel⟩, by decide +kernel, by decide, by decide +kernel⟩
set_option maxRecDepth 100000 in
theorem li_X5_canHave : Cond.instanceMethod yX5_canHave ∈ lw_use := tbk_6 176 rfl (by decide +kernel)
set_option maxRecDepth 100000 in
theorem ls_X5_canHave : Cond.selects yX5_canHave.cls yX5_canHave yX5_canHave ∈ lw_use := tbk_6 177 rfl (by decide +kernel)
abbrev MX5_covers : MD := (yX5_covers, cX5_covers, 2, some .boolean)
set_option maxRecDepth 100000 in
theorem mo_X5_covers : MOK MX5_covers 1 := ⟨tbk_6 82 rfl (by decide +kernel), tbk_1 21 rfl (by decide +kernel), ⟨by decide +kernel, by decide +kernel⟩, by decide +kernel, by decide, by decide +kernel⟩
set_option maxRecDepth 100000 in
theorem li_X5_covers : Cond.instanceMethod yX5_covers ∈ lw_use := tbk_6 80 rfl (by decide +kernel)
set_option maxRecDepth 100000 in
theorem ls_X5_covers : Cond.selects yX5_covers.cls yX5_covers yX5_covers ∈ lw_use := tbk_6 81 rfl (by decide +kernel)
abbrev MX5_hasNumber : MD := (yX5_hasNumber, cX5_hasNumber, 1, some .boolean)
set_option maxRecDepth 100000 in
theorem mo_X5_hasNumber : MOK MX5_hasNumber 0 := ⟨tbk_5 221 rfl (by decide +kernel), tbk_1 21 rfl (by decide +kernel), ⟨by decide +kernel, by decide +kernel⟩, by decide +kernel, by decide, by decide +kernel⟩
set_option maxRecDepth 100000 in
theorem li_X5_hasNumber : Cond.instanceMethod yX5_hasNumber ∈ lw_use := tbk_5 219 rfl (by decide +kernel)
set_option maxRecDepth 100000 in
theorem ls_X5_hasNumber : Cond.selects yX5_hasNumber.cls yX5_hasNumber yX5_hasNumber ∈ lw_use := tbk_5 220 rfl (by decide +kernel)
abbrev MX5_hasSign : MD := (yX5_hasSign, cX5_hasSign, 2, some .boolean)
set_option maxRecDepth 100000 in
theorem mo_X5_hasSign : MOK MX5_hasSign 1 := ⟨tbk_6 122 rfl (by decide +kernel), tbk_1 21 rfl (by decide +kernel), ⟨by decide +kernel, by decide +kernel⟩, by decide +kernel, by decide, by decide +kernel⟩
set_option maxRecDepth 100000 in
theorem li_X5_hasSign : Cond.instanceMethod yX5_hasSign ∈ lw_use := tbk_6 120 rfl (by decide +kernel)
set_option maxRecDepth 100000 in
theorem ls_X5_hasSign : Cond.selects yX5_hasSign.cls yX5_hasSign yX5_hasSign ∈ lw_use := tbk_6 121 rfl (by decide +kernel)
abbrev MX5_holdsOthers : MD := (yX5_holdsOthers, cX5_holdsOthers, 1, some .boolean)
set_option maxRecDepth 100000 in
theorem mo_X5_holdsOthers : MOK MX5_holdsOthers 0 := ⟨tbk_6 238 rfl (by decide +kernel), tbk_1 21 rfl (by decide +kernel), ⟨by decide +kernel, by decide +kernel⟩, by decide +kernel, by decide, by decide +kernel⟩
set_option maxRecDepth 100000 in
theorem li_X5_holdsOthers : Cond.instanceMethod yX5_holdsOthers ∈ lw_use := tbk_6 236 rfl (by decide +kernel)
set_option maxRecDepth 100000 in
theorem ls_X5_holdsOthers : Cond.selects yX5_holdsOthers.cls yX5_holdsOthers yX5_holdsOthers ∈ lw_use := tbk_6 237 rfl (by decide +kernel)
abbrev MX5_kidAt : MD := (yX5_kidAt, cX5_kidAt, 4, some (.object "OverlayViewer$Node"))
set_option maxRecDepth 100000 in
theorem mo_X5_kidAt : MOK MX5_kidAt 1 := ⟨tbk_5 209 rfl (by decide +kernel), tbk_1 21 rfl (by decide +kernel), ⟨by decide +kernel, by decide +kernel⟩, by decide +kernel, by decide, by decide +kernel⟩
set_option maxRecDepth 100000 in
theorem li_X5_kidAt : Cond.instanceMethod yX5_kidAt ∈ lw_use := tbk_5 207 rfl (by decide +kernel)
set_option maxRecDepth 100000 in
theorem ls_X5_kidAt : Cond.selects yX5_kidAt.cls yX5_kidAt yX5_kidAt ∈ lw_use := tbk_5 208 rfl (by decide +kernel)
abbrev MX5_kidMeant : MD := (yX5_kidMeant, cX5_kidMeant, 4, some (.object "OverlayViewer$Node"))
set_option maxRecDepth 100000 in
theorem mo_X5_kidMeant : MOK MX5_kidMeant 1 := ⟨tbk_5 205 rfl (by decide +kernel), tbk_1 21 rfl (by decide +kernel), ⟨by decide +kernel, by decide +kernel⟩, by decide +kernel, by decide, by decide +kernel⟩
set_option maxRecDepth 100000 in
theorem li_X5_kidMeant : Cond.instanceMethod yX5_kidMeant ∈ lw_use := tbk_5 203 rfl (by decide +kernel)
set_option maxRecDepth 100000 in
theorem ls_X5_kidMeant : Cond.selects yX5_kidMeant.cls yX5_kidMeant yX5_kidMeant ∈ lw_use := tbk_5 204 rfl (by decide +kernel)
abbrev MX5_kidNamed : MD := (yX5_kidNamed, cX5_kidNamed, 4, some (.object "OverlayViewer$Node"))
set_option maxRecDepth 100000 in
theorem mo_X5_kidNamed : MOK MX5_kidNamed 1 := ⟨tbk_6 155 rfl (by decide +kernel), tbk_1 21 rfl (by decide +kernel), ⟨by decide +kernel, by decide +kernel⟩, by decide +kernel, by decide, by decide +kernel⟩
set_option maxRecDepth 100000 in
theorem li_X5_kidNamed : Cond.instanceMethod yX5_kidNamed ∈ lw_use := tbk_6 153 rfl (by decide +kernel)
set_option maxRecDepth 100000 in
theorem ls_X5_kidNamed : Cond.selects yX5_kidNamed.cls yX5_kidNamed yX5_kidNamed ∈ lw_use := tbk_6 154 rfl (by decide +kernel)
abbrev MX5_reading : MD := (yX5_reading, cX5_reading, 5, some .long)
set_option maxRecDepth 100000 in
theorem mo_X5_reading : MOK MX5_reading 1 := ⟨tbk_5 213 rfl (by decide +kernel), tbk_1 21 rfl (by decide +kernel), ⟨by decide +kernel, by decide +kernel⟩, by decide +kernel, by decide, by decide +kernel⟩
set_option maxRecDepth 100000 in
theorem li_X5_reading : Cond.instanceMethod yX5_reading ∈ lw_use := tbk_5 211 rfl (by decide +kernel)
set_option maxRecDepth 100000 in
theorem ls_X5_reading : Cond.selects yX5_reading.cls yX5_reading yX5_reading ∈ lw_use := tbk_5 212 rfl (by decide +kernel)
abbrev MX5_signs : MD := (yX5_signs, cX5_signs, 2, some .int)
set_option maxRecDepth 100000 in
theorem mo_X5_signs : MOK MX5_signs 0 := ⟨tbk_5 217 rfl (by decide +kernel), tbk_1 21 rfl (by decide +kernel), ⟨by decide +kernel, by decide +kernel⟩, by decide +kernel, by decide, by decide +kernel⟩
set_option maxRecDepth 100000 in
theorem li_X5_signs : Cond.instanceMethod yX5_signs ∈ lw_use := tbk_5 216 rfl (by decide +kernel)
set_option maxRecDepth 100000 in
theorem ls_X5_signs : Cond.selects yX5_signs.cls yX5_signs yX5_signs ∈ lw_use := tb_s 56 (by decide +kernel) (by decide +kernel)
abbrev MX5_withPart : MD := (yX5_withPart, cX5_withPart, 5, some .long)
set_option maxRecDepth 100000 in
theorem mo_X5_withPart : MOK MX5_withPart 2 := ⟨tbk_6 183 rfl (by decide +kernel), tbk_1 21 rfl (by decide +kernel), ⟨by decide +kernel, by decide +kernel⟩, by decide +kernel, by decide, by decide +kernel⟩
set_option maxRecDepth 100000 in
theorem li_X5_withPart : Cond.instanceMethod yX5_withPart ∈ lw_use := tbk_6 181 rfl (by decide +kernel)
set_option maxRecDepth 100000 in
theorem ls_X5_withPart : Cond.selects yX5_withPart.cls yX5_withPart yX5_withPart ∈ lw_use := tbk_6 182 rfl (by decide +kernel)
abbrev MX6_init : MD := (yX6_init, cX6_init, 1, none)
set_option maxRecDepth 100000 in
theorem mo_X6_init : MOK MX6_init 0 := ⟨tbk_1 125 rfl (by decide +kernel), tbk_1 7 rfl (by decide +kernel), ⟨by decide +kernel, by decide +kernel⟩, by decide +kernel, by decide, by decide +kernel⟩
set_option maxRecDepth 100000 in
theorem li_X6_init : Cond.instanceMethod yX6_init ∈ lw_use := tbk_1 124 rfl (by decide +kernel)
abbrev MX6_check : MD := (yX6_check, cX6_check, 3, some .boolean)
set_option maxRecDepth 100000 in
theorem mo_X6_check : MOK MX6_check 2 := ⟨tbk_4 79 rfl (by decide +kernel), tbk_1 7 rfl (by decide +kernel), ⟨by decide +kernel, by decide +kernel⟩, by decide +kernel, by decide, by decide +kernel⟩
set_option maxRecDepth 100000 in
theorem li_X6_check : Cond.instanceMethod yX6_check ∈ lw_use := tbk_4 78 rfl (by decide +kernel)
set_option maxRecDepth 100000 in
theorem ls_X6_check : Cond.selects yX6_check.cls yX6_check yX6_check ∈ lw_use := tb_s 10 (by decide +kernel) (by decide +kernel)
abbrev MX6_findAim : MD := (yX6_findAim, cX6_findAim, 2, some .boolean)
set_option maxRecDepth 100000 in
theorem mo_X6_findAim : MOK MX6_findAim 1 := ⟨tbk_5 56 rfl (by decide +kernel), tbk_1 7 rfl (by decide +kernel), ⟨by decide +kernel, by decide +kernel⟩, by decide +kernel, by decide, by decide +kernel⟩
set_option maxRecDepth 100000 in
theorem li_X6_findAim : Cond.instanceMethod yX6_findAim ∈ lw_use := tbk_5 55 rfl (by decide +kernel)
set_option maxRecDepth 100000 in
theorem ls_X6_findAim : Cond.selects yX6_findAim.cls yX6_findAim yX6_findAim ∈ lw_use := tb_s 48 (by decide +kernel) (by decide +kernel)
abbrev MX6_findAims : MD := (yX6_findAims, cX6_findAims, 4, some .boolean)
set_option maxRecDepth 100000 in
theorem mo_X6_findAims : MOK MX6_findAims 0 := ⟨tbk_5 52 rfl (by decide +kernel), tbk_1 7 rfl (by decide +kernel), ⟨by decide +kernel, by decide +kernel⟩, by decide +kernel, by decide, by decide +kernel⟩
set_option maxRecDepth 100000 in
theorem li_X6_findAims : Cond.instanceMethod yX6_findAims ∈ lw_use := tbk_5 51 rfl (by decide +kernel)
set_option maxRecDepth 100000 in
theorem ls_X6_findAims : Cond.selects yX6_findAims.cls yX6_findAims yX6_findAims ∈ lw_use := tb_s 47 (by decide +kernel) (by decide +kernel)
abbrev MX6_isNewItem : MD := (yX6_isNewItem, cX6_isNewItem, 1, some .boolean)
set_option maxRecDepth 100000 in
theorem mo_X6_isNewItem : MOK MX6_isNewItem 0 := ⟨tbk_4 91 rfl (by decide +kernel), tbk_1 7 rfl (by decide +kernel), ⟨by decide +kernel, by decide +kernel⟩, by decide +kernel, by decide, by decide +kernel⟩
set_option maxRecDepth 100000 in
theorem li_X6_isNewItem : Cond.instanceMethod yX6_isNewItem ∈ lw_use := tbk_4 90 rfl (by decide +kernel)
set_option maxRecDepth 100000 in
theorem ls_X6_isNewItem : Cond.selects yX6_isNewItem.cls yX6_isNewItem yX6_isNewItem ∈ lw_use := tb_s 13 (by decide +kernel) (by decide +kernel)
abbrev MX6_isTold : MD := (yX6_isTold, cX6_isTold, 6, some .boolean)
set_option maxRecDepth 100000 in
theorem mo_X6_isTold : MOK MX6_isTold 1 := ⟨tbk_4 185 rfl (by decide +kernel), tbk_1 7 rfl (by decide +kernel), ⟨by decide +kernel, by decide +kernel⟩, by decide +kernel, by decide, by decide +kernel⟩
set_option maxRecDepth 100000 in
theorem li_X6_isTold : Cond.instanceMethod yX6_isTold ∈ lw_use := tbk_4 184 rfl (by decide +kernel)
set_option maxRecDepth 100000 in
theorem ls_X6_isTold : Cond.selects yX6_isTold.cls yX6_isTold yX6_isTold ∈ lw_use := tb_s 28 (by decide +kernel) (by decide +kernel)
abbrev MX6_levelOf : MD := (yX6_levelOf, cX6_levelOf, 1, some .int)
set_option maxRecDepth 100000 in
theorem mo_X6_levelOf : MOK MX6_levelOf 1 := ⟨tbk_4 163 rfl (by decide +kernel), tbk_1 7 rfl (by decide +kernel), ⟨by decide +kernel, by decide +kernel⟩, by decide +kernel, by decide, by decide +kernel⟩
set_option maxRecDepth 100000 in
theorem lt_X6_levelOf : Cond.static yX6_levelOf ∈ lw_use := tbk_4 162 rfl (by decide +kernel)
abbrev MX6_operandNamed : MD := (yX6_operandNamed, cX6_operandNamed, 7, some .int)
set_option maxRecDepth 100000 in
theorem mo_X6_operandNamed : MOK MX6_operandNamed 1 := ⟨tbk_4 155 rfl (by decide +kernel), tbk_1 7 rfl (by decide +kernel), ⟨by decide +kernel, by decide +kernel⟩, by decide +kernel, by decide, by decide +kernel⟩
set_option maxRecDepth 100000 in
theorem li_X6_operandNamed : Cond.instanceMethod yX6_operandNamed ∈ lw_use := tbk_4 154 rfl (by decide +kernel)
set_option maxRecDepth 100000 in
theorem ls_X6_operandNamed : Cond.selects yX6_operandNamed.cls yX6_operandNamed yX6_operandNamed ∈ lw_use := tb_s 24 (by decide +kernel) (by decide +kernel)
abbrev MX6_pass : MD := (yX6_pass, cX6_pass, 1, none)
set_option maxRecDepth 100000 in
theorem mo_X6_pass : MOK MX6_pass 0 := ⟨tbk_4 87 rfl (by decide +kernel), tbk_1 7 rfl (by decide +kernel), ⟨by decide +kernel, by decide +kernel⟩, by decide +kernel, by decide, by decide +kernel⟩
set_option maxRecDepth 100000 in
theorem li_X6_pass : Cond.instanceMethod yX6_pass ∈ lw_use := tbk_4 86 rfl (by decide +kernel)
set_option maxRecDepth 100000 in
theorem ls_X6_pass : Cond.selects yX6_pass.cls yX6_pass yX6_pass ∈ lw_use := tb_s 12 (by decide +kernel) (by decide +kernel)
abbrev MX6_readBits : MD := (yX6_readBits, cX6_readBits, 4, some .boolean)
set_option maxRecDepth 100000 in
theorem mo_X6_readBits : MOK MX6_readBits 0 := ⟨tbk_4 209 rfl (by decide +kernel), tbk_1 7 rfl (by decide +kernel), ⟨by decide +kernel, by decide +kernel⟩, by decide +kernel, by decide, by decide +kernel⟩
set_option maxRecDepth 100000 in
theorem li_X6_readBits : Cond.instanceMethod yX6_readBits ∈ lw_use := tbk_4 208 rfl (by decide +kernel)
set_option maxRecDepth 100000 in
theorem ls_X6_readBits : Cond.selects yX6_readBits.cls yX6_readBits yX6_readBits ∈ lw_use := tb_s 33 (by decide +kernel) (by decide +kernel)
abbrev MX6_readByte : MD := (yX6_readByte, cX6_readByte, 2, some .boolean)
set_option maxRecDepth 100000 in
theorem mo_X6_readByte : MOK MX6_readByte 0 := ⟨tbk_5 9 rfl (by decide +kernel), tbk_1 7 rfl (by decide +kernel), ⟨by decide +kernel, by decide +kernel⟩, by decide +kernel, by decide, by decide +kernel⟩
set_option maxRecDepth 100000 in
theorem li_X6_readByte : Cond.instanceMethod yX6_readByte ∈ lw_use := tbk_5 8 rfl (by decide +kernel)
set_option maxRecDepth 100000 in
theorem ls_X6_readByte : Cond.selects yX6_readByte.cls yX6_readByte yX6_readByte ∈ lw_use := tb_s 42 (by decide +kernel) (by decide +kernel)
abbrev MX6_readCase : MD := (yX6_readCase, cX6_readCase, 2, some .boolean)
set_option maxRecDepth 100000 in
theorem mo_X6_readCase : MOK MX6_readCase 0 := ⟨tbk_4 231 rfl (by decide +kernel), tbk_1 7 rfl (by decide +kernel), ⟨by decide +kernel, by decide +kernel⟩, by decide +kernel, by decide, by decide +kernel⟩
set_option maxRecDepth 100000 in
theorem li_X6_readCase : Cond.instanceMethod yX6_readCase ∈ lw_use := tbk_4 230 rfl (by decide +kernel)
set_option maxRecDepth 100000 in
theorem ls_X6_readCase : Cond.selects yX6_readCase.cls yX6_readCase yX6_readCase ∈ lw_use := tb_s 38 (by decide +kernel) (by decide +kernel)
abbrev MX6_readDescription : MD := (yX6_readDescription, cX6_readDescription, 4, some .boolean)
set_option maxRecDepth 100000 in
theorem mo_X6_readDescription : MOK MX6_readDescription 2 := ⟨tbk_4 67 rfl (by decide +kernel), tbk_1 7 rfl (by decide +kernel), ⟨by decide +kernel, by decide +kernel⟩, by decide +kernel, by decide, by decide +kernel⟩
set_option maxRecDepth 100000 in
theorem li_X6_readDescription : Cond.instanceMethod yX6_readDescription ∈ lw_use := tbk_4 65 rfl (by decide +kernel)
set_option maxRecDepth 100000 in
theorem ls_X6_readDescription : Cond.selects yX6_readDescription.cls yX6_readDescription yX6_readDescription ∈ lw_use := tbk_4 66 rfl (by decide +kernel)
abbrev MX6_readEnum : MD := (yX6_readEnum, cX6_readEnum, 4, some .boolean)
set_option maxRecDepth 100000 in
theorem mo_X6_readEnum : MOK MX6_readEnum 0 := ⟨tbk_4 83 rfl (by decide +kernel), tbk_1 7 rfl (by decide +kernel), ⟨by decide +kernel, by decide +kernel⟩, by decide +kernel, by decide, by decide +kernel⟩
set_option maxRecDepth 100000 in
theorem li_X6_readEnum : Cond.instanceMethod yX6_readEnum ∈ lw_use := tbk_4 82 rfl (by decide +kernel)
set_option maxRecDepth 100000 in
theorem ls_X6_readEnum : Cond.selects yX6_readEnum.cls yX6_readEnum yX6_readEnum ∈ lw_use := tb_s 11 (by decide +kernel) (by decide +kernel)
abbrev MX6_readExpression : MD := (yX6_readExpression, cX6_readExpression, 2, some .int)
set_option maxRecDepth 100000 in
theorem mo_X6_readExpression : MOK MX6_readExpression 0 := ⟨tbk_4 143 rfl (by decide +kernel), tbk_1 7 rfl (by decide +kernel), ⟨by decide +kernel, by decide +kernel⟩, by decide +kernel, by decide, by decide +kernel⟩
set_option maxRecDepth 100000 in
theorem li_X6_readExpression : Cond.instanceMethod yX6_readExpression ∈ lw_use := tbk_4 142 rfl (by decide +kernel)
set_option maxRecDepth 100000 in
theorem ls_X6_readExpression : Cond.selects yX6_readExpression.cls yX6_readExpression yX6_readExpression ∈ lw_use := tb_s 21 (by decide +kernel) (by decide +kernel)
abbrev MX6_readFactor : MD := (yX6_readFactor, cX6_readFactor, 9, some .boolean)
set_option maxRecDepth 100000 in
theorem mo_X6_readFactor : MOK MX6_readFactor 1 := ⟨tbk_4 151 rfl (by decide +kernel), tbk_1 7 rfl (by decide +kernel), ⟨by decide +kernel, by decide +kernel⟩, by decide +kernel, by decide, by decide +kernel⟩
set_option maxRecDepth 100000 in
theorem li_X6_readFactor : Cond.instanceMethod yX6_readFactor ∈ lw_use := tbk_4 150 rfl (by decide +kernel)
set_option maxRecDepth 100000 in
theorem ls_X6_readFactor : Cond.selects yX6_readFactor.cls yX6_readFactor yX6_readFactor ∈ lw_use := tb_s 23 (by decide +kernel) (by decide +kernel)
abbrev MX6_readField : MD := (yX6_readField, cX6_readField, 2, some .boolean)
set_option maxRecDepth 100000 in
theorem mo_X6_readField : MOK MX6_readField 0 := ⟨tbk_4 131 rfl (by decide +kernel), tbk_1 7 rfl (by decide +kernel), ⟨by decide +kernel, by decide +kernel⟩, by decide +kernel, by decide, by decide +kernel⟩
set_option maxRecDepth 100000 in
theorem li_X6_readField : Cond.instanceMethod yX6_readField ∈ lw_use := tbk_4 130 rfl (by decide +kernel)
set_option maxRecDepth 100000 in
theorem ls_X6_readField : Cond.selects yX6_readField.cls yX6_readField yX6_readField ∈ lw_use := tb_s 19 (by decide +kernel) (by decide +kernel)
abbrev MX6_readLevel : MD := (yX6_readLevel, cX6_readLevel, 6, some .boolean)
set_option maxRecDepth 100000 in
theorem mo_X6_readLevel : MOK MX6_readLevel 2 := ⟨tbk_4 147 rfl (by decide +kernel), tbk_1 7 rfl (by decide +kernel), ⟨by decide +kernel, by decide +kernel⟩, by decide +kernel, by decide, by decide +kernel⟩
set_option maxRecDepth 100000 in
theorem li_X6_readLevel : Cond.instanceMethod yX6_readLevel ∈ lw_use := tbk_4 146 rfl (by decide +kernel)
set_option maxRecDepth 100000 in
theorem ls_X6_readLevel : Cond.selects yX6_readLevel.cls yX6_readLevel yX6_readLevel ∈ lw_use := tb_s 22 (by decide +kernel) (by decide +kernel)
abbrev MX6_readMagic : MD := (yX6_readMagic, cX6_readMagic, 3, some .boolean)
set_option maxRecDepth 100000 in
theorem mo_X6_readMagic : MOK MX6_readMagic 0 := ⟨tbk_5 5 rfl (by decide +kernel), tbk_1 7 rfl (by decide +kernel), ⟨by decide +kernel, by decide +kernel⟩, by decide +kernel, by decide, by decide +kernel⟩
set_option maxRecDepth 100000 in
theorem li_X6_readMagic : Cond.instanceMethod yX6_readMagic ∈ lw_use := tbk_5 4 rfl (by decide +kernel)
set_option maxRecDepth 100000 in
theorem ls_X6_readMagic : Cond.selects yX6_readMagic.cls yX6_readMagic yX6_readMagic ∈ lw_use := tb_s 41 (by decide +kernel) (by decide +kernel)
abbrev MX6_readPad : MD := (yX6_readPad, cX6_readPad, 1, some .boolean)
set_option maxRecDepth 100000 in
theorem mo_X6_readPad : MOK MX6_readPad 0 := ⟨tbk_5 0 rfl (by decide +kernel), tbk_1 7 rfl (by decide +kernel), ⟨by decide +kernel, by decide +kernel⟩, by decide +kernel, by decide, by decide +kernel⟩
set_option maxRecDepth 100000 in
theorem li_X6_readPad : Cond.instanceMethod yX6_readPad ∈ lw_use := tbk_4 239 rfl (by decide +kernel)
set_option maxRecDepth 100000 in
theorem ls_X6_readPad : Cond.selects yX6_readPad.cls yX6_readPad yX6_readPad ∈ lw_use := tb_s 40 (by decide +kernel) (by decide +kernel)
abbrev MX6_readPair : MD := (yX6_readPair, cX6_readPair, 5, some .boolean)
set_option maxRecDepth 100000 in
theorem mo_X6_readPair : MOK MX6_readPair 1 := ⟨tbk_4 107 rfl (by decide +kernel), tbk_1 7 rfl (by decide +kernel), ⟨by decide +kernel, by decide +kernel⟩, by decide +kernel, by decide, by decide +kernel⟩
set_option maxRecDepth 100000 in
theorem li_X6_readPair : Cond.instanceMethod yX6_readPair ∈ lw_use := tbk_4 106 rfl (by decide +kernel)
set_option maxRecDepth 100000 in
theorem ls_X6_readPair : Cond.selects yX6_readPair.cls yX6_readPair yX6_readPair ∈ lw_use := tb_s 15 (by decide +kernel) (by decide +kernel)
abbrev MX6_readPart : MD := (yX6_readPart, cX6_readPart, 4, some .boolean)
set_option maxRecDepth 100000 in
theorem mo_X6_readPart : MOK MX6_readPart 1 := ⟨tbk_4 213 rfl (by decide +kernel), tbk_1 7 rfl (by decide +kernel), ⟨by decide +kernel, by decide +kernel⟩, by decide +kernel, by decide, by decide +kernel⟩
set_option maxRecDepth 100000 in
theorem li_X6_readPart : Cond.instanceMethod yX6_readPart ∈ lw_use := tbk_4 212 rfl (by decide +kernel)
set_option maxRecDepth 100000 in
theorem ls_X6_readPart : Cond.selects yX6_readPart.cls yX6_readPart yX6_readPart ∈ lw_use := tb_s 34 (by decide +kernel) (by decide +kernel)
abbrev MX6_readPointer : MD := (yX6_readPointer, cX6_readPointer, 1, some .boolean)
set_option maxRecDepth 100000 in
theorem mo_X6_readPointer : MOK MX6_readPointer 0 := ⟨tbk_4 235 rfl (by decide +kernel), tbk_1 7 rfl (by decide +kernel), ⟨by decide +kernel, by decide +kernel⟩, by decide +kernel, by decide, by decide +kernel⟩
set_option maxRecDepth 100000 in
theorem li_X6_readPointer : Cond.instanceMethod yX6_readPointer ∈ lw_use := tbk_4 234 rfl (by decide +kernel)
set_option maxRecDepth 100000 in
theorem ls_X6_readPointer : Cond.selects yX6_readPointer.cls yX6_readPointer yX6_readPointer ∈ lw_use := tb_s 39 (by decide +kernel) (by decide +kernel)
abbrev MX6_readQuestion : MD := (yX6_readQuestion, cX6_readQuestion, 5, some .boolean)
set_option maxRecDepth 100000 in
theorem mo_X6_readQuestion : MOK MX6_readQuestion 4 := ⟨tbk_6 164 rfl (by decide +kernel), tbk_1 7 rfl (by decide +kernel), ⟨by decide +kernel, by decide +kernel⟩, by decide +kernel, by decide, by decide +kernel⟩
set_option maxRecDepth 100000 in
theorem li_X6_readQuestion : Cond.instanceMethod yX6_readQuestion ∈ lw_use := tbk_6 162 rfl (by decide +kernel)
set_option maxRecDepth 100000 in
theorem ls_X6_readQuestion : Cond.selects yX6_readQuestion.cls yX6_readQuestion yX6_readQuestion ∈ lw_use := tbk_6 163 rfl (by decide +kernel)
abbrev MX6_readStruct : MD := (yX6_readStruct, cX6_readStruct, 1, some .boolean)
set_option maxRecDepth 100000 in
theorem mo_X6_readStruct : MOK MX6_readStruct 0 := ⟨tbk_4 201 rfl (by decide +kernel), tbk_1 7 rfl (by decide +kernel), ⟨by decide +kernel, by decide +kernel⟩, by decide +kernel, by decide, by decide +kernel⟩
set_option maxRecDepth 100000 in
theorem li_X6_readStruct : Cond.instanceMethod yX6_readStruct ∈ lw_use := tbk_4 200 rfl (by decide +kernel)
set_option maxRecDepth 100000 in
theorem ls_X6_readStruct : Cond.selects yX6_readStruct.cls yX6_readStruct yX6_readStruct ∈ lw_use := tb_s 31 (by decide +kernel) (by decide +kernel)
abbrev MX6_readStructure : MD := (yX6_readStructure, cX6_readStructure, 3, some .boolean)
set_option maxRecDepth 100000 in
theorem mo_X6_readStructure : MOK MX6_readStructure 0 := ⟨tbk_4 127 rfl (by decide +kernel), tbk_1 7 rfl (by decide +kernel), ⟨by decide +kernel, by decide +kernel⟩, by decide +kernel, by decide, by decide +kernel⟩
set_option maxRecDepth 100000 in
theorem li_X6_readStructure : Cond.instanceMethod yX6_readStructure ∈ lw_use := tbk_4 126 rfl (by decide +kernel)
set_option maxRecDepth 100000 in
theorem ls_X6_readStructure : Cond.selects yX6_readStructure.cls yX6_readStructure yX6_readStructure ∈ lw_use := tb_s 18 (by decide +kernel) (by decide +kernel)
abbrev MX6_readSum : MD := (yX6_readSum, cX6_readSum, 1, some .boolean)
set_option maxRecDepth 100000 in
theorem mo_X6_readSum : MOK MX6_readSum 0 := ⟨tbk_5 13 rfl (by decide +kernel), tbk_1 7 rfl (by decide +kernel), ⟨by decide +kernel, by decide +kernel⟩, by decide +kernel, by decide, by decide +kernel⟩
set_option maxRecDepth 100000 in
theorem li_X6_readSum : Cond.instanceMethod yX6_readSum ∈ lw_use := tbk_5 12 rfl (by decide +kernel)
set_option maxRecDepth 100000 in
theorem ls_X6_readSum : Cond.selects yX6_readSum.cls yX6_readSum yX6_readSum ∈ lw_use := tb_s 43 (by decide +kernel) (by decide +kernel)
abbrev MX6_readTail : MD := (yX6_readTail, cX6_readTail, 2, some .boolean)
set_option maxRecDepth 100000 in
theorem mo_X6_readTail : MOK MX6_readTail 0 := ⟨tbk_4 189 rfl (by decide +kernel), tbk_1 7 rfl (by decide +kernel), ⟨by decide +kernel, by decide +kernel⟩, by decide +kernel, by decide, by decide +kernel⟩
set_option maxRecDepth 100000 in
theorem li_X6_readTail : Cond.instanceMethod yX6_readTail ∈ lw_use := tbk_4 188 rfl (by decide +kernel)
set_option maxRecDepth 100000 in
theorem ls_X6_readTail : Cond.selects yX6_readTail.cls yX6_readTail yX6_readTail ∈ lw_use := tb_s 29 (by decide +kernel) (by decide +kernel)
abbrev MX6_readText : MD := (yX6_readText, cX6_readText, 1, some .boolean)
set_option maxRecDepth 100000 in
theorem mo_X6_readText : MOK MX6_readText 0 := ⟨tbk_4 222 rfl (by decide +kernel), tbk_1 7 rfl (by decide +kernel), ⟨by decide +kernel, by decide +kernel⟩, by decide +kernel, by decide, by decide +kernel⟩
set_option maxRecDepth 100000 in
theorem li_X6_readText : Cond.instanceMethod yX6_readText ∈ lw_use := tbk_4 221 rfl (by decide +kernel)
set_option maxRecDepth 100000 in
theorem ls_X6_readText : Cond.selects yX6_readText.cls yX6_readText yX6_readText ∈ lw_use := tb_s 36 (by decide +kernel) (by decide +kernel)
abbrev MX6_readUnion : MD := (yX6_readUnion, cX6_readUnion, 3, some .boolean)
set_option maxRecDepth 100000 in
theorem mo_X6_readUnion : MOK MX6_readUnion 0 := ⟨tbk_4 227 rfl (by decide +kernel), tbk_1 7 rfl (by decide +kernel), ⟨by decide +kernel, by decide +kernel⟩, by decide +kernel, by decide, by decide +kernel⟩
set_option maxRecDepth 100000 in
theorem li_X6_readUnion : Cond.instanceMethod yX6_readUnion ∈ lw_use := tbk_4 226 rfl (by decide +kernel)
set_option maxRecDepth 100000 in
theorem ls_X6_readUnion : Cond.selects yX6_readUnion.cls yX6_readUnion yX6_readUnion ∈ lw_use := tb_s 37 (by decide +kernel) (by decide +kernel)
abbrev MX6_readWhole : MD := (yX6_readWhole, cX6_readWhole, 1, some .boolean)
set_option maxRecDepth 100000 in
theorem mo_X6_readWhole : MOK MX6_readWhole 0 := ⟨tbk_4 167 rfl (by decide +kernel), tbk_1 7 rfl (by decide +kernel), ⟨by decide +kernel, by decide +kernel⟩, by decide +kernel, by decide, by decide +kernel⟩
set_option maxRecDepth 100000 in
theorem li_X6_readWhole : Cond.instanceMethod yX6_readWhole ∈ lw_use := tbk_4 166 rfl (by decide +kernel)
set_option maxRecDepth 100000 in
theorem ls_X6_readWhole : Cond.selects yX6_readWhole.cls yX6_readWhole yX6_readWhole ∈ lw_use := tb_s 25 (by decide +kernel) (by decide +kernel)
abbrev MX6_start : MD := (yX6_start, cX6_start, 4, none)
set_option maxRecDepth 100000 in
theorem mo_X6_start : MOK MX6_start 3 := ⟨tbk_4 71 rfl (by decide +kernel), tbk_1 7 rfl (by decide +kernel), ⟨by decide +kernel, by decide +kernel⟩, by decide +kernel, by decide, by decide +kernel⟩
set_option maxRecDepth 100000 in
theorem li_X6_start : Cond.instanceMethod yX6_start ∈ lw_use := tbk_4 70 rfl (by decide +kernel)
set_option maxRecDepth 100000 in
theorem ls_X6_start : Cond.selects yX6_start.cls yX6_start yX6_start ∈ lw_use := tb_s 9 (by decide +kernel) (by decide +kernel)
abbrev MX6_startsCore : MD := (yX6_startsCore, cX6_startsCore, 1, some .boolean)
set_option maxRecDepth 100000 in
theorem mo_X6_startsCore : MOK MX6_startsCore 0 := ⟨tbk_4 135 rfl (by decide +kernel), tbk_1 7 rfl (by decide +kernel), ⟨by decide +kernel, by decide +kernel⟩, by decide +kernel, by decide, by decide +kernel⟩
set_option maxRecDepth 100000 in
theorem li_X6_startsCore : Cond.instanceMethod yX6_startsCore ∈ lw_use := tbk_4 134 rfl (by decide +kernel)
set_option maxRecDepth 100000 in
theorem ls_X6_startsCore : Cond.selects yX6_startsCore.cls yX6_startsCore yX6_startsCore ∈ lw_use := tb_s 20 (by decide +kernel) (by decide +kernel)
abbrev MX6_take : MD := (yX6_take, cX6_take, 2, some .boolean)
set_option maxRecDepth 100000 in
theorem mo_X6_take : MOK MX6_take 1 := ⟨tbk_4 103 rfl (by decide +kernel), tbk_1 7 rfl (by decide +kernel), ⟨by decide +kernel, by decide +kernel⟩, by decide +kernel, by decide, by decide +kernel⟩
set_option maxRecDepth 100000 in
theorem li_X6_take : Cond.instanceMethod yX6_take ∈ lw_use := tbk_4 102 rfl (by decide +kernel)
set_option maxRecDepth 100000 in
theorem ls_X6_take : Cond.selects yX6_take.cls yX6_take yX6_take ∈ lw_use := tb_s 14 (by decide +kernel) (by decide +kernel)
abbrev MX6_takeEnum : MD := (yX6_takeEnum, cX6_takeEnum, 2, some .int)
set_option maxRecDepth 100000 in
theorem mo_X6_takeEnum : MOK MX6_takeEnum 0 := ⟨tbk_4 193 rfl (by decide +kernel), tbk_1 7 rfl (by decide +kernel), ⟨by decide +kernel, by decide +kernel⟩, by decide +kernel, by decide, by decide +kernel⟩
set_option maxRecDepth 100000 in
theorem li_X6_takeEnum : Cond.instanceMethod yX6_takeEnum ∈ lw_use := tbk_4 192 rfl (by decide +kernel)
set_option maxRecDepth 100000 in
theorem ls_X6_takeEnum : Cond.selects yX6_takeEnum.cls yX6_takeEnum yX6_takeEnum ∈ lw_use := tb_s 30 (by decide +kernel) (by decide +kernel)
abbrev MX6_takeIf : MD := (yX6_takeIf, cX6_takeIf, 3, some .boolean)
set_option maxRecDepth 100000 in
theorem mo_X6_takeIf : MOK MX6_takeIf 1 := ⟨tbk_4 123 rfl (by decide +kernel), tbk_1 7 rfl (by decide +kernel), ⟨by decide +kernel, by decide +kernel⟩, by decide +kernel, by decide, by decide +kernel⟩
set_option maxRecDepth 100000 in
theorem li_X6_takeIf : Cond.instanceMethod yX6_takeIf ∈ lw_use := tbk_4 122 rfl (by decide +kernel)
set_option maxRecDepth 100000 in
theorem ls_X6_takeIf : Cond.selects yX6_takeIf.cls yX6_takeIf yX6_takeIf ∈ lw_use := tb_s 17 (by decide +kernel) (by decide +kernel)
abbrev MX6_takeNumber : MD := (yX6_takeNumber, cX6_takeNumber, 5, some .boolean)
set_option maxRecDepth 100000 in
theorem mo_X6_takeNumber : MOK MX6_takeNumber 2 := ⟨tbk_4 218 rfl (by decide +kernel), tbk_1 7 rfl (by decide +kernel), ⟨by decide +kernel, by decide +kernel⟩, by decide +kernel, by decide, by decide +kernel⟩
set_option maxRecDepth 100000 in
theorem li_X6_takeNumber : Cond.instanceMethod yX6_takeNumber ∈ lw_use := tbk_4 217 rfl (by decide +kernel)
set_option maxRecDepth 100000 in
theorem ls_X6_takeNumber : Cond.selects yX6_takeNumber.cls yX6_takeNumber yX6_takeNumber ∈ lw_use := tb_s 35 (by decide +kernel) (by decide +kernel)
abbrev MX6_takeOwnName : MD := (yX6_takeOwnName, cX6_takeOwnName, 1, some .boolean)
set_option maxRecDepth 100000 in
theorem mo_X6_takeOwnName : MOK MX6_takeOwnName 0 := ⟨tbk_4 181 rfl (by decide +kernel), tbk_1 7 rfl (by decide +kernel), ⟨by decide +kernel, by decide +kernel⟩, by decide +kernel, by decide, by decide +kernel⟩
set_option maxRecDepth 100000 in
theorem li_X6_takeOwnName : Cond.instanceMethod yX6_takeOwnName ∈ lw_use := tbk_4 180 rfl (by decide +kernel)
set_option maxRecDepth 100000 in
theorem ls_X6_takeOwnName : Cond.selects yX6_takeOwnName.cls yX6_takeOwnName yX6_takeOwnName ∈ lw_use := tb_s 27 (by decide +kernel) (by decide +kernel)
abbrev MX6_takeSigned : MD := (yX6_takeSigned, cX6_takeSigned, 2, some .boolean)
set_option maxRecDepth 100000 in
theorem mo_X6_takeSigned : MOK MX6_takeSigned 0 := ⟨tbk_4 115 rfl (by decide +kernel), tbk_1 7 rfl (by decide +kernel), ⟨by decide +kernel, by decide +kernel⟩, by decide +kernel, by decide, by decide +kernel⟩
set_option maxRecDepth 100000 in
theorem li_X6_takeSigned : Cond.instanceMethod yX6_takeSigned ∈ lw_use := tbk_4 114 rfl (by decide +kernel)
set_option maxRecDepth 100000 in
theorem ls_X6_takeSigned : Cond.selects yX6_takeSigned.cls yX6_takeSigned yX6_takeSigned ∈ lw_use := tb_s 16 (by decide +kernel) (by decide +kernel)
abbrev MX6_takeStructure : MD := (yX6_takeStructure, cX6_takeStructure, 2, some .int)
set_option maxRecDepth 100000 in
theorem mo_X6_takeStructure : MOK MX6_takeStructure 0 := ⟨tbk_4 205 rfl (by decide +kernel), tbk_1 7 rfl (by decide +kernel), ⟨by decide +kernel, by decide +kernel⟩, by decide +kernel, by decide, by decide +kernel⟩
set_option maxRecDepth 100000 in
theorem li_X6_takeStructure : Cond.instanceMethod yX6_takeStructure ∈ lw_use := tbk_4 204 rfl (by decide +kernel)
set_option maxRecDepth 100000 in
theorem ls_X6_takeStructure : Cond.selects yX6_takeStructure.cls yX6_takeStructure yX6_takeStructure ∈ lw_use := tb_s 32 (by decide +kernel) (by decide +kernel)
abbrev MX6_takeType : MD := (yX6_takeType, cX6_takeType, 1, some .boolean)
set_option maxRecDepth 100000 in
theorem mo_X6_takeType : MOK MX6_takeType 0 := ⟨tbk_4 171 rfl (by decide +kernel), tbk_1 7 rfl (by decide +kernel), ⟨by decide +kernel, by decide +kernel⟩, by decide +kernel, by decide, by decide +kernel⟩
set_option maxRecDepth 100000 in
theorem li_X6_takeType : Cond.instanceMethod yX6_takeType ∈ lw_use := tbk_4 170 rfl (by decide +kernel)
set_option maxRecDepth 100000 in
theorem ls_X6_takeType : Cond.selects yX6_takeType.cls yX6_takeType yX6_takeType ∈ lw_use := tb_s 26 (by decide +kernel) (by decide +kernel)
abbrev MX7_init : MD := (yX7_init, cX7_init, 1, none)
set_option maxRecDepth 100000 in
theorem mo_X7_init : MOK MX7_init 0 := ⟨tbk_1 167 rfl (by decide +kernel), tbk_1 8 rfl (by decide +kernel), ⟨by decide +kernel, by decide +kernel⟩, by decide +kernel, by decide, by decide +kernel⟩
set_option maxRecDepth 100000 in
theorem li_X7_init : Cond.instanceMethod yX7_init ∈ lw_use := tbk_1 166 rfl (by decide +kernel)
abbrev MX7_joined : MD := (yX7_joined, cX7_joined, 5, some .long)
set_option maxRecDepth 100000 in
theorem mo_X7_joined : MOK MX7_joined 3 := ⟨tbk_6 0 rfl (by decide +kernel), tbk_1 8 rfl (by decide +kernel), ⟨by decide +kernel, by decide +kernel⟩, by decide +kernel, by decide, by decide +kernel⟩
set_option maxRecDepth 100000 in
theorem lt_X7_joined : Cond.static yX7_joined ∈ lw_use := tbk_5 239 rfl (by decide +kernel)
abbrev MX7_stackUp : MD := (yX7_stackUp, cX7_stackUp, 3, none)
set_option maxRecDepth 100000 in
theorem mo_X7_stackUp : MOK MX7_stackUp 1 := ⟨tbk_5 201 rfl (by decide +kernel), tbk_1 8 rfl (by decide +kernel), ⟨by decide +kernel, by decide +kernel⟩, by decide +kernel, by decide, by decide +kernel⟩
set_option maxRecDepth 100000 in
theorem li_X7_stackUp : Cond.instanceMethod yX7_stackUp ∈ lw_use := tbk_5 200 rfl (by decide +kernel)
set_option maxRecDepth 100000 in
theorem ls_X7_stackUp : Cond.selects yX7_stackUp.cls yX7_stackUp yX7_stackUp ∈ lw_use := tb_s 55 (by decide +kernel) (by decide +kernel)
abbrev MX7_work : MD := (yX7_work, cX7_work, 9, some .long)
set_option maxRecDepth 100000 in
theorem mo_X7_work : MOK MX7_work 5 := ⟨tbk_5 197 rfl (by decide +kernel), tbk_1 8 rfl (by decide +kernel), ⟨by decide +kernel, by decide +kernel⟩, by decide +kernel, by decide, by decide +kernel⟩
set_option maxRecDepth 100000 in
theorem li_X7_work : Cond.instanceMethod yX7_work ∈ lw_use := tbk_5 195 rfl (by decide +kernel)
set_option maxRecDepth 100000 in
theorem ls_X7_work : Cond.selects yX7_work.cls yX7_work yX7_work ∈ lw_use := tbk_5 196 rfl (by decide +kernel)
abbrev MX7_workOne : MD := (yX7_workOne, cX7_workOne, 4, none)
set_option maxRecDepth 100000 in
theorem mo_X7_workOne : MOK MX7_workOne 1 := ⟨tbk_5 233 rfl (by decide +kernel), tbk_1 8 rfl (by decide +kernel), ⟨by decide +kernel, by decide +kernel⟩, by decide +kernel, by decide, by decide +kernel⟩
set_option maxRecDepth 100000 in
theorem li_X7_workOne : Cond.instanceMethod yX7_workOne ∈ lw_use := tbk_5 232 rfl (by decide +kernel)
set_option maxRecDepth 100000 in
theorem ls_X7_workOne : Cond.selects yX7_workOne.cls yX7_workOne yX7_workOne ∈ lw_use := tb_s 57 (by decide +kernel) (by decide +kernel)
abbrev MX7_workTwo : MD := (yX7_workTwo, cX7_workTwo, 6, none)
set_option maxRecDepth 100000 in
theorem mo_X7_workTwo : MOK MX7_workTwo 1 := ⟨tbk_5 237 rfl (by decide +kernel), tbk_1 8 rfl (by decide +kernel), ⟨by decide +kernel, by decide +kernel⟩, by decide +kernel, by decide, by decide +kernel⟩
set_option maxRecDepth 100000 in
theorem li_X7_workTwo : Cond.instanceMethod yX7_workTwo ∈ lw_use := tbk_5 236 rfl (by decide +kernel)
set_option maxRecDepth 100000 in
theorem ls_X7_workTwo : Cond.selects yX7_workTwo.cls yX7_workTwo yX7_workTwo ∈ lw_use := tb_s 58 (by decide +kernel) (by decide +kernel)
abbrev MX8_init : MD := (yX8_init, cX8_init, 2, none)
set_option maxRecDepth 100000 in
theorem mo_X8_init : MOK MX8_init 0 := ⟨tbk_1 213 rfl (by decide +kernel), tbk_1 11 rfl (by decide +kernel), ⟨by decide +kernel, by decide +kernel⟩, by decide +kernel, by decide, by decide +kernel⟩
set_option maxRecDepth 100000 in
theorem li_X8_init : Cond.instanceMethod yX8_init ∈ lw_use := tbk_1 212 rfl (by decide +kernel)
abbrev MX9_init : MD := (yX9_init, cX9_init, 4, none)
set_option maxRecDepth 100000 in
theorem mo_X9_init : MOK MX9_init 0 := ⟨tbk_1 36 rfl (by decide +kernel), tbk_1 2 rfl (by decide +kernel), ⟨by decide +kernel, by decide +kernel⟩, by decide +kernel, by decide, by decide +kernel⟩
set_option maxRecDepth 100000 in
theorem li_X9_init : Cond.instanceMethod yX9_init ∈ lw_use := tbk_1 35 rfl (by decide +kernel)
abbrev MX9_addToken : MD := (yX9_addToken, cX9_addToken, 5, none)
set_option maxRecDepth 100000 in
theorem mo_X9_addToken : MOK MX9_addToken 3 := ⟨tbk_3 229 rfl (by decide +kernel), tbk_1 2 rfl (by decide +kernel), ⟨by decide +kernel, by decide +kernel⟩, by decide +kernel, by decide, by decide +kernel⟩
set_option maxRecDepth 100000 in
theorem li_X9_addToken : Cond.instanceMethod yX9_addToken ∈ lw_use := tbk_3 228 rfl (by decide +kernel)
set_option maxRecDepth 100000 in
theorem ls_X9_addToken : Cond.selects yX9_addToken.cls yX9_addToken yX9_addToken ∈ lw_use := tb_s 5 (by decide +kernel) (by decide +kernel)
abbrev MX9_addWord : MD := (yX9_addWord, cX9_addWord, 6, none)
set_option maxRecDepth 100000 in
theorem mo_X9_addWord : MOK MX9_addWord 2 := ⟨tbk_3 225 rfl (by decide +kernel), tbk_1 2 rfl (by decide +kernel), ⟨by decide +kernel, by decide +kernel⟩, by decide +kernel, by decide, by decide +kernel⟩
set_option maxRecDepth 100000 in
theorem li_X9_addWord : Cond.instanceMethod yX9_addWord ∈ lw_use := tbk_3 224 rfl (by decide +kernel)
set_option maxRecDepth 100000 in
theorem ls_X9_addWord : Cond.selects yX9_addWord.cls yX9_addWord yX9_addWord ∈ lw_use := tb_s 4 (by decide +kernel) (by decide +kernel)
abbrev MX9_append : MD := (yX9_append, cX9_append, 5, none)
set_option maxRecDepth 100000 in
theorem mo_X9_append : MOK MX9_append 2 := ⟨tbk_3 198 rfl (by decide +kernel), tbk_1 2 rfl (by decide +kernel), ⟨by decide +kernel, by decide +kernel⟩, by decide +kernel, by decide, by decide +kernel⟩
set_option maxRecDepth 100000 in
theorem li_X9_append : Cond.instanceMethod yX9_append ∈ lw_use := tbk_3 196 rfl (by decide +kernel)
set_option maxRecDepth 100000 in
theorem ls_X9_append : Cond.selects yX9_append.cls yX9_append yX9_append ∈ lw_use := tbk_3 197 rfl (by decide +kernel)
abbrev MX9_isDigit : MD := (yX9_isDigit, cX9_isDigit, 1, some .boolean)
set_option maxRecDepth 100000 in
theorem mo_X9_isDigit : MOK MX9_isDigit 1 := ⟨tbk_3 221 rfl (by decide +kernel), tbk_1 2 rfl (by decide +kernel), ⟨by decide +kernel, by decide +kernel⟩, by decide +kernel, by decide, by decide +kernel⟩
set_option maxRecDepth 100000 in
theorem lt_X9_isDigit : Cond.static yX9_isDigit ∈ lw_use := tbk_3 220 rfl (by decide +kernel)
abbrev MX9_isSmall : MD := (yX9_isSmall, cX9_isSmall, 1, some .boolean)
set_option maxRecDepth 100000 in
theorem mo_X9_isSmall : MOK MX9_isSmall 1 := ⟨tbk_3 214 rfl (by decide +kernel), tbk_1 2 rfl (by decide +kernel), ⟨by decide +kernel, by decide +kernel⟩, by decide +kernel, by decide, by decide +kernel⟩
set_option maxRecDepth 100000 in
theorem lt_X9_isSmall : Cond.static yX9_isSmall ∈ lw_use := tbk_3 213 rfl (by decide +kernel)
abbrev MX9_keywordOf : MD := (yX9_keywordOf, cX9_keywordOf, 4, some .int)
set_option maxRecDepth 100000 in
theorem mo_X9_keywordOf : MOK MX9_keywordOf 1 := ⟨tbk_3 237 rfl (by decide +kernel), tbk_1 2 rfl (by decide +kernel), ⟨by decide +kernel, by decide +kernel⟩, by decide +kernel, by decide, by decide +kernel⟩
set_option maxRecDepth 100000 in
theorem li_X9_keywordOf : Cond.instanceMethod yX9_keywordOf ∈ lw_use := tbk_3 236 rfl (by decide +kernel)
set_option maxRecDepth 100000 in
theorem ls_X9_keywordOf : Cond.selects yX9_keywordOf.cls yX9_keywordOf yX9_keywordOf ∈ lw_use := tb_s 7 (by decide +kernel) (by decide +kernel)
abbrev MX9_numberIn : MD := (yX9_numberIn, cX9_numberIn, 10, some .long)
set_option maxRecDepth 100000 in
theorem mo_X9_numberIn : MOK MX9_numberIn 2 := ⟨tbk_4 1 rfl (by decide +kernel), tbk_1 2 rfl (by decide +kernel), ⟨by decide +kernel, by decide +kernel⟩, by decide +kernel, by decide, by decide +kernel⟩
set_option maxRecDepth 100000 in
theorem li_X9_numberIn : Cond.instanceMethod yX9_numberIn ∈ lw_use := tbk_4 0 rfl (by decide +kernel)
set_option maxRecDepth 100000 in
theorem ls_X9_numberIn : Cond.selects yX9_numberIn.cls yX9_numberIn yX9_numberIn ∈ lw_use := tb_s 8 (by decide +kernel) (by decide +kernel)
abbrev MX9_rowEnd : MD := (yX9_rowEnd, cX9_rowEnd, 3, some .int)
set_option maxRecDepth 100000 in
theorem mo_X9_rowEnd : MOK MX9_rowEnd 1 := ⟨tbk_3 218 rfl (by decide +kernel), tbk_1 2 rfl (by decide +kernel), ⟨by decide +kernel, by decide +kernel⟩, by decide +kernel, by decide, by decide +kernel⟩
set_option maxRecDepth 100000 in
theorem li_X9_rowEnd : Cond.instanceMethod yX9_rowEnd ∈ lw_use := tbk_3 217 rfl (by decide +kernel)
set_option maxRecDepth 100000 in
theorem ls_X9_rowEnd : Cond.selects yX9_rowEnd.cls yX9_rowEnd yX9_rowEnd ∈ lw_use := tb_s 3 (by decide +kernel) (by decide +kernel)
abbrev MX9_split : MD := (yX9_split, cX9_split, 5, none)
set_option maxRecDepth 100000 in
theorem mo_X9_split : MOK MX9_split 0 := ⟨tbk_3 211 rfl (by decide +kernel), tbk_1 2 rfl (by decide +kernel), ⟨by decide +kernel, by decide +kernel⟩, by decide +kernel, by decide, by decide +kernel⟩
set_option maxRecDepth 100000 in
theorem li_X9_split : Cond.instanceMethod yX9_split ∈ lw_use := tbk_3 209 rfl (by decide +kernel)
set_option maxRecDepth 100000 in
theorem ls_X9_split : Cond.selects yX9_split.cls yX9_split yX9_split ∈ lw_use := tbk_3 210 rfl (by decide +kernel)
abbrev MX9_typeIn : MD := (yX9_typeIn, cX9_typeIn, 6, some .int)
set_option maxRecDepth 100000 in
theorem mo_X9_typeIn : MOK MX9_typeIn 2 := ⟨tbk_3 233 rfl (by decide +kernel), tbk_1 2 rfl (by decide +kernel), ⟨by decide +kernel, by decide +kernel⟩, by decide +kernel, by decide, by decide +kernel⟩
set_option maxRecDepth 100000 in
theorem li_X9_typeIn : Cond.instanceMethod yX9_typeIn ∈ lw_use := tbk_3 232 rfl (by decide +kernel)
set_option maxRecDepth 100000 in
theorem ls_X9_typeIn : Cond.selects yX9_typeIn.cls yX9_typeIn yX9_typeIn ∈ lw_use := tb_s 6 (by decide +kernel) (by decide +kernel)
abbrev MX10_init : MD := (yX10_init, cX10_init, 1, none)
set_option maxRecDepth 100000 in
theorem mo_X10_init : MOK MX10_init 0 := ⟨tbk_2 171 rfl (by decide +kernel), tbk_1 13 rfl (by decide +kernel), ⟨by decide +kernel, by decide +kernel⟩, by decide +kernel, by decide, by decide +kernel⟩
set_option maxRecDepth 100000 in
theorem li_X10_init : Cond.instanceMethod yX10_init ∈ lw_use := tbk_2 170 rfl (by decide +kernel)
abbrev MX10_addNode : MD := (yX10_addNode, cX10_addNode, 8, some (.object "OverlayViewer$Node"))
set_option maxRecDepth 100000 in
theorem mo_X10_addNode : MOK MX10_addNode 5 := ⟨tbk_5 96 rfl (by decide +kernel), tbk_1 13 rfl (by decide +kernel), ⟨by decide +kernel, by decide +kernel⟩, by decide +kernel, by decide, by decide +kernel⟩
set_option maxRecDepth 100000 in
theorem li_X10_addNode : Cond.instanceMethod yX10_addNode ∈ lw_use := tbk_5 95 rfl (by decide +kernel)
set_option maxRecDepth 100000 in
theorem ls_X10_addNode : Cond.selects yX10_addNode.cls yX10_addNode yX10_addNode ∈ lw_use := tb_s 52 (by decide +kernel) (by decide +kernel)
abbrev MX10_addStruct : MD := (yX10_addStruct, cX10_addStruct, 6, some .int)
set_option maxRecDepth 100000 in
theorem mo_X10_addStruct : MOK MX10_addStruct 4 := ⟨tbk_5 92 rfl (by decide +kernel), tbk_1 13 rfl (by decide +kernel), ⟨by decide +kernel, by decide +kernel⟩, by decide +kernel, by decide, by decide +kernel⟩
set_option maxRecDepth 100000 in
theorem li_X10_addStruct : Cond.instanceMethod yX10_addStruct ∈ lw_use := tbk_5 91 rfl (by decide +kernel)
set_option maxRecDepth 100000 in
theorem ls_X10_addStruct : Cond.selects yX10_addStruct.cls yX10_addStruct yX10_addStruct ∈ lw_use := tb_s 51 (by decide +kernel) (by decide +kernel)
abbrev MX10_amount : MD := (yX10_amount, cX10_amount, 6, some .int)
set_option maxRecDepth 100000 in
theorem mo_X10_amount : MOK MX10_amount 3 := ⟨tbk_6 35 rfl (by decide +kernel), tbk_1 13 rfl (by decide +kernel), ⟨by decide +kernel, by decide +kernel⟩, by decide +kernel, by decide, by decide +kernel⟩
set_option maxRecDepth 100000 in
theorem li_X10_amount : Cond.instanceMethod yX10_amount ∈ lw_use := tbk_6 34 rfl (by decide +kernel)
set_option maxRecDepth 100000 in
theorem ls_X10_amount : Cond.selects yX10_amount.cls yX10_amount yX10_amount ∈ lw_use := tb_s 64 (by decide +kernel) (by decide +kernel)
abbrev MX10_cover : MD := (yX10_cover, cX10_cover, 3, some .boolean)
set_option maxRecDepth 100000 in
theorem mo_X10_cover : MOK MX10_cover 2 := ⟨tbk_6 12 rfl (by decide +kernel), tbk_1 13 rfl (by decide +kernel), ⟨by decide +kernel, by decide +kernel⟩, by decide +kernel, by decide, by decide +kernel⟩
set_option maxRecDepth 100000 in
theorem li_X10_cover : Cond.instanceMethod yX10_cover ∈ lw_use := tbk_6 11 rfl (by decide +kernel)
set_option maxRecDepth 100000 in
theorem ls_X10_cover : Cond.selects yX10_cover.cls yX10_cover yX10_cover ∈ lw_use := tb_s 61 (by decide +kernel) (by decide +kernel)
abbrev MX10_deepestOver : MD := (yX10_deepestOver, cX10_deepestOver, 4, some .int)
set_option maxRecDepth 100000 in
theorem mo_X10_deepestOver : MOK MX10_deepestOver 1 := ⟨tbk_6 225 rfl (by decide +kernel), tbk_1 13 rfl (by decide +kernel), ⟨by decide +kernel, by decide +kernel⟩, by decide +kernel, by decide, by decide +kernel⟩
set_option maxRecDepth 100000 in
theorem li_X10_deepestOver : Cond.instanceMethod yX10_deepestOver ∈ lw_use := tbk_6 223 rfl (by decide +kernel)
set_option maxRecDepth 100000 in
theorem ls_X10_deepestOver : Cond.selects yX10_deepestOver.cls yX10_deepestOver yX10_deepestOver ∈ lw_use := tbk_6 224 rfl (by decide +kernel)
abbrev MX10_due : MD := (yX10_due, cX10_due, 7, some .long)
set_option maxRecDepth 100000 in
theorem mo_X10_due : MOK MX10_due 1 := ⟨tbk_6 78 rfl (by decide +kernel), tbk_1 13 rfl (by decide +kernel), ⟨by decide +kernel, by decide +kernel⟩, by decide +kernel, by decide, by decide +kernel⟩
set_option maxRecDepth 100000 in
theorem li_X10_due : Cond.instanceMethod yX10_due ∈ lw_use := tbk_6 77 rfl (by decide +kernel)
set_option maxRecDepth 100000 in
theorem ls_X10_due : Cond.selects yX10_due.cls yX10_due yX10_due ∈ lw_use := tb_s 73 (by decide +kernel) (by decide +kernel)
abbrev MX10_faultCount : MD := (yX10_faultCount, cX10_faultCount, 3, some .int)
set_option maxRecDepth 100000 in
theorem mo_X10_faultCount : MOK MX10_faultCount 0 := ⟨tbk_6 139 rfl (by decide +kernel), tbk_1 13 rfl (by decide +kernel), ⟨by decide +kernel, by decide +kernel⟩, by decide +kernel, by decide, by decide +kernel⟩
set_option maxRecDepth 100000 in
theorem li_X10_faultCount : Cond.instanceMethod yX10_faultCount ∈ lw_use := tbk_6 137 rfl (by decide +kernel)
set_option maxRecDepth 100000 in
theorem ls_X10_faultCount : Cond.selects yX10_faultCount.cls yX10_faultCount yX10_faultCount ∈ lw_use := tbk_6 138 rfl (by decide +kernel)
abbrev MX10_fillingAmount : MD := (yX10_fillingAmount, cX10_fillingAmount, 4, some .int)
set_option maxRecDepth 100000 in
theorem mo_X10_fillingAmount : MOK MX10_fillingAmount 2 := ⟨tbk_6 29 rfl (by decide +kernel), tbk_1 13 rfl (by decide +kernel), ⟨by decide +kernel, by decide +kernel⟩, by decide +kernel, by decide, by decide +kernel⟩
set_option maxRecDepth 100000 in
theorem li_X10_fillingAmount : Cond.instanceMethod yX10_fillingAmount ∈ lw_use := tbk_6 28 rfl (by decide +kernel)
set_option maxRecDepth 100000 in
theorem ls_X10_fillingAmount : Cond.selects yX10_fillingAmount.cls yX10_fillingAmount yX10_fillingAmount ∈ lw_use := tb_s 63 (by decide +kernel) (by decide +kernel)
abbrev MX10_firstFault : MD := (yX10_firstFault, cX10_firstFault, 2, some .int)
set_option maxRecDepth 100000 in
theorem mo_X10_firstFault : MOK MX10_firstFault 0 := ⟨tbk_6 143 rfl (by decide +kernel), tbk_1 13 rfl (by decide +kernel), ⟨by decide +kernel, by decide +kernel⟩, by decide +kernel, by decide, by decide +kernel⟩
set_option maxRecDepth 100000 in
theorem li_X10_firstFault : Cond.instanceMethod yX10_firstFault ∈ lw_use := tbk_6 141 rfl (by decide +kernel)
set_option maxRecDepth 100000 in
theorem ls_X10_firstFault : Cond.selects yX10_firstFault.cls yX10_firstFault yX10_firstFault ∈ lw_use := tbk_6 142 rfl (by decide +kernel)
abbrev MX10_isAbove : MD := (yX10_isAbove, cX10_isAbove, 4, some .boolean)
set_option maxRecDepth 100000 in
theorem mo_X10_isAbove : MOK MX10_isAbove 3 := ⟨tbk_6 59 rfl (by decide +kernel), tbk_1 13 rfl (by decide +kernel), ⟨by decide +kernel, by decide +kernel⟩, by decide +kernel, by decide, by decide +kernel⟩
set_option maxRecDepth 100000 in
theorem lt_X10_isAbove : Cond.static yX10_isAbove ∈ lw_use := tbk_6 58 rfl (by decide +kernel)
abbrev MX10_isThere : MD := (yX10_isThere, cX10_isThere, 5, some .boolean)
set_option maxRecDepth 100000 in
theorem mo_X10_isThere : MOK MX10_isThere 2 := ⟨tbk_5 193 rfl (by decide +kernel), tbk_1 13 rfl (by decide +kernel), ⟨by decide +kernel, by decide +kernel⟩, by decide +kernel, by decide, by decide +kernel⟩
set_option maxRecDepth 100000 in
theorem li_X10_isThere : Cond.instanceMethod yX10_isThere ∈ lw_use := tbk_5 192 rfl (by decide +kernel)
set_option maxRecDepth 100000 in
theorem ls_X10_isThere : Cond.selects yX10_isThere.cls yX10_isThere yX10_isThere ∈ lw_use := tb_s 54 (by decide +kernel) (by decide +kernel)
abbrev MX10_layAll : MD := (yX10_layAll, cX10_layAll, 6, none)
set_option maxRecDepth 100000 in
theorem mo_X10_layAll : MOK MX10_layAll 5 := ⟨tbk_5 88 rfl (by decide +kernel), tbk_1 13 rfl (by decide +kernel), ⟨by decide +kernel, by decide +kernel⟩, by decide +kernel, by decide, by decide +kernel⟩
set_option maxRecDepth 100000 in
theorem li_X10_layAll : Cond.instanceMethod yX10_layAll ∈ lw_use := tbk_5 86 rfl (by decide +kernel)
set_option maxRecDepth 100000 in
theorem ls_X10_layAll : Cond.selects yX10_layAll.cls yX10_layAll yX10_layAll ∈ lw_use := tbk_5 87 rfl (by decide +kernel)
abbrev MX10_layArray : MD := (yX10_layArray, cX10_layArray, 8, some .boolean)
set_option maxRecDepth 100000 in
theorem mo_X10_layArray : MOK MX10_layArray 3 := ⟨tbk_6 25 rfl (by decide +kernel), tbk_1 13 rfl (by decide +kernel), ⟨by decide +kernel, by decide +kernel⟩, by decide +kernel, by decide, by decide +kernel⟩
set_option maxRecDepth 100000 in
theorem li_X10_layArray : Cond.instanceMethod yX10_layArray ∈ lw_use := tbk_6 24 rfl (by decide +kernel)
set_option maxRecDepth 100000 in
theorem ls_X10_layArray : Cond.selects yX10_layArray.cls yX10_layArray yX10_layArray ∈ lw_use := tb_s 62 (by decide +kernel) (by decide +kernel)
abbrev MX10_layBits : MD := (yX10_layBits, cX10_layBits, 5, some .boolean)
set_option maxRecDepth 100000 in
theorem mo_X10_layBits : MOK MX10_layBits 2 := ⟨tbk_6 39 rfl (by decide +kernel), tbk_1 13 rfl (by decide +kernel), ⟨by decide +kernel, by decide +kernel⟩, by decide +kernel, by decide, by decide +kernel⟩
set_option maxRecDepth 100000 in
theorem li_X10_layBits : Cond.instanceMethod yX10_layBits ∈ lw_use := tbk_6 38 rfl (by decide +kernel)
set_option maxRecDepth 100000 in
theorem ls_X10_layBits : Cond.selects yX10_layBits.cls yX10_layBits yX10_layBits ∈ lw_use := tb_s 65 (by decide +kernel) (by decide +kernel)
abbrev MX10_layField : MD := (yX10_layField, cX10_layField, 6, some .boolean)
set_option maxRecDepth 100000 in
theorem mo_X10_layField : MOK MX10_layField 3 := ⟨tbk_6 4 rfl (by decide +kernel), tbk_1 13 rfl (by decide +kernel), ⟨by decide +kernel, by decide +kernel⟩, by decide +kernel, by decide, by decide +kernel⟩
set_option maxRecDepth 100000 in
theorem li_X10_layField : Cond.instanceMethod yX10_layField ∈ lw_use := tbk_6 3 rfl (by decide +kernel)
set_option maxRecDepth 100000 in
theorem ls_X10_layField : Cond.selects yX10_layField.cls yX10_layField yX10_layField ∈ lw_use := tb_s 59 (by decide +kernel) (by decide +kernel)
abbrev MX10_layMagic : MD := (yX10_layMagic, cX10_layMagic, 6, some .boolean)
set_option maxRecDepth 100000 in
theorem mo_X10_layMagic : MOK MX10_layMagic 2 := ⟨tbk_6 64 rfl (by decide +kernel), tbk_1 13 rfl (by decide +kernel), ⟨by decide +kernel, by decide +kernel⟩, by decide +kernel, by decide, by decide +kernel⟩
set_option maxRecDepth 100000 in
theorem li_X10_layMagic : Cond.instanceMethod yX10_layMagic ∈ lw_use := tbk_6 63 rfl (by decide +kernel)
set_option maxRecDepth 100000 in
theorem ls_X10_layMagic : Cond.selects yX10_layMagic.cls yX10_layMagic yX10_layMagic ∈ lw_use := tb_s 70 (by decide +kernel) (by decide +kernel)
abbrev MX10_layPointer : MD := (yX10_layPointer, cX10_layPointer, 6, some .boolean)
set_option maxRecDepth 100000 in
theorem mo_X10_layPointer : MOK MX10_layPointer 3 := ⟨tbk_6 56 rfl (by decide +kernel), tbk_1 13 rfl (by decide +kernel), ⟨by decide +kernel, by decide +kernel⟩, by decide +kernel, by decide, by decide +kernel⟩
set_option maxRecDepth 100000 in
theorem li_X10_layPointer : Cond.instanceMethod yX10_layPointer ∈ lw_use := tbk_6 55 rfl (by decide +kernel)
set_option maxRecDepth 100000 in
theorem ls_X10_layPointer : Cond.selects yX10_layPointer.cls yX10_layPointer yX10_layPointer ∈ lw_use := tb_s 69 (by decide +kernel) (by decide +kernel)
abbrev MX10_layStruct : MD := (yX10_layStruct, cX10_layStruct, 8, none)
set_option maxRecDepth 100000 in
theorem mo_X10_layStruct : MOK MX10_layStruct 3 := ⟨tbk_5 189 rfl (by decide +kernel), tbk_1 13 rfl (by decide +kernel), ⟨by decide +kernel, by decide +kernel⟩, by decide +kernel, by decide, by decide +kernel⟩
set_option maxRecDepth 100000 in
theorem li_X10_layStruct : Cond.instanceMethod yX10_layStruct ∈ lw_use := tbk_5 188 rfl (by decide +kernel)
set_option maxRecDepth 100000 in
theorem ls_X10_layStruct : Cond.selects yX10_layStruct.cls yX10_layStruct yX10_layStruct ∈ lw_use := tb_s 53 (by decide +kernel) (by decide +kernel)
abbrev MX10_laySum : MD := (yX10_laySum, cX10_laySum, 3, some .boolean)
set_option maxRecDepth 100000 in
theorem mo_X10_laySum : MOK MX10_laySum 2 := ⟨tbk_6 70 rfl (by decide +kernel), tbk_1 13 rfl (by decide +kernel), ⟨by decide +kernel, by decide +kernel⟩, by decide +kernel, by decide, by decide +kernel⟩
set_option maxRecDepth 100000 in
theorem li_X10_laySum : Cond.instanceMethod yX10_laySum ∈ lw_use := tbk_6 69 rfl (by decide +kernel)
set_option maxRecDepth 100000 in
theorem ls_X10_laySum : Cond.selects yX10_laySum.cls yX10_laySum yX10_laySum ∈ lw_use := tb_s 71 (by decide +kernel) (by decide +kernel)
abbrev MX10_layText : MD := (yX10_layText, cX10_layText, 4, some .boolean)
set_option maxRecDepth 100000 in
theorem mo_X10_layText : MOK MX10_layText 2 := ⟨tbk_6 47 rfl (by decide +kernel), tbk_1 13 rfl (by decide +kernel), ⟨by decide +kernel, by decide +kernel⟩, by decide +kernel, by decide, by decide +kernel⟩
set_option maxRecDepth 100000 in
theorem li_X10_layText : Cond.instanceMethod yX10_layText ∈ lw_use := tbk_6 46 rfl (by decide +kernel)
set_option maxRecDepth 100000 in
theorem ls_X10_layText : Cond.selects yX10_layText.cls yX10_layText yX10_layText ∈ lw_use := tb_s 67 (by decide +kernel) (by decide +kernel)
abbrev MX10_layUnion : MD := (yX10_layUnion, cX10_layUnion, 8, none)
set_option maxRecDepth 100000 in
theorem mo_X10_layUnion : MOK MX10_layUnion 3 := ⟨tbk_6 51 rfl (by decide +kernel), tbk_1 13 rfl (by decide +kernel), ⟨by decide +kernel, by decide +kernel⟩, by decide +kernel, by decide, by decide +kernel⟩
set_option maxRecDepth 100000 in
theorem li_X10_layUnion : Cond.instanceMethod yX10_layUnion ∈ lw_use := tbk_6 50 rfl (by decide +kernel)
set_option maxRecDepth 100000 in
theorem ls_X10_layUnion : Cond.selects yX10_layUnion.cls yX10_layUnion yX10_layUnion ∈ lw_use := tb_s 68 (by decide +kernel) (by decide +kernel)
abbrev MX10_layUntil : MD := (yX10_layUntil, cX10_layUntil, 4, some .boolean)
set_option maxRecDepth 100000 in
theorem mo_X10_layUntil : MOK MX10_layUntil 2 := ⟨tbk_6 43 rfl (by decide +kernel), tbk_1 13 rfl (by decide +kernel), ⟨by decide +kernel, by decide +kernel⟩, by decide +kernel, by decide, by decide +kernel⟩
set_option maxRecDepth 100000 in
theorem li_X10_layUntil : Cond.instanceMethod yX10_layUntil ∈ lw_use := tbk_6 42 rfl (by decide +kernel)
set_option maxRecDepth 100000 in
theorem ls_X10_layUntil : Cond.selects yX10_layUntil.cls yX10_layUntil yX10_layUntil ∈ lw_use := tb_s 66 (by decide +kernel) (by decide +kernel)
abbrev MX10_layWhole : MD := (yX10_layWhole, cX10_layWhole, 3, some .boolean)
set_option maxRecDepth 100000 in
theorem mo_X10_layWhole : MOK MX10_layWhole 2 := ⟨tbk_6 8 rfl (by decide +kernel), tbk_1 13 rfl (by decide +kernel), ⟨by decide +kernel, by decide +kernel⟩, by decide +kernel, by decide, by decide +kernel⟩
set_option maxRecDepth 100000 in
theorem li_X10_layWhole : Cond.instanceMethod yX10_layWhole ∈ lw_use := tbk_6 7 rfl (by decide +kernel)
set_option maxRecDepth 100000 in
theorem ls_X10_layWhole : Cond.selects yX10_layWhole.cls yX10_layWhole yX10_layWhole ∈ lw_use := tb_s 60 (by decide +kernel) (by decide +kernel)
abbrev MX10_makeDue : MD := (yX10_makeDue, cX10_makeDue, 2, some .boolean)
set_option maxRecDepth 100000 in
theorem mo_X10_makeDue : MOK MX10_makeDue 1 := ⟨tbk_6 196 rfl (by decide +kernel), tbk_1 13 rfl (by decide +kernel), ⟨by decide +kernel, by decide +kernel⟩, by decide +kernel, by decide, by decide +kernel⟩
set_option maxRecDepth 100000 in
theorem li_X10_makeDue : Cond.instanceMethod yX10_makeDue ∈ lw_use := tbk_6 194 rfl (by decide +kernel)
set_option maxRecDepth 100000 in
theorem ls_X10_makeDue : Cond.selects yX10_makeDue.cls yX10_makeDue yX10_makeDue ∈ lw_use := tbk_6 195 rfl (by decide +kernel)
abbrev MX10_markGaps : MD := (yX10_markGaps, cX10_markGaps, 4, none)
set_option maxRecDepth 100000 in
theorem mo_X10_markGaps : MOK MX10_markGaps 1 := ⟨tbk_6 233 rfl (by decide +kernel), tbk_1 13 rfl (by decide +kernel), ⟨by decide +kernel, by decide +kernel⟩, by decide +kernel, by decide, by decide +kernel⟩
set_option maxRecDepth 100000 in
theorem li_X10_markGaps : Cond.instanceMethod yX10_markGaps ∈ lw_use := tbk_6 231 rfl (by decide +kernel)
set_option maxRecDepth 100000 in
theorem ls_X10_markGaps : Cond.selects yX10_markGaps.cls yX10_markGaps yX10_markGaps ∈ lw_use := tbk_6 232 rfl (by decide +kernel)
abbrev MX10_rangeFault : MD := (yX10_rangeFault, cX10_rangeFault, 8, some .int)
set_option maxRecDepth 100000 in
theorem mo_X10_rangeFault : MOK MX10_rangeFault 1 := ⟨tbk_6 74 rfl (by decide +kernel), tbk_1 13 rfl (by decide +kernel), ⟨by decide +kernel, by decide +kernel⟩, by decide +kernel, by decide, by decide +kernel⟩
set_option maxRecDepth 100000 in
theorem li_X10_rangeFault : Cond.instanceMethod yX10_rangeFault ∈ lw_use := tbk_6 73 rfl (by decide +kernel)
set_option maxRecDepth 100000 in
theorem ls_X10_rangeFault : Cond.selects yX10_rangeFault.cls yX10_rangeFault yX10_rangeFault ∈ lw_use := tb_s 72 (by decide +kernel) (by decide +kernel)
abbrev ML_law : MD := (yL_law, cL_law, 4, some .boolean)
abbrev MX12_init : MD := (yX12_init, cX12_init, 1, none)
set_option maxRecDepth 100000 in
theorem mo_X12_init : MOK MX12_init 0 := ⟨tbk_7 39 rfl (by decide +kernel), tbk_1 14 rfl (by decide +kernel), ⟨by decide +kernel, by decide +kernel⟩, by decide +kernel, by decide, by decide +kernel⟩
set_option maxRecDepth 100000 in
theorem li_X12_init : Cond.instanceMethod yX12_init ∈ lw_use := tbk_7 38 rfl (by decide +kernel)
abbrev MX12_above : MD := (yX12_above, cX12_above, 4, some .int)
set_option maxRecDepth 100000 in
theorem mo_X12_above : MOK MX12_above 1 := ⟨tbk_9 220 rfl (by decide +kernel), tbk_1 14 rfl (by decide +kernel), ⟨by decide +kernel, by decide +kernel⟩, by decide +kernel, by decide, by decide +kernel⟩
set_option maxRecDepth 100000 in
theorem li_X12_above : Cond.instanceMethod yX12_above ∈ lw_use := tbk_9 219 rfl (by decide +kernel)
set_option maxRecDepth 100000 in
theorem ls_X12_above : Cond.selects yX12_above.cls yX12_above yX12_above ∈ lw_use := tb_s 152 (by decide +kernel) (by decide +kernel)
abbrev MX12_array : MD := (yX12_array, cX12_array, 2, none)
set_option maxRecDepth 100000 in
theorem mo_X12_array : MOK MX12_array 1 := ⟨tbk_9 110 rfl (by decide +kernel), tbk_1 14 rfl (by decide +kernel), ⟨by decide +kernel, by decide +kernel⟩, by decide +kernel, by decide, by decide +kernel⟩
set_option maxRecDepth 100000 in
theorem li_X12_array : Cond.instanceMethod yX12_array ∈ lw_use := tbk_9 109 rfl (by decide +kernel)
set_option maxRecDepth 100000 in
theorem ls_X12_array : Cond.selects yX12_array.cls yX12_array yX12_array ∈ lw_use := tb_s 129 (by decide +kernel) (by decide +kernel)
abbrev MX12_arrayLaid : MD := (yX12_arrayLaid, cX12_arrayLaid, 7, none)
set_option maxRecDepth 100000 in
theorem mo_X12_arrayLaid : MOK MX12_arrayLaid 3 := ⟨tbk_10 36 rfl (by decide +kernel), tbk_1 14 rfl (by decide +kernel), ⟨by decide +kernel, by decide +kernel⟩, by decide +kernel, by decide, by decide +kernel⟩
set_option maxRecDepth 100000 in
theorem li_X12_arrayLaid : Cond.instanceMethod yX12_arrayLaid ∈ lw_use := tbk_10 35 rfl (by decide +kernel)
set_option maxRecDepth 100000 in
theorem ls_X12_arrayLaid : Cond.selects yX12_arrayLaid.cls yX12_arrayLaid yX12_arrayLaid ∈ lw_use := tb_s 166 (by decide +kernel) (by decide +kernel)
abbrev MX12_at : MD := (yX12_at, cX12_at, 3, some .int)
set_option maxRecDepth 100000 in
theorem mo_X12_at : MOK MX12_at 2 := ⟨tbk_8 93 rfl (by decide +kernel), tbk_1 14 rfl (by decide +kernel), ⟨by decide +kernel, by decide +kernel⟩, by decide +kernel, by decide, by decide +kernel⟩
set_option maxRecDepth 100000 in
theorem li_X12_at : Cond.instanceMethod yX12_at ∈ lw_use := tbk_8 91 rfl (by decide +kernel)
set_option maxRecDepth 100000 in
theorem ls_X12_at : Cond.selects yX12_at.cls yX12_at yX12_at ∈ lw_use := tbk_8 92 rfl (by decide +kernel)
abbrev MX12_beginsCore : MD := (yX12_beginsCore, cX12_beginsCore, 1, some .boolean)
set_option maxRecDepth 100000 in
theorem mo_X12_beginsCore : MOK MX12_beginsCore 0 := ⟨tbk_9 34 rfl (by decide +kernel), tbk_1 14 rfl (by decide +kernel), ⟨by decide +kernel, by decide +kernel⟩, by decide +kernel, by decide, by decide +kernel⟩
set_option maxRecDepth 100000 in
theorem li_X12_beginsCore : Cond.instanceMethod yX12_beginsCore ∈ lw_use := tbk_9 33 rfl (by decide +kernel)
set_option maxRecDepth 100000 in
theorem ls_X12_beginsCore : Cond.selects yX12_beginsCore.cls yX12_beginsCore yX12_beginsCore ∈ lw_use := tb_s 110 (by decide +kernel) (by decide +kernel)
abbrev MX12_begun : MD := (yX12_begun, cX12_begun, 7, none)
set_option maxRecDepth 100000 in
theorem mo_X12_begun : MOK MX12_begun 4 := ⟨tbk_9 212 rfl (by decide +kernel), tbk_1 14 rfl (by decide +kernel), ⟨by decide +kernel, by decide +kernel⟩, by decide +kernel, by decide, by decide +kernel⟩
set_option maxRecDepth 100000 in
theorem li_X12_begun : Cond.instanceMethod yX12_begun ∈ lw_use := tbk_9 211 rfl (by decide +kernel)
set_option maxRecDepth 100000 in
theorem ls_X12_begun : Cond.selects yX12_begun.cls yX12_begun yX12_begun ∈ lw_use := tb_s 150 (by decide +kernel) (by decide +kernel)
abbrev MX12_bound : MD := (yX12_bound, cX12_bound, 6, none)
set_option maxRecDepth 100000 in
theorem mo_X12_bound : MOK MX12_bound 3 := ⟨tbk_9 131 rfl (by decide +kernel), tbk_1 14 rfl (by decide +kernel), ⟨by decide +kernel, by decide +kernel⟩, by decide +kernel, by decide, by decide +kernel⟩
set_option maxRecDepth 100000 in
theorem li_X12_bound : Cond.instanceMethod yX12_bound ∈ lw_use := tbk_9 130 rfl (by decide +kernel)
set_option maxRecDepth 100000 in
theorem ls_X12_bound : Cond.selects yX12_bound.cls yX12_bound yX12_bound ∈ lw_use := tb_s 134 (by decide +kernel) (by decide +kernel)
abbrev MX12_cell : MD := (yX12_cell, cX12_cell, 4, some .int)
set_option maxRecDepth 100000 in
theorem mo_X12_cell : MOK MX12_cell 3 := ⟨tbk_8 101 rfl (by decide +kernel), tbk_1 14 rfl (by decide +kernel), ⟨by decide +kernel, by decide +kernel⟩, by decide +kernel, by decide, by decide +kernel⟩
set_option maxRecDepth 100000 in
theorem li_X12_cell : Cond.instanceMethod yX12_cell ∈ lw_use := tbk_8 100 rfl (by decide +kernel)
set_option maxRecDepth 100000 in
theorem ls_X12_cell : Cond.selects yX12_cell.cls yX12_cell yX12_cell ∈ lw_use := tb_s 85 (by decide +kernel) (by decide +kernel)
abbrev MX12_changed : MD := (yX12_changed, cX12_changed, 5, some .int)
set_option maxRecDepth 100000 in
theorem mo_X12_changed : MOK MX12_changed 2 := ⟨tbk_8 137 rfl (by decide +kernel), tbk_1 14 rfl (by decide +kernel), ⟨by decide +kernel, by decide +kernel⟩, by decide +kernel, by decide, by decide +kernel⟩
set_option maxRecDepth 100000 in
theorem li_X12_changed : Cond.instanceMethod yX12_changed ∈ lw_use := tbk_8 135 rfl (by decide +kernel)
set_option maxRecDepth 100000 in
theorem ls_X12_changed : Cond.selects yX12_changed.cls yX12_changed yX12_changed ∈ lw_use := tbk_8 136 rfl (by decide +kernel)
abbrev MX12_clear : MD := (yX12_clear, cX12_clear, 2, some .int)
set_option maxRecDepth 100000 in
theorem mo_X12_clear : MOK MX12_clear 0 := ⟨tbk_10 105 rfl (by decide +kernel), tbk_1 14 rfl (by decide +kernel), ⟨by decide +kernel, by decide +kernel⟩, by decide +kernel, by decide, by decide +kernel⟩
set_option maxRecDepth 100000 in
theorem li_X12_clear : Cond.instanceMethod yX12_clear ∈ lw_use := tbk_10 103 rfl (by decide +kernel)
set_option maxRecDepth 100000 in
theorem ls_X12_clear : Cond.selects yX12_clear.cls yX12_clear yX12_clear ∈ lw_use := tbk_10 104 rfl (by decide +kernel)
abbrev MX12_closes : MD := (yX12_closes, cX12_closes, 3, none)
set_option maxRecDepth 100000 in
theorem mo_X12_closes : MOK MX12_closes 0 := ⟨tbk_9 232 rfl (by decide +kernel), tbk_1 14 rfl (by decide +kernel), ⟨by decide +kernel, by decide +kernel⟩, by decide +kernel, by decide, by decide +kernel⟩
set_option maxRecDepth 100000 in
theorem li_X12_closes : Cond.instanceMethod yX12_closes ∈ lw_use := tbk_9 231 rfl (by decide +kernel)
set_option maxRecDepth 100000 in
theorem ls_X12_closes : Cond.selects yX12_closes.cls yX12_closes yX12_closes ∈ lw_use := tb_s 155 (by decide +kernel) (by decide +kernel)
abbrev MX12_commit : MD := (yX12_commit, cX12_commit, 2, some .int)
set_option maxRecDepth 100000 in
theorem mo_X12_commit : MOK MX12_commit 1 := ⟨tbk_8 113 rfl (by decide +kernel), tbk_1 14 rfl (by decide +kernel), ⟨by decide +kernel, by decide +kernel⟩, by decide +kernel, by decide, by decide +kernel⟩
set_option maxRecDepth 100000 in
theorem li_X12_commit : Cond.instanceMethod yX12_commit ∈ lw_use := tbk_8 111 rfl (by decide +kernel)
set_option maxRecDepth 100000 in
theorem ls_X12_commit : Cond.selects yX12_commit.cls yX12_commit yX12_commit ∈ lw_use := tbk_8 112 rfl (by decide +kernel)
abbrev MX12_core : MD := (yX12_core, cX12_core, 2, none)
set_option maxRecDepth 100000 in
theorem mo_X12_core : MOK MX12_core 1 := ⟨tbk_9 90 rfl (by decide +kernel), tbk_1 14 rfl (by decide +kernel), ⟨by decide +kernel, by decide +kernel⟩, by decide +kernel, by decide, by decide +kernel⟩
set_option maxRecDepth 100000 in
theorem li_X12_core : Cond.instanceMethod yX12_core ∈ lw_use := tbk_9 89 rfl (by decide +kernel)
set_option maxRecDepth 100000 in
theorem ls_X12_core : Cond.selects yX12_core.cls yX12_core yX12_core ∈ lw_use := tb_s 124 (by decide +kernel) (by decide +kernel)
abbrev MX12_count : MD := (yX12_count, cX12_count, 5, some .int)
set_option maxRecDepth 100000 in
theorem mo_X12_count : MOK MX12_count 1 := ⟨tbk_10 218 rfl (by decide +kernel), tbk_1 14 rfl (by decide +kernel), ⟨by decide +kernel, by decide +kernel⟩, by decide +kernel, by decide, by decide +kernel⟩
set_option maxRecDepth 100000 in
theorem li_X12_count : Cond.instanceMethod yX12_count ∈ lw_use := tbk_10 216 rfl (by decide +kernel)
set_option maxRecDepth 100000 in
theorem ls_X12_count : Cond.selects yX12_count.cls yX12_count yX12_count ∈ lw_use := tbk_10 217 rfl (by decide +kernel)
abbrev MX12_covered : MD := (yX12_covered, cX12_covered, 8, some .int)
set_option maxRecDepth 100000 in
theorem mo_X12_covered : MOK MX12_covered 2 := ⟨tbk_10 194 rfl (by decide +kernel), tbk_1 14 rfl (by decide +kernel), ⟨by decide +kernel, by decide +kernel⟩, by decide +kernel, by decide, by decide +kernel⟩
set_option maxRecDepth 100000 in
theorem li_X12_covered : Cond.instanceMethod yX12_covered ∈ lw_use := tbk_10 192 rfl (by decide +kernel)
set_option maxRecDepth 100000 in
theorem ls_X12_covered : Cond.selects yX12_covered.cls yX12_covered yX12_covered ∈ lw_use := tbk_10 193 rfl (by decide +kernel)
abbrev MX12_cut : MD := (yX12_cut, cX12_cut, 2, some .int)
set_option maxRecDepth 100000 in
theorem mo_X12_cut : MOK MX12_cut 1 := ⟨tbk_8 145 rfl (by decide +kernel), tbk_1 14 rfl (by decide +kernel), ⟨by decide +kernel, by decide +kernel⟩, by decide +kernel, by decide, by decide +kernel⟩
set_option maxRecDepth 100000 in
theorem li_X12_cut : Cond.instanceMethod yX12_cut ∈ lw_use := tbk_8 143 rfl (by decide +kernel)
set_option maxRecDepth 100000 in
theorem ls_X12_cut : Cond.selects yX12_cut.cls yX12_cut yX12_cut ∈ lw_use := tbk_8 144 rfl (by decide +kernel)
abbrev MX12_describe : MD := (yX12_describe, cX12_describe, 2, some .int)
set_option maxRecDepth 100000 in
theorem mo_X12_describe : MOK MX12_describe 0 := ⟨tbk_8 153 rfl (by decide +kernel), tbk_1 14 rfl (by decide +kernel), ⟨by decide +kernel, by decide +kernel⟩, by decide +kernel, by decide, by decide +kernel⟩
set_option maxRecDepth 100000 in
theorem li_X12_describe : Cond.instanceMethod yX12_describe ∈ lw_use := tbk_8 151 rfl (by decide +kernel)
set_option maxRecDepth 100000 in
theorem ls_X12_describe : Cond.selects yX12_describe.cls yX12_describe yX12_describe ∈ lw_use := tbk_8 152 rfl (by decide +kernel)
abbrev MX12_differ : MD := (yX12_differ, cX12_differ, 11, some .int)
set_option maxRecDepth 100000 in
theorem mo_X12_differ : MOK MX12_differ 4 := ⟨tbk_10 206 rfl (by decide +kernel), tbk_1 14 rfl (by decide +kernel), ⟨by decide +kernel, by decide +kernel⟩, by decide +kernel, by decide, by decide +kernel⟩
set_option maxRecDepth 100000 in
theorem li_X12_differ : Cond.instanceMethod yX12_differ ∈ lw_use := tbk_10 204 rfl (by decide +kernel)
set_option maxRecDepth 100000 in
theorem ls_X12_differ : Cond.selects yX12_differ.cls yX12_differ yX12_differ ∈ lw_use := tbk_10 205 rfl (by decide +kernel)
abbrev MX12_digit : MD := (yX12_digit, cX12_digit, 2, some .boolean)
set_option maxRecDepth 100000 in
theorem mo_X12_digit : MOK MX12_digit 1 := ⟨tbk_8 169 rfl (by decide +kernel), tbk_1 14 rfl (by decide +kernel), ⟨by decide +kernel, by decide +kernel⟩, by decide +kernel, by decide, by decide +kernel⟩
set_option maxRecDepth 100000 in
theorem li_X12_digit : Cond.instanceMethod yX12_digit ∈ lw_use := tbk_8 168 rfl (by decide +kernel)
set_option maxRecDepth 100000 in
theorem ls_X12_digit : Cond.selects yX12_digit.cls yX12_digit yX12_digit ∈ lw_use := tb_s 91 (by decide +kernel) (by decide +kernel)
abbrev MX12_drop : MD := (yX12_drop, cX12_drop, 2, some .int)
set_option maxRecDepth 100000 in
theorem mo_X12_drop : MOK MX12_drop 1 := ⟨tbk_8 121 rfl (by decide +kernel), tbk_1 14 rfl (by decide +kernel), ⟨by decide +kernel, by decide +kernel⟩, by decide +kernel, by decide, by decide +kernel⟩
set_option maxRecDepth 100000 in
theorem li_X12_drop : Cond.instanceMethod yX12_drop ∈ lw_use := tbk_8 119 rfl (by decide +kernel)
set_option maxRecDepth 100000 in
theorem ls_X12_drop : Cond.selects yX12_drop.cls yX12_drop yX12_drop ∈ lw_use := tbk_8 120 rfl (by decide +kernel)
abbrev MX12_due : MD := (yX12_due, cX12_due, 8, some .long)
set_option maxRecDepth 100000 in
theorem mo_X12_due : MOK MX12_due 3 := ⟨tbk_10 80 rfl (by decide +kernel), tbk_1 14 rfl (by decide +kernel), ⟨by decide +kernel, by decide +kernel⟩, by decide +kernel, by decide, by decide +kernel⟩
set_option maxRecDepth 100000 in
theorem li_X12_due : Cond.instanceMethod yX12_due ∈ lw_use := tbk_10 79 rfl (by decide +kernel)
set_option maxRecDepth 100000 in
theorem ls_X12_due : Cond.selects yX12_due.cls yX12_due yX12_due ∈ lw_use := tb_s 177 (by decide +kernel) (by decide +kernel)
abbrev MX12_either : MD := (yX12_either, cX12_either, 3, some .int)
set_option maxRecDepth 100000 in
theorem mo_X12_either : MOK MX12_either 0 := ⟨tbk_9 46 rfl (by decide +kernel), tbk_1 14 rfl (by decide +kernel), ⟨by decide +kernel, by decide +kernel⟩, by decide +kernel, by decide, by decide +kernel⟩
set_option maxRecDepth 100000 in
theorem li_X12_either : Cond.instanceMethod yX12_either ∈ lw_use := tbk_9 45 rfl (by decide +kernel)
set_option maxRecDepth 100000 in
theorem ls_X12_either : Cond.selects yX12_either.cls yX12_either yX12_either ∈ lw_use := tb_s 113 (by decide +kernel) (by decide +kernel)
abbrev MX12_ended : MD := (yX12_ended, cX12_ended, 2, some .int)
set_option maxRecDepth 100000 in
theorem mo_X12_ended : MOK MX12_ended 0 := ⟨tbk_9 147 rfl (by decide +kernel), tbk_1 14 rfl (by decide +kernel), ⟨by decide +kernel, by decide +kernel⟩, by decide +kernel, by decide, by decide +kernel⟩
set_option maxRecDepth 100000 in
theorem li_X12_ended : Cond.instanceMethod yX12_ended ∈ lw_use := tbk_9 146 rfl (by decide +kernel)
set_option maxRecDepth 100000 in
theorem ls_X12_ended : Cond.selects yX12_ended.cls yX12_ended yX12_ended ∈ lw_use := tb_s 138 (by decide +kernel) (by decide +kernel)
abbrev MX12_enumNamed : MD := (yX12_enumNamed, cX12_enumNamed, 4, some .int)
set_option maxRecDepth 100000 in
theorem mo_X12_enumNamed : MOK MX12_enumNamed 1 := ⟨tbk_9 2 rfl (by decide +kernel), tbk_1 14 rfl (by decide +kernel), ⟨by decide +kernel, by decide +kernel⟩, by decide +kernel, by decide, by decide +kernel⟩
set_option maxRecDepth 100000 in
theorem li_X12_enumNamed : Cond.instanceMethod yX12_enumNamed ∈ lw_use := tbk_9 1 rfl (by decide +kernel)
set_option maxRecDepth 100000 in
theorem ls_X12_enumNamed : Cond.selects yX12_enumNamed.cls yX12_enumNamed yX12_enumNamed ∈ lw_use := tb_s 102 (by decide +kernel) (by decide +kernel)
abbrev MX12_evaluate : MD := (yX12_evaluate, cX12_evaluate, 8, some .int)
set_option maxRecDepth 100000 in
theorem mo_X12_evaluate : MOK MX12_evaluate 2 := ⟨tbk_10 153 rfl (by decide +kernel), tbk_1 14 rfl (by decide +kernel), ⟨by decide +kernel, by decide +kernel⟩, by decide +kernel, by decide, by decide +kernel⟩
set_option maxRecDepth 100000 in
theorem li_X12_evaluate : Cond.instanceMethod yX12_evaluate ∈ lw_use := tbk_10 151 rfl (by decide +kernel)
set_option maxRecDepth 100000 in
theorem ls_X12_evaluate : Cond.selects yX12_evaluate.cls yX12_evaluate yX12_evaluate ∈ lw_use := tbk_10 152 rfl (by decide +kernel)
abbrev MX12_expr : MD := (yX12_expr, cX12_expr, 1, some .int)
set_option maxRecDepth 100000 in
theorem mo_X12_expr : MOK MX12_expr 0 := ⟨tbk_9 42 rfl (by decide +kernel), tbk_1 14 rfl (by decide +kernel), ⟨by decide +kernel, by decide +kernel⟩, by decide +kernel, by decide, by decide +kernel⟩
set_option maxRecDepth 100000 in
theorem li_X12_expr : Cond.instanceMethod yX12_expr ∈ lw_use := tbk_9 41 rfl (by decide +kernel)
set_option maxRecDepth 100000 in
theorem ls_X12_expr : Cond.selects yX12_expr.cls yX12_expr yX12_expr ∈ lw_use := tb_s 112 (by decide +kernel) (by decide +kernel)
abbrev MX12_fault : MD := (yX12_fault, cX12_fault, 2, none)
set_option maxRecDepth 100000 in
theorem mo_X12_fault : MOK MX12_fault 1 := ⟨tbk_8 193 rfl (by decide +kernel), tbk_1 14 rfl (by decide +kernel), ⟨by decide +kernel, by decide +kernel⟩, by decide +kernel, by decide, by decide +kernel⟩
set_option maxRecDepth 100000 in
theorem li_X12_fault : Cond.instanceMethod yX12_fault ∈ lw_use := tbk_8 192 rfl (by decide +kernel)
set_option maxRecDepth 100000 in
theorem ls_X12_fault : Cond.selects yX12_fault.cls yX12_fault yX12_fault ∈ lw_use := tb_s 96 (by decide +kernel) (by decide +kernel)
abbrev MX12_faults : MD := (yX12_faults, cX12_faults, 6, some .int)
set_option maxRecDepth 100000 in
theorem mo_X12_faults : MOK MX12_faults 2 := ⟨tbk_10 145 rfl (by decide +kernel), tbk_1 14 rfl (by decide +kernel), ⟨by decide +kernel, by decide +kernel⟩, by decide +kernel, by decide, by decide +kernel⟩
set_option maxRecDepth 100000 in
theorem li_X12_faults : Cond.instanceMethod yX12_faults ∈ lw_use := tbk_10 143 rfl (by decide +kernel)
set_option maxRecDepth 100000 in
theorem ls_X12_faults : Cond.selects yX12_faults.cls yX12_faults yX12_faults ∈ lw_use := tbk_10 144 rfl (by decide +kernel)
abbrev MX12_faulty : MD := (yX12_faulty, cX12_faulty, 3, none)
set_option maxRecDepth 100000 in
theorem mo_X12_faulty : MOK MX12_faulty 2 := ⟨tbk_9 224 rfl (by decide +kernel), tbk_1 14 rfl (by decide +kernel), ⟨by decide +kernel, by decide +kernel⟩, by decide +kernel, by decide, by decide +kernel⟩
set_option maxRecDepth 100000 in
theorem li_X12_faulty : Cond.instanceMethod yX12_faulty ∈ lw_use := tbk_9 223 rfl (by decide +kernel)
set_option maxRecDepth 100000 in
theorem ls_X12_faulty : Cond.selects yX12_faulty.cls yX12_faulty yX12_faulty ∈ lw_use := tb_s 153 (by decide +kernel) (by decide +kernel)
abbrev MX12_feed : MD := (yX12_feed, cX12_feed, 5, some .int)
set_option maxRecDepth 100000 in
theorem mo_X12_feed : MOK MX12_feed 2 := ⟨tbk_8 141 rfl (by decide +kernel), tbk_1 14 rfl (by decide +kernel), ⟨by decide +kernel, by decide +kernel⟩, by decide +kernel, by decide, by decide +kernel⟩
set_option maxRecDepth 100000 in
theorem li_X12_feed : Cond.instanceMethod yX12_feed ∈ lw_use := tbk_8 139 rfl (by decide +kernel)
set_option maxRecDepth 100000 in
theorem ls_X12_feed : Cond.selects yX12_feed.cls yX12_feed yX12_feed ∈ lw_use := tbk_8 140 rfl (by decide +kernel)
abbrev MX12_field : MD := (yX12_field, cX12_field, 3, some .int)
set_option maxRecDepth 100000 in
theorem mo_X12_field : MOK MX12_field 2 := ⟨tbk_9 38 rfl (by decide +kernel), tbk_1 14 rfl (by decide +kernel), ⟨by decide +kernel, by decide +kernel⟩, by decide +kernel, by decide, by decide +kernel⟩
set_option maxRecDepth 100000 in
theorem li_X12_field : Cond.instanceMethod yX12_field ∈ lw_use := tbk_9 37 rfl (by decide +kernel)
set_option maxRecDepth 100000 in
theorem ls_X12_field : Cond.selects yX12_field.cls yX12_field yX12_field ∈ lw_use := tb_s 111 (by decide +kernel) (by decide +kernel)
abbrev MX12_fieldBegun : MD := (yX12_fieldBegun, cX12_fieldBegun, 8, none)
set_option maxRecDepth 100000 in
theorem mo_X12_fieldBegun : MOK MX12_fieldBegun 2 := ⟨tbk_9 236 rfl (by decide +kernel), tbk_1 14 rfl (by decide +kernel), ⟨by decide +kernel, by decide +kernel⟩, by decide +kernel, by decide, by decide +kernel⟩
set_option maxRecDepth 100000 in
theorem li_X12_fieldBegun : Cond.instanceMethod yX12_fieldBegun ∈ lw_use := tbk_9 235 rfl (by decide +kernel)
set_option maxRecDepth 100000 in
theorem ls_X12_fieldBegun : Cond.selects yX12_fieldBegun.cls yX12_fieldBegun yX12_fieldBegun ∈ lw_use := tb_s 156 (by decide +kernel) (by decide +kernel)
abbrev MX12_figure : MD := (yX12_figure, cX12_figure, 2, some .int)
set_option maxRecDepth 100000 in
theorem mo_X12_figure : MOK MX12_figure 1 := ⟨tbk_10 214 rfl (by decide +kernel), tbk_1 14 rfl (by decide +kernel), ⟨by decide +kernel, by decide +kernel⟩, by decide +kernel, by decide, by decide +kernel⟩
set_option maxRecDepth 100000 in
theorem li_X12_figure : Cond.instanceMethod yX12_figure ∈ lw_use := tbk_10 213 rfl (by decide +kernel)
set_option maxRecDepth 100000 in
theorem ls_X12_figure : Cond.selects yX12_figure.cls yX12_figure yX12_figure ∈ lw_use := tb_s 189 (by decide +kernel) (by decide +kernel)
abbrev MX12_filled : MD := (yX12_filled, cX12_filled, 4, some .boolean)
set_option maxRecDepth 100000 in
theorem mo_X12_filled : MOK MX12_filled 3 := ⟨tbk_10 32 rfl (by decide +kernel), tbk_1 14 rfl (by decide +kernel), ⟨by decide +kernel, by decide +kernel⟩, by decide +kernel, by decide, by decide +kernel⟩
set_option maxRecDepth 100000 in
theorem li_X12_filled : Cond.instanceMethod yX12_filled ∈ lw_use := tbk_10 31 rfl (by decide +kernel)
set_option maxRecDepth 100000 in
theorem ls_X12_filled : Cond.selects yX12_filled.cls yX12_filled yX12_filled ∈ lw_use := tb_s 165 (by decide +kernel) (by decide +kernel)
abbrev MX12_find : MD := (yX12_find, cX12_find, 6, some .int)
set_option maxRecDepth 100000 in
theorem mo_X12_find : MOK MX12_find 1 := ⟨tbk_10 149 rfl (by decide +kernel), tbk_1 14 rfl (by decide +kernel), ⟨by decide +kernel, by decide +kernel⟩, by decide +kernel, by decide, by decide +kernel⟩
set_option maxRecDepth 100000 in
theorem li_X12_find : Cond.instanceMethod yX12_find ∈ lw_use := tbk_10 147 rfl (by decide +kernel)
set_option maxRecDepth 100000 in
theorem ls_X12_find : Cond.selects yX12_find.cls yX12_find yX12_find ∈ lw_use := tbk_10 148 rfl (by decide +kernel)
abbrev MX12_fix : MD := (yX12_fix, cX12_fix, 5, some .int)
set_option maxRecDepth 100000 in
theorem mo_X12_fix : MOK MX12_fix 2 := ⟨tbk_10 178 rfl (by decide +kernel), tbk_1 14 rfl (by decide +kernel), ⟨by decide +kernel, by decide +kernel⟩, by decide +kernel, by decide, by decide +kernel⟩
set_option maxRecDepth 100000 in
theorem li_X12_fix : Cond.instanceMethod yX12_fix ∈ lw_use := tbk_10 176 rfl (by decide +kernel)
set_option maxRecDepth 100000 in
theorem ls_X12_fix : Cond.selects yX12_fix.cls yX12_fix yX12_fix ∈ lw_use := tbk_10 177 rfl (by decide +kernel)
abbrev MX12_fresh : MD := (yX12_fresh, cX12_fresh, 3, some .boolean)
set_option maxRecDepth 100000 in
theorem mo_X12_fresh : MOK MX12_fresh 1 := ⟨tbk_9 98 rfl (by decide +kernel), tbk_1 14 rfl (by decide +kernel), ⟨by decide +kernel, by decide +kernel⟩, by decide +kernel, by decide, by decide +kernel⟩
set_option maxRecDepth 100000 in
theorem li_X12_fresh : Cond.instanceMethod yX12_fresh ∈ lw_use := tbk_9 97 rfl (by decide +kernel)
set_option maxRecDepth 100000 in
theorem ls_X12_fresh : Cond.selects yX12_fresh.cls yX12_fresh yX12_fresh ∈ lw_use := tb_s 126 (by decide +kernel) (by decide +kernel)
abbrev MX12_gap : MD := (yX12_gap, cX12_gap, 9, some .int)
set_option maxRecDepth 100000 in
theorem mo_X12_gap : MOK MX12_gap 3 := ⟨tbk_10 198 rfl (by decide +kernel), tbk_1 14 rfl (by decide +kernel), ⟨by decide +kernel, by decide +kernel⟩, by decide +kernel, by decide, by decide +kernel⟩
set_option maxRecDepth 100000 in
theorem li_X12_gap : Cond.instanceMethod yX12_gap ∈ lw_use := tbk_10 196 rfl (by decide +kernel)
set_option maxRecDepth 100000 in
theorem ls_X12_gap : Cond.selects yX12_gap.cls yX12_gap yX12_gap ∈ lw_use := tbk_10 197 rfl (by decide +kernel)
abbrev MX12_goesOn : MD := (yX12_goesOn, cX12_goesOn, 3, some .boolean)
set_option maxRecDepth 100000 in
theorem mo_X12_goesOn : MOK MX12_goesOn 0 := ⟨tbk_9 78 rfl (by decide +kernel), tbk_1 14 rfl (by decide +kernel), ⟨by decide +kernel, by decide +kernel⟩, by decide +kernel, by decide, by decide +kernel⟩
set_option maxRecDepth 100000 in
theorem li_X12_goesOn : Cond.instanceMethod yX12_goesOn ∈ lw_use := tbk_9 77 rfl (by decide +kernel)
set_option maxRecDepth 100000 in
theorem ls_X12_goesOn : Cond.selects yX12_goesOn.cls yX12_goesOn yX12_goesOn ∈ lw_use := tb_s 121 (by decide +kernel) (by decide +kernel)
abbrev MX12_has : MD := (yX12_has, cX12_has, 4, some .int)
set_option maxRecDepth 100000 in
theorem mo_X12_has : MOK MX12_has 2 := ⟨tbk_8 97 rfl (by decide +kernel), tbk_1 14 rfl (by decide +kernel), ⟨by decide +kernel, by decide +kernel⟩, by decide +kernel, by decide, by decide +kernel⟩
set_option maxRecDepth 100000 in
theorem li_X12_has : Cond.instanceMethod yX12_has ∈ lw_use := tbk_8 96 rfl (by decide +kernel)
set_option maxRecDepth 100000 in
theorem ls_X12_has : Cond.selects yX12_has.cls yX12_has yX12_has ∈ lw_use := tb_s 84 (by decide +kernel) (by decide +kernel)
abbrev MX12_has_ : MD := (yX12_has_, cX12_has_, 7, some .boolean)
set_option maxRecDepth 100000 in
theorem mo_X12_has_ : MOK MX12_has_ 3 := ⟨tbk_10 165 rfl (by decide +kernel), tbk_1 14 rfl (by decide +kernel), ⟨by decide +kernel, by decide +kernel⟩, by decide +kernel, by decide, by decide +kernel⟩
set_option maxRecDepth 100000 in
theorem li_X12_has_ : Cond.instanceMethod yX12_has_ ∈ lw_use := tbk_10 164 rfl (by decide +kernel)
set_option maxRecDepth 100000 in
theorem ls_X12_has_ : Cond.selects yX12_has_.cls yX12_has_ yX12_has_ ∈ lw_use := tb_s 186 (by decide +kernel) (by decide +kernel)
abbrev MX12_hex : MD := (yX12_hex, cX12_hex, 8, some .int)
set_option maxRecDepth 100000 in
theorem mo_X12_hex : MOK MX12_hex 3 := ⟨tbk_10 210 rfl (by decide +kernel), tbk_1 14 rfl (by decide +kernel), ⟨by decide +kernel, by decide +kernel⟩, by decide +kernel, by decide, by decide +kernel⟩
set_option maxRecDepth 100000 in
theorem li_X12_hex : Cond.instanceMethod yX12_hex ∈ lw_use := tbk_10 208 rfl (by decide +kernel)
set_option maxRecDepth 100000 in
theorem ls_X12_hex : Cond.selects yX12_hex.cls yX12_hex yX12_hex ∈ lw_use := tbk_10 209 rfl (by decide +kernel)
abbrev MX12_image : MD := (yX12_image, cX12_image, 1, some .int)
set_option maxRecDepth 100000 in
theorem mo_X12_image : MOK MX12_image 0 := ⟨tbk_8 80 rfl (by decide +kernel), tbk_1 14 rfl (by decide +kernel), ⟨by decide +kernel, by decide +kernel⟩, by decide +kernel, by decide, by decide +kernel⟩
set_option maxRecDepth 100000 in
theorem li_X12_image : Cond.instanceMethod yX12_image ∈ lw_use := tbk_8 78 rfl (by decide +kernel)
set_option maxRecDepth 100000 in
theorem ls_X12_image : Cond.selects yX12_image.cls yX12_image yX12_image ∈ lw_use := tbk_8 79 rfl (by decide +kernel)
abbrev MX12_isImage : MD := (yX12_isImage, cX12_isImage, 2, some .boolean)
set_option maxRecDepth 100000 in
theorem mo_X12_isImage : MOK MX12_isImage 1 := ⟨tbk_8 88 rfl (by decide +kernel), tbk_1 14 rfl (by decide +kernel), ⟨by decide +kernel, by decide +kernel⟩, by decide +kernel, by decide, by decide +kernel⟩
set_option maxRecDepth 100000 in
theorem li_X12_isImage : Cond.instanceMethod yX12_isImage ∈ lw_use := tbk_8 87 rfl (by decide +kernel)
set_option maxRecDepth 100000 in
theorem ls_X12_isImage : Cond.selects yX12_isImage.cls yX12_isImage yX12_isImage ∈ lw_use := tb_s 83 (by decide +kernel) (by decide +kernel)
abbrev MX12_isIn : MD := (yX12_isIn, cX12_isIn, 5, some .boolean)
set_option maxRecDepth 100000 in
theorem mo_X12_isIn : MOK MX12_isIn 2 := ⟨tbk_10 202 rfl (by decide +kernel), tbk_1 14 rfl (by decide +kernel), ⟨by decide +kernel, by decide +kernel⟩, by decide +kernel, by decide, by decide +kernel⟩
set_option maxRecDepth 100000 in
theorem li_X12_isIn : Cond.instanceMethod yX12_isIn ∈ lw_use := tbk_10 201 rfl (by decide +kernel)
set_option maxRecDepth 100000 in
theorem ls_X12_isIn : Cond.selects yX12_isIn.cls yX12_isIn yX12_isIn ∈ lw_use := tb_s 188 (by decide +kernel) (by decide +kernel)
abbrev MX12_isKeyword : MD := (yX12_isKeyword, cX12_isKeyword, 1, some .boolean)
set_option maxRecDepth 100000 in
theorem mo_X12_isKeyword : MOK MX12_isKeyword 0 := ⟨tbk_8 205 rfl (by decide +kernel), tbk_1 14 rfl (by decide +kernel), ⟨by decide +kernel, by decide +kernel⟩, by decide +kernel, by decide, by decide +kernel⟩
set_option maxRecDepth 100000 in
theorem li_X12_isKeyword : Cond.instanceMethod yX12_isKeyword ∈ lw_use := tbk_8 204 rfl (by decide +kernel)
set_option maxRecDepth 100000 in
theorem ls_X12_isKeyword : Cond.selects yX12_isKeyword.cls yX12_isKeyword yX12_isKeyword ∈ lw_use := tb_s 99 (by decide +kernel) (by decide +kernel)
abbrev MX12_isName : MD := (yX12_isName, cX12_isName, 1, some .boolean)
set_option maxRecDepth 100000 in
theorem mo_X12_isName : MOK MX12_isName 0 := ⟨tbk_8 201 rfl (by decide +kernel), tbk_1 14 rfl (by decide +kernel), ⟨by decide +kernel, by decide +kernel⟩, by decide +kernel, by decide, by decide +kernel⟩
set_option maxRecDepth 100000 in
theorem li_X12_isName : Cond.instanceMethod yX12_isName ∈ lw_use := tbk_8 200 rfl (by decide +kernel)
set_option maxRecDepth 100000 in
theorem ls_X12_isName : Cond.selects yX12_isName.cls yX12_isName yX12_isName ∈ lw_use := tb_s 98 (by decide +kernel) (by decide +kernel)
abbrev MX12_isNode : MD := (yX12_isNode, cX12_isNode, 3, some .boolean)
set_option maxRecDepth 100000 in
theorem mo_X12_isNode : MOK MX12_isNode 2 := ⟨tbk_10 113 rfl (by decide +kernel), tbk_1 14 rfl (by decide +kernel), ⟨by decide +kernel, by decide +kernel⟩, by decide +kernel, by decide, by decide +kernel⟩
set_option maxRecDepth 100000 in
theorem li_X12_isNode : Cond.instanceMethod yX12_isNode ∈ lw_use := tbk_10 112 rfl (by decide +kernel)
set_option maxRecDepth 100000 in
theorem ls_X12_isNode : Cond.selects yX12_isNode.cls yX12_isNode yX12_isNode ∈ lw_use := tb_s 182 (by decide +kernel) (by decide +kernel)
abbrev MX12_isOpen : MD := (yX12_isOpen, cX12_isOpen, 2, some .boolean)
set_option maxRecDepth 100000 in
theorem mo_X12_isOpen : MOK MX12_isOpen 0 := ⟨tbk_9 82 rfl (by decide +kernel), tbk_1 14 rfl (by decide +kernel), ⟨by decide +kernel, by decide +kernel⟩, by decide +kernel, by decide, by decide +kernel⟩
set_option maxRecDepth 100000 in
theorem li_X12_isOpen : Cond.instanceMethod yX12_isOpen ∈ lw_use := tbk_9 81 rfl (by decide +kernel)
set_option maxRecDepth 100000 in
theorem ls_X12_isOpen : Cond.selects yX12_isOpen.cls yX12_isOpen yX12_isOpen ∈ lw_use := tb_s 122 (by decide +kernel) (by decide +kernel)
abbrev MX12_isSign : MD := (yX12_isSign, cX12_isSign, 2, some .boolean)
set_option maxRecDepth 100000 in
theorem mo_X12_isSign : MOK MX12_isSign 1 := ⟨tbk_9 14 rfl (by decide +kernel), tbk_1 14 rfl (by decide +kernel), ⟨by decide +kernel, by decide +kernel⟩, by decide +kernel, by decide, by decide +kernel⟩
set_option maxRecDepth 100000 in
theorem li_X12_isSign : Cond.instanceMethod yX12_isSign ∈ lw_use := tbk_9 13 rfl (by decide +kernel)
set_option maxRecDepth 100000 in
theorem ls_X12_isSign : Cond.selects yX12_isSign.cls yX12_isSign yX12_isSign ∈ lw_use := tb_s 105 (by decide +kernel) (by decide +kernel)
abbrev MX12_isStruct : MD := (yX12_isStruct, cX12_isStruct, 2, some .boolean)
set_option maxRecDepth 100000 in
theorem mo_X12_isStruct : MOK MX12_isStruct 1 := ⟨tbk_9 188 rfl (by decide +kernel), tbk_1 14 rfl (by decide +kernel), ⟨by decide +kernel, by decide +kernel⟩, by decide +kernel, by decide, by decide +kernel⟩
set_option maxRecDepth 100000 in
theorem li_X12_isStruct : Cond.instanceMethod yX12_isStruct ∈ lw_use := tbk_9 187 rfl (by decide +kernel)
set_option maxRecDepth 100000 in
theorem ls_X12_isStruct : Cond.selects yX12_isStruct.cls yX12_isStruct yX12_isStruct ∈ lw_use := tb_s 146 (by decide +kernel) (by decide +kernel)
abbrev MX12_isWord : MD := (yX12_isWord, cX12_isWord, 3, some .boolean)
set_option maxRecDepth 100000 in
theorem mo_X12_isWord : MOK MX12_isWord 1 := ⟨tbk_8 184 rfl (by decide +kernel), tbk_1 14 rfl (by decide +kernel), ⟨by decide +kernel, by decide +kernel⟩, by decide +kernel, by decide, by decide +kernel⟩
set_option maxRecDepth 100000 in
theorem li_X12_isWord : Cond.instanceMethod yX12_isWord ∈ lw_use := tbk_8 183 rfl (by decide +kernel)
set_option maxRecDepth 100000 in
theorem ls_X12_isWord : Cond.selects yX12_isWord.cls yX12_isWord yX12_isWord ∈ lw_use := tb_s 94 (by decide +kernel) (by decide +kernel)
abbrev MX12_item : MD := (yX12_item, cX12_item, 2, none)
set_option maxRecDepth 100000 in
theorem mo_X12_item : MOK MX12_item 0 := ⟨tbk_8 197 rfl (by decide +kernel), tbk_1 14 rfl (by decide +kernel), ⟨by decide +kernel, by decide +kernel⟩, by decide +kernel, by decide, by decide +kernel⟩
set_option maxRecDepth 100000 in
theorem li_X12_item : Cond.instanceMethod yX12_item ∈ lw_use := tbk_8 196 rfl (by decide +kernel)
set_option maxRecDepth 100000 in
theorem ls_X12_item : Cond.selects yX12_item.cls yX12_item yX12_item ∈ lw_use := tb_s 97 (by decide +kernel) (by decide +kernel)
abbrev MX12_join : MD := (yX12_join, cX12_join, 2, none)
set_option maxRecDepth 100000 in
theorem mo_X12_join : MOK MX12_join 0 := ⟨tbk_9 74 rfl (by decide +kernel), tbk_1 14 rfl (by decide +kernel), ⟨by decide +kernel, by decide +kernel⟩, by decide +kernel, by decide, by decide +kernel⟩
set_option maxRecDepth 100000 in
theorem li_X12_join : Cond.instanceMethod yX12_join ∈ lw_use := tbk_9 73 rfl (by decide +kernel)
set_option maxRecDepth 100000 in
theorem ls_X12_join : Cond.selects yX12_join.cls yX12_join yX12_join ∈ lw_use := tb_s 120 (by decide +kernel) (by decide +kernel)
abbrev MX12_joinAll : MD := (yX12_joinAll, cX12_joinAll, 2, none)
set_option maxRecDepth 100000 in
theorem mo_X12_joinAll : MOK MX12_joinAll 1 := ⟨tbk_9 66 rfl (by decide +kernel), tbk_1 14 rfl (by decide +kernel), ⟨by decide +kernel, by decide +kernel⟩, by decide +kernel, by decide, by decide +kernel⟩
set_option maxRecDepth 100000 in
theorem li_X12_joinAll : Cond.instanceMethod yX12_joinAll ∈ lw_use := tbk_9 65 rfl (by decide +kernel)
set_option maxRecDepth 100000 in
theorem ls_X12_joinAll : Cond.selects yX12_joinAll.cls yX12_joinAll yX12_joinAll ∈ lw_use := tb_s 118 (by decide +kernel) (by decide +kernel)
abbrev MX12_joined : MD := (yX12_joined, cX12_joined, 6, some .long)
set_option maxRecDepth 100000 in
theorem mo_X12_joined : MOK MX12_joined 3 := ⟨tbk_10 28 rfl (by decide +kernel), tbk_1 14 rfl (by decide +kernel), ⟨by decide +kernel, by decide +kernel⟩, by decide +kernel, by decide, by decide +kernel⟩
set_option maxRecDepth 100000 in
theorem li_X12_joined : Cond.instanceMethod yX12_joined ∈ lw_use := tbk_10 27 rfl (by decide +kernel)
set_option maxRecDepth 100000 in
theorem ls_X12_joined : Cond.selects yX12_joined.cls yX12_joined yX12_joined ∈ lw_use := tb_s 164 (by decide +kernel) (by decide +kernel)
abbrev MX12_kid : MD := (yX12_kid, cX12_kid, 4, some .int)
set_option maxRecDepth 100000 in
theorem mo_X12_kid : MOK MX12_kid 3 := ⟨tbk_10 121 rfl (by decide +kernel), tbk_1 14 rfl (by decide +kernel), ⟨by decide +kernel, by decide +kernel⟩, by decide +kernel, by decide, by decide +kernel⟩
set_option maxRecDepth 100000 in
theorem li_X12_kid : Cond.instanceMethod yX12_kid ∈ lw_use := tbk_10 119 rfl (by decide +kernel)
set_option maxRecDepth 100000 in
theorem ls_X12_kid : Cond.selects yX12_kid.cls yX12_kid yX12_kid ∈ lw_use := tbk_10 120 rfl (by decide +kernel)
abbrev MX12_kidBegun : MD := (yX12_kidBegun, cX12_kidBegun, 4, none)
set_option maxRecDepth 100000 in
theorem mo_X12_kidBegun : MOK MX12_kidBegun 2 := ⟨tbk_10 93 rfl (by decide +kernel), tbk_1 14 rfl (by decide +kernel), ⟨by decide +kernel, by decide +kernel⟩, by decide +kernel, by decide, by decide +kernel⟩
set_option maxRecDepth 100000 in
theorem li_X12_kidBegun : Cond.instanceMethod yX12_kidBegun ∈ lw_use := tbk_10 92 rfl (by decide +kernel)
set_option maxRecDepth 100000 in
theorem ls_X12_kidBegun : Cond.selects yX12_kidBegun.cls yX12_kidBegun yX12_kidBegun ∈ lw_use := tb_s 180 (by decide +kernel) (by decide +kernel)
abbrev MX12_kidOf : MD := (yX12_kidOf, cX12_kidOf, 6, some .int)
set_option maxRecDepth 100000 in
theorem mo_X12_kidOf : MOK MX12_kidOf 2 := ⟨tbk_10 125 rfl (by decide +kernel), tbk_1 14 rfl (by decide +kernel), ⟨by decide +kernel, by decide +kernel⟩, by decide +kernel, by decide, by decide +kernel⟩
set_option maxRecDepth 100000 in
theorem li_X12_kidOf : Cond.instanceMethod yX12_kidOf ∈ lw_use := tbk_10 124 rfl (by decide +kernel)
set_option maxRecDepth 100000 in
theorem ls_X12_kidOf : Cond.selects yX12_kidOf.cls yX12_kidOf yX12_kidOf ∈ lw_use := tb_s 184 (by decide +kernel) (by decide +kernel)
abbrev MX12_laid : MD := (yX12_laid, cX12_laid, 5, none)
set_option maxRecDepth 100000 in
theorem mo_X12_laid : MOK MX12_laid 2 := ⟨tbk_9 208 rfl (by decide +kernel), tbk_1 14 rfl (by decide +kernel), ⟨by decide +kernel, by decide +kernel⟩, by decide +kernel, by decide, by decide +kernel⟩
set_option maxRecDepth 100000 in
theorem li_X12_laid : Cond.instanceMethod yX12_laid ∈ lw_use := tbk_9 207 rfl (by decide +kernel)
set_option maxRecDepth 100000 in
theorem ls_X12_laid : Cond.selects yX12_laid.cls yX12_laid yX12_laid ∈ lw_use := tb_s 149 (by decide +kernel) (by decide +kernel)
abbrev MX12_laidAt : MD := (yX12_laidAt, cX12_laidAt, 5, some .boolean)
set_option maxRecDepth 100000 in
theorem mo_X12_laidAt : MOK MX12_laidAt 4 := ⟨tbk_9 204 rfl (by decide +kernel), tbk_1 14 rfl (by decide +kernel), ⟨by decide +kernel, by decide +kernel⟩, by decide +kernel, by decide, by decide +kernel⟩
set_option maxRecDepth 100000 in
theorem li_X12_laidAt : Cond.instanceMethod yX12_laidAt ∈ lw_use := tbk_9 203 rfl (by decide +kernel)
set_option maxRecDepth 100000 in
theorem ls_X12_laidAt : Cond.selects yX12_laidAt.cls yX12_laidAt yX12_laidAt ∈ lw_use := tb_s 148 (by decide +kernel) (by decide +kernel)
abbrev MX12_lay : MD := (yX12_lay, cX12_lay, 4, some .int)
set_option maxRecDepth 100000 in
theorem mo_X12_lay : MOK MX12_lay 3 := ⟨tbk_9 200 rfl (by decide +kernel), tbk_1 14 rfl (by decide +kernel), ⟨by decide +kernel, by decide +kernel⟩, by decide +kernel, by decide, by decide +kernel⟩
set_option maxRecDepth 100000 in
theorem li_X12_lay : Cond.instanceMethod yX12_lay ∈ lw_use := tbk_9 198 rfl (by decide +kernel)
set_option maxRecDepth 100000 in
theorem ls_X12_lay : Cond.selects yX12_lay.cls yX12_lay yX12_lay ∈ lw_use := tbk_9 199 rfl (by decide +kernel)
abbrev MX12_layer : MD := (yX12_layer, cX12_layer, 3, some .int)
set_option maxRecDepth 100000 in
theorem mo_X12_layer : MOK MX12_layer 1 := ⟨tbk_8 109 rfl (by decide +kernel), tbk_1 14 rfl (by decide +kernel), ⟨by decide +kernel, by decide +kernel⟩, by decide +kernel, by decide, by decide +kernel⟩
set_option maxRecDepth 100000 in
theorem li_X12_layer : Cond.instanceMethod yX12_layer ∈ lw_use := tbk_8 107 rfl (by decide +kernel)
set_option maxRecDepth 100000 in
theorem ls_X12_layer : Cond.selects yX12_layer.cls yX12_layer yX12_layer ∈ lw_use := tbk_8 108 rfl (by decide +kernel)
abbrev MX12_length : MD := (yX12_length, cX12_length, 2, some .int)
set_option maxRecDepth 100000 in
theorem mo_X12_length : MOK MX12_length 1 := ⟨tbk_8 105 rfl (by decide +kernel), tbk_1 14 rfl (by decide +kernel), ⟨by decide +kernel, by decide +kernel⟩, by decide +kernel, by decide, by decide +kernel⟩
set_option maxRecDepth 100000 in
theorem li_X12_length : Cond.instanceMethod yX12_length ∈ lw_use := tbk_8 103 rfl (by decide +kernel)
set_option maxRecDepth 100000 in
theorem ls_X12_length : Cond.selects yX12_length.cls yX12_length yX12_length ∈ lw_use := tbk_8 104 rfl (by decide +kernel)
abbrev MX12_letter : MD := (yX12_letter, cX12_letter, 2, some .boolean)
set_option maxRecDepth 100000 in
theorem mo_X12_letter : MOK MX12_letter 1 := ⟨tbk_8 165 rfl (by decide +kernel), tbk_1 14 rfl (by decide +kernel), ⟨by decide +kernel, by decide +kernel⟩, by decide +kernel, by decide, by decide +kernel⟩
set_option maxRecDepth 100000 in
theorem li_X12_letter : Cond.instanceMethod yX12_letter ∈ lw_use := tbk_8 164 rfl (by decide +kernel)
set_option maxRecDepth 100000 in
theorem ls_X12_letter : Cond.selects yX12_letter.cls yX12_letter yX12_letter ∈ lw_use := tb_s 90 (by decide +kernel) (by decide +kernel)
abbrev MX12_letter_ : MD := (yX12_letter_, cX12_letter_, 11, some .int)
set_option maxRecDepth 100000 in
theorem mo_X12_letter_ : MOK MX12_letter_ 4 := ⟨tbk_10 137 rfl (by decide +kernel), tbk_1 14 rfl (by decide +kernel), ⟨by decide +kernel, by decide +kernel⟩, by decide +kernel, by decide, by decide +kernel⟩
set_option maxRecDepth 100000 in
theorem li_X12_letter_ : Cond.instanceMethod yX12_letter_ ∈ lw_use := tbk_10 135 rfl (by decide +kernel)
set_option maxRecDepth 100000 in
theorem ls_X12_letter_ : Cond.selects yX12_letter_.cls yX12_letter_ yX12_letter_ ∈ lw_use := tbk_10 136 rfl (by decide +kernel)
abbrev MX12_lookedUp : MD := (yX12_lookedUp, cX12_lookedUp, 4, some .int)
set_option maxRecDepth 100000 in
theorem mo_X12_lookedUp : MOK MX12_lookedUp 0 := ⟨tbk_9 62 rfl (by decide +kernel), tbk_1 14 rfl (by decide +kernel), ⟨by decide +kernel, by decide +kernel⟩, by decide +kernel, by decide, by decide +kernel⟩
set_option maxRecDepth 100000 in
theorem li_X12_lookedUp : Cond.instanceMethod yX12_lookedUp ∈ lw_use := tbk_9 61 rfl (by decide +kernel)
set_option maxRecDepth 100000 in
theorem ls_X12_lookedUp : Cond.selects yX12_lookedUp.cls yX12_lookedUp yX12_lookedUp ∈ lw_use := tb_s 117 (by decide +kernel) (by decide +kernel)
abbrev MX12_magic : MD := (yX12_magic, cX12_magic, 7, some .int)
set_option maxRecDepth 100000 in
theorem mo_X12_magic : MOK MX12_magic 3 := ⟨tbk_10 190 rfl (by decide +kernel), tbk_1 14 rfl (by decide +kernel), ⟨by decide +kernel, by decide +kernel⟩, by decide +kernel, by decide, by decide +kernel⟩
set_option maxRecDepth 100000 in
theorem li_X12_magic : Cond.instanceMethod yX12_magic ∈ lw_use := tbk_10 188 rfl (by decide +kernel)
set_option maxRecDepth 100000 in
theorem ls_X12_magic : Cond.selects yX12_magic.cls yX12_magic yX12_magic ∈ lw_use := tbk_10 189 rfl (by decide +kernel)
abbrev MX12_magicAt : MD := (yX12_magicAt, cX12_magicAt, 4, some .boolean)
set_option maxRecDepth 100000 in
theorem mo_X12_magicAt : MOK MX12_magicAt 2 := ⟨tbk_10 60 rfl (by decide +kernel), tbk_1 14 rfl (by decide +kernel), ⟨by decide +kernel, by decide +kernel⟩, by decide +kernel, by decide, by decide +kernel⟩
set_option maxRecDepth 100000 in
theorem li_X12_magicAt : Cond.instanceMethod yX12_magicAt ∈ lw_use := tbk_10 59 rfl (by decide +kernel)
set_option maxRecDepth 100000 in
theorem ls_X12_magicAt : Cond.selects yX12_magicAt.cls yX12_magicAt yX12_magicAt ∈ lw_use := tb_s 172 (by decide +kernel) (by decide +kernel)
abbrev MX12_magicLaid : MD := (yX12_magicLaid, cX12_magicLaid, 3, some .boolean)
set_option maxRecDepth 100000 in
theorem mo_X12_magicLaid : MOK MX12_magicLaid 2 := ⟨tbk_10 56 rfl (by decide +kernel), tbk_1 14 rfl (by decide +kernel), ⟨by decide +kernel, by decide +kernel⟩, by decide +kernel, by decide, by decide +kernel⟩
set_option maxRecDepth 100000 in
theorem li_X12_magicLaid : Cond.instanceMethod yX12_magicLaid ∈ lw_use := tbk_10 55 rfl (by decide +kernel)
set_option maxRecDepth 100000 in
theorem ls_X12_magicLaid : Cond.selects yX12_magicLaid.cls yX12_magicLaid yX12_magicLaid ∈ lw_use := tb_s 171 (by decide +kernel) (by decide +kernel)
abbrev MX12_make : MD := (yX12_make, cX12_make, 6, some .int)
set_option maxRecDepth 100000 in
theorem mo_X12_make : MOK MX12_make 4 := ⟨tbk_9 216 rfl (by decide +kernel), tbk_1 14 rfl (by decide +kernel), ⟨by decide +kernel, by decide +kernel⟩, by decide +kernel, by decide, by decide +kernel⟩
set_option maxRecDepth 100000 in
theorem li_X12_make : Cond.instanceMethod yX12_make ∈ lw_use := tbk_9 215 rfl (by decide +kernel)
set_option maxRecDepth 100000 in
theorem ls_X12_make : Cond.selects yX12_make.cls yX12_make yX12_make ∈ lw_use := tb_s 151 (by decide +kernel) (by decide +kernel)
abbrev MX12_mask : MD := (yX12_mask, cX12_mask, 3, some .long)
set_option maxRecDepth 100000 in
theorem mo_X12_mask : MOK MX12_mask 1 := ⟨tbk_10 24 rfl (by decide +kernel), tbk_1 14 rfl (by decide +kernel), ⟨by decide +kernel, by decide +kernel⟩, by decide +kernel, by decide, by decide +kernel⟩
set_option maxRecDepth 100000 in
theorem li_X12_mask : Cond.instanceMethod yX12_mask ∈ lw_use := tbk_10 23 rfl (by decide +kernel)
set_option maxRecDepth 100000 in
theorem ls_X12_mask : Cond.selects yX12_mask.cls yX12_mask yX12_mask ∈ lw_use := tb_s 163 (by decide +kernel) (by decide +kernel)
abbrev MX12_masked : MD := (yX12_masked, cX12_masked, 7, some .int)
set_option maxRecDepth 100000 in
theorem mo_X12_masked : MOK MX12_masked 2 := ⟨tbk_10 186 rfl (by decide +kernel), tbk_1 14 rfl (by decide +kernel), ⟨by decide +kernel, by decide +kernel⟩, by decide +kernel, by decide, by decide +kernel⟩
set_option maxRecDepth 100000 in
theorem li_X12_masked : Cond.instanceMethod yX12_masked ∈ lw_use := tbk_10 184 rfl (by decide +kernel)
set_option maxRecDepth 100000 in
theorem ls_X12_masked : Cond.selects yX12_masked.cls yX12_masked yX12_masked ∈ lw_use := tbk_10 185 rfl (by decide +kernel)
abbrev MX12_moved : MD := (yX12_moved, cX12_moved, 3, some .int)
set_option maxRecDepth 100000 in
theorem mo_X12_moved : MOK MX12_moved 2 := ⟨tbk_10 101 rfl (by decide +kernel), tbk_1 14 rfl (by decide +kernel), ⟨by decide +kernel, by decide +kernel⟩, by decide +kernel, by decide, by decide +kernel⟩
set_option maxRecDepth 100000 in
theorem li_X12_moved : Cond.instanceMethod yX12_moved ∈ lw_use := tbk_10 100 rfl (by decide +kernel)
set_option maxRecDepth 100000 in
theorem ls_X12_moved : Cond.selects yX12_moved.cls yX12_moved yX12_moved ∈ lw_use := tb_s 181 (by decide +kernel) (by decide +kernel)
abbrev MX12_must : MD := (yX12_must, cX12_must, 3, some .boolean)
set_option maxRecDepth 100000 in
theorem mo_X12_must : MOK MX12_must 2 := ⟨tbk_8 189 rfl (by decide +kernel), tbk_1 14 rfl (by decide +kernel), ⟨by decide +kernel, by decide +kernel⟩, by decide +kernel, by decide, by decide +kernel⟩
set_option maxRecDepth 100000 in
theorem li_X12_must : Cond.instanceMethod yX12_must ∈ lw_use := tbk_8 188 rfl (by decide +kernel)
set_option maxRecDepth 100000 in
theorem ls_X12_must : Cond.selects yX12_must.cls yX12_must yX12_must ∈ lw_use := tb_s 95 (by decide +kernel) (by decide +kernel)
abbrev MX12_nameOf : MD := (yX12_nameOf, cX12_nameOf, 3, some .long)
set_option maxRecDepth 100000 in
theorem mo_X12_nameOf : MOK MX12_nameOf 1 := ⟨tbk_10 141 rfl (by decide +kernel), tbk_1 14 rfl (by decide +kernel), ⟨by decide +kernel, by decide +kernel⟩, by decide +kernel, by decide, by decide +kernel⟩
set_option maxRecDepth 100000 in
theorem li_X12_nameOf : Cond.instanceMethod yX12_nameOf ∈ lw_use := tbk_10 140 rfl (by decide +kernel)
set_option maxRecDepth 100000 in
theorem ls_X12_nameOf : Cond.selects yX12_nameOf.cls yX12_nameOf yX12_nameOf ∈ lw_use := tb_s 185 (by decide +kernel) (by decide +kernel)
abbrev MX12_named : MD := (yX12_named, cX12_named, 2, none)
set_option maxRecDepth 100000 in
theorem mo_X12_named : MOK MX12_named 1 := ⟨tbk_9 94 rfl (by decide +kernel), tbk_1 14 rfl (by decide +kernel), ⟨by decide +kernel, by decide +kernel⟩, by decide +kernel, by decide, by decide +kernel⟩
set_option maxRecDepth 100000 in
theorem li_X12_named : Cond.instanceMethod yX12_named ∈ lw_use := tbk_9 93 rfl (by decide +kernel)
set_option maxRecDepth 100000 in
theorem ls_X12_named : Cond.selects yX12_named.cls yX12_named yX12_named ∈ lw_use := tb_s 125 (by decide +kernel) (by decide +kernel)
abbrev MX12_named_ : MD := (yX12_named_, cX12_named_, 6, some .long)
set_option maxRecDepth 100000 in
theorem mo_X12_named_ : MOK MX12_named_ 2 := ⟨tbk_10 8 rfl (by decide +kernel), tbk_1 14 rfl (by decide +kernel), ⟨by decide +kernel, by decide +kernel⟩, by decide +kernel, by decide, by decide +kernel⟩
set_option maxRecDepth 100000 in
theorem li_X12_named_ : Cond.instanceMethod yX12_named_ ∈ lw_use := tbk_10 7 rfl (by decide +kernel)
set_option maxRecDepth 100000 in
theorem ls_X12_named_ : Cond.selects yX12_named_.cls yX12_named_ yX12_named_ ∈ lw_use := tb_s 159 (by decide +kernel) (by decide +kernel)
abbrev MX12_names : MD := (yX12_names, cX12_names, 7, some .boolean)
set_option maxRecDepth 100000 in
theorem mo_X12_names : MOK MX12_names 2 := ⟨tbk_9 196 rfl (by decide +kernel), tbk_1 14 rfl (by decide +kernel), ⟨by decide +kernel, by decide +kernel⟩, by decide +kernel, by decide, by decide +kernel⟩
set_option maxRecDepth 100000 in
theorem li_X12_names : Cond.instanceMethod yX12_names ∈ lw_use := tbk_9 195 rfl (by decide +kernel)
set_option maxRecDepth 100000 in
theorem ls_X12_names : Cond.selects yX12_names.cls yX12_names yX12_names ∈ lw_use := tb_s 147 (by decide +kernel) (by decide +kernel)
abbrev MX12_next : MD := (yX12_next, cX12_next, 3, none)
set_option maxRecDepth 100000 in
theorem mo_X12_next : MOK MX12_next 0 := ⟨tbk_8 157 rfl (by decide +kernel), tbk_1 14 rfl (by decide +kernel), ⟨by decide +kernel, by decide +kernel⟩, by decide +kernel, by decide, by decide +kernel⟩
set_option maxRecDepth 100000 in
theorem li_X12_next : Cond.instanceMethod yX12_next ∈ lw_use := tbk_8 156 rfl (by decide +kernel)
set_option maxRecDepth 100000 in
theorem ls_X12_next : Cond.selects yX12_next.cls yX12_next yX12_next ∈ lw_use := tb_s 88 (by decide +kernel) (by decide +kernel)
abbrev MX12_node_ : MD := (yX12_node_, cX12_node_, 5, some .int)
set_option maxRecDepth 100000 in
theorem mo_X12_node_ : MOK MX12_node_ 3 := ⟨tbk_10 109 rfl (by decide +kernel), tbk_1 14 rfl (by decide +kernel), ⟨by decide +kernel, by decide +kernel⟩, by decide +kernel, by decide, by decide +kernel⟩
set_option maxRecDepth 100000 in
theorem li_X12_node_ : Cond.instanceMethod yX12_node_ ∈ lw_use := tbk_10 107 rfl (by decide +kernel)
set_option maxRecDepth 100000 in
theorem ls_X12_node_ : Cond.selects yX12_node_.cls yX12_node_ yX12_node_ ∈ lw_use := tbk_10 108 rfl (by decide +kernel)
abbrev MX12_node : MD := (yX12_node, cX12_node, 7, some .int)
set_option maxRecDepth 100000 in
theorem mo_X12_node : MOK MX12_node 4 := ⟨tbk_9 58 rfl (by decide +kernel), tbk_1 14 rfl (by decide +kernel), ⟨by decide +kernel, by decide +kernel⟩, by decide +kernel, by decide, by decide +kernel⟩
set_option maxRecDepth 100000 in
theorem li_X12_node : Cond.instanceMethod yX12_node ∈ lw_use := tbk_9 57 rfl (by decide +kernel)
set_option maxRecDepth 100000 in
theorem ls_X12_node : Cond.selects yX12_node.cls yX12_node yX12_node ∈ lw_use := tb_s 116 (by decide +kernel) (by decide +kernel)
abbrev MX12_numeral : MD := (yX12_numeral, cX12_numeral, 6, some .boolean)
set_option maxRecDepth 100000 in
theorem mo_X12_numeral : MOK MX12_numeral 0 := ⟨tbk_8 173 rfl (by decide +kernel), tbk_1 14 rfl (by decide +kernel), ⟨by decide +kernel, by decide +kernel⟩, by decide +kernel, by decide, by decide +kernel⟩
set_option maxRecDepth 100000 in
theorem li_X12_numeral : Cond.instanceMethod yX12_numeral ∈ lw_use := tbk_8 172 rfl (by decide +kernel)
set_option maxRecDepth 100000 in
theorem ls_X12_numeral : Cond.selects yX12_numeral.cls yX12_numeral yX12_numeral ∈ lw_use := tb_s 92 (by decide +kernel) (by decide +kernel)
abbrev MX12_opens : MD := (yX12_opens, cX12_opens, 3, none)
set_option maxRecDepth 100000 in
theorem mo_X12_opens : MOK MX12_opens 2 := ⟨tbk_9 228 rfl (by decide +kernel), tbk_1 14 rfl (by decide +kernel), ⟨by decide +kernel, by decide +kernel⟩, by decide +kernel, by decide, by decide +kernel⟩
set_option maxRecDepth 100000 in
theorem li_X12_opens : Cond.instanceMethod yX12_opens ∈ lw_use := tbk_9 227 rfl (by decide +kernel)
set_option maxRecDepth 100000 in
theorem ls_X12_opens : Cond.selects yX12_opens.cls yX12_opens yX12_opens ∈ lw_use := tb_s 154 (by decide +kernel) (by decide +kernel)
abbrev MX12_operand : MD := (yX12_operand, cX12_operand, 3, none)
set_option maxRecDepth 100000 in
theorem mo_X12_operand : MOK MX12_operand 0 := ⟨tbk_9 50 rfl (by decide +kernel), tbk_1 14 rfl (by decide +kernel), ⟨by decide +kernel, by decide +kernel⟩, by decide +kernel, by decide, by decide +kernel⟩
set_option maxRecDepth 100000 in
theorem li_X12_operand : Cond.instanceMethod yX12_operand ∈ lw_use := tbk_9 49 rfl (by decide +kernel)
set_option maxRecDepth 100000 in
theorem ls_X12_operand : Cond.selects yX12_operand.cls yX12_operand yX12_operand ∈ lw_use := tb_s 114 (by decide +kernel) (by decide +kernel)
abbrev MX12_operator : MD := (yX12_operator, cX12_operator, 2, some .int)
set_option maxRecDepth 100000 in
theorem mo_X12_operator : MOK MX12_operator 0 := ⟨tbk_9 86 rfl (by decide +kernel), tbk_1 14 rfl (by decide +kernel), ⟨by decide +kernel, by decide +kernel⟩, by decide +kernel, by decide, by decide +kernel⟩
set_option maxRecDepth 100000 in
theorem li_X12_operator : Cond.instanceMethod yX12_operator ∈ lw_use := tbk_9 85 rfl (by decide +kernel)
set_option maxRecDepth 100000 in
theorem ls_X12_operator : Cond.selects yX12_operator.cls yX12_operator yX12_operator ∈ lw_use := tb_s 123 (by decide +kernel) (by decide +kernel)
abbrev MX12_out : MD := (yX12_out, cX12_out, 1, some .long)
set_option maxRecDepth 100000 in
theorem mo_X12_out : MOK MX12_out 0 := ⟨tbk_10 157 rfl (by decide +kernel), tbk_1 14 rfl (by decide +kernel), ⟨by decide +kernel, by decide +kernel⟩, by decide +kernel, by decide, by decide +kernel⟩
set_option maxRecDepth 100000 in
theorem li_X12_out : Cond.instanceMethod yX12_out ∈ lw_use := tbk_10 155 rfl (by decide +kernel)
set_option maxRecDepth 100000 in
theorem ls_X12_out : Cond.selects yX12_out.cls yX12_out yX12_out ∈ lw_use := tbk_10 156 rfl (by decide +kernel)
abbrev MX12_outward : MD := (yX12_outward, cX12_outward, 2, some .int)
set_option maxRecDepth 100000 in
theorem mo_X12_outward : MOK MX12_outward 1 := ⟨tbk_10 117 rfl (by decide +kernel), tbk_1 14 rfl (by decide +kernel), ⟨by decide +kernel, by decide +kernel⟩, by decide +kernel, by decide, by decide +kernel⟩
set_option maxRecDepth 100000 in
theorem li_X12_outward : Cond.instanceMethod yX12_outward ∈ lw_use := tbk_10 116 rfl (by decide +kernel)
set_option maxRecDepth 100000 in
theorem ls_X12_outward : Cond.selects yX12_outward.cls yX12_outward yX12_outward ∈ lw_use := tb_s 183 (by decide +kernel) (by decide +kernel)
abbrev MX12_pair : MD := (yX12_pair, cX12_pair, 3, none)
set_option maxRecDepth 100000 in
theorem mo_X12_pair : MOK MX12_pair 1 := ⟨tbk_9 18 rfl (by decide +kernel), tbk_1 14 rfl (by decide +kernel), ⟨by decide +kernel, by decide +kernel⟩, by decide +kernel, by decide, by decide +kernel⟩
set_option maxRecDepth 100000 in
theorem li_X12_pair : Cond.instanceMethod yX12_pair ∈ lw_use := tbk_9 17 rfl (by decide +kernel)
set_option maxRecDepth 100000 in
theorem ls_X12_pair : Cond.selects yX12_pair.cls yX12_pair yX12_pair ∈ lw_use := tb_s 106 (by decide +kernel) (by decide +kernel)
abbrev MX12_paired : MD := (yX12_paired, cX12_paired, 7, some .int)
set_option maxRecDepth 100000 in
theorem mo_X12_paired : MOK MX12_paired 2 := ⟨tbk_10 85 rfl (by decide +kernel), tbk_1 14 rfl (by decide +kernel), ⟨by decide +kernel, by decide +kernel⟩, by decide +kernel, by decide, by decide +kernel⟩
set_option maxRecDepth 100000 in
theorem li_X12_paired : Cond.instanceMethod yX12_paired ∈ lw_use := tbk_10 84 rfl (by decide +kernel)
set_option maxRecDepth 100000 in
theorem ls_X12_paired : Cond.selects yX12_paired.cls yX12_paired yX12_paired ∈ lw_use := tb_s 178 (by decide +kernel) (by decide +kernel)
abbrev MX12_part : MD := (yX12_part, cX12_part, 4, none)
set_option maxRecDepth 100000 in
theorem mo_X12_part : MOK MX12_part 2 := ⟨tbk_9 122 rfl (by decide +kernel), tbk_1 14 rfl (by decide +kernel), ⟨by decide +kernel, by decide +kernel⟩, by decide +kernel, by decide, by decide +kernel⟩
set_option maxRecDepth 100000 in
theorem li_X12_part : Cond.instanceMethod yX12_part ∈ lw_use := tbk_9 121 rfl (by decide +kernel)
set_option maxRecDepth 100000 in
theorem ls_X12_part : Cond.selects yX12_part.cls yX12_part yX12_part ∈ lw_use := tb_s 132 (by decide +kernel) (by decide +kernel)
abbrev MX12_partsLaid : MD := (yX12_partsLaid, cX12_partsLaid, 5, none)
set_option maxRecDepth 100000 in
theorem mo_X12_partsLaid : MOK MX12_partsLaid 2 := ⟨tbk_10 64 rfl (by decide +kernel), tbk_1 14 rfl (by decide +kernel), ⟨by decide +kernel, by decide +kernel⟩, by decide +kernel, by decide, by decide +kernel⟩
set_option maxRecDepth 100000 in
theorem li_X12_partsLaid : Cond.instanceMethod yX12_partsLaid ∈ lw_use := tbk_10 63 rfl (by decide +kernel)
set_option maxRecDepth 100000 in
theorem ls_X12_partsLaid : Cond.selects yX12_partsLaid.cls yX12_partsLaid yX12_partsLaid ∈ lw_use := tb_s 173 (by decide +kernel) (by decide +kernel)
abbrev MX12_plain : MD := (yX12_plain, cX12_plain, 4, some .long)
set_option maxRecDepth 100000 in
theorem mo_X12_plain : MOK MX12_plain 2 := ⟨tbk_9 178 rfl (by decide +kernel), tbk_1 14 rfl (by decide +kernel), ⟨by decide +kernel, by decide +kernel⟩, by decide +kernel, by decide, by decide +kernel⟩
set_option maxRecDepth 100000 in
theorem li_X12_plain : Cond.instanceMethod yX12_plain ∈ lw_use := tbk_9 177 rfl (by decide +kernel)
set_option maxRecDepth 100000 in
theorem ls_X12_plain : Cond.selects yX12_plain.cls yX12_plain yX12_plain ∈ lw_use := tb_s 145 (by decide +kernel) (by decide +kernel)
abbrev MX12_pointed : MD := (yX12_pointed, cX12_pointed, 7, none)
set_option maxRecDepth 100000 in
theorem mo_X12_pointed : MOK MX12_pointed 3 := ⟨tbk_10 68 rfl (by decide +kernel), tbk_1 14 rfl (by decide +kernel), ⟨by decide +kernel, by decide +kernel⟩, by decide +kernel, by decide, by decide +kernel⟩
set_option maxRecDepth 100000 in
theorem li_X12_pointed : Cond.instanceMethod yX12_pointed ∈ lw_use := tbk_10 67 rfl (by decide +kernel)
set_option maxRecDepth 100000 in
theorem ls_X12_pointed : Cond.selects yX12_pointed.cls yX12_pointed yX12_pointed ∈ lw_use := tb_s 174 (by decide +kernel) (by decide +kernel)
abbrev MX12_poke : MD := (yX12_poke, cX12_poke, 5, some .int)
set_option maxRecDepth 100000 in
theorem mo_X12_poke : MOK MX12_poke 3 := ⟨tbk_8 125 rfl (by decide +kernel), tbk_1 14 rfl (by decide +kernel), ⟨by decide +kernel, by decide +kernel⟩, by decide +kernel, by decide, by decide +kernel⟩
set_option maxRecDepth 100000 in
theorem li_X12_poke : Cond.instanceMethod yX12_poke ∈ lw_use := tbk_8 123 rfl (by decide +kernel)
set_option maxRecDepth 100000 in
theorem ls_X12_poke : Cond.selects yX12_poke.cls yX12_poke yX12_poke ∈ lw_use := tbk_8 124 rfl (by decide +kernel)
abbrev MX12_push : MD := (yX12_push, cX12_push, 6, some .int)
set_option maxRecDepth 100000 in
theorem mo_X12_push : MOK MX12_push 3 := ⟨tbk_8 84 rfl (by decide +kernel), tbk_1 14 rfl (by decide +kernel), ⟨by decide +kernel, by decide +kernel⟩, by decide +kernel, by decide, by decide +kernel⟩
set_option maxRecDepth 100000 in
theorem li_X12_push : Cond.instanceMethod yX12_push ∈ lw_use := tbk_8 82 rfl (by decide +kernel)
set_option maxRecDepth 100000 in
theorem ls_X12_push : Cond.selects yX12_push.cls yX12_push yX12_push ∈ lw_use := tbk_8 83 rfl (by decide +kernel)
abbrev MX12_put_ : MD := (yX12_put_, cX12_put_, 7, some .int)
set_option maxRecDepth 100000 in
theorem mo_X12_put_ : MOK MX12_put_ 4 := ⟨tbk_10 174 rfl (by decide +kernel), tbk_1 14 rfl (by decide +kernel), ⟨by decide +kernel, by decide +kernel⟩, by decide +kernel, by decide, by decide +kernel⟩
set_option maxRecDepth 100000 in
theorem li_X12_put_ : Cond.instanceMethod yX12_put_ ∈ lw_use := tbk_10 172 rfl (by decide +kernel)
set_option maxRecDepth 100000 in
theorem ls_X12_put_ : Cond.selects yX12_put_.cls yX12_put_ yX12_put_ ∈ lw_use := tbk_10 173 rfl (by decide +kernel)
abbrev MX12_put : MD := (yX12_put, cX12_put, 7, none)
set_option maxRecDepth 100000 in
theorem mo_X12_put : MOK MX12_put 3 := ⟨tbk_10 170 rfl (by decide +kernel), tbk_1 14 rfl (by decide +kernel), ⟨by decide +kernel, by decide +kernel⟩, by decide +kernel, by decide, by decide +kernel⟩
set_option maxRecDepth 100000 in
theorem li_X12_put : Cond.instanceMethod yX12_put ∈ lw_use := tbk_10 169 rfl (by decide +kernel)
set_option maxRecDepth 100000 in
theorem ls_X12_put : Cond.selects yX12_put.cls yX12_put yX12_put ∈ lw_use := tb_s 187 (by decide +kernel) (by decide +kernel)
abbrev MX12_raw : MD := (yX12_raw, cX12_raw, 7, some .long)
set_option maxRecDepth 100000 in
theorem mo_X12_raw : MOK MX12_raw 2 := ⟨tbk_10 16 rfl (by decide +kernel), tbk_1 14 rfl (by decide +kernel), ⟨by decide +kernel, by decide +kernel⟩, by decide +kernel, by decide, by decide +kernel⟩
set_option maxRecDepth 100000 in
theorem li_X12_raw : Cond.instanceMethod yX12_raw ∈ lw_use := tbk_10 15 rfl (by decide +kernel)
set_option maxRecDepth 100000 in
theorem ls_X12_raw : Cond.selects yX12_raw.cls yX12_raw yX12_raw ∈ lw_use := tb_s 161 (by decide +kernel) (by decide +kernel)
abbrev MX12_reaches : MD := (yX12_reaches, cX12_reaches, 4, some .boolean)
set_option maxRecDepth 100000 in
theorem mo_X12_reaches : MOK MX12_reaches 2 := ⟨tbk_10 44 rfl (by decide +kernel), tbk_1 14 rfl (by decide +kernel), ⟨by decide +kernel, by decide +kernel⟩, by decide +kernel, by decide, by decide +kernel⟩
set_option maxRecDepth 100000 in
theorem li_X12_reaches : Cond.instanceMethod yX12_reaches ∈ lw_use := tbk_10 43 rfl (by decide +kernel)
set_option maxRecDepth 100000 in
theorem ls_X12_reaches : Cond.selects yX12_reaches.cls yX12_reaches yX12_reaches ∈ lw_use := tb_s 168 (by decide +kernel) (by decide +kernel)
abbrev MX12_readBits : MD := (yX12_readBits, cX12_readBits, 4, none)
set_option maxRecDepth 100000 in
theorem mo_X12_readBits : MOK MX12_readBits 1 := ⟨tbk_9 114 rfl (by decide +kernel), tbk_1 14 rfl (by decide +kernel), ⟨by decide +kernel, by decide +kernel⟩, by decide +kernel, by decide, by decide +kernel⟩
set_option maxRecDepth 100000 in
theorem li_X12_readBits : Cond.instanceMethod yX12_readBits ∈ lw_use := tbk_9 113 rfl (by decide +kernel)
set_option maxRecDepth 100000 in
theorem ls_X12_readBits : Cond.selects yX12_readBits.cls yX12_readBits yX12_readBits ∈ lw_use := tb_s 130 (by decide +kernel) (by decide +kernel)
abbrev MX12_readByte : MD := (yX12_readByte, cX12_readByte, 3, none)
set_option maxRecDepth 100000 in
theorem mo_X12_readByte : MOK MX12_readByte 1 := ⟨tbk_9 160 rfl (by decide +kernel), tbk_1 14 rfl (by decide +kernel), ⟨by decide +kernel, by decide +kernel⟩, by decide +kernel, by decide, by decide +kernel⟩
set_option maxRecDepth 100000 in
theorem li_X12_readByte : Cond.instanceMethod yX12_readByte ∈ lw_use := tbk_9 159 rfl (by decide +kernel)
set_option maxRecDepth 100000 in
theorem ls_X12_readByte : Cond.selects yX12_readByte.cls yX12_readByte yX12_readByte ∈ lw_use := tb_s 141 (by decide +kernel) (by decide +kernel)
abbrev MX12_readCase : MD := (yX12_readCase, cX12_readCase, 3, none)
set_option maxRecDepth 100000 in
theorem mo_X12_readCase : MOK MX12_readCase 1 := ⟨tbk_9 143 rfl (by decide +kernel), tbk_1 14 rfl (by decide +kernel), ⟨by decide +kernel, by decide +kernel⟩, by decide +kernel, by decide, by decide +kernel⟩
set_option maxRecDepth 100000 in
theorem li_X12_readCase : Cond.instanceMethod yX12_readCase ∈ lw_use := tbk_9 142 rfl (by decide +kernel)
set_option maxRecDepth 100000 in
theorem ls_X12_readCase : Cond.selects yX12_readCase.cls yX12_readCase yX12_readCase ∈ lw_use := tb_s 137 (by decide +kernel) (by decide +kernel)
abbrev MX12_readEnum : MD := (yX12_readEnum, cX12_readEnum, 2, none)
set_option maxRecDepth 100000 in
theorem mo_X12_readEnum : MOK MX12_readEnum 0 := ⟨tbk_9 6 rfl (by decide +kernel), tbk_1 14 rfl (by decide +kernel), ⟨by decide +kernel, by decide +kernel⟩, by decide +kernel, by decide, by decide +kernel⟩
set_option maxRecDepth 100000 in
theorem li_X12_readEnum : Cond.instanceMethod yX12_readEnum ∈ lw_use := tbk_9 5 rfl (by decide +kernel)
set_option maxRecDepth 100000 in
theorem ls_X12_readEnum : Cond.selects yX12_readEnum.cls yX12_readEnum yX12_readEnum ∈ lw_use := tb_s 103 (by decide +kernel) (by decide +kernel)
abbrev MX12_readField : MD := (yX12_readField, cX12_readField, 2, none)
set_option maxRecDepth 100000 in
theorem mo_X12_readField : MOK MX12_readField 0 := ⟨tbk_9 30 rfl (by decide +kernel), tbk_1 14 rfl (by decide +kernel), ⟨by decide +kernel, by decide +kernel⟩, by decide +kernel, by decide, by decide +kernel⟩
set_option maxRecDepth 100000 in
theorem li_X12_readField : Cond.instanceMethod yX12_readField ∈ lw_use := tbk_9 29 rfl (by decide +kernel)
set_option maxRecDepth 100000 in
theorem ls_X12_readField : Cond.selects yX12_readField.cls yX12_readField yX12_readField ∈ lw_use := tb_s 109 (by decide +kernel) (by decide +kernel)
abbrev MX12_readMagic : MD := (yX12_readMagic, cX12_readMagic, 2, none)
set_option maxRecDepth 100000 in
theorem mo_X12_readMagic : MOK MX12_readMagic 1 := ⟨tbk_9 156 rfl (by decide +kernel), tbk_1 14 rfl (by decide +kernel), ⟨by decide +kernel, by decide +kernel⟩, by decide +kernel, by decide, by decide +kernel⟩
set_option maxRecDepth 100000 in
theorem li_X12_readMagic : Cond.instanceMethod yX12_readMagic ∈ lw_use := tbk_9 155 rfl (by decide +kernel)
set_option maxRecDepth 100000 in
theorem ls_X12_readMagic : Cond.selects yX12_readMagic.cls yX12_readMagic yX12_readMagic ∈ lw_use := tb_s 140 (by decide +kernel) (by decide +kernel)
abbrev MX12_readPointer : MD := (yX12_readPointer, cX12_readPointer, 2, none)
set_option maxRecDepth 100000 in
theorem mo_X12_readPointer : MOK MX12_readPointer 1 := ⟨tbk_9 151 rfl (by decide +kernel), tbk_1 14 rfl (by decide +kernel), ⟨by decide +kernel, by decide +kernel⟩, by decide +kernel, by decide, by decide +kernel⟩
set_option maxRecDepth 100000 in
theorem li_X12_readPointer : Cond.instanceMethod yX12_readPointer ∈ lw_use := tbk_9 150 rfl (by decide +kernel)
set_option maxRecDepth 100000 in
theorem ls_X12_readPointer : Cond.selects yX12_readPointer.cls yX12_readPointer yX12_readPointer ∈ lw_use := tb_s 139 (by decide +kernel) (by decide +kernel)
abbrev MX12_readStruct : MD := (yX12_readStruct, cX12_readStruct, 1, none)
set_option maxRecDepth 100000 in
theorem mo_X12_readStruct : MOK MX12_readStruct 0 := ⟨tbk_9 26 rfl (by decide +kernel), tbk_1 14 rfl (by decide +kernel), ⟨by decide +kernel, by decide +kernel⟩, by decide +kernel, by decide, by decide +kernel⟩
set_option maxRecDepth 100000 in
theorem li_X12_readStruct : Cond.instanceMethod yX12_readStruct ∈ lw_use := tbk_9 25 rfl (by decide +kernel)
set_option maxRecDepth 100000 in
theorem ls_X12_readStruct : Cond.selects yX12_readStruct.cls yX12_readStruct yX12_readStruct ∈ lw_use := tb_s 108 (by decide +kernel) (by decide +kernel)
abbrev MX12_readSum : MD := (yX12_readSum, cX12_readSum, 3, none)
set_option maxRecDepth 100000 in
theorem mo_X12_readSum : MOK MX12_readSum 1 := ⟨tbk_9 165 rfl (by decide +kernel), tbk_1 14 rfl (by decide +kernel), ⟨by decide +kernel, by decide +kernel⟩, by decide +kernel, by decide, by decide +kernel⟩
set_option maxRecDepth 100000 in
theorem li_X12_readSum : Cond.instanceMethod yX12_readSum ∈ lw_use := tbk_9 164 rfl (by decide +kernel)
set_option maxRecDepth 100000 in
theorem ls_X12_readSum : Cond.selects yX12_readSum.cls yX12_readSum yX12_readSum ∈ lw_use := tb_s 142 (by decide +kernel) (by decide +kernel)
abbrev MX12_readText : MD := (yX12_readText, cX12_readText, 2, none)
set_option maxRecDepth 100000 in
theorem mo_X12_readText : MOK MX12_readText 1 := ⟨tbk_9 127 rfl (by decide +kernel), tbk_1 14 rfl (by decide +kernel), ⟨by decide +kernel, by decide +kernel⟩, by decide +kernel, by decide, by decide +kernel⟩
set_option maxRecDepth 100000 in
theorem li_X12_readText : Cond.instanceMethod yX12_readText ∈ lw_use := tbk_9 126 rfl (by decide +kernel)
set_option maxRecDepth 100000 in
theorem ls_X12_readText : Cond.selects yX12_readText.cls yX12_readText yX12_readText ∈ lw_use := tb_s 133 (by decide +kernel) (by decide +kernel)
abbrev MX12_readUnion : MD := (yX12_readUnion, cX12_readUnion, 2, none)
set_option maxRecDepth 100000 in
theorem mo_X12_readUnion : MOK MX12_readUnion 1 := ⟨tbk_9 135 rfl (by decide +kernel), tbk_1 14 rfl (by decide +kernel), ⟨by decide +kernel, by decide +kernel⟩, by decide +kernel, by decide, by decide +kernel⟩
set_option maxRecDepth 100000 in
theorem li_X12_readUnion : Cond.instanceMethod yX12_readUnion ∈ lw_use := tbk_9 134 rfl (by decide +kernel)
set_option maxRecDepth 100000 in
theorem ls_X12_readUnion : Cond.selects yX12_readUnion.cls yX12_readUnion yX12_readUnion ∈ lw_use := tb_s 135 (by decide +kernel) (by decide +kernel)
abbrev MX12_readWhole : MD := (yX12_readWhole, cX12_readWhole, 2, none)
set_option maxRecDepth 100000 in
theorem mo_X12_readWhole : MOK MX12_readWhole 1 := ⟨tbk_9 118 rfl (by decide +kernel), tbk_1 14 rfl (by decide +kernel), ⟨by decide +kernel, by decide +kernel⟩, by decide +kernel, by decide, by decide +kernel⟩
set_option maxRecDepth 100000 in
theorem li_X12_readWhole : Cond.instanceMethod yX12_readWhole ∈ lw_use := tbk_9 117 rfl (by decide +kernel)
set_option maxRecDepth 100000 in
theorem ls_X12_readWhole : Cond.selects yX12_readWhole.cls yX12_readWhole yX12_readWhole ∈ lw_use := tb_s 131 (by decide +kernel) (by decide +kernel)
abbrev MX12_relay : MD := (yX12_relay, cX12_relay, 5, some .int)
set_option maxRecDepth 100000 in
theorem mo_X12_relay : MOK MX12_relay 1 := ⟨tbk_10 97 rfl (by decide +kernel), tbk_1 14 rfl (by decide +kernel), ⟨by decide +kernel, by decide +kernel⟩, by decide +kernel, by decide, by decide +kernel⟩
set_option maxRecDepth 100000 in
theorem li_X12_relay : Cond.instanceMethod yX12_relay ∈ lw_use := tbk_10 95 rfl (by decide +kernel)
set_option maxRecDepth 100000 in
theorem ls_X12_relay : Cond.selects yX12_relay.cls yX12_relay yX12_relay ∈ lw_use := tbk_10 96 rfl (by decide +kernel)
abbrev MX12_search : MD := (yX12_search, cX12_search, 9, some .int)
set_option maxRecDepth 100000 in
theorem mo_X12_search : MOK MX12_search 5 := ⟨tbk_10 182 rfl (by decide +kernel), tbk_1 14 rfl (by decide +kernel), ⟨by decide +kernel, by decide +kernel⟩, by decide +kernel, by decide, by decide +kernel⟩
set_option maxRecDepth 100000 in
theorem li_X12_search : Cond.instanceMethod yX12_search ∈ lw_use := tbk_10 180 rfl (by decide +kernel)
set_option maxRecDepth 100000 in
theorem ls_X12_search : Cond.selects yX12_search.cls yX12_search yX12_search ∈ lw_use := tbk_10 181 rfl (by decide +kernel)
abbrev MX12_set : MD := (yX12_set, cX12_set, 15, some .int)
set_option maxRecDepth 100000 in
theorem mo_X12_set : MOK MX12_set 3 := ⟨tbk_10 161 rfl (by decide +kernel), tbk_1 14 rfl (by decide +kernel), ⟨by decide +kernel, by decide +kernel⟩, by decide +kernel, by decide, by decide +kernel⟩
set_option maxRecDepth 100000 in
theorem li_X12_set : Cond.instanceMethod yX12_set ∈ lw_use := tbk_10 159 rfl (by decide +kernel)
set_option maxRecDepth 100000 in
theorem ls_X12_set : Cond.selects yX12_set.cls yX12_set yX12_set ∈ lw_use := tbk_10 160 rfl (by decide +kernel)
abbrev MX12_shift : MD := (yX12_shift, cX12_shift, 4, some .int)
set_option maxRecDepth 100000 in
theorem mo_X12_shift : MOK MX12_shift 1 := ⟨tbk_10 20 rfl (by decide +kernel), tbk_1 14 rfl (by decide +kernel), ⟨by decide +kernel, by decide +kernel⟩, by decide +kernel, by decide, by decide +kernel⟩
set_option maxRecDepth 100000 in
theorem li_X12_shift : Cond.instanceMethod yX12_shift ∈ lw_use := tbk_10 19 rfl (by decide +kernel)
set_option maxRecDepth 100000 in
theorem ls_X12_shift : Cond.selects yX12_shift.cls yX12_shift yX12_shift ∈ lw_use := tb_s 162 (by decide +kernel) (by decide +kernel)
abbrev MX12_sign : MD := (yX12_sign, cX12_sign, 2, some .boolean)
set_option maxRecDepth 100000 in
theorem mo_X12_sign : MOK MX12_sign 1 := ⟨tbk_8 179 rfl (by decide +kernel), tbk_1 14 rfl (by decide +kernel), ⟨by decide +kernel, by decide +kernel⟩, by decide +kernel, by decide, by decide +kernel⟩
set_option maxRecDepth 100000 in
theorem li_X12_sign : Cond.instanceMethod yX12_sign ∈ lw_use := tbk_8 178 rfl (by decide +kernel)
set_option maxRecDepth 100000 in
theorem ls_X12_sign : Cond.selects yX12_sign.cls yX12_sign yX12_sign ∈ lw_use := tb_s 93 (by decide +kernel) (by decide +kernel)
abbrev MX12_sign_ : MD := (yX12_sign_, cX12_sign_, 5, some .int)
set_option maxRecDepth 100000 in
theorem mo_X12_sign_ : MOK MX12_sign_ 3 := ⟨tbk_10 133 rfl (by decide +kernel), tbk_1 14 rfl (by decide +kernel), ⟨by decide +kernel, by decide +kernel⟩, by decide +kernel, by decide, by decide +kernel⟩
set_option maxRecDepth 100000 in
theorem li_X12_sign_ : Cond.instanceMethod yX12_sign_ ∈ lw_use := tbk_10 131 rfl (by decide +kernel)
set_option maxRecDepth 100000 in
theorem ls_X12_sign_ : Cond.selects yX12_sign_.cls yX12_sign_ yX12_sign_ ∈ lw_use := tbk_10 132 rfl (by decide +kernel)
abbrev MX12_signed : MD := (yX12_signed, cX12_signed, 4, some .long)
set_option maxRecDepth 100000 in
theorem mo_X12_signed : MOK MX12_signed 0 := ⟨tbk_9 22 rfl (by decide +kernel), tbk_1 14 rfl (by decide +kernel), ⟨by decide +kernel, by decide +kernel⟩, by decide +kernel, by decide, by decide +kernel⟩
set_option maxRecDepth 100000 in
theorem li_X12_signed : Cond.instanceMethod yX12_signed ∈ lw_use := tbk_9 21 rfl (by decide +kernel)
set_option maxRecDepth 100000 in
theorem ls_X12_signed : Cond.selects yX12_signed.cls yX12_signed yX12_signed ∈ lw_use := tb_s 107 (by decide +kernel) (by decide +kernel)
abbrev MX12_single : MD := (yX12_single, cX12_single, 3, some .int)
set_option maxRecDepth 100000 in
theorem mo_X12_single : MOK MX12_single 0 := ⟨tbk_9 54 rfl (by decide +kernel), tbk_1 14 rfl (by decide +kernel), ⟨by decide +kernel, by decide +kernel⟩, by decide +kernel, by decide, by decide +kernel⟩
set_option maxRecDepth 100000 in
theorem li_X12_single : Cond.instanceMethod yX12_single ∈ lw_use := tbk_9 53 rfl (by decide +kernel)
set_option maxRecDepth 100000 in
theorem ls_X12_single : Cond.selects yX12_single.cls yX12_single yX12_single ∈ lw_use := tb_s 115 (by decide +kernel) (by decide +kernel)
abbrev MX12_size : MD := (yX12_size, cX12_size, 3, some .int)
set_option maxRecDepth 100000 in
theorem mo_X12_size : MOK MX12_size 1 := ⟨tbk_9 184 rfl (by decide +kernel), tbk_1 14 rfl (by decide +kernel), ⟨by decide +kernel, by decide +kernel⟩, by decide +kernel, by decide, by decide +kernel⟩
set_option maxRecDepth 100000 in
theorem li_X12_size : Cond.instanceMethod yX12_size ∈ lw_use := tbk_9 182 rfl (by decide +kernel)
set_option maxRecDepth 100000 in
theorem ls_X12_size : Cond.selects yX12_size.cls yX12_size yX12_size ∈ lw_use := tbk_9 183 rfl (by decide +kernel)
abbrev MX12_sizeOf : MD := (yX12_sizeOf, cX12_sizeOf, 7, some .long)
set_option maxRecDepth 100000 in
theorem mo_X12_sizeOf : MOK MX12_sizeOf 2 := ⟨tbk_9 173 rfl (by decide +kernel), tbk_1 14 rfl (by decide +kernel), ⟨by decide +kernel, by decide +kernel⟩, by decide +kernel, by decide, by decide +kernel⟩
set_option maxRecDepth 100000 in
theorem li_X12_sizeOf : Cond.instanceMethod yX12_sizeOf ∈ lw_use := tbk_9 172 rfl (by decide +kernel)
set_option maxRecDepth 100000 in
theorem ls_X12_sizeOf : Cond.selects yX12_sizeOf.cls yX12_sizeOf yX12_sizeOf ∈ lw_use := tb_s 144 (by decide +kernel) (by decide +kernel)
abbrev MX12_sized : MD := (yX12_sized, cX12_sized, 8, some .int)
set_option maxRecDepth 100000 in
theorem mo_X12_sized : MOK MX12_sized 1 := ⟨tbk_9 169 rfl (by decide +kernel), tbk_1 14 rfl (by decide +kernel), ⟨by decide +kernel, by decide +kernel⟩, by decide +kernel, by decide, by decide +kernel⟩
set_option maxRecDepth 100000 in
theorem li_X12_sized : Cond.instanceMethod yX12_sized ∈ lw_use := tbk_9 168 rfl (by decide +kernel)
set_option maxRecDepth 100000 in
theorem ls_X12_sized : Cond.selects yX12_sized.cls yX12_sized yX12_sized ∈ lw_use := tb_s 143 (by decide +kernel) (by decide +kernel)
abbrev MX12_stops : MD := (yX12_stops, cX12_stops, 2, none)
set_option maxRecDepth 100000 in
theorem mo_X12_stops : MOK MX12_stops 0 := ⟨tbk_10 89 rfl (by decide +kernel), tbk_1 14 rfl (by decide +kernel), ⟨by decide +kernel, by decide +kernel⟩, by decide +kernel, by decide, by decide +kernel⟩
set_option maxRecDepth 100000 in
theorem li_X12_stops : Cond.instanceMethod yX12_stops ∈ lw_use := tbk_10 88 rfl (by decide +kernel)
set_option maxRecDepth 100000 in
theorem ls_X12_stops : Cond.selects yX12_stops.cls yX12_stops yX12_stops ∈ lw_use := tb_s 179 (by decide +kernel) (by decide +kernel)
abbrev MX12_strength : MD := (yX12_strength, cX12_strength, 2, some .int)
set_option maxRecDepth 100000 in
theorem mo_X12_strength : MOK MX12_strength 1 := ⟨tbk_9 70 rfl (by decide +kernel), tbk_1 14 rfl (by decide +kernel), ⟨by decide +kernel, by decide +kernel⟩, by decide +kernel, by decide, by decide +kernel⟩
set_option maxRecDepth 100000 in
theorem li_X12_strength : Cond.instanceMethod yX12_strength ∈ lw_use := tbk_9 69 rfl (by decide +kernel)
set_option maxRecDepth 100000 in
theorem ls_X12_strength : Cond.selects yX12_strength.cls yX12_strength yX12_strength ∈ lw_use := tb_s 119 (by decide +kernel) (by decide +kernel)
abbrev MX12_structNamed : MD := (yX12_structNamed, cX12_structNamed, 5, some .int)
set_option maxRecDepth 100000 in
theorem mo_X12_structNamed : MOK MX12_structNamed 2 := ⟨tbk_8 238 rfl (by decide +kernel), tbk_1 14 rfl (by decide +kernel), ⟨by decide +kernel, by decide +kernel⟩, by decide +kernel, by decide, by decide +kernel⟩
set_option maxRecDepth 100000 in
theorem li_X12_structNamed : Cond.instanceMethod yX12_structNamed ∈ lw_use := tbk_8 237 rfl (by decide +kernel)
set_option maxRecDepth 100000 in
theorem ls_X12_structNamed : Cond.selects yX12_structNamed.cls yX12_structNamed yX12_structNamed ∈ lw_use := tb_s 101 (by decide +kernel) (by decide +kernel)
abbrev MX12_sumBounds : MD := (yX12_sumBounds, cX12_sumBounds, 5, some .int)
set_option maxRecDepth 100000 in
theorem mo_X12_sumBounds : MOK MX12_sumBounds 3 := ⟨tbk_10 76 rfl (by decide +kernel), tbk_1 14 rfl (by decide +kernel), ⟨by decide +kernel, by decide +kernel⟩, by decide +kernel, by decide, by decide +kernel⟩
set_option maxRecDepth 100000 in
theorem li_X12_sumBounds : Cond.instanceMethod yX12_sumBounds ∈ lw_use := tbk_10 75 rfl (by decide +kernel)
set_option maxRecDepth 100000 in
theorem ls_X12_sumBounds : Cond.selects yX12_sumBounds.cls yX12_sumBounds yX12_sumBounds ∈ lw_use := tb_s 176 (by decide +kernel) (by decide +kernel)
abbrev MX12_summed : MD := (yX12_summed, cX12_summed, 5, none)
set_option maxRecDepth 100000 in
theorem mo_X12_summed : MOK MX12_summed 3 := ⟨tbk_10 72 rfl (by decide +kernel), tbk_1 14 rfl (by decide +kernel), ⟨by decide +kernel, by decide +kernel⟩, by decide +kernel, by decide, by decide +kernel⟩
set_option maxRecDepth 100000 in
theorem li_X12_summed : Cond.instanceMethod yX12_summed ∈ lw_use := tbk_10 71 rfl (by decide +kernel)
set_option maxRecDepth 100000 in
theorem ls_X12_summed : Cond.selects yX12_summed.cls yX12_summed yX12_summed ∈ lw_use := tb_s 175 (by decide +kernel) (by decide +kernel)
abbrev MX12_take : MD := (yX12_take, cX12_take, 2, none)
set_option maxRecDepth 100000 in
theorem mo_X12_take : MOK MX12_take 1 := ⟨tbk_9 10 rfl (by decide +kernel), tbk_1 14 rfl (by decide +kernel), ⟨by decide +kernel, by decide +kernel⟩, by decide +kernel, by decide, by decide +kernel⟩
set_option maxRecDepth 100000 in
theorem li_X12_take : Cond.instanceMethod yX12_take ∈ lw_use := tbk_9 9 rfl (by decide +kernel)
set_option maxRecDepth 100000 in
theorem ls_X12_take : Cond.selects yX12_take.cls yX12_take yX12_take ∈ lw_use := tb_s 104 (by decide +kernel) (by decide +kernel)
abbrev MX12_takeWord : MD := (yX12_takeWord, cX12_takeWord, 3, none)
set_option maxRecDepth 100000 in
theorem mo_X12_takeWord : MOK MX12_takeWord 1 := ⟨tbk_9 139 rfl (by decide +kernel), tbk_1 14 rfl (by decide +kernel), ⟨by decide +kernel, by decide +kernel⟩, by decide +kernel, by decide, by decide +kernel⟩
set_option maxRecDepth 100000 in
theorem li_X12_takeWord : Cond.instanceMethod yX12_takeWord ∈ lw_use := tbk_9 138 rfl (by decide +kernel)
set_option maxRecDepth 100000 in
theorem ls_X12_takeWord : Cond.selects yX12_takeWord.cls yX12_takeWord yX12_takeWord ∈ lw_use := tb_s 136 (by decide +kernel) (by decide +kernel)
abbrev MX12_tapeAt : MD := (yX12_tapeAt, cX12_tapeAt, 2, some .int)
set_option maxRecDepth 100000 in
theorem mo_X12_tapeAt : MOK MX12_tapeAt 1 := ⟨tbk_8 161 rfl (by decide +kernel), tbk_1 14 rfl (by decide +kernel), ⟨by decide +kernel, by decide +kernel⟩, by decide +kernel, by decide, by decide +kernel⟩
set_option maxRecDepth 100000 in
theorem li_X12_tapeAt : Cond.instanceMethod yX12_tapeAt ∈ lw_use := tbk_8 160 rfl (by decide +kernel)
set_option maxRecDepth 100000 in
theorem ls_X12_tapeAt : Cond.selects yX12_tapeAt.cls yX12_tapeAt yX12_tapeAt ∈ lw_use := tb_s 89 (by decide +kernel) (by decide +kernel)
abbrev MX12_textLaid : MD := (yX12_textLaid, cX12_textLaid, 6, some .boolean)
set_option maxRecDepth 100000 in
theorem mo_X12_textLaid : MOK MX12_textLaid 3 := ⟨tbk_10 40 rfl (by decide +kernel), tbk_1 14 rfl (by decide +kernel), ⟨by decide +kernel, by decide +kernel⟩, by decide +kernel, by decide, by decide +kernel⟩
set_option maxRecDepth 100000 in
theorem li_X12_textLaid : Cond.instanceMethod yX12_textLaid ∈ lw_use := tbk_10 39 rfl (by decide +kernel)
set_option maxRecDepth 100000 in
theorem ls_X12_textLaid : Cond.selects yX12_textLaid.cls yX12_textLaid yX12_textLaid ∈ lw_use := tb_s 167 (by decide +kernel) (by decide +kernel)
abbrev MX12_told : MD := (yX12_told, cX12_told, 5, some .boolean)
set_option maxRecDepth 100000 in
theorem mo_X12_told : MOK MX12_told 2 := ⟨tbk_9 102 rfl (by decide +kernel), tbk_1 14 rfl (by decide +kernel), ⟨by decide +kernel, by decide +kernel⟩, by decide +kernel, by decide, by decide +kernel⟩
set_option maxRecDepth 100000 in
theorem li_X12_told : Cond.instanceMethod yX12_told ∈ lw_use := tbk_9 101 rfl (by decide +kernel)
set_option maxRecDepth 100000 in
theorem ls_X12_told : Cond.selects yX12_told.cls yX12_told yX12_told ∈ lw_use := tb_s 127 (by decide +kernel) (by decide +kernel)
abbrev MX12_top : MD := (yX12_top, cX12_top, 7, some .int)
set_option maxRecDepth 100000 in
theorem mo_X12_top : MOK MX12_top 2 := ⟨tbk_8 117 rfl (by decide +kernel), tbk_1 14 rfl (by decide +kernel), ⟨by decide +kernel, by decide +kernel⟩, by decide +kernel, by decide, by decide +kernel⟩
set_option maxRecDepth 100000 in
theorem li_X12_top : Cond.instanceMethod yX12_top ∈ lw_use := tbk_8 116 rfl (by decide +kernel)
set_option maxRecDepth 100000 in
theorem ls_X12_top : Cond.selects yX12_top.cls yX12_top yX12_top ∈ lw_use := tb_s 86 (by decide +kernel) (by decide +kernel)
abbrev MX12_undo : MD := (yX12_undo, cX12_undo, 5, some .int)
set_option maxRecDepth 100000 in
theorem mo_X12_undo : MOK MX12_undo 1 := ⟨tbk_8 133 rfl (by decide +kernel), tbk_1 14 rfl (by decide +kernel), ⟨by decide +kernel, by decide +kernel⟩, by decide +kernel, by decide, by decide +kernel⟩
set_option maxRecDepth 100000 in
theorem li_X12_undo : Cond.instanceMethod yX12_undo ∈ lw_use := tbk_8 131 rfl (by decide +kernel)
set_option maxRecDepth 100000 in
theorem ls_X12_undo : Cond.selects yX12_undo.cls yX12_undo yX12_undo ∈ lw_use := tbk_8 132 rfl (by decide +kernel)
abbrev MX12_unionLaid : MD := (yX12_unionLaid, cX12_unionLaid, 8, none)
set_option maxRecDepth 100000 in
theorem mo_X12_unionLaid : MOK MX12_unionLaid 3 := ⟨tbk_10 52 rfl (by decide +kernel), tbk_1 14 rfl (by decide +kernel), ⟨by decide +kernel, by decide +kernel⟩, by decide +kernel, by decide, by decide +kernel⟩
set_option maxRecDepth 100000 in
theorem li_X12_unionLaid : Cond.instanceMethod yX12_unionLaid ∈ lw_use := tbk_10 51 rfl (by decide +kernel)
set_option maxRecDepth 100000 in
theorem ls_X12_unionLaid : Cond.selects yX12_unionLaid.cls yX12_unionLaid yX12_unionLaid ∈ lw_use := tb_s 170 (by decide +kernel) (by decide +kernel)
abbrev MX12_untilLaid : MD := (yX12_untilLaid, cX12_untilLaid, 4, some .boolean)
set_option maxRecDepth 100000 in
theorem mo_X12_untilLaid : MOK MX12_untilLaid 2 := ⟨tbk_10 48 rfl (by decide +kernel), tbk_1 14 rfl (by decide +kernel), ⟨by decide +kernel, by decide +kernel⟩, by decide +kernel, by decide, by decide +kernel⟩
set_option maxRecDepth 100000 in
theorem li_X12_untilLaid : Cond.instanceMethod yX12_untilLaid ∈ lw_use := tbk_10 47 rfl (by decide +kernel)
set_option maxRecDepth 100000 in
theorem ls_X12_untilLaid : Cond.selects yX12_untilLaid.cls yX12_untilLaid yX12_untilLaid ∈ lw_use := tb_s 169 (by decide +kernel) (by decide +kernel)
abbrev MX12_uses : MD := (yX12_uses, cX12_uses, 6, some .int)
set_option maxRecDepth 100000 in
theorem mo_X12_uses : MOK MX12_uses 2 := ⟨tbk_9 192 rfl (by decide +kernel), tbk_1 14 rfl (by decide +kernel), ⟨by decide +kernel, by decide +kernel⟩, by decide +kernel, by decide, by decide +kernel⟩
set_option maxRecDepth 100000 in
theorem li_X12_uses : Cond.instanceMethod yX12_uses ∈ lw_use := tbk_9 190 rfl (by decide +kernel)
set_option maxRecDepth 100000 in
theorem ls_X12_uses : Cond.selects yX12_uses.cls yX12_uses yX12_uses ∈ lw_use := tbk_9 191 rfl (by decide +kernel)
abbrev MX12_value : MD := (yX12_value, cX12_value, 3, some .long)
set_option maxRecDepth 100000 in
theorem mo_X12_value : MOK MX12_value 2 := ⟨tbk_10 129 rfl (by decide +kernel), tbk_1 14 rfl (by decide +kernel), ⟨by decide +kernel, by decide +kernel⟩, by decide +kernel, by decide, by decide +kernel⟩
set_option maxRecDepth 100000 in
theorem li_X12_value : Cond.instanceMethod yX12_value ∈ lw_use := tbk_10 127 rfl (by decide +kernel)
set_option maxRecDepth 100000 in
theorem ls_X12_value : Cond.selects yX12_value.cls yX12_value yX12_value ∈ lw_use := tbk_10 128 rfl (by decide +kernel)
abbrev MX12_valueOf : MD := (yX12_valueOf, cX12_valueOf, 6, some .long)
set_option maxRecDepth 100000 in
theorem mo_X12_valueOf : MOK MX12_valueOf 1 := ⟨tbk_10 12 rfl (by decide +kernel), tbk_1 14 rfl (by decide +kernel), ⟨by decide +kernel, by decide +kernel⟩, by decide +kernel, by decide, by decide +kernel⟩
set_option maxRecDepth 100000 in
theorem li_X12_valueOf : Cond.instanceMethod yX12_valueOf ∈ lw_use := tbk_10 11 rfl (by decide +kernel)
set_option maxRecDepth 100000 in
theorem ls_X12_valueOf : Cond.selects yX12_valueOf.cls yX12_valueOf yX12_valueOf ∈ lw_use := tb_s 160 (by decide +kernel) (by decide +kernel)
abbrev MX12_whole : MD := (yX12_whole, cX12_whole, 3, some .int)
set_option maxRecDepth 100000 in
theorem mo_X12_whole : MOK MX12_whole 0 := ⟨tbk_8 234 rfl (by decide +kernel), tbk_1 14 rfl (by decide +kernel), ⟨by decide +kernel, by decide +kernel⟩, by decide +kernel, by decide, by decide +kernel⟩
set_option maxRecDepth 100000 in
theorem li_X12_whole : Cond.instanceMethod yX12_whole ∈ lw_use := tbk_8 233 rfl (by decide +kernel)
set_option maxRecDepth 100000 in
theorem ls_X12_whole : Cond.selects yX12_whole.cls yX12_whole yX12_whole ∈ lw_use := tb_s 100 (by decide +kernel) (by decide +kernel)
abbrev MX12_wholeOn : MD := (yX12_wholeOn, cX12_wholeOn, 2, none)
set_option maxRecDepth 100000 in
theorem mo_X12_wholeOn : MOK MX12_wholeOn 1 := ⟨tbk_9 106 rfl (by decide +kernel), tbk_1 14 rfl (by decide +kernel), ⟨by decide +kernel, by decide +kernel⟩, by decide +kernel, by decide, by decide +kernel⟩
set_option maxRecDepth 100000 in
theorem li_X12_wholeOn : Cond.instanceMethod yX12_wholeOn ∈ lw_use := tbk_9 105 rfl (by decide +kernel)
set_option maxRecDepth 100000 in
theorem ls_X12_wholeOn : Cond.selects yX12_wholeOn.cls yX12_wholeOn yX12_wholeOn ∈ lw_use := tb_s 128 (by decide +kernel) (by decide +kernel)
abbrev MX12_work : MD := (yX12_work, cX12_work, 4, some .long)
set_option maxRecDepth 100000 in
theorem mo_X12_work : MOK MX12_work 3 := ⟨tbk_10 4 rfl (by decide +kernel), tbk_1 14 rfl (by decide +kernel), ⟨by decide +kernel, by decide +kernel⟩, by decide +kernel, by decide, by decide +kernel⟩
set_option maxRecDepth 100000 in
theorem li_X12_work : Cond.instanceMethod yX12_work ∈ lw_use := tbk_10 3 rfl (by decide +kernel)
set_option maxRecDepth 100000 in
theorem ls_X12_work : Cond.selects yX12_work.cls yX12_work yX12_work ∈ lw_use := tb_s 158 (by decide +kernel) (by decide +kernel)
abbrev MX12_worked : MD := (yX12_worked, cX12_worked, 5, some .long)
set_option maxRecDepth 100000 in
theorem mo_X12_worked : MOK MX12_worked 3 := ⟨tbk_10 0 rfl (by decide +kernel), tbk_1 14 rfl (by decide +kernel), ⟨by decide +kernel, by decide +kernel⟩, by decide +kernel, by decide, by decide +kernel⟩
set_option maxRecDepth 100000 in
theorem li_X12_worked : Cond.instanceMethod yX12_worked ∈ lw_use := tbk_9 239 rfl (by decide +kernel)
set_option maxRecDepth 100000 in
theorem ls_X12_worked : Cond.selects yX12_worked.cls yX12_worked yX12_worked ∈ lw_use := tb_s 157 (by decide +kernel) (by decide +kernel)
abbrev MX12_write : MD := (yX12_write, cX12_write, 8, none)
set_option maxRecDepth 100000 in
theorem mo_X12_write : MOK MX12_write 3 := ⟨tbk_8 129 rfl (by decide +kernel), tbk_1 14 rfl (by decide +kernel), ⟨by decide +kernel, by decide +kernel⟩, by decide +kernel, by decide, by decide +kernel⟩
set_option maxRecDepth 100000 in
theorem li_X12_write : Cond.instanceMethod yX12_write ∈ lw_use := tbk_8 128 rfl (by decide +kernel)
set_option maxRecDepth 100000 in
theorem ls_X12_write : Cond.selects yX12_write.cls yX12_write yX12_write ∈ lw_use := tb_s 87 (by decide +kernel) (by decide +kernel)
abbrev MX12_wrong : MD := (yX12_wrong, cX12_wrong, 1, some .int)
set_option maxRecDepth 100000 in
theorem mo_X12_wrong : MOK MX12_wrong 0 := ⟨tbk_8 149 rfl (by decide +kernel), tbk_1 14 rfl (by decide +kernel), ⟨by decide +kernel, by decide +kernel⟩, by decide +kernel, by decide, by decide +kernel⟩
set_option maxRecDepth 100000 in
theorem li_X12_wrong : Cond.instanceMethod yX12_wrong ∈ lw_use := tbk_8 147 rfl (by decide +kernel)
set_option maxRecDepth 100000 in
theorem ls_X12_wrong : Cond.selects yX12_wrong.cls yX12_wrong yX12_wrong ∈ lw_use := tbk_8 148 rfl (by decide +kernel)
abbrev MJ9_floorMod_f86c9 : MD := (yJ9_floorMod_f86c9, cJ9_floorMod_f86c9, 6, some .long)
set_option maxRecDepth 100000 in
theorem mo_J9_floorMod_f86c9 : MOK MJ9_floorMod_f86c9 2 := ⟨tbk_5 47 rfl (by decide +kernel), tbk_1 19 rfl (by decide +kernel), ⟨by decide +kernel, by decide +kernel⟩, by decide +kernel, by decide, by decide +kernel⟩
set_option maxRecDepth 100000 in
theorem lt_J9_floorMod_f86c9 : Cond.static yJ9_floorMod_f86c9 ∈ lw_use := tbk_5 46 rfl (by decide +kernel)
abbrev MJ9_max_7cf53 : MD := (yJ9_max_7cf53, cJ9_max_7cf53, 2, some .int)
set_option maxRecDepth 100000 in
theorem mo_J9_max_7cf53 : MOK MJ9_max_7cf53 2 := ⟨tbk_4 21 rfl (by decide +kernel), tbk_1 19 rfl (by decide +kernel), ⟨by decide +kernel, by decide +kernel⟩, by decide +kernel, by decide, by decide +kernel⟩
set_option maxRecDepth 100000 in
theorem lt_J9_max_7cf53 : Cond.static yJ9_max_7cf53 ∈ lw_use := tbk_4 20 rfl (by decide +kernel)
abbrev MJ9_min_7cf53 : MD := (yJ9_min_7cf53, cJ9_min_7cf53, 2, some .int)
set_option maxRecDepth 100000 in
theorem mo_J9_min_7cf53 : MOK MJ9_min_7cf53 2 := ⟨tbk_4 24 rfl (by decide +kernel), tbk_1 19 rfl (by decide +kernel), ⟨by decide +kernel, by decide +kernel⟩, by decide +kernel, by decide, by decide +kernel⟩
set_option maxRecDepth 100000 in
theorem lt_J9_min_7cf53 : Cond.static yJ9_min_7cf53 ∈ lw_use := tbk_4 23 rfl (by decide +kernel)
abbrev MJ7_fill_53178 : MD := (yJ7_fill_53178, cJ7_fill_53178, 4, none)
set_option maxRecDepth 100000 in
theorem mo_J7_fill_53178 : MOK MJ7_fill_53178 2 := ⟨tbk_3 126 rfl (by decide +kernel), tbk_1 17 rfl (by decide +kernel), ⟨by decide +kernel, by decide +kernel⟩, by decide +kernel, by decide, by decide +kernel⟩
set_option maxRecDepth 100000 in
theorem lt_J7_fill_53178 : Cond.static yJ7_fill_53178 ∈ lw_use := tbk_3 125 rfl (by decide +kernel)
set_option maxRecDepth 100000 in
theorem lm_X11_3 : Cond.methodLink RX11 3 Lib.objectInit ∈ lw_use := tbk_1 27 rfl (by decide +kernel)
set_option maxRecDepth 100000 in
theorem lm_X11_17 : Cond.methodLink RX11 17 yX9_init ∈ lw_use := tbk_1 34 rfl (by decide +kernel)
set_option maxRecDepth 100000 in
theorem lm_X11_24 : Cond.methodLinkNest RX11 24 yX6_init "OverlayViewer" ∈ lw_use := tbk_1 123 rfl (by decide +kernel)
set_option maxRecDepth 100000 in
theorem lm_X11_31 : Cond.methodLinkNest RX11 31 yX7_init "OverlayViewer" ∈ lw_use := tbk_1 165 rfl (by decide +kernel)
set_option maxRecDepth 100000 in
theorem lm_X11_38 : Cond.methodLink RX11 38 yX1_init ∈ lw_use := tbk_1 183 rfl (by decide +kernel)
set_option maxRecDepth 100000 in
theorem lm_X11_48 : Cond.methodLinkNest RX11 48 yX0_init "OverlayViewer" ∈ lw_use := tbk_2 165 rfl (by decide +kernel)
set_option maxRecDepth 100000 in
theorem lm_X11_59 : Cond.methodLinkNest RX11 59 yX10_init "OverlayViewer" ∈ lw_use := tbk_2 169 rfl (by decide +kernel)
set_option maxRecDepth 100000 in
theorem lm_X11_78 : Cond.methodLinkNest RX11 78 yX3_init "OverlayViewer" ∈ lw_use := tbk_3 26 rfl (by decide +kernel)
set_option maxRecDepth 100000 in
theorem lm_X11_79 : Cond.methodLink RX11 79 yX11_imageOf ∈ lw_use := tbk_3 58 rfl (by decide +kernel)
set_option maxRecDepth 100000 in
theorem lm_X11_89 : Cond.methodLink RX11 89 yX3_append ∈ lw_use := tbk_3 62 rfl (by decide +kernel)
set_option maxRecDepth 100000 in
theorem lm_X11_93 : Cond.methodLink RX11 93 yX3_has ∈ lw_use := tbk_3 73 rfl (by decide +kernel)
set_option maxRecDepth 100000 in
theorem lm_X11_97 : Cond.methodLink RX11 97 yX3_addLayer ∈ lw_use := tbk_3 85 rfl (by decide +kernel)
set_option maxRecDepth 100000 in
theorem lm_X11_100 : Cond.methodLink RX11 100 yX3_sinkTop ∈ lw_use := tbk_3 131 rfl (by decide +kernel)
set_option maxRecDepth 100000 in
theorem lm_X11_104 : Cond.methodLink RX11 104 yX3_shedTop ∈ lw_use := tbk_3 147 rfl (by decide +kernel)
set_option maxRecDepth 100000 in
theorem lm_X11_107 : Cond.methodLink RX11 107 yX3_write ∈ lw_use := tbk_3 159 rfl (by decide +kernel)
set_option maxRecDepth 100000 in
theorem lm_X11_111 : Cond.methodLink RX11 111 yX3_takeBack ∈ lw_use := tbk_3 178 rfl (by decide +kernel)
set_option maxRecDepth 100000 in
theorem lm_X11_114 : Cond.methodLink RX11 114 yX3_top ∈ lw_use := tbk_3 186 rfl (by decide +kernel)
set_option maxRecDepth 100000 in
theorem lm_X11_118 : Cond.methodLink RX11 118 yX4_placeOf ∈ lw_use := tbk_3 187 rfl (by decide +kernel)
set_option maxRecDepth 100000 in
theorem lm_X11_126 : Cond.methodLink RX11 126 yX9_append ∈ lw_use := tbk_3 195 rfl (by decide +kernel)
set_option maxRecDepth 100000 in
theorem lm_X11_127 : Cond.methodLink RX11 127 yX9_split ∈ lw_use := tbk_3 208 rfl (by decide +kernel)
set_option maxRecDepth 100000 in
theorem lm_X11_130 : Cond.methodLink RX11 130 yX6_readDescription ∈ lw_use := tbk_4 64 rfl (by decide +kernel)
set_option maxRecDepth 100000 in
theorem lm_X11_149 : Cond.methodLink RX11 149 yX11_isStructure ∈ lw_use := tbk_5 73 rfl (by decide +kernel)
set_option maxRecDepth 100000 in
theorem lm_X11_165 : Cond.methodLink RX11 165 yX10_layAll ∈ lw_use := tbk_5 85 rfl (by decide +kernel)
set_option maxRecDepth 100000 in
theorem lm_X11_173 : Cond.methodLink RX11 173 yX11_treeOf ∈ lw_use := tbk_6 89 rfl (by decide +kernel)
set_option maxRecDepth 100000 in
theorem lm_X11_188 : Cond.methodLink RX11 188 yX11_nodeOf ∈ lw_use := tbk_6 101 rfl (by decide +kernel)
set_option maxRecDepth 100000 in
theorem lm_X11_218 : Cond.methodLink RX11 218 yX5_kidAt ∈ lw_use := tbk_6 109 rfl (by decide +kernel)
set_option maxRecDepth 100000 in
theorem lm_X11_222 : Cond.methodLink RX11 222 yX5_reading ∈ lw_use := tbk_6 114 rfl (by decide +kernel)
set_option maxRecDepth 100000 in
theorem lm_X11_226 : Cond.methodLink RX11 226 yX5_hasSign ∈ lw_use := tbk_6 119 rfl (by decide +kernel)
set_option maxRecDepth 100000 in
theorem lm_X11_233 : Cond.methodLink RX11 233 yX11_letterOf ∈ lw_use := tbk_6 127 rfl (by decide +kernel)
set_option maxRecDepth 100000 in
theorem lm_X11_246 : Cond.methodLink RX11 246 yX1_pairWith ∈ lw_use := tbk_6 131 rfl (by decide +kernel)
set_option maxRecDepth 100000 in
theorem lm_X11_254 : Cond.methodLink RX11 254 yX10_faultCount ∈ lw_use := tbk_6 136 rfl (by decide +kernel)
set_option maxRecDepth 100000 in
theorem lm_X11_257 : Cond.methodLink RX11 257 yX10_firstFault ∈ lw_use := tbk_6 140 rfl (by decide +kernel)
set_option maxRecDepth 100000 in
theorem lm_X11_266 : Cond.methodLink RX11 266 yX11_kidByToken ∈ lw_use := tbk_6 148 rfl (by decide +kernel)
set_option maxRecDepth 100000 in
theorem lm_X11_270 : Cond.methodLink RX11 270 yX6_readQuestion ∈ lw_use := tbk_6 161 rfl (by decide +kernel)
set_option maxRecDepth 100000 in
theorem lm_X11_274 : Cond.methodLink RX11 274 yX7_work ∈ lw_use := tbk_6 165 rfl (by decide +kernel)
set_option maxRecDepth 100000 in
theorem lm_X11_284 : Cond.methodLink RX11 284 yX5_hasNumber ∈ lw_use := tbk_6 174 rfl (by decide +kernel)
set_option maxRecDepth 100000 in
theorem lm_X11_288 : Cond.methodLink RX11 288 yX5_canHave ∈ lw_use := tbk_6 175 rfl (by decide +kernel)
set_option maxRecDepth 100000 in
theorem lm_X11_298 : Cond.methodLink RX11 298 yX3_read ∈ lw_use := tbk_6 179 rfl (by decide +kernel)
set_option maxRecDepth 100000 in
theorem lm_X11_302 : Cond.methodLink RX11 302 yX5_withPart ∈ lw_use := tbk_6 180 rfl (by decide +kernel)
set_option maxRecDepth 100000 in
theorem lm_X11_311 : Cond.methodLink RX11 311 yX10_makeDue ∈ lw_use := tbk_6 193 rfl (by decide +kernel)
set_option maxRecDepth 100000 in
theorem lm_X11_315 : Cond.methodLink RX11 315 yX11_byteOf ∈ lw_use := tbk_6 130 rfl (by decide +kernel)
set_option maxRecDepth 100000 in
theorem lm_X11_318 : Cond.methodLink RX11 318 yX11_matchOf ∈ lw_use := tbk_6 202 rfl (by decide +kernel)
set_option maxRecDepth 100000 in
theorem lm_X11_347 : Cond.methodLink RX11 347 yX10_deepestOver ∈ lw_use := tbk_6 222 rfl (by decide +kernel)
set_option maxRecDepth 100000 in
theorem lm_X11_350 : Cond.methodLink RX11 350 yX10_markGaps ∈ lw_use := tbk_6 230 rfl (by decide +kernel)
set_option maxRecDepth 100000 in
theorem lm_X11_354 : Cond.methodLink RX11 354 yX11_stretchOf ∈ lw_use := tbk_6 239 rfl (by decide +kernel)
set_option maxRecDepth 100000 in
theorem lm_X11_358 : Cond.methodLink RX11 358 yJ9_max_7cf53 ∈ lw_use := tbk_7 7 rfl (by decide +kernel)
set_option maxRecDepth 100000 in
theorem lm_X11_364 : Cond.methodLink RX11 364 yJ9_min_7cf53 ∈ lw_use := tbk_7 12 rfl (by decide +kernel)
set_option maxRecDepth 100000 in
theorem lm_X11_367 : Cond.methodLink RX11 367 yX11_figureOf ∈ lw_use := tbk_7 13 rfl (by decide +kernel)
set_option maxRecDepth 100000 in
theorem lm_X11_370 : Cond.methodLink RX11 370 yX11_cellByte ∈ lw_use := tbk_7 16 rfl (by decide +kernel)
set_option maxRecDepth 100000 in
theorem lm_X11_376 : Cond.methodLink RX11 376 yX11_nodeTotal ∈ lw_use := tbk_7 23 rfl (by decide +kernel)
set_option maxRecDepth 100000 in
theorem lm_X11_379 : Cond.methodLink RX11 379 yX11_layerTotal ∈ lw_use := tbk_7 27 rfl (by decide +kernel)
set_option maxRecDepth 100000 in
theorem lm_X11_382 : Cond.methodLink RX11 382 yX11_writeTotal ∈ lw_use := tbk_7 31 rfl (by decide +kernel)
set_option maxRecDepth 100000 in
theorem lm_X11_392 : Cond.methodLink RX11 392 yX5_kidNamed ∈ lw_use := tbk_6 152 rfl (by decide +kernel)
set_option maxRecDepth 100000 in
theorem lm_X11_398 : Cond.methodLink RX11 398 yX11_matches ∈ lw_use := tbk_6 206 rfl (by decide +kernel)
set_option maxRecDepth 100000 in
theorem lm_X0_3 : Cond.methodLink RX0 3 Lib.objectInit ∈ lw_use := tbk_1 194 rfl (by decide +kernel)
set_option maxRecDepth 100000 in
theorem lm_X0_23 : Cond.methodLink RX0 23 yX0_stepAt ∈ lw_use := tbk_5 32 rfl (by decide +kernel)
set_option maxRecDepth 100000 in
theorem lm_X1_3 : Cond.methodLink RX1 3 Lib.objectInit ∈ lw_use := tbk_1 186 rfl (by decide +kernel)
set_option maxRecDepth 100000 in
theorem lm_X1_39 : Cond.methodLinkNest RX1 39 yX0_init "OverlayViewer" ∈ lw_use := tbk_1 191 rfl (by decide +kernel)
set_option maxRecDepth 100000 in
theorem lm_X1_44 : Cond.methodLink RX1 44 yX8_init ∈ lw_use := tbk_1 211 rfl (by decide +kernel)
set_option maxRecDepth 100000 in
theorem lm_X1_62 : Cond.methodLink RX1 62 yX1_entryWith ∈ lw_use := tbk_6 18 rfl (by decide +kernel)
set_option maxRecDepth 100000 in
theorem lm_X1_76 : Cond.methodLink RX1 76 yX1_fieldSize ∈ lw_use := tbk_5 18 rfl (by decide +kernel)
set_option maxRecDepth 100000 in
theorem lm_X1_95 : Cond.methodLink RX1 95 yX1_sizeOf ∈ lw_use := tbk_5 23 rfl (by decide +kernel)
set_option maxRecDepth 100000 in
theorem lm_X1_99 : Cond.methodLink RX1 99 yX1_arraySize ∈ lw_use := tbk_5 24 rfl (by decide +kernel)
set_option maxRecDepth 100000 in
theorem lm_X1_106 : Cond.methodLink RX1 106 yX0_alone ∈ lw_use := tbk_5 28 rfl (by decide +kernel)
set_option maxRecDepth 100000 in
theorem lm_X1_110 : Cond.methodLink RX1 110 yX1_unionSize ∈ lw_use := tbk_5 37 rfl (by decide +kernel)
set_option maxRecDepth 100000 in
theorem lm_X1_114 : Cond.methodLink RX1 114 yX2_padding ∈ lw_use := tbk_5 41 rfl (by decide +kernel)
set_option maxRecDepth 100000 in
theorem lm_X1_131 : Cond.methodLink RX1 131 yX1_usedBy ∈ lw_use := tbk_5 61 rfl (by decide +kernel)
set_option maxRecDepth 100000 in
theorem lm_X2_3 : Cond.methodLink RX2 3 Lib.objectInit ∈ lw_use := tbk_1 221 rfl (by decide +kernel)
set_option maxRecDepth 100000 in
theorem lm_X2_69 : Cond.methodLink RX2 69 yJ9_floorMod_f86c9 ∈ lw_use := tbk_5 45 rfl (by decide +kernel)
set_option maxRecDepth 100000 in
theorem lm_X3_3 : Cond.methodLink RX3 3 Lib.objectInit ∈ lw_use := tbk_3 29 rfl (by decide +kernel)
set_option maxRecDepth 100000 in
theorem lm_X3_31 : Cond.methodLinkNest RX3 31 yX11_byteOf "OverlayViewer" ∈ lw_use := tbk_3 66 rfl (by decide +kernel)
set_option maxRecDepth 100000 in
theorem lm_X3_35 : Cond.methodLinkNest RX3 35 yX4_init "OverlayViewer" ∈ lw_use := tbk_3 90 rfl (by decide +kernel)
set_option maxRecDepth 100000 in
theorem lm_X3_36 : Cond.methodLink RX3 36 yX4_wipe ∈ lw_use := tbk_3 120 rfl (by decide +kernel)
set_option maxRecDepth 100000 in
theorem lm_X3_39 : Cond.methodLink RX3 39 yX3_top ∈ lw_use := tbk_3 135 rfl (by decide +kernel)
set_option maxRecDepth 100000 in
theorem lm_X3_46 : Cond.methodLink RX3 46 yX4_give ∈ lw_use := tbk_3 139 rfl (by decide +kernel)
set_option maxRecDepth 100000 in
theorem lm_X3_53 : Cond.methodLink RX3 53 yX3_refresh ∈ lw_use := tbk_3 151 rfl (by decide +kernel)
set_option maxRecDepth 100000 in
theorem lm_X3_69 : Cond.methodLink RX3 69 yX4_keep ∈ lw_use := tbk_3 163 rfl (by decide +kernel)
set_option maxRecDepth 100000 in
theorem lm_X4_3 : Cond.methodLink RX4 3 Lib.objectInit ∈ lw_use := tbk_3 93 rfl (by decide +kernel)
set_option maxRecDepth 100000 in
theorem lm_X4_24 : Cond.methodLink RX4 24 yJ7_fill_53178 ∈ lw_use := tbk_3 124 rfl (by decide +kernel)
set_option maxRecDepth 100000 in
theorem lm_X4_37 : Cond.methodLink RX4 37 yX4_forgetOldest ∈ lw_use := tbk_3 167 rfl (by decide +kernel)
set_option maxRecDepth 100000 in
theorem lm_X5_3 : Cond.methodLink RX5 3 Lib.objectInit ∈ lw_use := tbk_5 101 rfl (by decide +kernel)
set_option maxRecDepth 100000 in
theorem lm_X5_72 : Cond.methodLink RX5 72 yX5_kidAt ∈ lw_use := tbk_5 206 rfl (by decide +kernel)
set_option maxRecDepth 100000 in
theorem lm_X5_76 : Cond.methodLink RX5 76 yX5_signs ∈ lw_use := tbk_5 214 rfl (by decide +kernel)
set_option maxRecDepth 100000 in
theorem lm_X5_83 : Cond.methodLink RX5 83 yX5_hasNumber ∈ lw_use := tbk_5 218 rfl (by decide +kernel)
set_option maxRecDepth 100000 in
theorem lm_X5_93 : Cond.methodLink RX5 93 yX3_read ∈ lw_use := tbk_5 222 rfl (by decide +kernel)
set_option maxRecDepth 100000 in
theorem lm_X5_99 : Cond.methodLinkNest RX5 99 yX11_lowBits "OverlayViewer" ∈ lw_use := tbk_5 226 rfl (by decide +kernel)
set_option maxRecDepth 100000 in
theorem lm_X6_3 : Cond.methodLink RX6 3 Lib.objectInit ∈ lw_use := tbk_1 126 rfl (by decide +kernel)
set_option maxRecDepth 100000 in
theorem lm_X6_15 : Cond.methodLink RX6 15 yX6_start ∈ lw_use := tbk_4 68 rfl (by decide +kernel)
set_option maxRecDepth 100000 in
theorem lm_X6_21 : Cond.methodLink RX6 21 yX1_forget ∈ lw_use := tbk_4 72 rfl (by decide +kernel)
set_option maxRecDepth 100000 in
theorem lm_X6_28 : Cond.methodLink RX6 28 yX6_check ∈ lw_use := tbk_4 76 rfl (by decide +kernel)
set_option maxRecDepth 100000 in
theorem lm_X6_32 : Cond.methodLink RX6 32 yX6_readEnum ∈ lw_use := tbk_4 80 rfl (by decide +kernel)
set_option maxRecDepth 100000 in
theorem lm_X6_36 : Cond.methodLink RX6 36 yX6_readStructure ∈ lw_use := tbk_4 124 rfl (by decide +kernel)
set_option maxRecDepth 100000 in
theorem lm_X6_39 : Cond.methodLink RX6 39 yX6_findAims ∈ lw_use := tbk_5 49 rfl (by decide +kernel)
set_option maxRecDepth 100000 in
theorem lm_X6_42 : Cond.methodLink RX6 42 yX1_gatherUses ∈ lw_use := tbk_5 57 rfl (by decide +kernel)
set_option maxRecDepth 100000 in
theorem lm_X6_58 : Cond.methodLink RX6 58 yX6_readExpression ∈ lw_use := tbk_4 140 rfl (by decide +kernel)
set_option maxRecDepth 100000 in
theorem lm_X6_100 : Cond.methodLink RX6 100 yX6_pass ∈ lw_use := tbk_4 84 rfl (by decide +kernel)
set_option maxRecDepth 100000 in
theorem lm_X6_110 : Cond.methodLink RX6 110 yX2_setType ∈ lw_use := tbk_4 172 rfl (by decide +kernel)
set_option maxRecDepth 100000 in
theorem lm_X6_116 : Cond.methodLink RX6 116 yX6_take ∈ lw_use := tbk_4 100 rfl (by decide +kernel)
set_option maxRecDepth 100000 in
theorem lm_X6_120 : Cond.methodLink RX6 120 yX1_structureNamed ∈ lw_use := tbk_4 96 rfl (by decide +kernel)
set_option maxRecDepth 100000 in
theorem lm_X6_124 : Cond.methodLink RX6 124 yX1_enumNamed ∈ lw_use := tbk_4 92 rfl (by decide +kernel)
set_option maxRecDepth 100000 in
theorem lm_X6_130 : Cond.methodLink RX6 130 yX6_isNewItem ∈ lw_use := tbk_4 88 rfl (by decide +kernel)
set_option maxRecDepth 100000 in
theorem lm_X6_145 : Cond.methodLink RX6 145 yX6_readPair ∈ lw_use := tbk_4 104 rfl (by decide +kernel)
set_option maxRecDepth 100000 in
theorem lm_X6_148 : Cond.methodLink RX6 148 yX6_takeIf ∈ lw_use := tbk_4 120 rfl (by decide +kernel)
set_option maxRecDepth 100000 in
theorem lm_X6_151 : Cond.methodLink RX6 151 yX1_entryNamed ∈ lw_use := tbk_4 108 rfl (by decide +kernel)
set_option maxRecDepth 100000 in
theorem lm_X6_155 : Cond.methodLink RX6 155 yX6_takeSigned ∈ lw_use := tbk_4 112 rfl (by decide +kernel)
set_option maxRecDepth 100000 in
theorem lm_X6_158 : Cond.methodLink RX6 158 yX1_addEntry ∈ lw_use := tbk_4 116 rfl (by decide +kernel)
set_option maxRecDepth 100000 in
theorem lm_X6_173 : Cond.methodLink RX6 173 yX6_readField ∈ lw_use := tbk_4 128 rfl (by decide +kernel)
set_option maxRecDepth 100000 in
theorem lm_X6_176 : Cond.methodLink RX6 176 yX1_measure ∈ lw_use := tbk_5 14 rfl (by decide +kernel)
set_option maxRecDepth 100000 in
theorem lm_X6_183 : Cond.methodLink RX6 183 yX6_startsCore ∈ lw_use := tbk_4 132 rfl (by decide +kernel)
set_option maxRecDepth 100000 in
theorem lm_X6_190 : Cond.methodLink RX6 190 yX2_forget ∈ lw_use := tbk_4 136 rfl (by decide +kernel)
set_option maxRecDepth 100000 in
theorem lm_X6_194 : Cond.methodLink RX6 194 yX6_readWhole ∈ lw_use := tbk_4 164 rfl (by decide +kernel)
set_option maxRecDepth 100000 in
theorem lm_X6_197 : Cond.methodLink RX6 197 yX6_readTail ∈ lw_use := tbk_4 186 rfl (by decide +kernel)
set_option maxRecDepth 100000 in
theorem lm_X6_200 : Cond.methodLink RX6 200 yX6_readStruct ∈ lw_use := tbk_4 198 rfl (by decide +kernel)
set_option maxRecDepth 100000 in
theorem lm_X6_203 : Cond.methodLink RX6 203 yX6_readBits ∈ lw_use := tbk_4 206 rfl (by decide +kernel)
set_option maxRecDepth 100000 in
theorem lm_X6_206 : Cond.methodLink RX6 206 yX6_readText ∈ lw_use := tbk_4 219 rfl (by decide +kernel)
set_option maxRecDepth 100000 in
theorem lm_X6_209 : Cond.methodLink RX6 209 yX6_readUnion ∈ lw_use := tbk_4 224 rfl (by decide +kernel)
set_option maxRecDepth 100000 in
theorem lm_X6_212 : Cond.methodLink RX6 212 yX6_readPointer ∈ lw_use := tbk_4 232 rfl (by decide +kernel)
set_option maxRecDepth 100000 in
theorem lm_X6_215 : Cond.methodLink RX6 215 yX6_readPad ∈ lw_use := tbk_4 237 rfl (by decide +kernel)
set_option maxRecDepth 100000 in
theorem lm_X6_218 : Cond.methodLink RX6 218 yX6_readMagic ∈ lw_use := tbk_5 2 rfl (by decide +kernel)
set_option maxRecDepth 100000 in
theorem lm_X6_221 : Cond.methodLink RX6 221 yX6_readSum ∈ lw_use := tbk_5 10 rfl (by decide +kernel)
set_option maxRecDepth 100000 in
theorem lm_X6_224 : Cond.methodLink RX6 224 yX6_isTold ∈ lw_use := tbk_4 182 rfl (by decide +kernel)
set_option maxRecDepth 100000 in
theorem lm_X6_234 : Cond.methodLink RX6 234 yX6_takeType ∈ lw_use := tbk_4 168 rfl (by decide +kernel)
set_option maxRecDepth 100000 in
theorem lm_X6_237 : Cond.methodLink RX6 237 yX6_takeOwnName ∈ lw_use := tbk_4 178 rfl (by decide +kernel)
set_option maxRecDepth 100000 in
theorem lm_X6_240 : Cond.methodLink RX6 240 yX6_takeStructure ∈ lw_use := tbk_4 202 rfl (by decide +kernel)
set_option maxRecDepth 100000 in
theorem lm_X6_245 : Cond.methodLink RX6 245 yX6_takeEnum ∈ lw_use := tbk_4 190 rfl (by decide +kernel)
set_option maxRecDepth 100000 in
theorem lm_X6_254 : Cond.methodLink RX6 254 yX1_sizeOf ∈ lw_use := tbk_4 194 rfl (by decide +kernel)
set_option maxRecDepth 100000 in
theorem lm_X6_258 : Cond.methodLink RX6 258 yX6_readPart ∈ lw_use := tbk_4 210 rfl (by decide +kernel)
set_option maxRecDepth 100000 in
theorem lm_X6_264 : Cond.methodLink RX6 264 yJ9_min_7cf53 ∈ lw_use := tbk_4 214 rfl (by decide +kernel)
set_option maxRecDepth 100000 in
theorem lm_X6_270 : Cond.methodLink RX6 270 yX6_takeNumber ∈ lw_use := tbk_4 215 rfl (by decide +kernel)
set_option maxRecDepth 100000 in
theorem lm_X6_277 : Cond.methodLink RX6 277 yX6_readCase ∈ lw_use := tbk_4 228 rfl (by decide +kernel)
set_option maxRecDepth 100000 in
theorem lm_X6_293 : Cond.methodLink RX6 293 yX6_readByte ∈ lw_use := tbk_5 6 rfl (by decide +kernel)
set_option maxRecDepth 100000 in
theorem lm_X6_301 : Cond.methodLink RX6 301 yX6_findAim ∈ lw_use := tbk_5 53 rfl (by decide +kernel)
set_option maxRecDepth 100000 in
theorem lm_X6_305 : Cond.methodLink RX6 305 yX6_readLevel ∈ lw_use := tbk_4 144 rfl (by decide +kernel)
set_option maxRecDepth 100000 in
theorem lm_X6_309 : Cond.methodLink RX6 309 yX0_add ∈ lw_use := tbk_4 157 rfl (by decide +kernel)
set_option maxRecDepth 100000 in
theorem lm_X6_313 : Cond.methodLink RX6 313 yX6_readFactor ∈ lw_use := tbk_4 148 rfl (by decide +kernel)
set_option maxRecDepth 100000 in
theorem lm_X6_316 : Cond.methodLink RX6 316 yX6_levelOf ∈ lw_use := tbk_4 161 rfl (by decide +kernel)
set_option maxRecDepth 100000 in
theorem lm_X6_319 : Cond.methodLink RX6 319 yX6_operandNamed ∈ lw_use := tbk_4 152 rfl (by decide +kernel)
set_option maxRecDepth 100000 in
theorem lm_X7_3 : Cond.methodLink RX7 3 Lib.objectInit ∈ lw_use := tbk_1 168 rfl (by decide +kernel)
set_option maxRecDepth 100000 in
theorem lm_X7_35 : Cond.methodLink RX7 35 yX7_stackUp ∈ lw_use := tbk_5 198 rfl (by decide +kernel)
set_option maxRecDepth 100000 in
theorem lm_X7_49 : Cond.methodLink RX7 49 yX5_kidMeant ∈ lw_use := tbk_5 202 rfl (by decide +kernel)
set_option maxRecDepth 100000 in
theorem lm_X7_56 : Cond.methodLink RX7 56 yX5_reading ∈ lw_use := tbk_5 210 rfl (by decide +kernel)
set_option maxRecDepth 100000 in
theorem lm_X7_60 : Cond.methodLink RX7 60 yX7_workOne ∈ lw_use := tbk_5 230 rfl (by decide +kernel)
set_option maxRecDepth 100000 in
theorem lm_X7_64 : Cond.methodLink RX7 64 yX7_workTwo ∈ lw_use := tbk_5 234 rfl (by decide +kernel)
set_option maxRecDepth 100000 in
theorem lm_X7_67 : Cond.methodLink RX7 67 yX7_joined ∈ lw_use := tbk_5 238 rfl (by decide +kernel)
set_option maxRecDepth 100000 in
theorem lm_X8_3 : Cond.methodLink RX8 3 Lib.objectInit ∈ lw_use := tbk_1 214 rfl (by decide +kernel)
set_option maxRecDepth 100000 in
theorem lm_X8_17 : Cond.methodLink RX8 17 yX2_init ∈ lw_use := tbk_1 218 rfl (by decide +kernel)
set_option maxRecDepth 100000 in
theorem lm_X9_3 : Cond.methodLink RX9 3 Lib.objectInit ∈ lw_use := tbk_1 37 rfl (by decide +kernel)
set_option maxRecDepth 100000 in
theorem lm_X9_44 : Cond.methodLinkNest RX9 44 yX11_byteOf "OverlayViewer" ∈ lw_use := tbk_3 199 rfl (by decide +kernel)
set_option maxRecDepth 100000 in
theorem lm_X9_51 : Cond.methodLink RX9 51 yX9_isSmall ∈ lw_use := tbk_3 212 rfl (by decide +kernel)
set_option maxRecDepth 100000 in
theorem lm_X9_55 : Cond.methodLink RX9 55 yX9_rowEnd ∈ lw_use := tbk_3 215 rfl (by decide +kernel)
set_option maxRecDepth 100000 in
theorem lm_X9_59 : Cond.methodLink RX9 59 yX9_addWord ∈ lw_use := tbk_3 222 rfl (by decide +kernel)
set_option maxRecDepth 100000 in
theorem lm_X9_63 : Cond.methodLink RX9 63 yX9_isDigit ∈ lw_use := tbk_3 219 rfl (by decide +kernel)
set_option maxRecDepth 100000 in
theorem lm_X9_66 : Cond.methodLink RX9 66 yX9_numberIn ∈ lw_use := tbk_3 238 rfl (by decide +kernel)
set_option maxRecDepth 100000 in
theorem lm_X9_72 : Cond.methodLink RX9 72 yX9_addToken ∈ lw_use := tbk_3 226 rfl (by decide +kernel)
set_option maxRecDepth 100000 in
theorem lm_X9_81 : Cond.methodLink RX9 81 yJ9_max_7cf53 ∈ lw_use := tbk_4 63 rfl (by decide +kernel)
set_option maxRecDepth 100000 in
theorem lm_X9_87 : Cond.methodLink RX9 87 yX9_typeIn ∈ lw_use := tbk_3 230 rfl (by decide +kernel)
set_option maxRecDepth 100000 in
theorem lm_X9_90 : Cond.methodLink RX9 90 yX9_keywordOf ∈ lw_use := tbk_3 234 rfl (by decide +kernel)
set_option maxRecDepth 100000 in
theorem lm_X10_3 : Cond.methodLink RX10 3 Lib.objectInit ∈ lw_use := tbk_2 172 rfl (by decide +kernel)
set_option maxRecDepth 100000 in
theorem lm_X10_43 : Cond.methodLink RX10 43 yX10_addStruct ∈ lw_use := tbk_5 89 rfl (by decide +kernel)
set_option maxRecDepth 100000 in
theorem lm_X10_50 : Cond.methodLink RX10 50 yX5_covers ∈ lw_use := tbk_6 79 rfl (by decide +kernel)
set_option maxRecDepth 100000 in
theorem lm_X10_57 : Cond.methodLink RX10 57 yJ7_fill_53178 ∈ lw_use := tbk_6 234 rfl (by decide +kernel)
set_option maxRecDepth 100000 in
theorem lm_X10_63 : Cond.methodLink RX10 63 yX5_holdsOthers ∈ lw_use := tbk_6 235 rfl (by decide +kernel)
set_option maxRecDepth 100000 in
theorem lm_X10_86 : Cond.methodLink RX10 86 yX10_rangeFault ∈ lw_use := tbk_6 71 rfl (by decide +kernel)
set_option maxRecDepth 100000 in
theorem lm_X10_95 : Cond.methodLink RX10 95 yX10_due ∈ lw_use := tbk_6 75 rfl (by decide +kernel)
set_option maxRecDepth 100000 in
theorem lm_X10_102 : Cond.methodLink RX10 102 yX3_write ∈ lw_use := tbk_6 197 rfl (by decide +kernel)
set_option maxRecDepth 100000 in
theorem lm_X10_106 : Cond.methodLink RX10 106 yX5_init ∈ lw_use := tbk_5 98 rfl (by decide +kernel)
set_option maxRecDepth 100000 in
theorem lm_X10_109 : Cond.methodLink RX10 109 yX5_begin ∈ lw_use := tbk_5 178 rfl (by decide +kernel)
set_option maxRecDepth 100000 in
theorem lm_X10_113 : Cond.methodLink RX10 113 yX5_addKid ∈ lw_use := tbk_5 182 rfl (by decide +kernel)
set_option maxRecDepth 100000 in
theorem lm_X10_129 : Cond.methodLink RX10 129 yX10_addNode ∈ lw_use := tbk_5 93 rfl (by decide +kernel)
set_option maxRecDepth 100000 in
theorem lm_X10_133 : Cond.methodLink RX10 133 yX10_layStruct ∈ lw_use := tbk_5 186 rfl (by decide +kernel)
set_option maxRecDepth 100000 in
theorem lm_X10_145 : Cond.methodLink RX10 145 yX10_isThere ∈ lw_use := tbk_5 190 rfl (by decide +kernel)
set_option maxRecDepth 100000 in
theorem lm_X10_149 : Cond.methodLink RX10 149 yX10_layField ∈ lw_use := tbk_6 1 rfl (by decide +kernel)
set_option maxRecDepth 100000 in
theorem lm_X10_160 : Cond.methodLink RX10 160 yX7_work ∈ lw_use := tbk_5 194 rfl (by decide +kernel)
set_option maxRecDepth 100000 in
theorem lm_X10_174 : Cond.methodLink RX10 174 yX10_layWhole ∈ lw_use := tbk_6 5 rfl (by decide +kernel)
set_option maxRecDepth 100000 in
theorem lm_X10_178 : Cond.methodLink RX10 178 yX10_layArray ∈ lw_use := tbk_6 22 rfl (by decide +kernel)
set_option maxRecDepth 100000 in
theorem lm_X10_181 : Cond.methodLink RX10 181 yX10_layBits ∈ lw_use := tbk_6 36 rfl (by decide +kernel)
set_option maxRecDepth 100000 in
theorem lm_X10_187 : Cond.methodLink RX10 187 yX10_layUntil ∈ lw_use := tbk_6 40 rfl (by decide +kernel)
set_option maxRecDepth 100000 in
theorem lm_X10_190 : Cond.methodLink RX10 190 yX10_layText ∈ lw_use := tbk_6 44 rfl (by decide +kernel)
set_option maxRecDepth 100000 in
theorem lm_X10_193 : Cond.methodLink RX10 193 yX10_layUnion ∈ lw_use := tbk_6 48 rfl (by decide +kernel)
set_option maxRecDepth 100000 in
theorem lm_X10_197 : Cond.methodLink RX10 197 yX10_layPointer ∈ lw_use := tbk_6 53 rfl (by decide +kernel)
set_option maxRecDepth 100000 in
theorem lm_X10_200 : Cond.methodLink RX10 200 yX2_padding ∈ lw_use := tbk_6 60 rfl (by decide +kernel)
set_option maxRecDepth 100000 in
theorem lm_X10_204 : Cond.methodLink RX10 204 yX10_cover ∈ lw_use := tbk_6 9 rfl (by decide +kernel)
set_option maxRecDepth 100000 in
theorem lm_X10_208 : Cond.methodLink RX10 208 yX10_layMagic ∈ lw_use := tbk_6 61 rfl (by decide +kernel)
set_option maxRecDepth 100000 in
theorem lm_X10_211 : Cond.methodLink RX10 211 yX10_laySum ∈ lw_use := tbk_6 67 rfl (by decide +kernel)
set_option maxRecDepth 100000 in
theorem lm_X10_217 : Cond.methodLink RX10 217 yX5_reading ∈ lw_use := tbk_6 13 rfl (by decide +kernel)
set_option maxRecDepth 100000 in
theorem lm_X10_221 : Cond.methodLink RX10 221 yX1_pairWith ∈ lw_use := tbk_6 14 rfl (by decide +kernel)
set_option maxRecDepth 100000 in
theorem lm_X10_225 : Cond.methodLink RX10 225 yX1_sizeOf ∈ lw_use := tbk_6 30 rfl (by decide +kernel)
set_option maxRecDepth 100000 in
theorem lm_X10_229 : Cond.methodLink RX10 229 yJ9_min_7cf53 ∈ lw_use := tbk_6 31 rfl (by decide +kernel)
set_option maxRecDepth 100000 in
theorem lm_X10_235 : Cond.methodLink RX10 235 yX10_fillingAmount ∈ lw_use := tbk_6 26 rfl (by decide +kernel)
set_option maxRecDepth 100000 in
theorem lm_X10_239 : Cond.methodLink RX10 239 yX10_amount ∈ lw_use := tbk_6 32 rfl (by decide +kernel)
set_option maxRecDepth 100000 in
theorem lm_X10_272 : Cond.methodLink RX10 272 yX1_entryWith ∈ lw_use := tbk_6 52 rfl (by decide +kernel)
set_option maxRecDepth 100000 in
theorem lm_X10_279 : Cond.methodLink RX10 279 yX10_isAbove ∈ lw_use := tbk_6 57 rfl (by decide +kernel)
set_option maxRecDepth 100000 in
theorem lm_X10_289 : Cond.methodLink RX10 289 yX3_has ∈ lw_use := tbk_6 66 rfl (by decide +kernel)
set_option maxRecDepth 100000 in
theorem lm_X10_292 : Cond.methodLinkNest RX10 292 yX11_lowBits "OverlayViewer" ∈ lw_use := tbk_6 84 rfl (by decide +kernel)
set_option maxRecDepth 100000 in
theorem lm_L_9 : Cond.methodLink RL 9 yX11_init ∈ lw_use := tbk_1 24 rfl (by decide +kernel)
set_option maxRecDepth 100000 in
theorem lm_L_12 : Cond.methodLink RL 12 yX12_init ∈ lw_use := tbk_7 37 rfl (by decide +kernel)
set_option maxRecDepth 100000 in
theorem lm_L_13 : Cond.methodLink RL 13 yX11_image ∈ lw_use := tbk_3 21 rfl (by decide +kernel)
set_option maxRecDepth 100000 in
theorem lm_L_17 : Cond.methodLink RL 17 yX12_image ∈ lw_use := tbk_8 77 rfl (by decide +kernel)
set_option maxRecDepth 100000 in
theorem lm_L_20 : Cond.methodLink RL 20 yX11_push ∈ lw_use := tbk_3 54 rfl (by decide +kernel)
set_option maxRecDepth 100000 in
theorem lm_L_24 : Cond.methodLink RL 24 yX12_push ∈ lw_use := tbk_8 81 rfl (by decide +kernel)
set_option maxRecDepth 100000 in
theorem lm_L_25 : Cond.methodLink RL 25 yX11_at ∈ lw_use := tbk_3 69 rfl (by decide +kernel)
set_option maxRecDepth 100000 in
theorem lm_L_29 : Cond.methodLink RL 29 yX12_at ∈ lw_use := tbk_8 90 rfl (by decide +kernel)
set_option maxRecDepth 100000 in
theorem lm_L_30 : Cond.methodLink RL 30 yX11_length ∈ lw_use := tbk_3 77 rfl (by decide +kernel)
set_option maxRecDepth 100000 in
theorem lm_L_34 : Cond.methodLink RL 34 yX12_length ∈ lw_use := tbk_8 102 rfl (by decide +kernel)
set_option maxRecDepth 100000 in
theorem lm_L_35 : Cond.methodLink RL 35 yX11_layer ∈ lw_use := tbk_3 81 rfl (by decide +kernel)
set_option maxRecDepth 100000 in
theorem lm_L_38 : Cond.methodLink RL 38 yX12_layer ∈ lw_use := tbk_8 106 rfl (by decide +kernel)
set_option maxRecDepth 100000 in
theorem lm_L_39 : Cond.methodLink RL 39 yX11_commit ∈ lw_use := tbk_3 127 rfl (by decide +kernel)
set_option maxRecDepth 100000 in
theorem lm_L_42 : Cond.methodLink RL 42 yX12_commit ∈ lw_use := tbk_8 110 rfl (by decide +kernel)
set_option maxRecDepth 100000 in
theorem lm_L_43 : Cond.methodLink RL 43 yX11_drop ∈ lw_use := tbk_3 143 rfl (by decide +kernel)
set_option maxRecDepth 100000 in
theorem lm_L_46 : Cond.methodLink RL 46 yX12_drop ∈ lw_use := tbk_8 118 rfl (by decide +kernel)
set_option maxRecDepth 100000 in
theorem lm_L_47 : Cond.methodLink RL 47 yX11_poke ∈ lw_use := tbk_3 155 rfl (by decide +kernel)
set_option maxRecDepth 100000 in
theorem lm_L_51 : Cond.methodLink RL 51 yX12_poke ∈ lw_use := tbk_8 122 rfl (by decide +kernel)
set_option maxRecDepth 100000 in
theorem lm_L_52 : Cond.methodLink RL 52 yX11_undo ∈ lw_use := tbk_3 174 rfl (by decide +kernel)
set_option maxRecDepth 100000 in
theorem lm_L_55 : Cond.methodLink RL 55 yX12_undo ∈ lw_use := tbk_8 130 rfl (by decide +kernel)
set_option maxRecDepth 100000 in
theorem lm_L_56 : Cond.methodLink RL 56 yX11_changed ∈ lw_use := tbk_3 182 rfl (by decide +kernel)
set_option maxRecDepth 100000 in
theorem lm_L_59 : Cond.methodLink RL 59 yX12_changed ∈ lw_use := tbk_8 134 rfl (by decide +kernel)
set_option maxRecDepth 100000 in
theorem lm_L_60 : Cond.methodLink RL 60 yX11_feed ∈ lw_use := tbk_3 191 rfl (by decide +kernel)
set_option maxRecDepth 100000 in
theorem lm_L_64 : Cond.methodLink RL 64 yX12_feed ∈ lw_use := tbk_8 138 rfl (by decide +kernel)
set_option maxRecDepth 100000 in
theorem lm_L_65 : Cond.methodLink RL 65 yX11_cut ∈ lw_use := tbk_3 200 rfl (by decide +kernel)
set_option maxRecDepth 100000 in
theorem lm_L_68 : Cond.methodLink RL 68 yX12_cut ∈ lw_use := tbk_8 142 rfl (by decide +kernel)
set_option maxRecDepth 100000 in
theorem lm_L_69 : Cond.methodLink RL 69 yX11_describe ∈ lw_use := tbk_3 204 rfl (by decide +kernel)
set_option maxRecDepth 100000 in
theorem lm_L_72 : Cond.methodLink RL 72 yX12_describe ∈ lw_use := tbk_8 150 rfl (by decide +kernel)
set_option maxRecDepth 100000 in
theorem lm_L_73 : Cond.methodLink RL 73 yX11_wrong ∈ lw_use := tbk_5 65 rfl (by decide +kernel)
set_option maxRecDepth 100000 in
theorem lm_L_76 : Cond.methodLink RL 76 yX12_wrong ∈ lw_use := tbk_8 146 rfl (by decide +kernel)
set_option maxRecDepth 100000 in
theorem lm_L_77 : Cond.methodLink RL 77 yX11_size ∈ lw_use := tbk_5 69 rfl (by decide +kernel)
set_option maxRecDepth 100000 in
theorem lm_L_80 : Cond.methodLink RL 80 yX12_size ∈ lw_use := tbk_9 181 rfl (by decide +kernel)
set_option maxRecDepth 100000 in
theorem lm_L_81 : Cond.methodLink RL 81 yX11_uses ∈ lw_use := tbk_5 77 rfl (by decide +kernel)
set_option maxRecDepth 100000 in
theorem lm_L_84 : Cond.methodLink RL 84 yX12_uses ∈ lw_use := tbk_9 189 rfl (by decide +kernel)
set_option maxRecDepth 100000 in
theorem lm_L_85 : Cond.methodLink RL 85 yX11_lay ∈ lw_use := tbk_5 81 rfl (by decide +kernel)
set_option maxRecDepth 100000 in
theorem lm_L_88 : Cond.methodLink RL 88 yX12_lay ∈ lw_use := tbk_9 197 rfl (by decide +kernel)
set_option maxRecDepth 100000 in
theorem lm_L_89 : Cond.methodLink RL 89 yX11_relay ∈ lw_use := tbk_6 85 rfl (by decide +kernel)
set_option maxRecDepth 100000 in
theorem lm_L_92 : Cond.methodLink RL 92 yX12_relay ∈ lw_use := tbk_10 94 rfl (by decide +kernel)
set_option maxRecDepth 100000 in
theorem lm_L_93 : Cond.methodLink RL 93 yX11_clear ∈ lw_use := tbk_6 93 rfl (by decide +kernel)
set_option maxRecDepth 100000 in
theorem lm_L_96 : Cond.methodLink RL 96 yX12_clear ∈ lw_use := tbk_10 102 rfl (by decide +kernel)
set_option maxRecDepth 100000 in
theorem lm_L_97 : Cond.methodLink RL 97 yX11_node ∈ lw_use := tbk_6 97 rfl (by decide +kernel)
set_option maxRecDepth 100000 in
theorem lm_L_100 : Cond.methodLink RL 100 yX12_node_ ∈ lw_use := tbk_10 106 rfl (by decide +kernel)
set_option maxRecDepth 100000 in
theorem lm_L_101 : Cond.methodLink RL 101 yX11_kid ∈ lw_use := tbk_6 105 rfl (by decide +kernel)
set_option maxRecDepth 100000 in
theorem lm_L_104 : Cond.methodLink RL 104 yX12_kid ∈ lw_use := tbk_10 118 rfl (by decide +kernel)
set_option maxRecDepth 100000 in
theorem lm_L_105 : Cond.methodLink RL 105 yX11_value ∈ lw_use := tbk_6 110 rfl (by decide +kernel)
set_option maxRecDepth 100000 in
theorem lm_L_109 : Cond.methodLink RL 109 yX12_value ∈ lw_use := tbk_10 126 rfl (by decide +kernel)
set_option maxRecDepth 100000 in
theorem lm_L_110 : Cond.methodLink RL 110 yX11_sign ∈ lw_use := tbk_6 115 rfl (by decide +kernel)
set_option maxRecDepth 100000 in
theorem lm_L_113 : Cond.methodLink RL 113 yX12_sign_ ∈ lw_use := tbk_10 130 rfl (by decide +kernel)
set_option maxRecDepth 100000 in
theorem lm_L_114 : Cond.methodLink RL 114 yX11_letter ∈ lw_use := tbk_6 123 rfl (by decide +kernel)
set_option maxRecDepth 100000 in
theorem lm_L_118 : Cond.methodLink RL 118 yX12_letter_ ∈ lw_use := tbk_10 134 rfl (by decide +kernel)
set_option maxRecDepth 100000 in
theorem lm_L_119 : Cond.methodLink RL 119 yX11_faults ∈ lw_use := tbk_6 132 rfl (by decide +kernel)
set_option maxRecDepth 100000 in
theorem lm_L_122 : Cond.methodLink RL 122 yX12_faults ∈ lw_use := tbk_10 142 rfl (by decide +kernel)
set_option maxRecDepth 100000 in
theorem lm_L_123 : Cond.methodLink RL 123 yX11_find ∈ lw_use := tbk_6 144 rfl (by decide +kernel)
set_option maxRecDepth 100000 in
theorem lm_L_126 : Cond.methodLink RL 126 yX12_find ∈ lw_use := tbk_10 146 rfl (by decide +kernel)
set_option maxRecDepth 100000 in
theorem lm_L_127 : Cond.methodLink RL 127 yX11_evaluate ∈ lw_use := tbk_6 157 rfl (by decide +kernel)
set_option maxRecDepth 100000 in
theorem lm_L_130 : Cond.methodLink RL 130 yX12_evaluate ∈ lw_use := tbk_10 150 rfl (by decide +kernel)
set_option maxRecDepth 100000 in
theorem lm_L_131 : Cond.methodLink RL 131 yX11_out ∈ lw_use := tbk_6 166 rfl (by decide +kernel)
set_option maxRecDepth 100000 in
theorem lm_L_135 : Cond.methodLink RL 135 yX12_out ∈ lw_use := tbk_10 154 rfl (by decide +kernel)
set_option maxRecDepth 100000 in
theorem lm_L_136 : Cond.methodLink RL 136 yX11_set ∈ lw_use := tbk_6 170 rfl (by decide +kernel)
set_option maxRecDepth 100000 in
theorem lm_L_140 : Cond.methodLink RL 140 yX12_set ∈ lw_use := tbk_10 158 rfl (by decide +kernel)
set_option maxRecDepth 100000 in
theorem lm_L_141 : Cond.methodLink RL 141 yX11_put ∈ lw_use := tbk_6 185 rfl (by decide +kernel)
set_option maxRecDepth 100000 in
theorem lm_L_144 : Cond.methodLink RL 144 yX12_put_ ∈ lw_use := tbk_10 171 rfl (by decide +kernel)
set_option maxRecDepth 100000 in
theorem lm_L_145 : Cond.methodLink RL 145 yX11_fix ∈ lw_use := tbk_6 189 rfl (by decide +kernel)
set_option maxRecDepth 100000 in
theorem lm_L_148 : Cond.methodLink RL 148 yX12_fix ∈ lw_use := tbk_10 175 rfl (by decide +kernel)
set_option maxRecDepth 100000 in
theorem lm_L_149 : Cond.methodLink RL 149 yX11_search ∈ lw_use := tbk_6 198 rfl (by decide +kernel)
set_option maxRecDepth 100000 in
theorem lm_L_153 : Cond.methodLink RL 153 yX12_search ∈ lw_use := tbk_10 179 rfl (by decide +kernel)
set_option maxRecDepth 100000 in
theorem lm_L_154 : Cond.methodLink RL 154 yX11_masked ∈ lw_use := tbk_6 210 rfl (by decide +kernel)
set_option maxRecDepth 100000 in
theorem lm_L_157 : Cond.methodLink RL 157 yX12_masked ∈ lw_use := tbk_10 183 rfl (by decide +kernel)
set_option maxRecDepth 100000 in
theorem lm_L_158 : Cond.methodLink RL 158 yX11_magic ∈ lw_use := tbk_6 214 rfl (by decide +kernel)
set_option maxRecDepth 100000 in
theorem lm_L_161 : Cond.methodLink RL 161 yX12_magic ∈ lw_use := tbk_10 187 rfl (by decide +kernel)
set_option maxRecDepth 100000 in
theorem lm_L_162 : Cond.methodLink RL 162 yX11_covered ∈ lw_use := tbk_6 218 rfl (by decide +kernel)
set_option maxRecDepth 100000 in
theorem lm_L_165 : Cond.methodLink RL 165 yX12_covered ∈ lw_use := tbk_10 191 rfl (by decide +kernel)
set_option maxRecDepth 100000 in
theorem lm_L_166 : Cond.methodLink RL 166 yX11_gap ∈ lw_use := tbk_6 226 rfl (by decide +kernel)
set_option maxRecDepth 100000 in
theorem lm_L_169 : Cond.methodLink RL 169 yX12_gap ∈ lw_use := tbk_10 195 rfl (by decide +kernel)
set_option maxRecDepth 100000 in
theorem lm_L_170 : Cond.methodLink RL 170 yX11_differ ∈ lw_use := tbk_7 3 rfl (by decide +kernel)
set_option maxRecDepth 100000 in
theorem lm_L_173 : Cond.methodLink RL 173 yX12_differ ∈ lw_use := tbk_10 203 rfl (by decide +kernel)
set_option maxRecDepth 100000 in
theorem lm_L_174 : Cond.methodLink RL 174 yX11_hex ∈ lw_use := tbk_7 8 rfl (by decide +kernel)
set_option maxRecDepth 100000 in
theorem lm_L_177 : Cond.methodLink RL 177 yX12_hex ∈ lw_use := tbk_10 207 rfl (by decide +kernel)
set_option maxRecDepth 100000 in
theorem lm_L_178 : Cond.methodLink RL 178 yX11_count ∈ lw_use := tbk_7 19 rfl (by decide +kernel)
set_option maxRecDepth 100000 in
theorem lm_L_181 : Cond.methodLink RL 181 yX12_count ∈ lw_use := tbk_10 215 rfl (by decide +kernel)
set_option maxRecDepth 100000 in
theorem lm_X12_1 : Cond.methodLink RX12 1 Lib.objectInit ∈ lw_use := tbk_7 40 rfl (by decide +kernel)
set_option maxRecDepth 100000 in
theorem lm_X12_289 : Cond.methodLink RX12 289 yX12_cell ∈ lw_use := tbk_8 98 rfl (by decide +kernel)
set_option maxRecDepth 100000 in
theorem lm_X12_293 : Cond.methodLink RX12 293 yX12_isImage ∈ lw_use := tbk_8 85 rfl (by decide +kernel)
set_option maxRecDepth 100000 in
theorem lm_X12_299 : Cond.methodLink RX12 299 yX12_has ∈ lw_use := tbk_8 94 rfl (by decide +kernel)
set_option maxRecDepth 100000 in
theorem lm_X12_303 : Cond.methodLink RX12 303 yX12_top ∈ lw_use := tbk_8 114 rfl (by decide +kernel)
set_option maxRecDepth 100000 in
theorem lm_X12_307 : Cond.methodLink RX12 307 yX12_write ∈ lw_use := tbk_8 126 rfl (by decide +kernel)
set_option maxRecDepth 100000 in
theorem lm_X12_311 : Cond.methodLink RX12 311 yX12_tapeAt ∈ lw_use := tbk_8 158 rfl (by decide +kernel)
set_option maxRecDepth 100000 in
theorem lm_X12_315 : Cond.methodLink RX12 315 yX12_letter ∈ lw_use := tbk_8 162 rfl (by decide +kernel)
set_option maxRecDepth 100000 in
theorem lm_X12_318 : Cond.methodLink RX12 318 yX12_digit ∈ lw_use := tbk_8 166 rfl (by decide +kernel)
set_option maxRecDepth 100000 in
theorem lm_X12_321 : Cond.methodLink RX12 321 yX12_numeral ∈ lw_use := tbk_8 170 rfl (by decide +kernel)
set_option maxRecDepth 100000 in
theorem lm_X12_325 : Cond.methodLink RX12 325 yX12_sign ∈ lw_use := tbk_8 176 rfl (by decide +kernel)
set_option maxRecDepth 100000 in
theorem lm_X12_334 : Cond.methodLink RX12 334 yX12_isWord ∈ lw_use := tbk_8 181 rfl (by decide +kernel)
set_option maxRecDepth 100000 in
theorem lm_X12_390 : Cond.methodLink RX12 390 yX12_whole ∈ lw_use := tbk_8 231 rfl (by decide +kernel)
set_option maxRecDepth 100000 in
theorem lm_X12_394 : Cond.methodLink RX12 394 yX12_isKeyword ∈ lw_use := tbk_8 202 rfl (by decide +kernel)
set_option maxRecDepth 100000 in
theorem lm_X12_397 : Cond.methodLink RX12 397 yX12_fault ∈ lw_use := tbk_8 190 rfl (by decide +kernel)
set_option maxRecDepth 100000 in
theorem lm_X12_401 : Cond.methodLink RX12 401 yX12_isSign ∈ lw_use := tbk_9 11 rfl (by decide +kernel)
set_option maxRecDepth 100000 in
theorem lm_X12_404 : Cond.methodLink RX12 404 yX12_must ∈ lw_use := tbk_8 186 rfl (by decide +kernel)
set_option maxRecDepth 100000 in
theorem lm_X12_408 : Cond.methodLink RX12 408 yX12_next ∈ lw_use := tbk_8 154 rfl (by decide +kernel)
set_option maxRecDepth 100000 in
theorem lm_X12_411 : Cond.methodLink RX12 411 yX12_item ∈ lw_use := tbk_8 194 rfl (by decide +kernel)
set_option maxRecDepth 100000 in
theorem lm_X12_414 : Cond.methodLink RX12 414 yX12_structNamed ∈ lw_use := tbk_8 235 rfl (by decide +kernel)
set_option maxRecDepth 100000 in
theorem lm_X12_418 : Cond.methodLink RX12 418 yX12_isName ∈ lw_use := tbk_8 198 rfl (by decide +kernel)
set_option maxRecDepth 100000 in
theorem lm_X12_421 : Cond.methodLink RX12 421 yX12_enumNamed ∈ lw_use := tbk_8 239 rfl (by decide +kernel)
set_option maxRecDepth 100000 in
theorem lm_X12_425 : Cond.methodLink RX12 425 yX12_readEnum ∈ lw_use := tbk_9 3 rfl (by decide +kernel)
set_option maxRecDepth 100000 in
theorem lm_X12_428 : Cond.methodLink RX12 428 yX12_readStruct ∈ lw_use := tbk_9 23 rfl (by decide +kernel)
set_option maxRecDepth 100000 in
theorem lm_X12_431 : Cond.methodLink RX12 431 yX12_take ∈ lw_use := tbk_9 7 rfl (by decide +kernel)
set_option maxRecDepth 100000 in
theorem lm_X12_434 : Cond.methodLink RX12 434 yX12_pair ∈ lw_use := tbk_9 15 rfl (by decide +kernel)
set_option maxRecDepth 100000 in
theorem lm_X12_437 : Cond.methodLink RX12 437 yX12_signed ∈ lw_use := tbk_9 19 rfl (by decide +kernel)
set_option maxRecDepth 100000 in
theorem lm_X12_441 : Cond.methodLink RX12 441 yX12_readField ∈ lw_use := tbk_9 27 rfl (by decide +kernel)
set_option maxRecDepth 100000 in
theorem lm_X12_444 : Cond.methodLink RX12 444 yX12_sized ∈ lw_use := tbk_9 166 rfl (by decide +kernel)
set_option maxRecDepth 100000 in
theorem lm_X12_447 : Cond.methodLink RX12 447 yX12_field ∈ lw_use := tbk_9 35 rfl (by decide +kernel)
set_option maxRecDepth 100000 in
theorem lm_X12_450 : Cond.methodLink RX12 450 yX12_told ∈ lw_use := tbk_9 99 rfl (by decide +kernel)
set_option maxRecDepth 100000 in
theorem lm_X12_454 : Cond.methodLink RX12 454 yX12_fresh ∈ lw_use := tbk_9 95 rfl (by decide +kernel)
set_option maxRecDepth 100000 in
theorem lm_X12_457 : Cond.methodLink RX12 457 yX12_beginsCore ∈ lw_use := tbk_9 31 rfl (by decide +kernel)
set_option maxRecDepth 100000 in
theorem lm_X12_460 : Cond.methodLink RX12 460 yX12_expr ∈ lw_use := tbk_9 39 rfl (by decide +kernel)
set_option maxRecDepth 100000 in
theorem lm_X12_463 : Cond.methodLink RX12 463 yX12_core ∈ lw_use := tbk_9 87 rfl (by decide +kernel)
set_option maxRecDepth 100000 in
theorem lm_X12_466 : Cond.methodLink RX12 466 yX12_named ∈ lw_use := tbk_9 91 rfl (by decide +kernel)
set_option maxRecDepth 100000 in
theorem lm_X12_469 : Cond.methodLink RX12 469 yX12_wholeOn ∈ lw_use := tbk_9 103 rfl (by decide +kernel)
set_option maxRecDepth 100000 in
theorem lm_X12_472 : Cond.methodLink RX12 472 yX12_array ∈ lw_use := tbk_9 107 rfl (by decide +kernel)
set_option maxRecDepth 100000 in
theorem lm_X12_475 : Cond.methodLink RX12 475 yX12_readBits ∈ lw_use := tbk_9 111 rfl (by decide +kernel)
set_option maxRecDepth 100000 in
theorem lm_X12_478 : Cond.methodLink RX12 478 yX12_readText ∈ lw_use := tbk_9 124 rfl (by decide +kernel)
set_option maxRecDepth 100000 in
theorem lm_X12_481 : Cond.methodLink RX12 481 yX12_readUnion ∈ lw_use := tbk_9 132 rfl (by decide +kernel)
set_option maxRecDepth 100000 in
theorem lm_X12_484 : Cond.methodLink RX12 484 yX12_readPointer ∈ lw_use := tbk_9 148 rfl (by decide +kernel)
set_option maxRecDepth 100000 in
theorem lm_X12_489 : Cond.methodLink RX12 489 yX12_bound ∈ lw_use := tbk_9 128 rfl (by decide +kernel)
set_option maxRecDepth 100000 in
theorem lm_X12_493 : Cond.methodLink RX12 493 yX12_readMagic ∈ lw_use := tbk_9 153 rfl (by decide +kernel)
set_option maxRecDepth 100000 in
theorem lm_X12_496 : Cond.methodLink RX12 496 yX12_readSum ∈ lw_use := tbk_9 162 rfl (by decide +kernel)
set_option maxRecDepth 100000 in
theorem lm_X12_499 : Cond.methodLink RX12 499 yX12_readWhole ∈ lw_use := tbk_9 115 rfl (by decide +kernel)
set_option maxRecDepth 100000 in
theorem lm_X12_502 : Cond.methodLink RX12 502 yX12_part ∈ lw_use := tbk_9 119 rfl (by decide +kernel)
set_option maxRecDepth 100000 in
theorem lm_X12_506 : Cond.methodLink RX12 506 yX12_takeWord ∈ lw_use := tbk_9 136 rfl (by decide +kernel)
set_option maxRecDepth 100000 in
theorem lm_X12_510 : Cond.methodLink RX12 510 yX12_readCase ∈ lw_use := tbk_9 140 rfl (by decide +kernel)
set_option maxRecDepth 100000 in
theorem lm_X12_513 : Cond.methodLink RX12 513 yX12_ended ∈ lw_use := tbk_9 144 rfl (by decide +kernel)
set_option maxRecDepth 100000 in
theorem lm_X12_518 : Cond.methodLink RX12 518 yX12_readByte ∈ lw_use := tbk_9 157 rfl (by decide +kernel)
set_option maxRecDepth 100000 in
theorem lm_X12_523 : Cond.methodLink RX12 523 yX12_either ∈ lw_use := tbk_9 43 rfl (by decide +kernel)
set_option maxRecDepth 100000 in
theorem lm_X12_526 : Cond.methodLink RX12 526 yX12_strength ∈ lw_use := tbk_9 67 rfl (by decide +kernel)
set_option maxRecDepth 100000 in
theorem lm_X12_529 : Cond.methodLink RX12 529 yX12_node ∈ lw_use := tbk_9 55 rfl (by decide +kernel)
set_option maxRecDepth 100000 in
theorem lm_X12_533 : Cond.methodLink RX12 533 yX12_join ∈ lw_use := tbk_9 71 rfl (by decide +kernel)
set_option maxRecDepth 100000 in
theorem lm_X12_536 : Cond.methodLink RX12 536 yX12_operand ∈ lw_use := tbk_9 47 rfl (by decide +kernel)
set_option maxRecDepth 100000 in
theorem lm_X12_539 : Cond.methodLink RX12 539 yX12_goesOn ∈ lw_use := tbk_9 75 rfl (by decide +kernel)
set_option maxRecDepth 100000 in
theorem lm_X12_542 : Cond.methodLink RX12 542 yX12_joinAll ∈ lw_use := tbk_9 63 rfl (by decide +kernel)
set_option maxRecDepth 100000 in
theorem lm_X12_545 : Cond.methodLink RX12 545 yX12_single ∈ lw_use := tbk_9 51 rfl (by decide +kernel)
set_option maxRecDepth 100000 in
theorem lm_X12_548 : Cond.methodLink RX12 548 yX12_isOpen ∈ lw_use := tbk_9 79 rfl (by decide +kernel)
set_option maxRecDepth 100000 in
theorem lm_X12_551 : Cond.methodLink RX12 551 yX12_operator ∈ lw_use := tbk_9 83 rfl (by decide +kernel)
set_option maxRecDepth 100000 in
theorem lm_X12_554 : Cond.methodLink RX12 554 yX12_lookedUp ∈ lw_use := tbk_9 59 rfl (by decide +kernel)
set_option maxRecDepth 100000 in
theorem lm_X12_557 : Cond.methodLink RX12 557 yX12_sizeOf ∈ lw_use := tbk_9 170 rfl (by decide +kernel)
set_option maxRecDepth 100000 in
theorem lm_X12_565 : Cond.methodLink RX12 565 yX12_plain ∈ lw_use := tbk_9 175 rfl (by decide +kernel)
set_option maxRecDepth 100000 in
theorem lm_X12_570 : Cond.methodLink RX12 570 yX12_isStruct ∈ lw_use := tbk_9 185 rfl (by decide +kernel)
set_option maxRecDepth 100000 in
theorem lm_X12_573 : Cond.methodLink RX12 573 yX12_names ∈ lw_use := tbk_9 193 rfl (by decide +kernel)
set_option maxRecDepth 100000 in
theorem lm_X12_577 : Cond.methodLink RX12 577 yX12_faulty ∈ lw_use := tbk_9 221 rfl (by decide +kernel)
set_option maxRecDepth 100000 in
theorem lm_X12_580 : Cond.methodLink RX12 580 yX12_make ∈ lw_use := tbk_9 213 rfl (by decide +kernel)
set_option maxRecDepth 100000 in
theorem lm_X12_584 : Cond.methodLink RX12 584 yX12_above ∈ lw_use := tbk_9 217 rfl (by decide +kernel)
set_option maxRecDepth 100000 in
theorem lm_X12_587 : Cond.methodLink RX12 587 yX12_opens ∈ lw_use := tbk_9 225 rfl (by decide +kernel)
set_option maxRecDepth 100000 in
theorem lm_X12_590 : Cond.methodLink RX12 590 yX12_begun ∈ lw_use := tbk_9 209 rfl (by decide +kernel)
set_option maxRecDepth 100000 in
theorem lm_X12_593 : Cond.methodLink RX12 593 yX12_closes ∈ lw_use := tbk_9 229 rfl (by decide +kernel)
set_option maxRecDepth 100000 in
theorem lm_X12_596 : Cond.methodLink RX12 596 yX12_fieldBegun ∈ lw_use := tbk_9 233 rfl (by decide +kernel)
set_option maxRecDepth 100000 in
theorem lm_X12_599 : Cond.methodLink RX12 599 yX12_kidBegun ∈ lw_use := tbk_10 90 rfl (by decide +kernel)
set_option maxRecDepth 100000 in
theorem lm_X12_602 : Cond.methodLink RX12 602 yX12_reaches ∈ lw_use := tbk_10 41 rfl (by decide +kernel)
set_option maxRecDepth 100000 in
theorem lm_X12_605 : Cond.methodLink RX12 605 yX12_stops ∈ lw_use := tbk_10 86 rfl (by decide +kernel)
set_option maxRecDepth 100000 in
theorem lm_X12_608 : Cond.methodLink RX12 608 yX12_worked ∈ lw_use := tbk_9 237 rfl (by decide +kernel)
set_option maxRecDepth 100000 in
theorem lm_X12_612 : Cond.methodLink RX12 612 yX12_filled ∈ lw_use := tbk_10 29 rfl (by decide +kernel)
set_option maxRecDepth 100000 in
theorem lm_X12_616 : Cond.methodLink RX12 616 yX12_arrayLaid ∈ lw_use := tbk_10 33 rfl (by decide +kernel)
set_option maxRecDepth 100000 in
theorem lm_X12_619 : Cond.methodLink RX12 619 yX12_textLaid ∈ lw_use := tbk_10 37 rfl (by decide +kernel)
set_option maxRecDepth 100000 in
theorem lm_X12_622 : Cond.methodLink RX12 622 yX12_untilLaid ∈ lw_use := tbk_10 45 rfl (by decide +kernel)
set_option maxRecDepth 100000 in
theorem lm_X12_625 : Cond.methodLink RX12 625 yX12_unionLaid ∈ lw_use := tbk_10 49 rfl (by decide +kernel)
set_option maxRecDepth 100000 in
theorem lm_X12_628 : Cond.methodLink RX12 628 yX12_magicLaid ∈ lw_use := tbk_10 53 rfl (by decide +kernel)
set_option maxRecDepth 100000 in
theorem lm_X12_631 : Cond.methodLink RX12 631 yX12_partsLaid ∈ lw_use := tbk_10 61 rfl (by decide +kernel)
set_option maxRecDepth 100000 in
theorem lm_X12_634 : Cond.methodLink RX12 634 yX12_pointed ∈ lw_use := tbk_10 65 rfl (by decide +kernel)
set_option maxRecDepth 100000 in
theorem lm_X12_637 : Cond.methodLink RX12 637 yX12_summed ∈ lw_use := tbk_10 69 rfl (by decide +kernel)
set_option maxRecDepth 100000 in
theorem lm_X12_640 : Cond.methodLink RX12 640 yX12_paired ∈ lw_use := tbk_10 82 rfl (by decide +kernel)
set_option maxRecDepth 100000 in
theorem lm_X12_643 : Cond.methodLink RX12 643 yX12_valueOf ∈ lw_use := tbk_10 9 rfl (by decide +kernel)
set_option maxRecDepth 100000 in
theorem lm_X12_647 : Cond.methodLink RX12 647 yX12_work ∈ lw_use := tbk_10 1 rfl (by decide +kernel)
set_option maxRecDepth 100000 in
theorem lm_X12_650 : Cond.methodLink RX12 650 yX12_named_ ∈ lw_use := tbk_10 5 rfl (by decide +kernel)
set_option maxRecDepth 100000 in
theorem lm_X12_653 : Cond.methodLink RX12 653 yX12_joined ∈ lw_use := tbk_10 25 rfl (by decide +kernel)
set_option maxRecDepth 100000 in
theorem lm_X12_657 : Cond.methodLink RX12 657 yX12_raw ∈ lw_use := tbk_10 13 rfl (by decide +kernel)
set_option maxRecDepth 100000 in
theorem lm_X12_660 : Cond.methodLink RX12 660 yX12_shift ∈ lw_use := tbk_10 17 rfl (by decide +kernel)
set_option maxRecDepth 100000 in
theorem lm_X12_663 : Cond.methodLink RX12 663 yX12_mask ∈ lw_use := tbk_10 21 rfl (by decide +kernel)
set_option maxRecDepth 100000 in
theorem lm_X12_667 : Cond.methodLink RX12 667 yX12_magicAt ∈ lw_use := tbk_10 57 rfl (by decide +kernel)
set_option maxRecDepth 100000 in
theorem lm_X12_672 : Cond.methodLink RX12 672 yX12_sumBounds ∈ lw_use := tbk_10 73 rfl (by decide +kernel)
set_option maxRecDepth 100000 in
theorem lm_X12_675 : Cond.methodLink RX12 675 yX12_due ∈ lw_use := tbk_10 77 rfl (by decide +kernel)
set_option maxRecDepth 100000 in
theorem lm_X12_678 : Cond.methodLink RX12 678 yX12_laidAt ∈ lw_use := tbk_9 201 rfl (by decide +kernel)
set_option maxRecDepth 100000 in
theorem lm_X12_682 : Cond.methodLink RX12 682 yX12_laid ∈ lw_use := tbk_9 205 rfl (by decide +kernel)
set_option maxRecDepth 100000 in
theorem lm_X12_685 : Cond.methodLink RX12 685 yX12_moved ∈ lw_use := tbk_10 98 rfl (by decide +kernel)
set_option maxRecDepth 100000 in
theorem lm_X12_688 : Cond.methodLink RX12 688 yX12_isNode ∈ lw_use := tbk_10 110 rfl (by decide +kernel)
set_option maxRecDepth 100000 in
theorem lm_X12_691 : Cond.methodLink RX12 691 yX12_outward ∈ lw_use := tbk_10 114 rfl (by decide +kernel)
set_option maxRecDepth 100000 in
theorem lm_X12_694 : Cond.methodLink RX12 694 yX12_kidOf ∈ lw_use := tbk_10 122 rfl (by decide +kernel)
set_option maxRecDepth 100000 in
theorem lm_X12_698 : Cond.methodLink RX12 698 yX12_nameOf ∈ lw_use := tbk_10 138 rfl (by decide +kernel)
set_option maxRecDepth 100000 in
theorem lm_X12_701 : Cond.methodLink RX12 701 yX12_has_ ∈ lw_use := tbk_10 162 rfl (by decide +kernel)
set_option maxRecDepth 100000 in
theorem lm_X12_704 : Cond.methodLink RX12 704 yX12_put ∈ lw_use := tbk_10 167 rfl (by decide +kernel)
set_option maxRecDepth 100000 in
theorem lm_X12_710 : Cond.methodLink RX12 710 yX12_isIn ∈ lw_use := tbk_10 199 rfl (by decide +kernel)
set_option maxRecDepth 100000 in
theorem lm_X12_713 : Cond.methodLink RX12 713 yX12_figure ∈ lw_use := tbk_10 211 rfl (by decide +kernel)
