theorem tb_p : ∀ w ∈ k2_sels lw_privs, w ∈ lw_tbl := fun _ h => List.mem_append_left _ h
theorem tb_t : ∀ w ∈ tables_1, w ∈ lw_tbl := fun _ h => List.mem_append_right _ h
theorem tb_1 : ∀ w ∈ tables_1_1, w ∈ lw_tbl := fun w h => tb_t w (List.mem_append_left _ h)
theorem tb_2 : ∀ w ∈ tables_1_2, w ∈ lw_tbl := fun w h => tb_t w (List.mem_append_right _ (List.mem_append_left _ h))
theorem tb_3 : ∀ w ∈ tables_1_3, w ∈ lw_tbl := fun w h => tb_t w (List.mem_append_right _ (List.mem_append_right _ (List.mem_append_left _ h)))
theorem tb_4 : ∀ w ∈ tables_1_4, w ∈ lw_tbl := fun w h => tb_t w (List.mem_append_right _ (List.mem_append_right _ (List.mem_append_right _ (List.mem_append_left _ h))))
theorem tb_5 : ∀ w ∈ tables_1_5, w ∈ lw_tbl := fun w h => tb_t w (List.mem_append_right _ (List.mem_append_right _ (List.mem_append_right _ (List.mem_append_right _ h))))
def tg_ALL : List Cond := lw_tbl.filter goodWord
theorem tg_in {w : Cond} (h : w ∈ lw_tbl) (hg : goodWord w = true) : w ∈ tg_ALL := List.mem_filter.mpr ⟨h, hg⟩
theorem tg_all_good {big : List Cond} (h : ∀ w ∈ tg_ALL, w ∈ big) : GoodIn big tg_ALL := fun w hw => ⟨h w hw, good_of_word (List.mem_filter.mp hw).2⟩
theorem in_L : Cond.initialized RL ∈ tg_ALL := tg_in (tb_1 _ (List.mem_of_getElem? (i := 0) rfl)) rfl
theorem in_X7 : Cond.initialized RX7 ∈ tg_ALL := tg_in (tb_1 _ (List.mem_of_getElem? (i := 1) rfl)) rfl
theorem in_X2 : Cond.initialized RX2 ∈ tg_ALL := tg_in (tb_1 _ (List.mem_of_getElem? (i := 2) rfl)) rfl
theorem in_X5 : Cond.initialized RX5 ∈ tg_ALL := tg_in (tb_1 _ (List.mem_of_getElem? (i := 3) rfl)) rfl
theorem in_X0 : Cond.initialized RX0 ∈ tg_ALL := tg_in (tb_1 _ (List.mem_of_getElem? (i := 4) rfl)) rfl
theorem in_X1 : Cond.initialized RX1 ∈ tg_ALL := tg_in (tb_1 _ (List.mem_of_getElem? (i := 5) rfl)) rfl
theorem in_X3 : Cond.initialized RX3 ∈ tg_ALL := tg_in (tb_1 _ (List.mem_of_getElem? (i := 6) rfl)) rfl
theorem in_X6 : Cond.initialized RX6 ∈ tg_ALL := tg_in (tb_1 _ (List.mem_of_getElem? (i := 7) rfl)) rfl
theorem in_X4 : Cond.initialized RX4 ∈ tg_ALL := tg_in (tb_1 _ (List.mem_of_getElem? (i := 8) rfl)) rfl
theorem in_X8 : Cond.initialized RX8 ∈ tg_ALL := tg_in (tb_1 _ (List.mem_of_getElem? (i := 9) rfl)) rfl
theorem in_J7 : Cond.initialized RJ7 ∈ tg_ALL := tg_in (tb_1 _ (List.mem_of_getElem? (i := 10) rfl)) rfl
theorem in_J9 : Cond.initialized RJ9 ∈ tg_ALL := tg_in (tb_1 _ (List.mem_of_getElem? (i := 11) rfl)) rfl
theorem in_J10 : Cond.initialized RJ10 ∈ tg_ALL := tg_in (tb_1 _ (List.mem_of_getElem? (i := 12) rfl)) rfl
theorem cl_L_7 : Cond.classLink RL 7 RX7 ∈ tg_ALL := tg_in (tb_1 _ (List.mem_of_getElem? (i := 13) rfl)) rfl
theorem it_X7 : Cond.instantiable RX7 8 ∈ tg_ALL := tg_in (tb_1 _ (List.mem_of_getElem? (i := 14) rfl)) rfl
theorem ml_L_9 : Cond.methodLink RL 9 yX7_init ∈ tg_ALL := tg_in (tb_1 _ (List.mem_of_getElem? (i := 15) rfl)) rfl
theorem im_X7_init : Cond.instanceMethod yX7_init ∈ tg_ALL := tg_in (tb_1 _ (List.mem_of_getElem? (i := 16) rfl)) rfl
theorem co_X7_init : Cond.code yX7_init cX7_init 2 none ∈ tg_ALL := tg_in (tb_1 _ (List.mem_of_getElem? (i := 17) rfl)) rfl
theorem ml_X7_3 : Cond.methodLink RX7 3 objectInit ∈ tg_ALL := tg_in (tb_1 _ (List.mem_of_getElem? (i := 18) rfl)) rfl
theorem im_objInit : Cond.instanceMethod objectInit ∈ tg_ALL := tg_in (tb_1 _ (List.mem_of_getElem? (i := 19) rfl)) rfl
theorem co_objInit : Cond.code objectInit ⟨#[0xb1]⟩ 1 none ∈ tg_ALL := tg_in (tb_1 _ (List.mem_of_getElem? (i := 20) rfl)) rfl
theorem cl_X7_9 : Cond.classLink RX7 9 RX2 ∈ tg_ALL := tg_in (tb_1 _ (List.mem_of_getElem? (i := 21) rfl)) rfl
theorem it_X2 : Cond.instantiable RX2 10 ∈ tg_ALL := tg_in (tb_1 _ (List.mem_of_getElem? (i := 22) rfl)) rfl
theorem nl_X7_11 : Cond.methodLinkNest RX7 11 yX2_init RX7 ∈ lw_tbl := tb_1 _ (List.mem_of_getElem? (i := 23) rfl)
theorem im_X2_init : Cond.instanceMethod yX2_init ∈ tg_ALL := tg_in (tb_1 _ (List.mem_of_getElem? (i := 24) rfl)) rfl
theorem co_X2_init : Cond.code yX2_init cX2_init 1 none ∈ tg_ALL := tg_in (tb_1 _ (List.mem_of_getElem? (i := 25) rfl)) rfl
theorem ml_X2_3 : Cond.methodLink RX2 3 objectInit ∈ tg_ALL := tg_in (tb_1 _ (List.mem_of_getElem? (i := 26) rfl)) rfl
theorem cl_X2_9 : Cond.classLink RX2 9 RX5 ∈ tg_ALL := tg_in (tb_1 _ (List.mem_of_getElem? (i := 27) rfl)) rfl
theorem it_X5 : Cond.instantiable RX5 2 ∈ tg_ALL := tg_in (tb_1 _ (List.mem_of_getElem? (i := 28) rfl)) rfl
theorem nl_X2_11 : Cond.methodLinkNest RX2 11 yX5_init RX7 ∈ lw_tbl := tb_1 _ (List.mem_of_getElem? (i := 29) rfl)
theorem im_X5_init : Cond.instanceMethod yX5_init ∈ tg_ALL := tg_in (tb_1 _ (List.mem_of_getElem? (i := 30) rfl)) rfl
theorem co_X5_init : Cond.code yX5_init cX5_init 1 none ∈ tg_ALL := tg_in (tb_1 _ (List.mem_of_getElem? (i := 31) rfl)) rfl
theorem ml_X5_3 : Cond.methodLink RX5 3 objectInit ∈ tg_ALL := tg_in (tb_1 _ (List.mem_of_getElem? (i := 32) rfl)) rfl
theorem fl_X5_9 : Cond.fieldLink RX5 9 "TwoGoats$Text" "bytes" "[I" ∈ tg_ALL := tg_in (tb_1 _ (List.mem_of_getElem? (i := 33) rfl)) rfl
theorem fl_X5_15 : Cond.fieldLink RX5 15 "TwoGoats$Text" "size" "I" ∈ tg_ALL := tg_in (tb_1 _ (List.mem_of_getElem? (i := 34) rfl)) rfl
theorem fl_X2_51 : Cond.fieldLink RX2 51 "TwoGoats$Text" "size" "I" ∈ tg_ALL := tg_in (tb_1 _ (List.mem_of_getElem? (i := 35) rfl)) rfl
theorem fl_X7_68 : Cond.fieldLink RX7 68 "TwoGoats$Text" "size" "I" ∈ tg_ALL := tg_in (tb_1 _ (List.mem_of_getElem? (i := 36) rfl)) rfl
theorem fl_X0_58 : Cond.fieldLink RX0 58 "TwoGoats$Text" "size" "I" ∈ tg_ALL := tg_in (tb_1 _ (List.mem_of_getElem? (i := 37) rfl)) rfl
theorem ac_1_43 : Cond.arrayClass FieldType.int ∈ tg_ALL := tg_in (tb_1 _ (List.mem_of_getElem? (i := 43) rfl)) rfl
theorem fl_X2_12 : Cond.fieldLink RX2 12 "TwoGoats$Meadow" "text" "LTwoGoats$Text;" ∈ tg_ALL := tg_in (tb_1 _ (List.mem_of_getElem? (i := 44) rfl)) rfl
theorem fl_X7_261 : Cond.fieldLink RX7 261 "TwoGoats$Meadow" "text" "LTwoGoats$Text;" ∈ tg_ALL := tg_in (tb_1 _ (List.mem_of_getElem? (i := 45) rfl)) rfl
theorem fl_X2_18 : Cond.fieldLink RX2 18 "TwoGoats$Meadow" "heavy" "[I" ∈ tg_ALL := tg_in (tb_1 _ (List.mem_of_getElem? (i := 46) rfl)) rfl
theorem fl_X7_103 : Cond.fieldLink RX7 103 "TwoGoats$Meadow" "heavy" "[I" ∈ tg_ALL := tg_in (tb_1 _ (List.mem_of_getElem? (i := 47) rfl)) rfl
theorem fl_X2_22 : Cond.fieldLink RX2 22 "TwoGoats$Meadow" "worth" "[I" ∈ tg_ALL := tg_in (tb_1 _ (List.mem_of_getElem? (i := 48) rfl)) rfl
theorem fl_X7_107 : Cond.fieldLink RX7 107 "TwoGoats$Meadow" "worth" "[I" ∈ tg_ALL := tg_in (tb_1 _ (List.mem_of_getElem? (i := 49) rfl)) rfl
theorem fl_X2_25 : Cond.fieldLink RX2 25 "TwoGoats$Meadow" "steps" "[I" ∈ tg_ALL := tg_in (tb_1 _ (List.mem_of_getElem? (i := 50) rfl)) rfl
theorem fl_X1_75 : Cond.fieldLink RX1 75 "TwoGoats$Meadow" "steps" "[I" ∈ tg_ALL := tg_in (tb_1 _ (List.mem_of_getElem? (i := 51) rfl)) rfl
theorem fl_X2_28 : Cond.fieldLink RX2 28 "TwoGoats$Meadow" "oneEnd" "[I" ∈ tg_ALL := tg_in (tb_1 _ (List.mem_of_getElem? (i := 52) rfl)) rfl
theorem fl_X2_31 : Cond.fieldLink RX2 31 "TwoGoats$Meadow" "otherEnd" "[I" ∈ tg_ALL := tg_in (tb_1 _ (List.mem_of_getElem? (i := 53) rfl)) rfl
theorem fl_X2_34 : Cond.fieldLink RX2 34 "TwoGoats$Meadow" "yards" "[I" ∈ tg_ALL := tg_in (tb_1 _ (List.mem_of_getElem? (i := 54) rfl)) rfl
theorem fl_X2_37 : Cond.fieldLink RX2 37 "TwoGoats$Meadow" "reach" "I" ∈ tg_ALL := tg_in (tb_1 _ (List.mem_of_getElem? (i := 55) rfl)) rfl
theorem fl_X0_83 : Cond.fieldLink RX0 83 "TwoGoats$Meadow" "reach" "I" ∈ tg_ALL := tg_in (tb_1 _ (List.mem_of_getElem? (i := 56) rfl)) rfl
theorem fl_X6_63 : Cond.fieldLink RX6 63 "TwoGoats$Meadow" "reach" "I" ∈ tg_ALL := tg_in (tb_1 _ (List.mem_of_getElem? (i := 57) rfl)) rfl
theorem fl_X3_80 : Cond.fieldLink RX3 80 "TwoGoats$Meadow" "reach" "I" ∈ tg_ALL := tg_in (tb_1 _ (List.mem_of_getElem? (i := 58) rfl)) rfl
theorem fl_X7_100 : Cond.fieldLink RX7 100 "TwoGoats$Meadow" "reach" "I" ∈ tg_ALL := tg_in (tb_1 _ (List.mem_of_getElem? (i := 59) rfl)) rfl
theorem fl_X2_41 : Cond.fieldLink RX2 41 "TwoGoats$Meadow" "paths" "I" ∈ tg_ALL := tg_in (tb_1 _ (List.mem_of_getElem? (i := 60) rfl)) rfl
theorem fl_X6_49 : Cond.fieldLink RX6 49 "TwoGoats$Meadow" "paths" "I" ∈ tg_ALL := tg_in (tb_1 _ (List.mem_of_getElem? (i := 61) rfl)) rfl
theorem fl_X3_64 : Cond.fieldLink RX3 64 "TwoGoats$Meadow" "paths" "I" ∈ tg_ALL := tg_in (tb_1 _ (List.mem_of_getElem? (i := 62) rfl)) rfl
theorem fl_X7_83 : Cond.fieldLink RX7 83 "TwoGoats$Meadow" "paths" "I" ∈ tg_ALL := tg_in (tb_1 _ (List.mem_of_getElem? (i := 63) rfl)) rfl
theorem fl_X2_44 : Cond.fieldLink RX2 44 "TwoGoats$Meadow" "faultPlace" "I" ∈ tg_ALL := tg_in (tb_1 _ (List.mem_of_getElem? (i := 64) rfl)) rfl
theorem fl_X7_80 : Cond.fieldLink RX7 80 "TwoGoats$Meadow" "faultPlace" "I" ∈ tg_ALL := tg_in (tb_1 _ (List.mem_of_getElem? (i := 65) rfl)) rfl
theorem cl_X7_16 : Cond.classLink RX7 16 RX0 ∈ tg_ALL := tg_in (tb_1 _ (List.mem_of_getElem? (i := 87) rfl)) rfl
theorem it_X0 : Cond.instantiable RX0 8 ∈ tg_ALL := tg_in (tb_1 _ (List.mem_of_getElem? (i := 88) rfl)) rfl
theorem ml_X7_18 : Cond.methodLink RX7 18 yX0_init ∈ tg_ALL := tg_in (tb_1 _ (List.mem_of_getElem? (i := 89) rfl)) rfl
theorem im_X0_init : Cond.instanceMethod yX0_init ∈ tg_ALL := tg_in (tb_1 _ (List.mem_of_getElem? (i := 90) rfl)) rfl
theorem co_X0_init : Cond.code yX0_init cX0_init 2 none ∈ tg_ALL := tg_in (tb_1 _ (List.mem_of_getElem? (i := 91) rfl)) rfl
theorem ml_X0_3 : Cond.methodLink RX0 3 objectInit ∈ tg_ALL := tg_in (tb_1 _ (List.mem_of_getElem? (i := 92) rfl)) rfl
theorem cl_X0_9 : Cond.classLink RX0 9 RX5 ∈ tg_ALL := tg_in (tb_1 _ (List.mem_of_getElem? (i := 93) rfl)) rfl
theorem nl_X0_11 : Cond.methodLinkNest RX0 11 yX5_init RX7 ∈ lw_tbl := tb_1 _ (List.mem_of_getElem? (i := 94) rfl)
theorem cl_X0_39 : Cond.classLink RX0 39 RX1 ∈ tg_ALL := tg_in (tb_1 _ (List.mem_of_getElem? (i := 95) rfl)) rfl
theorem it_X1 : Cond.instantiable RX1 6 ∈ tg_ALL := tg_in (tb_1 _ (List.mem_of_getElem? (i := 96) rfl)) rfl
theorem ml_X0_41 : Cond.methodLink RX0 41 yX1_init ∈ tg_ALL := tg_in (tb_1 _ (List.mem_of_getElem? (i := 97) rfl)) rfl
theorem im_X1_init : Cond.instanceMethod yX1_init ∈ tg_ALL := tg_in (tb_1 _ (List.mem_of_getElem? (i := 98) rfl)) rfl
theorem co_X1_init : Cond.code yX1_init cX1_init 2 none ∈ tg_ALL := tg_in (tb_1 _ (List.mem_of_getElem? (i := 99) rfl)) rfl
theorem ml_X1_3 : Cond.methodLink RX1 3 objectInit ∈ tg_ALL := tg_in (tb_1 _ (List.mem_of_getElem? (i := 100) rfl)) rfl
theorem fl_X1_28 : Cond.fieldLink RX1 28 "TwoGoats$Goats" "meadow" "LTwoGoats$Meadow;" ∈ tg_ALL := tg_in (tb_1 _ (List.mem_of_getElem? (i := 101) rfl)) rfl
theorem fl_X1_9 : Cond.fieldLink RX1 9 "TwoGoats$Goats" "place" "[I" ∈ tg_ALL := tg_in (tb_1 _ (List.mem_of_getElem? (i := 102) rfl)) rfl
theorem fl_X3_58 : Cond.fieldLink RX3 58 "TwoGoats$Goats" "place" "[I" ∈ tg_ALL := tg_in (tb_1 _ (List.mem_of_getElem? (i := 103) rfl)) rfl
theorem fl_X6_78 : Cond.fieldLink RX6 78 "TwoGoats$Goats" "place" "[I" ∈ tg_ALL := tg_in (tb_1 _ (List.mem_of_getElem? (i := 104) rfl)) rfl
theorem fl_X0_104 : Cond.fieldLink RX0 104 "TwoGoats$Goats" "place" "[I" ∈ tg_ALL := tg_in (tb_1 _ (List.mem_of_getElem? (i := 105) rfl)) rfl
theorem fl_X1_15 : Cond.fieldLink RX1 15 "TwoGoats$Goats" "ring" "[I" ∈ tg_ALL := tg_in (tb_1 _ (List.mem_of_getElem? (i := 106) rfl)) rfl
theorem fl_X1_18 : Cond.fieldLink RX1 18 "TwoGoats$Goats" "head" "I" ∈ tg_ALL := tg_in (tb_1 _ (List.mem_of_getElem? (i := 107) rfl)) rfl
theorem fl_X1_22 : Cond.fieldLink RX1 22 "TwoGoats$Goats" "size" "I" ∈ tg_ALL := tg_in (tb_1 _ (List.mem_of_getElem? (i := 108) rfl)) rfl
theorem fl_X0_97 : Cond.fieldLink RX0 97 "TwoGoats$Goats" "size" "I" ∈ tg_ALL := tg_in (tb_1 _ (List.mem_of_getElem? (i := 109) rfl)) rfl
theorem fl_X7_154 : Cond.fieldLink RX7 154 "TwoGoats$Goats" "size" "I" ∈ tg_ALL := tg_in (tb_1 _ (List.mem_of_getElem? (i := 110) rfl)) rfl
theorem fl_X1_25 : Cond.fieldLink RX1 25 "TwoGoats$Goats" "length" "I" ∈ tg_ALL := tg_in (tb_1 _ (List.mem_of_getElem? (i := 111) rfl)) rfl
theorem fl_X0_80 : Cond.fieldLink RX0 80 "TwoGoats$Goats" "length" "I" ∈ tg_ALL := tg_in (tb_1 _ (List.mem_of_getElem? (i := 112) rfl)) rfl
theorem fl_X6_60 : Cond.fieldLink RX6 60 "TwoGoats$Goats" "length" "I" ∈ tg_ALL := tg_in (tb_1 _ (List.mem_of_getElem? (i := 113) rfl)) rfl
theorem fl_X3_77 : Cond.fieldLink RX3 77 "TwoGoats$Goats" "length" "I" ∈ tg_ALL := tg_in (tb_1 _ (List.mem_of_getElem? (i := 114) rfl)) rfl
theorem fl_X7_162 : Cond.fieldLink RX7 162 "TwoGoats$Goats" "length" "I" ∈ tg_ALL := tg_in (tb_1 _ (List.mem_of_getElem? (i := 115) rfl)) rfl
theorem fl_X0_35 : Cond.fieldLink RX0 35 "TwoGoats$Day" "meadow" "LTwoGoats$Meadow;" ∈ tg_ALL := tg_in (tb_1 _ (List.mem_of_getElem? (i := 129) rfl)) rfl
theorem fl_X0_12 : Cond.fieldLink RX0 12 "TwoGoats$Day" "text" "LTwoGoats$Text;" ∈ tg_ALL := tg_in (tb_1 _ (List.mem_of_getElem? (i := 130) rfl)) rfl
theorem fl_X7_117 : Cond.fieldLink RX7 117 "TwoGoats$Day" "text" "LTwoGoats$Text;" ∈ tg_ALL := tg_in (tb_1 _ (List.mem_of_getElem? (i := 131) rfl)) rfl
theorem fl_X0_44 : Cond.fieldLink RX0 44 "TwoGoats$Day" "goats" "LTwoGoats$Goats;" ∈ tg_ALL := tg_in (tb_1 _ (List.mem_of_getElem? (i := 132) rfl)) rfl
theorem fl_X6_31 : Cond.fieldLink RX6 31 "TwoGoats$Day" "goats" "LTwoGoats$Goats;" ∈ tg_ALL := tg_in (tb_1 _ (List.mem_of_getElem? (i := 133) rfl)) rfl
theorem fl_X7_140 : Cond.fieldLink RX7 140 "TwoGoats$Day" "goats" "LTwoGoats$Goats;" ∈ tg_ALL := tg_in (tb_1 _ (List.mem_of_getElem? (i := 134) rfl)) rfl
theorem fl_X0_18 : Cond.fieldLink RX0 18 "TwoGoats$Day" "ate" "[I" ∈ tg_ALL := tg_in (tb_1 _ (List.mem_of_getElem? (i := 135) rfl)) rfl
theorem fl_X0_22 : Cond.fieldLink RX0 22 "TwoGoats$Day" "dragged" "[I" ∈ tg_ALL := tg_in (tb_1 _ (List.mem_of_getElem? (i := 136) rfl)) rfl
theorem fl_X0_25 : Cond.fieldLink RX0 25 "TwoGoats$Day" "startPlace" "I" ∈ tg_ALL := tg_in (tb_1 _ (List.mem_of_getElem? (i := 137) rfl)) rfl
theorem fl_X7_94 : Cond.fieldLink RX7 94 "TwoGoats$Day" "startPlace" "I" ∈ tg_ALL := tg_in (tb_1 _ (List.mem_of_getElem? (i := 138) rfl)) rfl
theorem fl_X0_29 : Cond.fieldLink RX0 29 "TwoGoats$Day" "bare" "I" ∈ tg_ALL := tg_in (tb_1 _ (List.mem_of_getElem? (i := 139) rfl)) rfl
theorem fl_X6_38 : Cond.fieldLink RX6 38 "TwoGoats$Day" "bare" "I" ∈ tg_ALL := tg_in (tb_1 _ (List.mem_of_getElem? (i := 140) rfl)) rfl
theorem fl_X0_32 : Cond.fieldLink RX0 32 "TwoGoats$Day" "done" "I" ∈ tg_ALL := tg_in (tb_1 _ (List.mem_of_getElem? (i := 141) rfl)) rfl
theorem fl_X7_131 : Cond.fieldLink RX7 131 "TwoGoats$Day" "done" "I" ∈ tg_ALL := tg_in (tb_1 _ (List.mem_of_getElem? (i := 142) rfl)) rfl
theorem cl_X7_28 : Cond.classLink RX7 28 RX3 ∈ tg_ALL := tg_in (tb_1 _ (List.mem_of_getElem? (i := 160) rfl)) rfl
theorem it_X3 : Cond.instantiable RX3 5 ∈ tg_ALL := tg_in (tb_1 _ (List.mem_of_getElem? (i := 161) rfl)) rfl
theorem ml_X7_30 : Cond.methodLink RX7 30 yX3_init ∈ tg_ALL := tg_in (tb_1 _ (List.mem_of_getElem? (i := 162) rfl)) rfl
theorem im_X3_init : Cond.instanceMethod yX3_init ∈ tg_ALL := tg_in (tb_1 _ (List.mem_of_getElem? (i := 163) rfl)) rfl
theorem co_X3_init : Cond.code yX3_init cX3_init 2 none ∈ tg_ALL := tg_in (tb_1 _ (List.mem_of_getElem? (i := 164) rfl)) rfl
theorem ml_X3_3 : Cond.methodLink RX3 3 objectInit ∈ tg_ALL := tg_in (tb_1 _ (List.mem_of_getElem? (i := 165) rfl)) rfl
theorem cl_X3_27 : Cond.classLink RX3 27 RX1 ∈ tg_ALL := tg_in (tb_1 _ (List.mem_of_getElem? (i := 166) rfl)) rfl
theorem ml_X3_29 : Cond.methodLink RX3 29 yX1_init ∈ tg_ALL := tg_in (tb_1 _ (List.mem_of_getElem? (i := 167) rfl)) rfl
theorem fl_X3_23 : Cond.fieldLink RX3 23 "TwoGoats$Search" "meadow" "LTwoGoats$Meadow;" ∈ tg_ALL := tg_in (tb_1 _ (List.mem_of_getElem? (i := 168) rfl)) rfl
theorem fl_X3_32 : Cond.fieldLink RX3 32 "TwoGoats$Search" "goats" "LTwoGoats$Goats;" ∈ tg_ALL := tg_in (tb_1 _ (List.mem_of_getElem? (i := 169) rfl)) rfl
theorem fl_X3_11 : Cond.fieldLink RX3 11 "TwoGoats$Search" "ways" "[J" ∈ tg_ALL := tg_in (tb_1 _ (List.mem_of_getElem? (i := 170) rfl)) rfl
theorem fl_X3_15 : Cond.fieldLink RX3 15 "TwoGoats$Search" "slots" "[I" ∈ tg_ALL := tg_in (tb_1 _ (List.mem_of_getElem? (i := 171) rfl)) rfl
theorem fl_X3_19 : Cond.fieldLink RX3 19 "TwoGoats$Search" "known" "I" ∈ tg_ALL := tg_in (tb_1 _ (List.mem_of_getElem? (i := 172) rfl)) rfl
theorem ac_1_184 : Cond.arrayClass FieldType.long ∈ tg_ALL := tg_in (tb_1 _ (List.mem_of_getElem? (i := 184) rfl)) rfl
theorem cl_X7_35 : Cond.classLink RX7 35 RX6 ∈ tg_ALL := tg_in (tb_1 _ (List.mem_of_getElem? (i := 185) rfl)) rfl
theorem it_X6 : Cond.instantiable RX6 4 ∈ tg_ALL := tg_in (tb_1 _ (List.mem_of_getElem? (i := 186) rfl)) rfl
theorem ml_X7_37 : Cond.methodLink RX7 37 yX6_init ∈ tg_ALL := tg_in (tb_1 _ (List.mem_of_getElem? (i := 187) rfl)) rfl
theorem im_X6_init : Cond.instanceMethod yX6_init ∈ tg_ALL := tg_in (tb_1 _ (List.mem_of_getElem? (i := 188) rfl)) rfl
theorem co_X6_init : Cond.code yX6_init cX6_init 2 none ∈ tg_ALL := tg_in (tb_1 _ (List.mem_of_getElem? (i := 189) rfl)) rfl
theorem ml_X6_3 : Cond.methodLink RX6 3 objectInit ∈ tg_ALL := tg_in (tb_1 _ (List.mem_of_getElem? (i := 190) rfl)) rfl
theorem cl_X6_22 : Cond.classLink RX6 22 RX1 ∈ tg_ALL := tg_in (tb_1 _ (List.mem_of_getElem? (i := 191) rfl)) rfl
theorem ml_X6_24 : Cond.methodLink RX6 24 yX1_init ∈ tg_ALL := tg_in (tb_1 _ (List.mem_of_getElem? (i := 192) rfl)) rfl
theorem fl_X6_18 : Cond.fieldLink RX6 18 "TwoGoats$Turns" "meadow" "LTwoGoats$Meadow;" ∈ tg_ALL := tg_in (tb_1 _ (List.mem_of_getElem? (i := 193) rfl)) rfl
theorem fl_X6_27 : Cond.fieldLink RX6 27 "TwoGoats$Turns" "goats" "LTwoGoats$Goats;" ∈ tg_ALL := tg_in (tb_1 _ (List.mem_of_getElem? (i := 194) rfl)) rfl
theorem fl_X6_9 : Cond.fieldLink RX6 9 "TwoGoats$Turns" "bare" "I" ∈ tg_ALL := tg_in (tb_1 _ (List.mem_of_getElem? (i := 195) rfl)) rfl
theorem fl_X6_15 : Cond.fieldLink RX6 15 "TwoGoats$Turns" "chosen" "I" ∈ tg_ALL := tg_in (tb_1 _ (List.mem_of_getElem? (i := 196) rfl)) rfl
theorem fl_X7_172 : Cond.fieldLink RX7 172 "TwoGoats$Turns" "chosen" "I" ∈ tg_ALL := tg_in (tb_1 _ (List.mem_of_getElem? (i := 197) rfl)) rfl
theorem cl_X7_42 : Cond.classLink RX7 42 RX1 ∈ tg_ALL := tg_in (tb_1 _ (List.mem_of_getElem? (i := 207) rfl)) rfl
theorem ml_X7_44 : Cond.methodLink RX7 44 yX1_init ∈ tg_ALL := tg_in (tb_1 _ (List.mem_of_getElem? (i := 208) rfl)) rfl
theorem cl_X7_49 : Cond.classLink RX7 49 RX4 ∈ tg_ALL := tg_in (tb_1 _ (List.mem_of_getElem? (i := 209) rfl)) rfl
theorem ao_1_210 : Cond.arrayOver (Jvm.ClassFile.FieldType.object "TwoGoats$Sheet") ∈ lw_tbl := tb_1 _ (List.mem_of_getElem? (i := 210) rfl)
theorem it_X4 : Cond.instantiable RX4 3 ∈ tg_ALL := tg_in (tb_1 _ (List.mem_of_getElem? (i := 211) rfl)) rfl
theorem nl_X7_59 : Cond.methodLinkNest RX7 59 yX4_init RX7 ∈ lw_tbl := tb_1 _ (List.mem_of_getElem? (i := 212) rfl)
theorem im_X4_init : Cond.instanceMethod yX4_init ∈ tg_ALL := tg_in (tb_1 _ (List.mem_of_getElem? (i := 213) rfl)) rfl
theorem co_X4_init : Cond.code yX4_init cX4_init 1 none ∈ tg_ALL := tg_in (tb_1 _ (List.mem_of_getElem? (i := 214) rfl)) rfl
theorem ml_X4_3 : Cond.methodLink RX4 3 objectInit ∈ tg_ALL := tg_in (tb_1 _ (List.mem_of_getElem? (i := 215) rfl)) rfl
theorem fl_X4_9 : Cond.fieldLink RX4 9 "TwoGoats$Sheet" "items" "[I" ∈ tg_ALL := tg_in (tb_1 _ (List.mem_of_getElem? (i := 216) rfl)) rfl
theorem fl_X7_122 : Cond.fieldLink RX7 122 "TwoGoats$Sheet" "items" "[I" ∈ tg_ALL := tg_in (tb_1 _ (List.mem_of_getElem? (i := 217) rfl)) rfl
theorem fl_X4_15 : Cond.fieldLink RX4 15 "TwoGoats$Sheet" "form" "I" ∈ tg_ALL := tg_in (tb_1 _ (List.mem_of_getElem? (i := 218) rfl)) rfl
theorem fl_X7_110 : Cond.fieldLink RX7 110 "TwoGoats$Sheet" "form" "I" ∈ tg_ALL := tg_in (tb_1 _ (List.mem_of_getElem? (i := 219) rfl)) rfl
theorem fl_X4_19 : Cond.fieldLink RX4 19 "TwoGoats$Sheet" "size" "I" ∈ tg_ALL := tg_in (tb_1 _ (List.mem_of_getElem? (i := 220) rfl)) rfl
theorem fl_X7_121 : Cond.fieldLink RX7 121 "TwoGoats$Sheet" "size" "I" ∈ tg_ALL := tg_in (tb_1 _ (List.mem_of_getElem? (i := 221) rfl)) rfl
theorem fl_X7_12 : Cond.fieldLink RX7 12 "TwoGoats" "meadow" "LTwoGoats$Meadow;" ∈ tg_ALL := tg_in (tb_1 _ (List.mem_of_getElem? (i := 229) rfl)) rfl
theorem fl_X7_21 : Cond.fieldLink RX7 21 "TwoGoats" "firstDay" "LTwoGoats$Day;" ∈ tg_ALL := tg_in (tb_1 _ (List.mem_of_getElem? (i := 230) rfl)) rfl
theorem fl_X7_25 : Cond.fieldLink RX7 25 "TwoGoats" "secondDay" "LTwoGoats$Day;" ∈ tg_ALL := tg_in (tb_1 _ (List.mem_of_getElem? (i := 231) rfl)) rfl
theorem fl_X7_31 : Cond.fieldLink RX7 31 "TwoGoats" "search" "LTwoGoats$Search;" ∈ tg_ALL := tg_in (tb_1 _ (List.mem_of_getElem? (i := 232) rfl)) rfl
theorem fl_X7_38 : Cond.fieldLink RX7 38 "TwoGoats" "turns" "LTwoGoats$Turns;" ∈ tg_ALL := tg_in (tb_1 _ (List.mem_of_getElem? (i := 233) rfl)) rfl
theorem fl_X7_45 : Cond.fieldLink RX7 45 "TwoGoats" "relaid" "LTwoGoats$Goats;" ∈ tg_ALL := tg_in (tb_1 _ (List.mem_of_getElem? (i := 234) rfl)) rfl
theorem fl_X7_51 : Cond.fieldLink RX7 51 "TwoGoats" "sheets" "[LTwoGoats$Sheet;" ∈ tg_ALL := tg_in (tb_1 _ (List.mem_of_getElem? (i := 235) rfl)) rfl
theorem fl_X7_55 : Cond.fieldLink RX7 55 "TwoGoats" "finding" "I" ∈ tg_ALL := tg_in (tb_1 _ (List.mem_of_getElem? (i := 236) rfl)) rfl
theorem ml_L_13 : Cond.methodLink RL 13 yX7_type ∈ tg_ALL := tg_in (tb_2 _ (List.mem_of_getElem? (i := 14) rfl)) rfl
theorem im_X7_type : Cond.instanceMethod yX7_type ∈ tg_ALL := tg_in (tb_2 _ (List.mem_of_getElem? (i := 15) rfl)) rfl
theorem se_X7_type : Cond.selects RX7 yX7_type yX7_type ∈ tg_ALL := tg_in (tb_2 _ (List.mem_of_getElem? (i := 16) rfl)) rfl
theorem co_X7_type : Cond.code yX7_type cX7_type 4 (some .int) ∈ tg_ALL := tg_in (tb_2 _ (List.mem_of_getElem? (i := 17) rfl)) rfl
theorem ml_X7_60 : Cond.methodLink RX7 60 yX7_isBelow ∈ tg_ALL := tg_in (tb_2 _ (List.mem_of_getElem? (i := 18) rfl)) rfl
theorem st_X7_isBelow : Cond.static yX7_isBelow ∈ tg_ALL := tg_in (tb_2 _ (List.mem_of_getElem? (i := 19) rfl)) rfl
theorem co_X7_isBelow : Cond.code yX7_isBelow cX7_isBelow 2 (some .boolean) ∈ tg_ALL := tg_in (tb_2 _ (List.mem_of_getElem? (i := 20) rfl)) rfl
theorem ml_X7_64 : Cond.methodLink RX7 64 yX7_textOf ∈ tg_ALL := tg_in (tb_2 _ (List.mem_of_getElem? (i := 21) rfl)) rfl
theorem im_X7_textOf : Cond.instanceMethod yX7_textOf ∈ tg_ALL := tg_in (tb_2 _ (List.mem_of_getElem? (i := 23) rfl)) rfl
theorem co_X7_textOf : Cond.code yX7_textOf cX7_textOf 2 (some (.object "TwoGoats$Text")) ∈ tg_ALL := tg_in (tb_2 _ (List.mem_of_getElem? (i := 24) rfl)) rfl
theorem ml_X7_90 : Cond.methodLink RX7 90 yX7_dayOf ∈ tg_ALL := tg_in (tb_2 _ (List.mem_of_getElem? (i := 25) rfl)) rfl
theorem im_X7_dayOf : Cond.instanceMethod yX7_dayOf ∈ tg_ALL := tg_in (tb_2 _ (List.mem_of_getElem? (i := 27) rfl)) rfl
theorem co_X7_dayOf : Cond.code yX7_dayOf cX7_dayOf 2 (some (.object "TwoGoats$Day")) ∈ tg_ALL := tg_in (tb_2 _ (List.mem_of_getElem? (i := 28) rfl)) rfl
theorem ml_X7_73 : Cond.methodLink RX7 73 yX5_add ∈ tg_ALL := tg_in (tb_2 _ (List.mem_of_getElem? (i := 29) rfl)) rfl
theorem im_X5_add : Cond.instanceMethod yX5_add ∈ tg_ALL := tg_in (tb_2 _ (List.mem_of_getElem? (i := 30) rfl)) rfl
theorem se_X5_add : Cond.selects RX5 yX5_add yX5_add ∈ tg_ALL := tg_in (tb_2 _ (List.mem_of_getElem? (i := 31) rfl)) rfl
theorem co_X5_add : Cond.code yX5_add cX5_add 2 none ∈ tg_ALL := tg_in (tb_2 _ (List.mem_of_getElem? (i := 32) rfl)) rfl
theorem nl_X5_19 : Cond.methodLinkNest RX5 19 yX7_isBelow RX7 ∈ lw_tbl := tb_2 _ (List.mem_of_getElem? (i := 33) rfl)
theorem ml_X7_77 : Cond.methodLink RX7 77 yX2_survey ∈ tg_ALL := tg_in (tb_2 _ (List.mem_of_getElem? (i := 34) rfl)) rfl
theorem im_X2_survey : Cond.instanceMethod yX2_survey ∈ tg_ALL := tg_in (tb_2 _ (List.mem_of_getElem? (i := 35) rfl)) rfl
theorem se_X2_survey : Cond.selects RX2 yX2_survey yX2_survey ∈ tg_ALL := tg_in (tb_2 _ (List.mem_of_getElem? (i := 36) rfl)) rfl
theorem co_X2_survey : Cond.code yX2_survey cX2_survey 2 none ∈ tg_ALL := tg_in (tb_2 _ (List.mem_of_getElem? (i := 37) rfl)) rfl
theorem ml_X2_47 : Cond.methodLink RX2 47 yX2_firstFault ∈ tg_ALL := tg_in (tb_2 _ (List.mem_of_getElem? (i := 38) rfl)) rfl
theorem im_X2_firstFault : Cond.instanceMethod yX2_firstFault ∈ tg_ALL := tg_in (tb_2 _ (List.mem_of_getElem? (i := 40) rfl)) rfl
theorem co_X2_firstFault : Cond.code yX2_firstFault cX2_firstFault 2 (some .int) ∈ tg_ALL := tg_in (tb_2 _ (List.mem_of_getElem? (i := 41) rfl)) rfl
theorem ml_X2_58 : Cond.methodLink RX2 58 yX2_fits ∈ tg_ALL := tg_in (tb_2 _ (List.mem_of_getElem? (i := 42) rfl)) rfl
theorem im_X2_fits : Cond.instanceMethod yX2_fits ∈ tg_ALL := tg_in (tb_2 _ (List.mem_of_getElem? (i := 44) rfl)) rfl
theorem co_X2_fits : Cond.code yX2_fits cX2_fits 3 (some .boolean) ∈ tg_ALL := tg_in (tb_2 _ (List.mem_of_getElem? (i := 45) rfl)) rfl
theorem ml_X2_62 : Cond.methodLink RX2 62 yX5_byteAt ∈ tg_ALL := tg_in (tb_2 _ (List.mem_of_getElem? (i := 46) rfl)) rfl
theorem im_X5_byteAt : Cond.instanceMethod yX5_byteAt ∈ tg_ALL := tg_in (tb_2 _ (List.mem_of_getElem? (i := 47) rfl)) rfl
theorem se_X5_byteAt : Cond.selects RX5 yX5_byteAt yX5_byteAt ∈ tg_ALL := tg_in (tb_2 _ (List.mem_of_getElem? (i := 48) rfl)) rfl
theorem co_X5_byteAt : Cond.code yX5_byteAt cX5_byteAt 2 (some .int) ∈ tg_ALL := tg_in (tb_2 _ (List.mem_of_getElem? (i := 49) rfl)) rfl
theorem ml_X2_66 : Cond.methodLink RX2 66 yX2_isPlace ∈ tg_ALL := tg_in (tb_2 _ (List.mem_of_getElem? (i := 50) rfl)) rfl
theorem st_X2_isPlace : Cond.static yX2_isPlace ∈ tg_ALL := tg_in (tb_2 _ (List.mem_of_getElem? (i := 51) rfl)) rfl
theorem co_X2_isPlace : Cond.code yX2_isPlace cX2_isPlace 1 (some .boolean) ∈ tg_ALL := tg_in (tb_2 _ (List.mem_of_getElem? (i := 52) rfl)) rfl
theorem ml_X2_54 : Cond.methodLink RX2 54 yX2_figure ∈ tg_ALL := tg_in (tb_2 _ (List.mem_of_getElem? (i := 53) rfl)) rfl
theorem im_X2_figure : Cond.instanceMethod yX2_figure ∈ tg_ALL := tg_in (tb_2 _ (List.mem_of_getElem? (i := 54) rfl)) rfl
theorem se_X2_figure : Cond.selects RX2 yX2_figure yX2_figure ∈ tg_ALL := tg_in (tb_2 _ (List.mem_of_getElem? (i := 55) rfl)) rfl
theorem co_X2_figure : Cond.code yX2_figure cX2_figure 3 (some .int) ∈ tg_ALL := tg_in (tb_2 _ (List.mem_of_getElem? (i := 56) rfl)) rfl
theorem ml_L_18 : Cond.methodLink RL 18 yX7_wipe ∈ tg_ALL := tg_in (tb_2 _ (List.mem_of_getElem? (i := 57) rfl)) rfl
theorem im_X7_wipe : Cond.instanceMethod yX7_wipe ∈ tg_ALL := tg_in (tb_2 _ (List.mem_of_getElem? (i := 58) rfl)) rfl
theorem se_X7_wipe : Cond.selects RX7 yX7_wipe yX7_wipe ∈ tg_ALL := tg_in (tb_2 _ (List.mem_of_getElem? (i := 59) rfl)) rfl
theorem co_X7_wipe : Cond.code yX7_wipe cX7_wipe 4 (some .int) ∈ tg_ALL := tg_in (tb_2 _ (List.mem_of_getElem? (i := 60) rfl)) rfl
theorem ml_L_23 : Cond.methodLink RL 23 yX7_fault ∈ tg_ALL := tg_in (tb_2 _ (List.mem_of_getElem? (i := 61) rfl)) rfl
theorem im_X7_fault : Cond.instanceMethod yX7_fault ∈ tg_ALL := tg_in (tb_2 _ (List.mem_of_getElem? (i := 62) rfl)) rfl
theorem se_X7_fault : Cond.selects RX7 yX7_fault yX7_fault ∈ tg_ALL := tg_in (tb_2 _ (List.mem_of_getElem? (i := 63) rfl)) rfl
theorem co_X7_fault : Cond.code yX7_fault cX7_fault 1 (some .int) ∈ tg_ALL := tg_in (tb_2 _ (List.mem_of_getElem? (i := 64) rfl)) rfl
theorem ml_L_28 : Cond.methodLink RL 28 yX7_path ∈ tg_ALL := tg_in (tb_2 _ (List.mem_of_getElem? (i := 65) rfl)) rfl
theorem im_X7_path : Cond.instanceMethod yX7_path ∈ tg_ALL := tg_in (tb_2 _ (List.mem_of_getElem? (i := 66) rfl)) rfl
theorem se_X7_path : Cond.selects RX7 yX7_path yX7_path ∈ tg_ALL := tg_in (tb_2 _ (List.mem_of_getElem? (i := 67) rfl)) rfl
theorem co_X7_path : Cond.code yX7_path cX7_path 3 (some .int) ∈ tg_ALL := tg_in (tb_2 _ (List.mem_of_getElem? (i := 68) rfl)) rfl
theorem ml_X7_86 : Cond.methodLink RX7 86 yX2_figure ∈ tg_ALL := tg_in (tb_2 _ (List.mem_of_getElem? (i := 69) rfl)) rfl
theorem ml_L_32 : Cond.methodLink RL 32 yX7_start ∈ tg_ALL := tg_in (tb_2 _ (List.mem_of_getElem? (i := 70) rfl)) rfl
theorem im_X7_start : Cond.instanceMethod yX7_start ∈ tg_ALL := tg_in (tb_2 _ (List.mem_of_getElem? (i := 71) rfl)) rfl
theorem se_X7_start : Cond.selects RX7 yX7_start yX7_start ∈ tg_ALL := tg_in (tb_2 _ (List.mem_of_getElem? (i := 72) rfl)) rfl
theorem co_X7_start : Cond.code yX7_start cX7_start 5 (some .int) ∈ tg_ALL := tg_in (tb_2 _ (List.mem_of_getElem? (i := 73) rfl)) rfl
theorem ml_L_36 : Cond.methodLink RL 36 yX7_set ∈ tg_ALL := tg_in (tb_2 _ (List.mem_of_getElem? (i := 74) rfl)) rfl
theorem im_X7_set : Cond.instanceMethod yX7_set ∈ tg_ALL := tg_in (tb_2 _ (List.mem_of_getElem? (i := 75) rfl)) rfl
theorem se_X7_set : Cond.selects RX7 yX7_set yX7_set ∈ tg_ALL := tg_in (tb_2 _ (List.mem_of_getElem? (i := 76) rfl)) rfl
theorem co_X7_set : Cond.code yX7_set cX7_set 4 (some .int) ∈ tg_ALL := tg_in (tb_2 _ (List.mem_of_getElem? (i := 77) rfl)) rfl
theorem ml_X7_97 : Cond.methodLink RX7 97 yX7_setHeavy ∈ tg_ALL := tg_in (tb_2 _ (List.mem_of_getElem? (i := 78) rfl)) rfl
theorem im_X7_setHeavy : Cond.instanceMethod yX7_setHeavy ∈ tg_ALL := tg_in (tb_2 _ (List.mem_of_getElem? (i := 80) rfl)) rfl
theorem co_X7_setHeavy : Cond.code yX7_setHeavy cX7_setHeavy 4 (some .int) ∈ tg_ALL := tg_in (tb_2 _ (List.mem_of_getElem? (i := 81) rfl)) rfl
theorem ml_L_40 : Cond.methodLink RL 40 yX7_thistle ∈ tg_ALL := tg_in (tb_2 _ (List.mem_of_getElem? (i := 82) rfl)) rfl
theorem im_X7_thistle : Cond.instanceMethod yX7_thistle ∈ tg_ALL := tg_in (tb_2 _ (List.mem_of_getElem? (i := 83) rfl)) rfl
theorem se_X7_thistle : Cond.selects RX7 yX7_thistle yX7_thistle ∈ tg_ALL := tg_in (tb_2 _ (List.mem_of_getElem? (i := 84) rfl)) rfl
theorem co_X7_thistle : Cond.code yX7_thistle cX7_thistle 4 (some .int) ∈ tg_ALL := tg_in (tb_2 _ (List.mem_of_getElem? (i := 85) rfl)) rfl
theorem ml_L_44 : Cond.methodLink RL 44 yX7_read ∈ tg_ALL := tg_in (tb_2 _ (List.mem_of_getElem? (i := 86) rfl)) rfl
theorem im_X7_read : Cond.instanceMethod yX7_read ∈ tg_ALL := tg_in (tb_2 _ (List.mem_of_getElem? (i := 87) rfl)) rfl
theorem se_X7_read : Cond.selects RX7 yX7_read yX7_read ∈ tg_ALL := tg_in (tb_2 _ (List.mem_of_getElem? (i := 88) rfl)) rfl
theorem co_X7_read : Cond.code yX7_read cX7_read 7 (some .int) ∈ tg_ALL := tg_in (tb_2 _ (List.mem_of_getElem? (i := 89) rfl)) rfl
theorem ml_X7_113 : Cond.methodLink RX7 113 yX7_found ∈ tg_ALL := tg_in (tb_2 _ (List.mem_of_getElem? (i := 90) rfl)) rfl
theorem im_X7_found : Cond.instanceMethod yX7_found ∈ tg_ALL := tg_in (tb_2 _ (List.mem_of_getElem? (i := 92) rfl)) rfl
theorem co_X7_found : Cond.code yX7_found cX7_found 2 (some .int) ∈ tg_ALL := tg_in (tb_2 _ (List.mem_of_getElem? (i := 93) rfl)) rfl
theorem ml_X7_125 : Cond.methodLink RX7 125 yX7_byteOfCode ∈ tg_ALL := tg_in (tb_2 _ (List.mem_of_getElem? (i := 94) rfl)) rfl
theorem st_X7_byteOfCode : Cond.static yX7_byteOfCode ∈ tg_ALL := tg_in (tb_2 _ (List.mem_of_getElem? (i := 95) rfl)) rfl
theorem co_X7_byteOfCode : Cond.code yX7_byteOfCode cX7_byteOfCode 1 (some .int) ∈ tg_ALL := tg_in (tb_2 _ (List.mem_of_getElem? (i := 96) rfl)) rfl
theorem ml_L_48 : Cond.methodLink RL 48 yX7_undo ∈ tg_ALL := tg_in (tb_2 _ (List.mem_of_getElem? (i := 97) rfl)) rfl
theorem im_X7_undo : Cond.instanceMethod yX7_undo ∈ tg_ALL := tg_in (tb_2 _ (List.mem_of_getElem? (i := 98) rfl)) rfl
theorem se_X7_undo : Cond.selects RX7 yX7_undo yX7_undo ∈ tg_ALL := tg_in (tb_2 _ (List.mem_of_getElem? (i := 99) rfl)) rfl
theorem co_X7_undo : Cond.code yX7_undo cX7_undo 3 (some .int) ∈ tg_ALL := tg_in (tb_2 _ (List.mem_of_getElem? (i := 100) rfl)) rfl
theorem ml_L_52 : Cond.methodLink RL 52 yX7_judged ∈ tg_ALL := tg_in (tb_2 _ (List.mem_of_getElem? (i := 101) rfl)) rfl
theorem im_X7_judged : Cond.instanceMethod yX7_judged ∈ tg_ALL := tg_in (tb_2 _ (List.mem_of_getElem? (i := 102) rfl)) rfl
theorem se_X7_judged : Cond.selects RX7 yX7_judged yX7_judged ∈ tg_ALL := tg_in (tb_2 _ (List.mem_of_getElem? (i := 103) rfl)) rfl
theorem co_X7_judged : Cond.code yX7_judged cX7_judged 3 (some .int) ∈ tg_ALL := tg_in (tb_2 _ (List.mem_of_getElem? (i := 104) rfl)) rfl
theorem ml_X7_128 : Cond.methodLink RX7 128 yX7_ended ∈ tg_ALL := tg_in (tb_2 _ (List.mem_of_getElem? (i := 105) rfl)) rfl
theorem im_X7_ended : Cond.instanceMethod yX7_ended ∈ tg_ALL := tg_in (tb_2 _ (List.mem_of_getElem? (i := 107) rfl)) rfl
theorem co_X7_ended : Cond.code yX7_ended cX7_ended 3 (some (.object "TwoGoats$Day")) ∈ tg_ALL := tg_in (tb_2 _ (List.mem_of_getElem? (i := 108) rfl)) rfl
theorem ml_X7_134 : Cond.methodLink RX7 134 yX0_walk ∈ tg_ALL := tg_in (tb_2 _ (List.mem_of_getElem? (i := 109) rfl)) rfl
theorem im_X0_walk : Cond.instanceMethod yX0_walk ∈ tg_ALL := tg_in (tb_2 _ (List.mem_of_getElem? (i := 110) rfl)) rfl
theorem se_X0_walk : Cond.selects RX0 yX0_walk yX0_walk ∈ tg_ALL := tg_in (tb_2 _ (List.mem_of_getElem? (i := 111) rfl)) rfl
theorem co_X0_walk : Cond.code yX0_walk cX0_walk 2 none ∈ tg_ALL := tg_in (tb_2 _ (List.mem_of_getElem? (i := 112) rfl)) rfl
theorem ml_X0_48 : Cond.methodLink RX0 48 yX1_standBoth ∈ tg_ALL := tg_in (tb_2 _ (List.mem_of_getElem? (i := 113) rfl)) rfl
theorem im_X1_standBoth : Cond.instanceMethod yX1_standBoth ∈ tg_ALL := tg_in (tb_2 _ (List.mem_of_getElem? (i := 114) rfl)) rfl
theorem se_X1_standBoth : Cond.selects RX1 yX1_standBoth yX1_standBoth ∈ tg_ALL := tg_in (tb_2 _ (List.mem_of_getElem? (i := 115) rfl)) rfl
theorem co_X1_standBoth : Cond.code yX1_standBoth cX1_standBoth 2 none ∈ tg_ALL := tg_in (tb_2 _ (List.mem_of_getElem? (i := 116) rfl)) rfl
theorem ml_X0_52 : Cond.methodLink RX0 52 yJ7_fill_53178 ∈ tg_ALL := tg_in (tb_2 _ (List.mem_of_getElem? (i := 117) rfl)) rfl
theorem st_J7_fill_53178 : Cond.static yJ7_fill_53178 ∈ tg_ALL := tg_in (tb_2 _ (List.mem_of_getElem? (i := 118) rfl)) rfl
theorem co_J7_fill_53178 : Cond.code yJ7_fill_53178 cJ7_fill_53178 4 none ∈ tg_ALL := tg_in (tb_2 _ (List.mem_of_getElem? (i := 119) rfl)) rfl
theorem ml_X0_61 : Cond.methodLink RX0 61 yX5_byteAt ∈ tg_ALL := tg_in (tb_2 _ (List.mem_of_getElem? (i := 120) rfl)) rfl
theorem nl_X0_65 : Cond.methodLinkNest RX0 65 yX7_codeOfByte RX7 ∈ lw_tbl := tb_2 _ (List.mem_of_getElem? (i := 121) rfl)
theorem st_X7_codeOfByte : Cond.static yX7_codeOfByte ∈ tg_ALL := tg_in (tb_2 _ (List.mem_of_getElem? (i := 122) rfl)) rfl
theorem co_X7_codeOfByte : Cond.code yX7_codeOfByte cX7_codeOfByte 1 (some .int) ∈ tg_ALL := tg_in (tb_2 _ (List.mem_of_getElem? (i := 123) rfl)) rfl
theorem ml_X0_68 : Cond.methodLink RX0 68 yX0_doStep ∈ tg_ALL := tg_in (tb_2 _ (List.mem_of_getElem? (i := 124) rfl)) rfl
theorem im_X0_doStep : Cond.instanceMethod yX0_doStep ∈ tg_ALL := tg_in (tb_2 _ (List.mem_of_getElem? (i := 126) rfl)) rfl
theorem co_X0_doStep : Cond.code yX0_doStep cX0_doStep 4 (some .boolean) ∈ tg_ALL := tg_in (tb_2 _ (List.mem_of_getElem? (i := 127) rfl)) rfl
theorem ml_X0_72 : Cond.methodLink RX0 72 yX1_canGo ∈ tg_ALL := tg_in (tb_2 _ (List.mem_of_getElem? (i := 128) rfl)) rfl
theorem im_X1_canGo : Cond.instanceMethod yX1_canGo ∈ tg_ALL := tg_in (tb_2 _ (List.mem_of_getElem? (i := 129) rfl)) rfl
theorem se_X1_canGo : Cond.selects RX1 yX1_canGo yX1_canGo ∈ tg_ALL := tg_in (tb_2 _ (List.mem_of_getElem? (i := 130) rfl)) rfl
theorem co_X1_canGo : Cond.code yX1_canGo cX1_canGo 3 (some .boolean) ∈ tg_ALL := tg_in (tb_2 _ (List.mem_of_getElem? (i := 131) rfl)) rfl
theorem nl_X1_50 : Cond.methodLinkNest RX1 50 yX7_isBelow RX7 ∈ lw_tbl := tb_2 _ (List.mem_of_getElem? (i := 132) rfl)
theorem ml_X1_54 : Cond.methodLink RX1 54 yX2_leadsFrom ∈ tg_ALL := tg_in (tb_2 _ (List.mem_of_getElem? (i := 133) rfl)) rfl
theorem im_X2_leadsFrom : Cond.instanceMethod yX2_leadsFrom ∈ tg_ALL := tg_in (tb_2 _ (List.mem_of_getElem? (i := 134) rfl)) rfl
theorem se_X2_leadsFrom : Cond.selects RX2 yX2_leadsFrom yX2_leadsFrom ∈ tg_ALL := tg_in (tb_2 _ (List.mem_of_getElem? (i := 135) rfl)) rfl
theorem co_X2_leadsFrom : Cond.code yX2_leadsFrom cX2_leadsFrom 3 (some .boolean) ∈ tg_ALL := tg_in (tb_2 _ (List.mem_of_getElem? (i := 136) rfl)) rfl
theorem ml_X0_76 : Cond.methodLink RX0 76 yX1_go ∈ tg_ALL := tg_in (tb_2 _ (List.mem_of_getElem? (i := 137) rfl)) rfl
theorem im_X1_go : Cond.instanceMethod yX1_go ∈ tg_ALL := tg_in (tb_2 _ (List.mem_of_getElem? (i := 138) rfl)) rfl
theorem se_X1_go : Cond.selects RX1 yX1_go yX1_go ∈ tg_ALL := tg_in (tb_2 _ (List.mem_of_getElem? (i := 139) rfl)) rfl
theorem co_X1_go : Cond.code yX1_go cX1_go 3 none ∈ tg_ALL := tg_in (tb_2 _ (List.mem_of_getElem? (i := 140) rfl)) rfl
theorem ml_X1_57 : Cond.methodLink RX1 57 yX1_nextTo ∈ tg_ALL := tg_in (tb_2 _ (List.mem_of_getElem? (i := 141) rfl)) rfl
theorem im_X1_nextTo : Cond.instanceMethod yX1_nextTo ∈ tg_ALL := tg_in (tb_2 _ (List.mem_of_getElem? (i := 142) rfl)) rfl
theorem se_X1_nextTo : Cond.selects RX1 yX1_nextTo yX1_nextTo ∈ tg_ALL := tg_in (tb_2 _ (List.mem_of_getElem? (i := 143) rfl)) rfl
theorem co_X1_nextTo : Cond.code yX1_nextTo cX1_nextTo 2 (some .int) ∈ tg_ALL := tg_in (tb_2 _ (List.mem_of_getElem? (i := 144) rfl)) rfl
theorem ml_X1_60 : Cond.methodLink RX1 60 yX1_takeUp ∈ tg_ALL := tg_in (tb_2 _ (List.mem_of_getElem? (i := 145) rfl)) rfl
theorem im_X1_takeUp : Cond.instanceMethod yX1_takeUp ∈ tg_ALL := tg_in (tb_2 _ (List.mem_of_getElem? (i := 147) rfl)) rfl
theorem co_X1_takeUp : Cond.code yX1_takeUp cX1_takeUp 2 none ∈ tg_ALL := tg_in (tb_2 _ (List.mem_of_getElem? (i := 148) rfl)) rfl
theorem ml_X1_63 : Cond.methodLink RX1 63 yX2_yardsOf ∈ tg_ALL := tg_in (tb_2 _ (List.mem_of_getElem? (i := 149) rfl)) rfl
theorem im_X2_yardsOf : Cond.instanceMethod yX2_yardsOf ∈ tg_ALL := tg_in (tb_2 _ (List.mem_of_getElem? (i := 150) rfl)) rfl
theorem se_X2_yardsOf : Cond.selects RX2 yX2_yardsOf yX2_yardsOf ∈ tg_ALL := tg_in (tb_2 _ (List.mem_of_getElem? (i := 151) rfl)) rfl
theorem co_X2_yardsOf : Cond.code yX2_yardsOf cX2_yardsOf 2 (some .int) ∈ tg_ALL := tg_in (tb_2 _ (List.mem_of_getElem? (i := 152) rfl)) rfl
theorem ml_X1_66 : Cond.methodLink RX1 66 yX1_layDown ∈ tg_ALL := tg_in (tb_2 _ (List.mem_of_getElem? (i := 153) rfl)) rfl
theorem im_X1_layDown : Cond.instanceMethod yX1_layDown ∈ tg_ALL := tg_in (tb_2 _ (List.mem_of_getElem? (i := 155) rfl)) rfl
theorem co_X1_layDown : Cond.code yX1_layDown cX1_layDown 3 none ∈ tg_ALL := tg_in (tb_2 _ (List.mem_of_getElem? (i := 156) rfl)) rfl
theorem ml_X1_69 : Cond.methodLink RX1 69 yX2_across ∈ tg_ALL := tg_in (tb_2 _ (List.mem_of_getElem? (i := 157) rfl)) rfl
theorem im_X2_across : Cond.instanceMethod yX2_across ∈ tg_ALL := tg_in (tb_2 _ (List.mem_of_getElem? (i := 158) rfl)) rfl
theorem se_X2_across : Cond.selects RX2 yX2_across yX2_across ∈ tg_ALL := tg_in (tb_2 _ (List.mem_of_getElem? (i := 159) rfl)) rfl
theorem co_X2_across : Cond.code yX2_across cX2_across 4 (some .int) ∈ tg_ALL := tg_in (tb_2 _ (List.mem_of_getElem? (i := 160) rfl)) rfl
theorem ml_X0_88 : Cond.methodLink RX0 88 yX2_isHeavier ∈ tg_ALL := tg_in (tb_2 _ (List.mem_of_getElem? (i := 161) rfl)) rfl
theorem im_X2_isHeavier : Cond.instanceMethod yX2_isHeavier ∈ tg_ALL := tg_in (tb_2 _ (List.mem_of_getElem? (i := 162) rfl)) rfl
theorem se_X2_isHeavier : Cond.selects RX2 yX2_isHeavier yX2_isHeavier ∈ tg_ALL := tg_in (tb_2 _ (List.mem_of_getElem? (i := 163) rfl)) rfl
theorem co_X2_isHeavier : Cond.code yX2_isHeavier cX2_isHeavier 2 (some .boolean) ∈ tg_ALL := tg_in (tb_2 _ (List.mem_of_getElem? (i := 164) rfl)) rfl
theorem ml_X0_91 : Cond.methodLink RX0 91 yX0_drag ∈ tg_ALL := tg_in (tb_2 _ (List.mem_of_getElem? (i := 165) rfl)) rfl
theorem im_X0_drag : Cond.instanceMethod yX0_drag ∈ tg_ALL := tg_in (tb_2 _ (List.mem_of_getElem? (i := 167) rfl)) rfl
theorem co_X0_drag : Cond.code yX0_drag cX0_drag 4 none ∈ tg_ALL := tg_in (tb_2 _ (List.mem_of_getElem? (i := 168) rfl)) rfl
theorem nl_X0_98 : Cond.methodLinkNest RX0 98 yX7_isBelow RX7 ∈ lw_tbl := tb_2 _ (List.mem_of_getElem? (i := 169) rfl)
theorem ml_X0_101 : Cond.methodLink RX0 101 yX1_nextTo ∈ tg_ALL := tg_in (tb_2 _ (List.mem_of_getElem? (i := 170) rfl)) rfl
theorem ml_X0_94 : Cond.methodLink RX0 94 yX0_eat ∈ tg_ALL := tg_in (tb_2 _ (List.mem_of_getElem? (i := 171) rfl)) rfl
theorem im_X0_eat : Cond.instanceMethod yX0_eat ∈ tg_ALL := tg_in (tb_2 _ (List.mem_of_getElem? (i := 173) rfl)) rfl
theorem co_X0_eat : Cond.code yX0_eat cX0_eat 3 none ∈ tg_ALL := tg_in (tb_2 _ (List.mem_of_getElem? (i := 174) rfl)) rfl
theorem ml_X0_107 : Cond.methodLink RX0 107 yX2_worthAt ∈ tg_ALL := tg_in (tb_2 _ (List.mem_of_getElem? (i := 175) rfl)) rfl
theorem im_X2_worthAt : Cond.instanceMethod yX2_worthAt ∈ tg_ALL := tg_in (tb_2 _ (List.mem_of_getElem? (i := 176) rfl)) rfl
theorem se_X2_worthAt : Cond.selects RX2 yX2_worthAt yX2_worthAt ∈ tg_ALL := tg_in (tb_2 _ (List.mem_of_getElem? (i := 177) rfl)) rfl
theorem co_X2_worthAt : Cond.code yX2_worthAt cX2_worthAt 3 (some .int) ∈ tg_ALL := tg_in (tb_2 _ (List.mem_of_getElem? (i := 178) rfl)) rfl
theorem nl_X2_87 : Cond.methodLinkNest RX2 87 yX7_isBelow RX7 ∈ lw_tbl := tb_2 _ (List.mem_of_getElem? (i := 179) rfl)
theorem ml_L_56 : Cond.methodLink RL 56 yX7_state ∈ tg_ALL := tg_in (tb_2 _ (List.mem_of_getElem? (i := 180) rfl)) rfl
theorem im_X7_state : Cond.instanceMethod yX7_state ∈ tg_ALL := tg_in (tb_2 _ (List.mem_of_getElem? (i := 181) rfl)) rfl
theorem se_X7_state : Cond.selects RX7 yX7_state yX7_state ∈ tg_ALL := tg_in (tb_2 _ (List.mem_of_getElem? (i := 182) rfl)) rfl
theorem co_X7_state : Cond.code yX7_state cX7_state 5 (some .int) ∈ tg_ALL := tg_in (tb_2 _ (List.mem_of_getElem? (i := 183) rfl)) rfl
theorem ml_X7_137 : Cond.methodLink RX7 137 yX0_told ∈ tg_ALL := tg_in (tb_2 _ (List.mem_of_getElem? (i := 184) rfl)) rfl
theorem im_X0_told : Cond.instanceMethod yX0_told ∈ tg_ALL := tg_in (tb_2 _ (List.mem_of_getElem? (i := 185) rfl)) rfl
theorem se_X0_told : Cond.selects RX0 yX0_told yX0_told ∈ tg_ALL := tg_in (tb_2 _ (List.mem_of_getElem? (i := 186) rfl)) rfl
theorem co_X0_told : Cond.code yX0_told cX0_told 2 (some .int) ∈ tg_ALL := tg_in (tb_2 _ (List.mem_of_getElem? (i := 187) rfl)) rfl
theorem ml_L_61 : Cond.methodLink RL 61 yX7_rope ∈ tg_ALL := tg_in (tb_2 _ (List.mem_of_getElem? (i := 188) rfl)) rfl
theorem im_X7_rope : Cond.instanceMethod yX7_rope ∈ tg_ALL := tg_in (tb_2 _ (List.mem_of_getElem? (i := 189) rfl)) rfl
theorem se_X7_rope : Cond.selects RX7 yX7_rope yX7_rope ∈ tg_ALL := tg_in (tb_2 _ (List.mem_of_getElem? (i := 190) rfl)) rfl
theorem co_X7_rope : Cond.code yX7_rope cX7_rope 5 (some .int) ∈ tg_ALL := tg_in (tb_2 _ (List.mem_of_getElem? (i := 191) rfl)) rfl
theorem ml_X7_143 : Cond.methodLink RX7 143 yX1_pathAt ∈ tg_ALL := tg_in (tb_2 _ (List.mem_of_getElem? (i := 192) rfl)) rfl
theorem im_X1_pathAt : Cond.instanceMethod yX1_pathAt ∈ tg_ALL := tg_in (tb_2 _ (List.mem_of_getElem? (i := 193) rfl)) rfl
theorem se_X1_pathAt : Cond.selects RX1 yX1_pathAt yX1_pathAt ∈ tg_ALL := tg_in (tb_2 _ (List.mem_of_getElem? (i := 194) rfl)) rfl
theorem co_X1_pathAt : Cond.code yX1_pathAt cX1_pathAt 2 (some .int) ∈ tg_ALL := tg_in (tb_2 _ (List.mem_of_getElem? (i := 195) rfl)) rfl
theorem ml_L_65 : Cond.methodLink RL 65 yX7_needs ∈ tg_ALL := tg_in (tb_2 _ (List.mem_of_getElem? (i := 196) rfl)) rfl
theorem im_X7_needs : Cond.instanceMethod yX7_needs ∈ tg_ALL := tg_in (tb_2 _ (List.mem_of_getElem? (i := 197) rfl)) rfl
theorem se_X7_needs : Cond.selects RX7 yX7_needs yX7_needs ∈ tg_ALL := tg_in (tb_2 _ (List.mem_of_getElem? (i := 198) rfl)) rfl
theorem co_X7_needs : Cond.code yX7_needs cX7_needs 2 (some .int) ∈ tg_ALL := tg_in (tb_2 _ (List.mem_of_getElem? (i := 199) rfl)) rfl
theorem ml_X7_146 : Cond.methodLink RX7 146 yX0_longestUnbound ∈ tg_ALL := tg_in (tb_2 _ (List.mem_of_getElem? (i := 200) rfl)) rfl
theorem im_X0_longestUnbound : Cond.instanceMethod yX0_longestUnbound ∈ tg_ALL := tg_in (tb_2 _ (List.mem_of_getElem? (i := 201) rfl)) rfl
theorem se_X0_longestUnbound : Cond.selects RX0 yX0_longestUnbound yX0_longestUnbound ∈ tg_ALL := tg_in (tb_2 _ (List.mem_of_getElem? (i := 202) rfl)) rfl
theorem co_X0_longestUnbound : Cond.code yX0_longestUnbound cX0_longestUnbound 4 (some .int) ∈ tg_ALL := tg_in (tb_2 _ (List.mem_of_getElem? (i := 203) rfl)) rfl
theorem ml_X0_111 : Cond.methodLink RX0 111 yJ9_max_7cf53 ∈ tg_ALL := tg_in (tb_2 _ (List.mem_of_getElem? (i := 204) rfl)) rfl
theorem st_J9_max_7cf53 : Cond.static yJ9_max_7cf53 ∈ tg_ALL := tg_in (tb_2 _ (List.mem_of_getElem? (i := 205) rfl)) rfl
theorem co_J9_max_7cf53 : Cond.code yJ9_max_7cf53 cJ9_max_7cf53 2 (some .int) ∈ tg_ALL := tg_in (tb_2 _ (List.mem_of_getElem? (i := 206) rfl)) rfl
theorem ml_L_69 : Cond.methodLink RL 69 yX7_soon ∈ tg_ALL := tg_in (tb_2 _ (List.mem_of_getElem? (i := 207) rfl)) rfl
theorem im_X7_soon : Cond.instanceMethod yX7_soon ∈ tg_ALL := tg_in (tb_2 _ (List.mem_of_getElem? (i := 208) rfl)) rfl
theorem se_X7_soon : Cond.selects RX7 yX7_soon yX7_soon ∈ tg_ALL := tg_in (tb_2 _ (List.mem_of_getElem? (i := 209) rfl)) rfl
theorem co_X7_soon : Cond.code yX7_soon cX7_soon 4 (some .int) ∈ tg_ALL := tg_in (tb_2 _ (List.mem_of_getElem? (i := 210) rfl)) rfl
theorem ml_X7_150 : Cond.methodLink RX7 150 yX3_fewest ∈ tg_ALL := tg_in (tb_2 _ (List.mem_of_getElem? (i := 211) rfl)) rfl
theorem im_X3_fewest : Cond.instanceMethod yX3_fewest ∈ tg_ALL := tg_in (tb_2 _ (List.mem_of_getElem? (i := 212) rfl)) rfl
theorem se_X3_fewest : Cond.selects RX3 yX3_fewest yX3_fewest ∈ tg_ALL := tg_in (tb_2 _ (List.mem_of_getElem? (i := 213) rfl)) rfl
theorem co_X3_fewest : Cond.code yX3_fewest cX3_fewest 8 (some .int) ∈ tg_ALL := tg_in (tb_2 _ (List.mem_of_getElem? (i := 214) rfl)) rfl
theorem ml_X3_36 : Cond.methodLink RX3 36 yX3_stand ∈ tg_ALL := tg_in (tb_2 _ (List.mem_of_getElem? (i := 215) rfl)) rfl
theorem st_X3_stand : Cond.static yX3_stand ∈ tg_ALL := tg_in (tb_2 _ (List.mem_of_getElem? (i := 216) rfl)) rfl
theorem co_X3_stand : Cond.code yX3_stand cX3_stand 3 (some .boolean) ∈ tg_ALL := tg_in (tb_2 _ (List.mem_of_getElem? (i := 217) rfl)) rfl
theorem ml_X3_40 : Cond.methodLink RX3 40 yJ7_fill_53178 ∈ tg_ALL := tg_in (tb_2 _ (List.mem_of_getElem? (i := 218) rfl)) rfl
theorem ml_X3_46 : Cond.methodLink RX3 46 yX1_asKey ∈ tg_ALL := tg_in (tb_2 _ (List.mem_of_getElem? (i := 219) rfl)) rfl
theorem im_X1_asKey : Cond.instanceMethod yX1_asKey ∈ tg_ALL := tg_in (tb_2 _ (List.mem_of_getElem? (i := 220) rfl)) rfl
theorem se_X1_asKey : Cond.selects RX1 yX1_asKey yX1_asKey ∈ tg_ALL := tg_in (tb_2 _ (List.mem_of_getElem? (i := 221) rfl)) rfl
theorem co_X1_asKey : Cond.code yX1_asKey cX1_asKey 4 (some .long) ∈ tg_ALL := tg_in (tb_2 _ (List.mem_of_getElem? (i := 222) rfl)) rfl
theorem ml_X1_36 : Cond.methodLink RX1 36 yX1_pathAt ∈ tg_ALL := tg_in (tb_2 _ (List.mem_of_getElem? (i := 223) rfl)) rfl
theorem ml_X3_50 : Cond.methodLink RX3 50 yX3_note ∈ tg_ALL := tg_in (tb_2 _ (List.mem_of_getElem? (i := 224) rfl)) rfl
theorem im_X3_note : Cond.instanceMethod yX3_note ∈ tg_ALL := tg_in (tb_2 _ (List.mem_of_getElem? (i := 226) rfl)) rfl
theorem co_X3_note : Cond.code yX3_note cX3_note 6 none ∈ tg_ALL := tg_in (tb_2 _ (List.mem_of_getElem? (i := 227) rfl)) rfl
theorem lc_X3_83 : Cond.constantLong RX3 83 (Int64.ofInt (-7046029254386353131)) ∈ tg_ALL := tg_in (tb_2 _ (List.mem_of_getElem? (i := 228) rfl)) rfl
theorem nl_X3_85 : Cond.methodLinkNest RX3 85 yX7_isBelow RX7 ∈ lw_tbl := tb_2 _ (List.mem_of_getElem? (i := 229) rfl)
theorem ml_X3_54 : Cond.methodLink RX3 54 yX3_leadsTo ∈ tg_ALL := tg_in (tb_2 _ (List.mem_of_getElem? (i := 230) rfl)) rfl
theorem im_X3_leadsTo : Cond.instanceMethod yX3_leadsTo ∈ tg_ALL := tg_in (tb_2 _ (List.mem_of_getElem? (i := 232) rfl)) rfl
theorem co_X3_leadsTo : Cond.code yX3_leadsTo cX3_leadsTo 8 (some .boolean) ∈ tg_ALL := tg_in (tb_2 _ (List.mem_of_getElem? (i := 233) rfl)) rfl
theorem ml_X3_61 : Cond.methodLink RX3 61 yX1_becomeKey ∈ tg_ALL := tg_in (tb_2 _ (List.mem_of_getElem? (i := 234) rfl)) rfl
theorem im_X1_becomeKey : Cond.instanceMethod yX1_becomeKey ∈ tg_ALL := tg_in (tb_2 _ (List.mem_of_getElem? (i := 235) rfl)) rfl
theorem se_X1_becomeKey : Cond.selects RX1 yX1_becomeKey yX1_becomeKey ∈ tg_ALL := tg_in (tb_2 _ (List.mem_of_getElem? (i := 236) rfl)) rfl
theorem co_X1_becomeKey : Cond.code yX1_becomeKey cX1_becomeKey 6 none ∈ tg_ALL := tg_in (tb_2 _ (List.mem_of_getElem? (i := 237) rfl)) rfl
theorem lc_X1_78 : Cond.constantLong RX1 78 (Int64.ofInt (7)) ∈ tg_ALL := tg_in (tb_2 _ (List.mem_of_getElem? (i := 238) rfl)) rfl
theorem ml_X1_32 : Cond.methodLink RX1 32 yX1_standBoth ∈ tg_ALL := tg_in (tb_2 _ (List.mem_of_getElem? (i := 239) rfl)) rfl
theorem ml_X1_40 : Cond.methodLink RX1 40 yX1_go ∈ tg_ALL := tg_in (tb_3 _ (List.mem_of_getElem? (i := 0) rfl)) rfl
theorem ml_X3_69 : Cond.methodLink RX3 69 yX1_canGo ∈ tg_ALL := tg_in (tb_3 _ (List.mem_of_getElem? (i := 1) rfl)) rfl
theorem ml_X3_73 : Cond.methodLink RX3 73 yX1_go ∈ tg_ALL := tg_in (tb_3 _ (List.mem_of_getElem? (i := 2) rfl)) rfl
theorem ml_L_73 : Cond.methodLink RL 73 yX7_loose ∈ tg_ALL := tg_in (tb_3 _ (List.mem_of_getElem? (i := 3) rfl)) rfl
theorem im_X7_loose : Cond.instanceMethod yX7_loose ∈ tg_ALL := tg_in (tb_3 _ (List.mem_of_getElem? (i := 4) rfl)) rfl
theorem se_X7_loose : Cond.selects RX7 yX7_loose yX7_loose ∈ tg_ALL := tg_in (tb_3 _ (List.mem_of_getElem? (i := 5) rfl)) rfl
theorem co_X7_loose : Cond.code yX7_loose cX7_loose 2 (some .int) ∈ tg_ALL := tg_in (tb_3 _ (List.mem_of_getElem? (i := 6) rfl)) rfl
theorem ml_L_77 : Cond.methodLink RL 77 yX7_pulled ∈ tg_ALL := tg_in (tb_3 _ (List.mem_of_getElem? (i := 7) rfl)) rfl
theorem im_X7_pulled : Cond.instanceMethod yX7_pulled ∈ tg_ALL := tg_in (tb_3 _ (List.mem_of_getElem? (i := 8) rfl)) rfl
theorem se_X7_pulled : Cond.selects RX7 yX7_pulled yX7_pulled ∈ tg_ALL := tg_in (tb_3 _ (List.mem_of_getElem? (i := 9) rfl)) rfl
theorem co_X7_pulled : Cond.code yX7_pulled cX7_pulled 5 (some .int) ∈ tg_ALL := tg_in (tb_3 _ (List.mem_of_getElem? (i := 10) rfl)) rfl
theorem ml_X7_155 : Cond.methodLink RX7 155 yX2_haveSameEnds ∈ tg_ALL := tg_in (tb_3 _ (List.mem_of_getElem? (i := 11) rfl)) rfl
theorem im_X2_haveSameEnds : Cond.instanceMethod yX2_haveSameEnds ∈ tg_ALL := tg_in (tb_3 _ (List.mem_of_getElem? (i := 12) rfl)) rfl
theorem se_X2_haveSameEnds : Cond.selects RX2 yX2_haveSameEnds yX2_haveSameEnds ∈ tg_ALL := tg_in (tb_3 _ (List.mem_of_getElem? (i := 13) rfl)) rfl
theorem co_X2_haveSameEnds : Cond.code yX2_haveSameEnds cX2_haveSameEnds 3 (some .boolean) ∈ tg_ALL := tg_in (tb_3 _ (List.mem_of_getElem? (i := 14) rfl)) rfl
theorem ml_X2_69 : Cond.methodLink RX2 69 yX2_leadsFrom ∈ tg_ALL := tg_in (tb_3 _ (List.mem_of_getElem? (i := 15) rfl)) rfl
theorem ml_X7_158 : Cond.methodLink RX7 158 yX1_relay ∈ tg_ALL := tg_in (tb_3 _ (List.mem_of_getElem? (i := 16) rfl)) rfl
theorem im_X1_relay : Cond.instanceMethod yX1_relay ∈ tg_ALL := tg_in (tb_3 _ (List.mem_of_getElem? (i := 17) rfl)) rfl
theorem se_X1_relay : Cond.selects RX1 yX1_relay yX1_relay ∈ tg_ALL := tg_in (tb_3 _ (List.mem_of_getElem? (i := 18) rfl)) rfl
theorem co_X1_relay : Cond.code yX1_relay cX1_relay 7 none ∈ tg_ALL := tg_in (tb_3 _ (List.mem_of_getElem? (i := 19) rfl)) rfl
theorem ml_X1_44 : Cond.methodLink RX1 44 yX2_shorter ∈ tg_ALL := tg_in (tb_3 _ (List.mem_of_getElem? (i := 20) rfl)) rfl
theorem im_X2_shorter : Cond.instanceMethod yX2_shorter ∈ tg_ALL := tg_in (tb_3 _ (List.mem_of_getElem? (i := 21) rfl)) rfl
theorem se_X2_shorter : Cond.selects RX2 yX2_shorter yX2_shorter ∈ tg_ALL := tg_in (tb_3 _ (List.mem_of_getElem? (i := 22) rfl)) rfl
theorem co_X2_shorter : Cond.code yX2_shorter cX2_shorter 5 (some .int) ∈ tg_ALL := tg_in (tb_3 _ (List.mem_of_getElem? (i := 23) rfl)) rfl
theorem ml_X2_73 : Cond.methodLink RX2 73 yJ9_min_7cf53 ∈ tg_ALL := tg_in (tb_3 _ (List.mem_of_getElem? (i := 24) rfl)) rfl
theorem st_J9_min_7cf53 : Cond.static yJ9_min_7cf53 ∈ tg_ALL := tg_in (tb_3 _ (List.mem_of_getElem? (i := 25) rfl)) rfl
theorem co_J9_min_7cf53 : Cond.code yJ9_min_7cf53 cJ9_min_7cf53 2 (some .int) ∈ tg_ALL := tg_in (tb_3 _ (List.mem_of_getElem? (i := 26) rfl)) rfl
theorem ml_X2_78 : Cond.methodLink RX2 78 yJ9_max_7cf53 ∈ tg_ALL := tg_in (tb_3 _ (List.mem_of_getElem? (i := 27) rfl)) rfl
theorem ml_X2_81 : Cond.methodLink RX2 81 yX2_yardsOf ∈ tg_ALL := tg_in (tb_3 _ (List.mem_of_getElem? (i := 28) rfl)) rfl
theorem ml_L_82 : Cond.methodLink RL 82 yX7_began ∈ tg_ALL := tg_in (tb_3 _ (List.mem_of_getElem? (i := 29) rfl)) rfl
theorem im_X7_began : Cond.instanceMethod yX7_began ∈ tg_ALL := tg_in (tb_3 _ (List.mem_of_getElem? (i := 30) rfl)) rfl
theorem se_X7_began : Cond.selects RX7 yX7_began yX7_began ∈ tg_ALL := tg_in (tb_3 _ (List.mem_of_getElem? (i := 31) rfl)) rfl
theorem co_X7_began : Cond.code yX7_began cX7_began 5 (some .int) ∈ tg_ALL := tg_in (tb_3 _ (List.mem_of_getElem? (i := 32) rfl)) rfl
theorem ml_X7_165 : Cond.methodLink RX7 165 yX1_stepsOff ∈ tg_ALL := tg_in (tb_3 _ (List.mem_of_getElem? (i := 33) rfl)) rfl
theorem im_X1_stepsOff : Cond.instanceMethod yX1_stepsOff ∈ tg_ALL := tg_in (tb_3 _ (List.mem_of_getElem? (i := 34) rfl)) rfl
theorem se_X1_stepsOff : Cond.selects RX1 yX1_stepsOff yX1_stepsOff ∈ tg_ALL := tg_in (tb_3 _ (List.mem_of_getElem? (i := 35) rfl)) rfl
theorem co_X1_stepsOff : Cond.code yX1_stepsOff cX1_stepsOff 6 (some .int) ∈ tg_ALL := tg_in (tb_3 _ (List.mem_of_getElem? (i := 36) rfl)) rfl
theorem ml_X1_72 : Cond.methodLink RX1 72 yX2_measureFrom ∈ tg_ALL := tg_in (tb_3 _ (List.mem_of_getElem? (i := 37) rfl)) rfl
theorem im_X2_measureFrom : Cond.instanceMethod yX2_measureFrom ∈ tg_ALL := tg_in (tb_3 _ (List.mem_of_getElem? (i := 38) rfl)) rfl
theorem se_X2_measureFrom : Cond.selects RX2 yX2_measureFrom yX2_measureFrom ∈ tg_ALL := tg_in (tb_3 _ (List.mem_of_getElem? (i := 39) rfl)) rfl
theorem co_X2_measureFrom : Cond.code yX2_measureFrom cX2_measureFrom 4 none ∈ tg_ALL := tg_in (tb_3 _ (List.mem_of_getElem? (i := 40) rfl)) rfl
theorem ml_X2_90 : Cond.methodLink RX2 90 yJ7_fill_53178 ∈ tg_ALL := tg_in (tb_3 _ (List.mem_of_getElem? (i := 41) rfl)) rfl
theorem ml_X2_96 : Cond.methodLink RX2 96 yX2_measureAcross ∈ tg_ALL := tg_in (tb_3 _ (List.mem_of_getElem? (i := 42) rfl)) rfl
theorem im_X2_measureAcross : Cond.instanceMethod yX2_measureAcross ∈ tg_ALL := tg_in (tb_3 _ (List.mem_of_getElem? (i := 44) rfl)) rfl
theorem co_X2_measureAcross : Cond.code yX2_measureAcross cX2_measureAcross 4 none ∈ tg_ALL := tg_in (tb_3 _ (List.mem_of_getElem? (i := 45) rfl)) rfl
theorem ml_L_86 : Cond.methodLink RL 86 yX7_game ∈ tg_ALL := tg_in (tb_3 _ (List.mem_of_getElem? (i := 46) rfl)) rfl
theorem im_X7_game : Cond.instanceMethod yX7_game ∈ tg_ALL := tg_in (tb_3 _ (List.mem_of_getElem? (i := 47) rfl)) rfl
theorem se_X7_game : Cond.selects RX7 yX7_game yX7_game ∈ tg_ALL := tg_in (tb_3 _ (List.mem_of_getElem? (i := 48) rfl)) rfl
theorem co_X7_game : Cond.code yX7_game cX7_game 5 (some .int) ∈ tg_ALL := tg_in (tb_3 _ (List.mem_of_getElem? (i := 49) rfl)) rfl
theorem ml_X7_168 : Cond.methodLink RX7 168 yX6_play ∈ tg_ALL := tg_in (tb_3 _ (List.mem_of_getElem? (i := 50) rfl)) rfl
theorem im_X6_play : Cond.instanceMethod yX6_play ∈ tg_ALL := tg_in (tb_3 _ (List.mem_of_getElem? (i := 51) rfl)) rfl
theorem se_X6_play : Cond.selects RX6 yX6_play yX6_play ∈ tg_ALL := tg_in (tb_3 _ (List.mem_of_getElem? (i := 52) rfl)) rfl
theorem co_X6_play : Cond.code yX6_play cX6_play 3 (some .int) ∈ tg_ALL := tg_in (tb_3 _ (List.mem_of_getElem? (i := 53) rfl)) rfl
theorem ml_X6_34 : Cond.methodLink RX6 34 yX1_become ∈ tg_ALL := tg_in (tb_3 _ (List.mem_of_getElem? (i := 54) rfl)) rfl
theorem im_X1_become : Cond.instanceMethod yX1_become ∈ tg_ALL := tg_in (tb_3 _ (List.mem_of_getElem? (i := 55) rfl)) rfl
theorem se_X1_become : Cond.selects RX1 yX1_become yX1_become ∈ tg_ALL := tg_in (tb_3 _ (List.mem_of_getElem? (i := 56) rfl)) rfl
theorem co_X1_become : Cond.code yX1_become cX1_become 3 none ∈ tg_ALL := tg_in (tb_3 _ (List.mem_of_getElem? (i := 57) rfl)) rfl
theorem ml_X6_39 : Cond.methodLink RX6 39 yX6_gain ∈ tg_ALL := tg_in (tb_3 _ (List.mem_of_getElem? (i := 58) rfl)) rfl
theorem im_X6_gain : Cond.instanceMethod yX6_gain ∈ tg_ALL := tg_in (tb_3 _ (List.mem_of_getElem? (i := 60) rfl)) rfl
theorem co_X6_gain : Cond.code yX6_gain cX6_gain 9 (some .int) ∈ tg_ALL := tg_in (tb_3 _ (List.mem_of_getElem? (i := 61) rfl)) rfl
theorem ml_X6_43 : Cond.methodLink RX6 43 yX2_worthBeside ∈ tg_ALL := tg_in (tb_3 _ (List.mem_of_getElem? (i := 62) rfl)) rfl
theorem im_X2_worthBeside : Cond.instanceMethod yX2_worthBeside ∈ tg_ALL := tg_in (tb_3 _ (List.mem_of_getElem? (i := 63) rfl)) rfl
theorem se_X2_worthBeside : Cond.selects RX2 yX2_worthBeside yX2_worthBeside ∈ tg_ALL := tg_in (tb_3 _ (List.mem_of_getElem? (i := 64) rfl)) rfl
theorem co_X2_worthBeside : Cond.code yX2_worthBeside cX2_worthBeside 4 (some .int) ∈ tg_ALL := tg_in (tb_3 _ (List.mem_of_getElem? (i := 65) rfl)) rfl
theorem ml_X2_84 : Cond.methodLink RX2 84 yX2_worthAt ∈ tg_ALL := tg_in (tb_3 _ (List.mem_of_getElem? (i := 66) rfl)) rfl
theorem ml_X6_52 : Cond.methodLink RX6 52 yX1_canGo ∈ tg_ALL := tg_in (tb_3 _ (List.mem_of_getElem? (i := 67) rfl)) rfl
theorem ml_X6_56 : Cond.methodLink RX6 56 yX1_go ∈ tg_ALL := tg_in (tb_3 _ (List.mem_of_getElem? (i := 68) rfl)) rfl
theorem ml_X6_66 : Cond.methodLink RX6 66 yJ9_max_7cf53 ∈ tg_ALL := tg_in (tb_3 _ (List.mem_of_getElem? (i := 69) rfl)) rfl
theorem ml_X6_72 : Cond.methodLink RX6 72 yX6_gainByStep ∈ tg_ALL := tg_in (tb_3 _ (List.mem_of_getElem? (i := 70) rfl)) rfl
theorem im_X6_gainByStep : Cond.instanceMethod yX6_gainByStep ∈ tg_ALL := tg_in (tb_3 _ (List.mem_of_getElem? (i := 72) rfl)) rfl
theorem co_X6_gainByStep : Cond.code yX6_gainByStep cX6_gainByStep 9 (some .int) ∈ tg_ALL := tg_in (tb_3 _ (List.mem_of_getElem? (i := 73) rfl)) rfl
theorem nl_X6_75 : Cond.methodLinkNest RX6 75 yX7_isBelow RX7 ∈ lw_tbl := tb_3 _ (List.mem_of_getElem? (i := 74) rfl)
theorem ml_X6_82 : Cond.methodLink RX6 82 yX2_worthAt ∈ tg_ALL := tg_in (tb_3 _ (List.mem_of_getElem? (i := 75) rfl)) rfl
theorem ml_L_90 : Cond.methodLink RL 90 yX7_alike ∈ tg_ALL := tg_in (tb_3 _ (List.mem_of_getElem? (i := 76) rfl)) rfl
theorem im_X7_alike : Cond.instanceMethod yX7_alike ∈ tg_ALL := tg_in (tb_3 _ (List.mem_of_getElem? (i := 77) rfl)) rfl
theorem se_X7_alike : Cond.selects RX7 yX7_alike yX7_alike ∈ tg_ALL := tg_in (tb_3 _ (List.mem_of_getElem? (i := 78) rfl)) rfl
theorem co_X7_alike : Cond.code yX7_alike cX7_alike 3 (some .int) ∈ tg_ALL := tg_in (tb_3 _ (List.mem_of_getElem? (i := 79) rfl)) rfl
theorem ml_X7_175 : Cond.methodLink RX7 175 yX1_standsAs ∈ tg_ALL := tg_in (tb_3 _ (List.mem_of_getElem? (i := 80) rfl)) rfl
theorem im_X1_standsAs : Cond.instanceMethod yX1_standsAs ∈ tg_ALL := tg_in (tb_3 _ (List.mem_of_getElem? (i := 81) rfl)) rfl
theorem se_X1_standsAs : Cond.selects RX1 yX1_standsAs yX1_standsAs ∈ tg_ALL := tg_in (tb_3 _ (List.mem_of_getElem? (i := 82) rfl)) rfl
theorem co_X1_standsAs : Cond.code yX1_standsAs cX1_standsAs 2 (some .boolean) ∈ tg_ALL := tg_in (tb_3 _ (List.mem_of_getElem? (i := 83) rfl)) rfl
theorem ml_X7_179 : Cond.methodLink RX7 179 yX1_liesAs ∈ tg_ALL := tg_in (tb_3 _ (List.mem_of_getElem? (i := 84) rfl)) rfl
theorem im_X1_liesAs : Cond.instanceMethod yX1_liesAs ∈ tg_ALL := tg_in (tb_3 _ (List.mem_of_getElem? (i := 85) rfl)) rfl
theorem se_X1_liesAs : Cond.selects RX1 yX1_liesAs yX1_liesAs ∈ tg_ALL := tg_in (tb_3 _ (List.mem_of_getElem? (i := 86) rfl)) rfl
theorem co_X1_liesAs : Cond.code yX1_liesAs cX1_liesAs 3 (some .boolean) ∈ tg_ALL := tg_in (tb_3 _ (List.mem_of_getElem? (i := 87) rfl)) rfl
theorem ml_L_94 : Cond.methodLink RL 94 yX7_sheet ∈ tg_ALL := tg_in (tb_3 _ (List.mem_of_getElem? (i := 88) rfl)) rfl
theorem im_X7_sheet : Cond.instanceMethod yX7_sheet ∈ tg_ALL := tg_in (tb_3 _ (List.mem_of_getElem? (i := 89) rfl)) rfl
theorem se_X7_sheet : Cond.selects RX7 yX7_sheet yX7_sheet ∈ tg_ALL := tg_in (tb_3 _ (List.mem_of_getElem? (i := 90) rfl)) rfl
theorem co_X7_sheet : Cond.code yX7_sheet cX7_sheet 4 (some .int) ∈ tg_ALL := tg_in (tb_3 _ (List.mem_of_getElem? (i := 91) rfl)) rfl
theorem ml_X7_182 : Cond.methodLink RX7 182 yX4_renew ∈ tg_ALL := tg_in (tb_3 _ (List.mem_of_getElem? (i := 92) rfl)) rfl
theorem im_X4_renew : Cond.instanceMethod yX4_renew ∈ tg_ALL := tg_in (tb_3 _ (List.mem_of_getElem? (i := 93) rfl)) rfl
theorem se_X4_renew : Cond.selects RX4 yX4_renew yX4_renew ∈ tg_ALL := tg_in (tb_3 _ (List.mem_of_getElem? (i := 94) rfl)) rfl
theorem co_X4_renew : Cond.code yX4_renew cX4_renew 3 none ∈ tg_ALL := tg_in (tb_3 _ (List.mem_of_getElem? (i := 95) rfl)) rfl
theorem ml_X4_22 : Cond.methodLink RX4 22 yJ7_fill_53178 ∈ tg_ALL := tg_in (tb_3 _ (List.mem_of_getElem? (i := 96) rfl)) rfl
theorem ml_L_98 : Cond.methodLink RL 98 yX7_lose ∈ tg_ALL := tg_in (tb_3 _ (List.mem_of_getElem? (i := 97) rfl)) rfl
theorem im_X7_lose : Cond.instanceMethod yX7_lose ∈ tg_ALL := tg_in (tb_3 _ (List.mem_of_getElem? (i := 98) rfl)) rfl
theorem se_X7_lose : Cond.selects RX7 yX7_lose yX7_lose ∈ tg_ALL := tg_in (tb_3 _ (List.mem_of_getElem? (i := 99) rfl)) rfl
theorem co_X7_lose : Cond.code yX7_lose cX7_lose 4 (some .int) ∈ tg_ALL := tg_in (tb_3 _ (List.mem_of_getElem? (i := 100) rfl)) rfl
theorem ml_L_102 : Cond.methodLink RL 102 yX7_lay ∈ tg_ALL := tg_in (tb_3 _ (List.mem_of_getElem? (i := 101) rfl)) rfl
theorem im_X7_lay : Cond.instanceMethod yX7_lay ∈ tg_ALL := tg_in (tb_3 _ (List.mem_of_getElem? (i := 102) rfl)) rfl
theorem se_X7_lay : Cond.selects RX7 yX7_lay yX7_lay ∈ tg_ALL := tg_in (tb_3 _ (List.mem_of_getElem? (i := 103) rfl)) rfl
theorem co_X7_lay : Cond.code yX7_lay cX7_lay 7 (some .int) ∈ tg_ALL := tg_in (tb_3 _ (List.mem_of_getElem? (i := 104) rfl)) rfl
theorem ml_X7_186 : Cond.methodLink RX7 186 yX4_findsAt ∈ tg_ALL := tg_in (tb_3 _ (List.mem_of_getElem? (i := 105) rfl)) rfl
theorem im_X4_findsAt : Cond.instanceMethod yX4_findsAt ∈ tg_ALL := tg_in (tb_3 _ (List.mem_of_getElem? (i := 106) rfl)) rfl
theorem se_X4_findsAt : Cond.selects RX4 yX4_findsAt yX4_findsAt ∈ tg_ALL := tg_in (tb_3 _ (List.mem_of_getElem? (i := 107) rfl)) rfl
theorem co_X4_findsAt : Cond.code yX4_findsAt cX4_findsAt 3 (some .int) ∈ tg_ALL := tg_in (tb_3 _ (List.mem_of_getElem? (i := 108) rfl)) rfl
theorem nl_X4_28 : Cond.methodLinkNest RX4 28 yX7_isBelow RX7 ∈ lw_tbl := tb_3 _ (List.mem_of_getElem? (i := 109) rfl)
theorem ml_X7_189 : Cond.methodLink RX7 189 yX4_put ∈ tg_ALL := tg_in (tb_3 _ (List.mem_of_getElem? (i := 110) rfl)) rfl
theorem im_X4_put : Cond.instanceMethod yX4_put ∈ tg_ALL := tg_in (tb_3 _ (List.mem_of_getElem? (i := 111) rfl)) rfl
theorem se_X4_put : Cond.selects RX4 yX4_put yX4_put ∈ tg_ALL := tg_in (tb_3 _ (List.mem_of_getElem? (i := 112) rfl)) rfl
theorem co_X4_put : Cond.code yX4_put cX4_put 3 none ∈ tg_ALL := tg_in (tb_3 _ (List.mem_of_getElem? (i := 113) rfl)) rfl
theorem ml_X4_32 : Cond.methodLink RX4 32 yX4_cut ∈ tg_ALL := tg_in (tb_3 _ (List.mem_of_getElem? (i := 114) rfl)) rfl
theorem im_X4_cut : Cond.instanceMethod yX4_cut ∈ tg_ALL := tg_in (tb_3 _ (List.mem_of_getElem? (i := 116) rfl)) rfl
theorem co_X4_cut : Cond.code yX4_cut cX4_cut 2 (some .int) ∈ tg_ALL := tg_in (tb_3 _ (List.mem_of_getElem? (i := 117) rfl)) rfl
theorem ml_L_106 : Cond.methodLink RL 106 yX7_get ∈ tg_ALL := tg_in (tb_3 _ (List.mem_of_getElem? (i := 118) rfl)) rfl
theorem im_X7_get : Cond.instanceMethod yX7_get ∈ tg_ALL := tg_in (tb_3 _ (List.mem_of_getElem? (i := 119) rfl)) rfl
theorem se_X7_get : Cond.selects RX7 yX7_get yX7_get ∈ tg_ALL := tg_in (tb_3 _ (List.mem_of_getElem? (i := 120) rfl)) rfl
theorem co_X7_get : Cond.code yX7_get cX7_get 6 (some .int) ∈ tg_ALL := tg_in (tb_3 _ (List.mem_of_getElem? (i := 121) rfl)) rfl
theorem ic_X7_192 : Cond.constant RX7 192 (Int32.ofInt (-2147483648)) ∈ tg_ALL := tg_in (tb_3 _ (List.mem_of_getElem? (i := 122) rfl)) rfl
theorem ml_X7_193 : Cond.methodLink RX7 193 yX4_item ∈ tg_ALL := tg_in (tb_3 _ (List.mem_of_getElem? (i := 123) rfl)) rfl
theorem im_X4_item : Cond.instanceMethod yX4_item ∈ tg_ALL := tg_in (tb_3 _ (List.mem_of_getElem? (i := 124) rfl)) rfl
theorem se_X4_item : Cond.selects RX4 yX4_item yX4_item ∈ tg_ALL := tg_in (tb_3 _ (List.mem_of_getElem? (i := 125) rfl)) rfl
theorem co_X4_item : Cond.code yX4_item cX4_item 2 (some .int) ∈ tg_ALL := tg_in (tb_3 _ (List.mem_of_getElem? (i := 126) rfl)) rfl
theorem ml_L_110 : Cond.methodLink RL 110 yX7_copy ∈ tg_ALL := tg_in (tb_3 _ (List.mem_of_getElem? (i := 127) rfl)) rfl
theorem im_X7_copy : Cond.instanceMethod yX7_copy ∈ tg_ALL := tg_in (tb_3 _ (List.mem_of_getElem? (i := 128) rfl)) rfl
theorem se_X7_copy : Cond.selects RX7 yX7_copy yX7_copy ∈ tg_ALL := tg_in (tb_3 _ (List.mem_of_getElem? (i := 129) rfl)) rfl
theorem co_X7_copy : Cond.code yX7_copy cX7_copy 8 (some .int) ∈ tg_ALL := tg_in (tb_3 _ (List.mem_of_getElem? (i := 130) rfl)) rfl
theorem ml_X7_196 : Cond.methodLink RX7 196 yX4_hasItems ∈ tg_ALL := tg_in (tb_3 _ (List.mem_of_getElem? (i := 131) rfl)) rfl
theorem im_X4_hasItems : Cond.instanceMethod yX4_hasItems ∈ tg_ALL := tg_in (tb_3 _ (List.mem_of_getElem? (i := 132) rfl)) rfl
theorem se_X4_hasItems : Cond.selects RX4 yX4_hasItems yX4_hasItems ∈ tg_ALL := tg_in (tb_3 _ (List.mem_of_getElem? (i := 133) rfl)) rfl
theorem co_X4_hasItems : Cond.code yX4_hasItems cX4_hasItems 3 (some .boolean) ∈ tg_ALL := tg_in (tb_3 _ (List.mem_of_getElem? (i := 134) rfl)) rfl
theorem ml_X7_199 : Cond.methodLink RX7 199 arraycopyName ∈ tg_ALL := tg_in (tb_3 _ (List.mem_of_getElem? (i := 135) rfl)) rfl
theorem na_copy : Cond.native arraycopyName ∈ tg_ALL := tg_in (tb_3 _ (List.mem_of_getElem? (i := 137) rfl)) rfl
theorem ml_L_115 : Cond.methodLink RL 115 yX7_write ∈ tg_ALL := tg_in (tb_3 _ (List.mem_of_getElem? (i := 138) rfl)) rfl
theorem im_X7_write : Cond.instanceMethod yX7_write ∈ tg_ALL := tg_in (tb_3 _ (List.mem_of_getElem? (i := 139) rfl)) rfl
theorem se_X7_write : Cond.selects RX7 yX7_write yX7_write ∈ tg_ALL := tg_in (tb_3 _ (List.mem_of_getElem? (i := 140) rfl)) rfl
theorem co_X7_write : Cond.code yX7_write cX7_write 7 (some .int) ∈ tg_ALL := tg_in (tb_3 _ (List.mem_of_getElem? (i := 141) rfl)) rfl
theorem ml_X7_205 : Cond.methodLink RX7 205 yJ9_min_7cf53 ∈ tg_ALL := tg_in (tb_3 _ (List.mem_of_getElem? (i := 142) rfl)) rfl
theorem ml_L_119 : Cond.methodLink RL 119 yX7_count ∈ tg_ALL := tg_in (tb_3 _ (List.mem_of_getElem? (i := 143) rfl)) rfl
theorem im_X7_count : Cond.instanceMethod yX7_count ∈ tg_ALL := tg_in (tb_3 _ (List.mem_of_getElem? (i := 144) rfl)) rfl
theorem se_X7_count : Cond.selects RX7 yX7_count yX7_count ∈ tg_ALL := tg_in (tb_3 _ (List.mem_of_getElem? (i := 145) rfl)) rfl
theorem co_X7_count : Cond.code yX7_count cX7_count 2 (some .int) ∈ tg_ALL := tg_in (tb_3 _ (List.mem_of_getElem? (i := 146) rfl)) rfl
theorem ml_X7_210 : Cond.methodLink RX7 210 yX2_allYards ∈ tg_ALL := tg_in (tb_3 _ (List.mem_of_getElem? (i := 147) rfl)) rfl
theorem im_X2_allYards : Cond.instanceMethod yX2_allYards ∈ tg_ALL := tg_in (tb_3 _ (List.mem_of_getElem? (i := 148) rfl)) rfl
theorem se_X2_allYards : Cond.selects RX2 yX2_allYards yX2_allYards ∈ tg_ALL := tg_in (tb_3 _ (List.mem_of_getElem? (i := 149) rfl)) rfl
theorem co_X2_allYards : Cond.code yX2_allYards cX2_allYards 3 (some .int) ∈ tg_ALL := tg_in (tb_3 _ (List.mem_of_getElem? (i := 150) rfl)) rfl
theorem ml_X7_213 : Cond.methodLink RX7 213 yX2_worthBeside ∈ tg_ALL := tg_in (tb_3 _ (List.mem_of_getElem? (i := 151) rfl)) rfl
theorem ml_L_123 : Cond.methodLink RL 123 yX7_digest ∈ tg_ALL := tg_in (tb_3 _ (List.mem_of_getElem? (i := 152) rfl)) rfl
theorem im_X7_digest : Cond.instanceMethod yX7_digest ∈ tg_ALL := tg_in (tb_3 _ (List.mem_of_getElem? (i := 153) rfl)) rfl
theorem se_X7_digest : Cond.selects RX7 yX7_digest yX7_digest ∈ tg_ALL := tg_in (tb_3 _ (List.mem_of_getElem? (i := 154) rfl)) rfl
theorem co_X7_digest : Cond.code yX7_digest cX7_digest 6 (some .long) ∈ tg_ALL := tg_in (tb_3 _ (List.mem_of_getElem? (i := 155) rfl)) rfl
theorem lc_X7_216 : Cond.constantLong RX7 216 (Int64.ofInt (17)) ∈ tg_ALL := tg_in (tb_3 _ (List.mem_of_getElem? (i := 156) rfl)) rfl
theorem lc_X7_218 : Cond.constantLong RX7 218 (Int64.ofInt (31)) ∈ tg_ALL := tg_in (tb_3 _ (List.mem_of_getElem? (i := 157) rfl)) rfl
theorem ml_X7_220 : Cond.methodLink RX7 220 yX7_count ∈ tg_ALL := tg_in (tb_3 _ (List.mem_of_getElem? (i := 158) rfl)) rfl
theorem ml_X7_223 : Cond.methodLink RX7 223 yX7_fault ∈ tg_ALL := tg_in (tb_3 _ (List.mem_of_getElem? (i := 159) rfl)) rfl
theorem ml_X7_226 : Cond.methodLink RX7 226 yX7_path ∈ tg_ALL := tg_in (tb_3 _ (List.mem_of_getElem? (i := 160) rfl)) rfl
theorem ml_X7_229 : Cond.methodLink RX7 229 yX7_judged ∈ tg_ALL := tg_in (tb_3 _ (List.mem_of_getElem? (i := 161) rfl)) rfl
theorem ml_X7_232 : Cond.methodLink RX7 232 yX7_state ∈ tg_ALL := tg_in (tb_3 _ (List.mem_of_getElem? (i := 162) rfl)) rfl
theorem ml_X7_236 : Cond.methodLink RX7 236 yX7_rope ∈ tg_ALL := tg_in (tb_3 _ (List.mem_of_getElem? (i := 163) rfl)) rfl
theorem ml_X7_239 : Cond.methodLink RX7 239 yX7_needs ∈ tg_ALL := tg_in (tb_3 _ (List.mem_of_getElem? (i := 164) rfl)) rfl
theorem ml_X7_242 : Cond.methodLink RX7 242 yX7_soon ∈ tg_ALL := tg_in (tb_3 _ (List.mem_of_getElem? (i := 165) rfl)) rfl
theorem ml_X7_245 : Cond.methodLink RX7 245 yX7_loose ∈ tg_ALL := tg_in (tb_3 _ (List.mem_of_getElem? (i := 166) rfl)) rfl
theorem ml_X7_248 : Cond.methodLink RX7 248 yX7_began ∈ tg_ALL := tg_in (tb_3 _ (List.mem_of_getElem? (i := 167) rfl)) rfl
theorem ml_X7_251 : Cond.methodLink RX7 251 yX7_game ∈ tg_ALL := tg_in (tb_3 _ (List.mem_of_getElem? (i := 168) rfl)) rfl
theorem ml_X7_254 : Cond.methodLink RX7 254 yX7_pulled ∈ tg_ALL := tg_in (tb_3 _ (List.mem_of_getElem? (i := 169) rfl)) rfl
theorem ml_X7_258 : Cond.methodLink RX7 258 yX7_alike ∈ tg_ALL := tg_in (tb_3 _ (List.mem_of_getElem? (i := 170) rfl)) rfl
theorem cl_L_10 : Cond.classLink RL 10 RX8 ∈ tg_ALL := tg_in (tb_3 _ (List.mem_of_getElem? (i := 171) rfl)) rfl
theorem it_X8 : Cond.instantiable RX8 29 ∈ tg_ALL := tg_in (tb_3 _ (List.mem_of_getElem? (i := 172) rfl)) rfl
theorem ml_L_12 : Cond.methodLink RL 12 yX8_init ∈ tg_ALL := tg_in (tb_3 _ (List.mem_of_getElem? (i := 173) rfl)) rfl
theorem im_X8_init : Cond.instanceMethod yX8_init ∈ tg_ALL := tg_in (tb_3 _ (List.mem_of_getElem? (i := 174) rfl)) rfl
theorem co_X8_init : Cond.code yX8_init cX8_init 2 none ∈ tg_ALL := tg_in (tb_3 _ (List.mem_of_getElem? (i := 175) rfl)) rfl
theorem ml_X8_1 : Cond.methodLink RX8 1 objectInit ∈ tg_ALL := tg_in (tb_3 _ (List.mem_of_getElem? (i := 176) rfl)) rfl
theorem fl_X8_7 : Cond.fieldLink RX8 7 "TwoGoatsModel" "forms" "[I" ∈ tg_ALL := tg_in (tb_3 _ (List.mem_of_getElem? (i := 177) rfl)) rfl
theorem fl_X8_13 : Cond.fieldLink RX8 13 "TwoGoatsModel" "sizes" "[I" ∈ tg_ALL := tg_in (tb_3 _ (List.mem_of_getElem? (i := 178) rfl)) rfl
theorem fl_X8_16 : Cond.fieldLink RX8 16 "TwoGoatsModel" "items" "[I" ∈ tg_ALL := tg_in (tb_3 _ (List.mem_of_getElem? (i := 179) rfl)) rfl
theorem fl_X8_19 : Cond.fieldLink RX8 19 "TwoGoatsModel" "moved" "[I" ∈ tg_ALL := tg_in (tb_3 _ (List.mem_of_getElem? (i := 180) rfl)) rfl
theorem fl_X8_81 : Cond.fieldLink RX8 81 "TwoGoatsModel" "latest" "I" ∈ tg_ALL := tg_in (tb_3 _ (List.mem_of_getElem? (i := 181) rfl)) rfl
theorem fl_X8_22 : Cond.fieldLink RX8 22 "TwoGoatsModel" "bytes" "[I" ∈ tg_ALL := tg_in (tb_3 _ (List.mem_of_getElem? (i := 182) rfl)) rfl
theorem fl_X8_25 : Cond.fieldLink RX8 25 "TwoGoatsModel" "typed" "[I" ∈ tg_ALL := tg_in (tb_3 _ (List.mem_of_getElem? (i := 183) rfl)) rfl
theorem fl_X8_108 : Cond.fieldLink RX8 108 "TwoGoatsModel" "at" "I" ∈ tg_ALL := tg_in (tb_3 _ (List.mem_of_getElem? (i := 184) rfl)) rfl
theorem fl_X8_111 : Cond.fieldLink RX8 111 "TwoGoatsModel" "paths" "I" ∈ tg_ALL := tg_in (tb_3 _ (List.mem_of_getElem? (i := 185) rfl)) rfl
theorem fl_X8_28 : Cond.fieldLink RX8 28 "TwoGoatsModel" "path" "[I" ∈ tg_ALL := tg_in (tb_3 _ (List.mem_of_getElem? (i := 186) rfl)) rfl
theorem fl_X8_31 : Cond.fieldLink RX8 31 "TwoGoatsModel" "starts" "[I" ∈ tg_ALL := tg_in (tb_3 _ (List.mem_of_getElem? (i := 187) rfl)) rfl
theorem fl_X8_34 : Cond.fieldLink RX8 34 "TwoGoatsModel" "settings" "[I" ∈ tg_ALL := tg_in (tb_3 _ (List.mem_of_getElem? (i := 188) rfl)) rfl
theorem fl_X8_37 : Cond.fieldLink RX8 37 "TwoGoatsModel" "worths" "[I" ∈ tg_ALL := tg_in (tb_3 _ (List.mem_of_getElem? (i := 189) rfl)) rfl
theorem fl_X8_40 : Cond.fieldLink RX8 40 "TwoGoatsModel" "places" "[I" ∈ tg_ALL := tg_in (tb_3 _ (List.mem_of_getElem? (i := 190) rfl)) rfl
theorem fl_X8_43 : Cond.fieldLink RX8 43 "TwoGoatsModel" "rope" "[I" ∈ tg_ALL := tg_in (tb_3 _ (List.mem_of_getElem? (i := 191) rfl)) rfl
theorem fl_X8_150 : Cond.fieldLink RX8 150 "TwoGoatsModel" "lies" "I" ∈ tg_ALL := tg_in (tb_3 _ (List.mem_of_getElem? (i := 192) rfl)) rfl
theorem fl_X8_159 : Cond.fieldLink RX8 159 "TwoGoatsModel" "length" "I" ∈ tg_ALL := tg_in (tb_3 _ (List.mem_of_getElem? (i := 193) rfl)) rfl
theorem fl_X8_46 : Cond.fieldLink RX8 46 "TwoGoatsModel" "eaten" "[I" ∈ tg_ALL := tg_in (tb_3 _ (List.mem_of_getElem? (i := 194) rfl)) rfl
theorem fl_X8_49 : Cond.fieldLink RX8 49 "TwoGoatsModel" "dragged" "[I" ∈ tg_ALL := tg_in (tb_3 _ (List.mem_of_getElem? (i := 195) rfl)) rfl
theorem fl_X8_162 : Cond.fieldLink RX8 162 "TwoGoatsModel" "empty" "I" ∈ tg_ALL := tg_in (tb_3 _ (List.mem_of_getElem? (i := 196) rfl)) rfl
theorem fl_X8_52 : Cond.fieldLink RX8 52 "TwoGoatsModel" "ways" "[J" ∈ tg_ALL := tg_in (tb_3 _ (List.mem_of_getElem? (i := 197) rfl)) rfl
theorem fl_X8_217 : Cond.fieldLink RX8 217 "TwoGoatsModel" "wayMany" "I" ∈ tg_ALL := tg_in (tb_3 _ (List.mem_of_getElem? (i := 198) rfl)) rfl
theorem fl_X8_56 : Cond.fieldLink RX8 56 "TwoGoatsModel" "left" "[I" ∈ tg_ALL := tg_in (tb_3 _ (List.mem_of_getElem? (i := 199) rfl)) rfl
theorem fl_X8_59 : Cond.fieldLink RX8 59 "TwoGoatsModel" "far" "[I" ∈ tg_ALL := tg_in (tb_3 _ (List.mem_of_getElem? (i := 200) rfl)) rfl
theorem fl_X8_62 : Cond.fieldLink RX8 62 "TwoGoatsModel" "wayAt" "[J" ∈ tg_ALL := tg_in (tb_3 _ (List.mem_of_getElem? (i := 201) rfl)) rfl
theorem fl_X8_65 : Cond.fieldLink RX8 65 "TwoGoatsModel" "emptyAt" "[I" ∈ tg_ALL := tg_in (tb_3 _ (List.mem_of_getElem? (i := 202) rfl)) rfl
theorem fl_X8_68 : Cond.fieldLink RX8 68 "TwoGoatsModel" "sumAt" "[I" ∈ tg_ALL := tg_in (tb_3 _ (List.mem_of_getElem? (i := 203) rfl)) rfl
theorem fl_X8_71 : Cond.fieldLink RX8 71 "TwoGoatsModel" "pick" "[I" ∈ tg_ALL := tg_in (tb_3 _ (List.mem_of_getElem? (i := 204) rfl)) rfl
theorem fl_X8_74 : Cond.fieldLink RX8 74 "TwoGoatsModel" "bestAt" "[I" ∈ tg_ALL := tg_in (tb_3 _ (List.mem_of_getElem? (i := 205) rfl)) rfl
theorem ml_L_97 : Cond.methodLink RL 97 yX8_sheet ∈ tg_ALL := tg_in (tb_4 _ (List.mem_of_getElem? (i := 25) rfl)) rfl
theorem im_X8_sheet : Cond.instanceMethod yX8_sheet ∈ tg_ALL := tg_in (tb_4 _ (List.mem_of_getElem? (i := 26) rfl)) rfl
theorem se_X8_sheet : Cond.selects RX8 yX8_sheet yX8_sheet ∈ tg_ALL := tg_in (tb_4 _ (List.mem_of_getElem? (i := 27) rfl)) rfl
theorem co_X8_sheet : Cond.code yX8_sheet cX8_sheet 5 (some .int) ∈ tg_ALL := tg_in (tb_4 _ (List.mem_of_getElem? (i := 28) rfl)) rfl
theorem ml_X8_87 : Cond.methodLink RX8 87 yX8_isSheet ∈ tg_ALL := tg_in (tb_4 _ (List.mem_of_getElem? (i := 29) rfl)) rfl
theorem st_X8_isSheet : Cond.static yX8_isSheet ∈ tg_ALL := tg_in (tb_4 _ (List.mem_of_getElem? (i := 30) rfl)) rfl
theorem co_X8_isSheet : Cond.code yX8_isSheet cX8_isSheet 1 (some .boolean) ∈ tg_ALL := tg_in (tb_4 _ (List.mem_of_getElem? (i := 31) rfl)) rfl
theorem lc_X8_85 : Cond.constantLong RX8 85 (Int64.ofInt (3)) ∈ tg_ALL := tg_in (tb_4 _ (List.mem_of_getElem? (i := 32) rfl)) rfl
theorem ml_X8_77 : Cond.methodLink RX8 77 yX8_in ∈ tg_ALL := tg_in (tb_4 _ (List.mem_of_getElem? (i := 33) rfl)) rfl
theorem st_X8_in : Cond.static yX8_in ∈ tg_ALL := tg_in (tb_4 _ (List.mem_of_getElem? (i := 34) rfl)) rfl
theorem co_X8_in : Cond.code yX8_in cX8_in 6 (some .boolean) ∈ tg_ALL := tg_in (tb_4 _ (List.mem_of_getElem? (i := 35) rfl)) rfl
theorem lc_X8_91 : Cond.constantLong RX8 91 (Int64.ofInt (2)) ∈ tg_ALL := tg_in (tb_4 _ (List.mem_of_getElem? (i := 36) rfl)) rfl
theorem ml_X8_93 : Cond.methodLink RX8 93 yX8_met ∈ tg_ALL := tg_in (tb_4 _ (List.mem_of_getElem? (i := 37) rfl)) rfl
theorem im_X8_met : Cond.instanceMethod yX8_met ∈ tg_ALL := tg_in (tb_4 _ (List.mem_of_getElem? (i := 39) rfl)) rfl
theorem co_X8_met : Cond.code yX8_met cX8_met 2 (some .int) ∈ tg_ALL := tg_in (tb_4 _ (List.mem_of_getElem? (i := 40) rfl)) rfl
theorem ml_L_101 : Cond.methodLink RL 101 yX8_lose ∈ tg_ALL := tg_in (tb_4 _ (List.mem_of_getElem? (i := 41) rfl)) rfl
theorem im_X8_lose : Cond.instanceMethod yX8_lose ∈ tg_ALL := tg_in (tb_4 _ (List.mem_of_getElem? (i := 42) rfl)) rfl
theorem se_X8_lose : Cond.selects RX8 yX8_lose yX8_lose ∈ tg_ALL := tg_in (tb_4 _ (List.mem_of_getElem? (i := 43) rfl)) rfl
theorem co_X8_lose : Cond.code yX8_lose cX8_lose 2 (some .int) ∈ tg_ALL := tg_in (tb_4 _ (List.mem_of_getElem? (i := 44) rfl)) rfl
theorem ml_L_105 : Cond.methodLink RL 105 yX8_lay ∈ tg_ALL := tg_in (tb_4 _ (List.mem_of_getElem? (i := 45) rfl)) rfl
theorem im_X8_lay : Cond.instanceMethod yX8_lay ∈ tg_ALL := tg_in (tb_4 _ (List.mem_of_getElem? (i := 46) rfl)) rfl
theorem se_X8_lay : Cond.selects RX8 yX8_lay yX8_lay ∈ tg_ALL := tg_in (tb_4 _ (List.mem_of_getElem? (i := 47) rfl)) rfl
theorem co_X8_lay : Cond.code yX8_lay cX8_lay 6 (some .int) ∈ tg_ALL := tg_in (tb_4 _ (List.mem_of_getElem? (i := 48) rfl)) rfl
theorem ml_X8_97 : Cond.methodLink RX8 97 yX8_lacks ∈ tg_ALL := tg_in (tb_4 _ (List.mem_of_getElem? (i := 49) rfl)) rfl
theorem im_X8_lacks : Cond.instanceMethod yX8_lacks ∈ tg_ALL := tg_in (tb_4 _ (List.mem_of_getElem? (i := 51) rfl)) rfl
theorem co_X8_lacks : Cond.code yX8_lacks cX8_lacks 4 (some .int) ∈ tg_ALL := tg_in (tb_4 _ (List.mem_of_getElem? (i := 52) rfl)) rfl
theorem ml_X8_101 : Cond.methodLink RX8 101 yX8_cut ∈ tg_ALL := tg_in (tb_4 _ (List.mem_of_getElem? (i := 53) rfl)) rfl
theorem st_X8_cut : Cond.static yX8_cut ∈ tg_ALL := tg_in (tb_4 _ (List.mem_of_getElem? (i := 54) rfl)) rfl
theorem co_X8_cut : Cond.code yX8_cut cX8_cut 2 (some .int) ∈ tg_ALL := tg_in (tb_4 _ (List.mem_of_getElem? (i := 55) rfl)) rfl
theorem ml_L_109 : Cond.methodLink RL 109 yX8_get ∈ tg_ALL := tg_in (tb_4 _ (List.mem_of_getElem? (i := 56) rfl)) rfl
theorem im_X8_get : Cond.instanceMethod yX8_get ∈ tg_ALL := tg_in (tb_4 _ (List.mem_of_getElem? (i := 57) rfl)) rfl
theorem se_X8_get : Cond.selects RX8 yX8_get yX8_get ∈ tg_ALL := tg_in (tb_4 _ (List.mem_of_getElem? (i := 58) rfl)) rfl
theorem co_X8_get : Cond.code yX8_get cX8_get 4 (some .int) ∈ tg_ALL := tg_in (tb_4 _ (List.mem_of_getElem? (i := 59) rfl)) rfl
theorem ic_X8_105 : Cond.constant RX8 105 (Int32.ofInt (-2147483648)) ∈ tg_ALL := tg_in (tb_4 _ (List.mem_of_getElem? (i := 60) rfl)) rfl
theorem ml_L_114 : Cond.methodLink RL 114 yX8_copy ∈ tg_ALL := tg_in (tb_4 _ (List.mem_of_getElem? (i := 61) rfl)) rfl
theorem im_X8_copy : Cond.instanceMethod yX8_copy ∈ tg_ALL := tg_in (tb_4 _ (List.mem_of_getElem? (i := 62) rfl)) rfl
theorem se_X8_copy : Cond.selects RX8 yX8_copy yX8_copy ∈ tg_ALL := tg_in (tb_4 _ (List.mem_of_getElem? (i := 63) rfl)) rfl
theorem co_X8_copy : Cond.code yX8_copy cX8_copy 7 (some .int) ∈ tg_ALL := tg_in (tb_4 _ (List.mem_of_getElem? (i := 64) rfl)) rfl
theorem ml_L_17 : Cond.methodLink RL 17 yX8_type ∈ tg_ALL := tg_in (tb_4 _ (List.mem_of_getElem? (i := 65) rfl)) rfl
theorem im_X8_type : Cond.instanceMethod yX8_type ∈ tg_ALL := tg_in (tb_4 _ (List.mem_of_getElem? (i := 66) rfl)) rfl
theorem se_X8_type : Cond.selects RX8 yX8_type yX8_type ∈ tg_ALL := tg_in (tb_4 _ (List.mem_of_getElem? (i := 67) rfl)) rfl
theorem co_X8_type : Cond.code yX8_type cX8_type 3 (some .int) ∈ tg_ALL := tg_in (tb_4 _ (List.mem_of_getElem? (i := 68) rfl)) rfl
theorem lc_X8_106 : Cond.constantLong RX8 106 (Int64.ofInt (255)) ∈ tg_ALL := tg_in (tb_4 _ (List.mem_of_getElem? (i := 69) rfl)) rfl
theorem ml_L_22 : Cond.methodLink RL 22 yX8_wipe ∈ tg_ALL := tg_in (tb_4 _ (List.mem_of_getElem? (i := 70) rfl)) rfl
theorem im_X8_wipe : Cond.instanceMethod yX8_wipe ∈ tg_ALL := tg_in (tb_4 _ (List.mem_of_getElem? (i := 71) rfl)) rfl
theorem se_X8_wipe : Cond.selects RX8 yX8_wipe yX8_wipe ∈ tg_ALL := tg_in (tb_4 _ (List.mem_of_getElem? (i := 72) rfl)) rfl
theorem co_X8_wipe : Cond.code yX8_wipe cX8_wipe 3 (some .int) ∈ tg_ALL := tg_in (tb_4 _ (List.mem_of_getElem? (i := 73) rfl)) rfl
theorem ml_L_27 : Cond.methodLink RL 27 yX8_fault ∈ tg_ALL := tg_in (tb_4 _ (List.mem_of_getElem? (i := 74) rfl)) rfl
theorem im_X8_fault : Cond.instanceMethod yX8_fault ∈ tg_ALL := tg_in (tb_4 _ (List.mem_of_getElem? (i := 75) rfl)) rfl
theorem se_X8_fault : Cond.selects RX8 yX8_fault yX8_fault ∈ tg_ALL := tg_in (tb_4 _ (List.mem_of_getElem? (i := 76) rfl)) rfl
theorem co_X8_fault : Cond.code yX8_fault cX8_fault 1 (some .int) ∈ tg_ALL := tg_in (tb_4 _ (List.mem_of_getElem? (i := 77) rfl)) rfl
theorem ml_X8_129 : Cond.methodLink RX8 129 yX8_reads ∈ tg_ALL := tg_in (tb_4 _ (List.mem_of_getElem? (i := 78) rfl)) rfl
theorem im_X8_reads : Cond.instanceMethod yX8_reads ∈ tg_ALL := tg_in (tb_4 _ (List.mem_of_getElem? (i := 80) rfl)) rfl
theorem co_X8_reads : Cond.code yX8_reads cX8_reads 2 (some .int) ∈ tg_ALL := tg_in (tb_4 _ (List.mem_of_getElem? (i := 81) rfl)) rfl
theorem ml_X8_122 : Cond.methodLink RX8 122 yX8_readsPart ∈ tg_ALL := tg_in (tb_4 _ (List.mem_of_getElem? (i := 82) rfl)) rfl
theorem im_X8_readsPart : Cond.instanceMethod yX8_readsPart ∈ tg_ALL := tg_in (tb_4 _ (List.mem_of_getElem? (i := 84) rfl)) rfl
theorem co_X8_readsPart : Cond.code yX8_readsPart cX8_readsPart 4 (some .boolean) ∈ tg_ALL := tg_in (tb_4 _ (List.mem_of_getElem? (i := 85) rfl)) rfl
theorem ml_X8_114 : Cond.methodLink RX8 114 yX8_here ∈ tg_ALL := tg_in (tb_4 _ (List.mem_of_getElem? (i := 86) rfl)) rfl
theorem im_X8_here : Cond.instanceMethod yX8_here ∈ tg_ALL := tg_in (tb_4 _ (List.mem_of_getElem? (i := 88) rfl)) rfl
theorem co_X8_here : Cond.code yX8_here cX8_here 1 (some .int) ∈ tg_ALL := tg_in (tb_4 _ (List.mem_of_getElem? (i := 89) rfl)) rfl
theorem lc_X8_118 : Cond.constantLong RX8 118 (Int64.ofInt (7)) ∈ tg_ALL := tg_in (tb_4 _ (List.mem_of_getElem? (i := 90) rfl)) rfl
theorem lc_X8_120 : Cond.constantLong RX8 120 (Int64.ofInt (9)) ∈ tg_ALL := tg_in (tb_4 _ (List.mem_of_getElem? (i := 91) rfl)) rfl
theorem ml_X8_126 : Cond.methodLink RX8 126 yX8_none ∈ tg_ALL := tg_in (tb_4 _ (List.mem_of_getElem? (i := 92) rfl)) rfl
theorem im_X8_none : Cond.instanceMethod yX8_none ∈ tg_ALL := tg_in (tb_4 _ (List.mem_of_getElem? (i := 94) rfl)) rfl
theorem co_X8_none : Cond.code yX8_none cX8_none 1 (some .int) ∈ tg_ALL := tg_in (tb_4 _ (List.mem_of_getElem? (i := 95) rfl)) rfl
theorem ml_L_31 : Cond.methodLink RL 31 yX8_path ∈ tg_ALL := tg_in (tb_4 _ (List.mem_of_getElem? (i := 96) rfl)) rfl
theorem im_X8_path : Cond.instanceMethod yX8_path ∈ tg_ALL := tg_in (tb_4 _ (List.mem_of_getElem? (i := 97) rfl)) rfl
theorem se_X8_path : Cond.selects RX8 yX8_path yX8_path ∈ tg_ALL := tg_in (tb_4 _ (List.mem_of_getElem? (i := 98) rfl)) rfl
theorem co_X8_path : Cond.code yX8_path cX8_path 3 (some .int) ∈ tg_ALL := tg_in (tb_4 _ (List.mem_of_getElem? (i := 99) rfl)) rfl
theorem ml_X8_132 : Cond.methodLink RX8 132 yX8_isPath ∈ tg_ALL := tg_in (tb_4 _ (List.mem_of_getElem? (i := 100) rfl)) rfl
theorem im_X8_isPath : Cond.instanceMethod yX8_isPath ∈ tg_ALL := tg_in (tb_4 _ (List.mem_of_getElem? (i := 102) rfl)) rfl
theorem co_X8_isPath : Cond.code yX8_isPath cX8_isPath 2 (some .boolean) ∈ tg_ALL := tg_in (tb_4 _ (List.mem_of_getElem? (i := 103) rfl)) rfl
theorem ml_L_35 : Cond.methodLink RL 35 yX8_start ∈ tg_ALL := tg_in (tb_4 _ (List.mem_of_getElem? (i := 104) rfl)) rfl
theorem im_X8_start : Cond.instanceMethod yX8_start ∈ tg_ALL := tg_in (tb_4 _ (List.mem_of_getElem? (i := 105) rfl)) rfl
theorem se_X8_start : Cond.selects RX8 yX8_start yX8_start ∈ tg_ALL := tg_in (tb_4 _ (List.mem_of_getElem? (i := 106) rfl)) rfl
theorem co_X8_start : Cond.code yX8_start cX8_start 4 (some .int) ∈ tg_ALL := tg_in (tb_4 _ (List.mem_of_getElem? (i := 107) rfl)) rfl
theorem ml_X8_135 : Cond.methodLink RX8 135 yX8_isTwo ∈ tg_ALL := tg_in (tb_4 _ (List.mem_of_getElem? (i := 108) rfl)) rfl
theorem st_X8_isTwo : Cond.static yX8_isTwo ∈ tg_ALL := tg_in (tb_4 _ (List.mem_of_getElem? (i := 109) rfl)) rfl
theorem co_X8_isTwo : Cond.code yX8_isTwo cX8_isTwo 1 (some .boolean) ∈ tg_ALL := tg_in (tb_4 _ (List.mem_of_getElem? (i := 110) rfl)) rfl
theorem ml_X8_138 : Cond.methodLink RX8 138 yX8_isPlace ∈ tg_ALL := tg_in (tb_4 _ (List.mem_of_getElem? (i := 111) rfl)) rfl
theorem st_X8_isPlace : Cond.static yX8_isPlace ∈ tg_ALL := tg_in (tb_4 _ (List.mem_of_getElem? (i := 112) rfl)) rfl
theorem co_X8_isPlace : Cond.code yX8_isPlace cX8_isPlace 1 (some .boolean) ∈ tg_ALL := tg_in (tb_4 _ (List.mem_of_getElem? (i := 113) rfl)) rfl
theorem ml_L_39 : Cond.methodLink RL 39 yX8_set ∈ tg_ALL := tg_in (tb_4 _ (List.mem_of_getElem? (i := 114) rfl)) rfl
theorem im_X8_set : Cond.instanceMethod yX8_set ∈ tg_ALL := tg_in (tb_4 _ (List.mem_of_getElem? (i := 115) rfl)) rfl
theorem se_X8_set : Cond.selects RX8 yX8_set yX8_set ∈ tg_ALL := tg_in (tb_4 _ (List.mem_of_getElem? (i := 116) rfl)) rfl
theorem co_X8_set : Cond.code yX8_set cX8_set 4 (some .int) ∈ tg_ALL := tg_in (tb_4 _ (List.mem_of_getElem? (i := 117) rfl)) rfl
theorem lc_X8_141 : Cond.constantLong RX8 141 (Int64.ofInt (18)) ∈ tg_ALL := tg_in (tb_4 _ (List.mem_of_getElem? (i := 118) rfl)) rfl
theorem ml_L_43 : Cond.methodLink RL 43 yX8_thistle ∈ tg_ALL := tg_in (tb_4 _ (List.mem_of_getElem? (i := 119) rfl)) rfl
theorem im_X8_thistle : Cond.instanceMethod yX8_thistle ∈ tg_ALL := tg_in (tb_4 _ (List.mem_of_getElem? (i := 120) rfl)) rfl
theorem se_X8_thistle : Cond.selects RX8 yX8_thistle yX8_thistle ∈ tg_ALL := tg_in (tb_4 _ (List.mem_of_getElem? (i := 121) rfl)) rfl
theorem co_X8_thistle : Cond.code yX8_thistle cX8_thistle 4 (some .int) ∈ tg_ALL := tg_in (tb_4 _ (List.mem_of_getElem? (i := 122) rfl)) rfl
theorem lc_X8_143 : Cond.constantLong RX8 143 (Int64.ofInt (99)) ∈ tg_ALL := tg_in (tb_4 _ (List.mem_of_getElem? (i := 123) rfl)) rfl
theorem ml_L_47 : Cond.methodLink RL 47 yX8_read ∈ tg_ALL := tg_in (tb_4 _ (List.mem_of_getElem? (i := 124) rfl)) rfl
theorem im_X8_read : Cond.instanceMethod yX8_read ∈ tg_ALL := tg_in (tb_4 _ (List.mem_of_getElem? (i := 125) rfl)) rfl
theorem se_X8_read : Cond.selects RX8 yX8_read yX8_read ∈ tg_ALL := tg_in (tb_4 _ (List.mem_of_getElem? (i := 126) rfl)) rfl
theorem co_X8_read : Cond.code yX8_read cX8_read 5 (some .int) ∈ tg_ALL := tg_in (tb_4 _ (List.mem_of_getElem? (i := 127) rfl)) rfl
theorem lc_X8_145 : Cond.constantLong RX8 145 (Int64.ofInt (15)) ∈ tg_ALL := tg_in (tb_4 _ (List.mem_of_getElem? (i := 128) rfl)) rfl
theorem ml_X8_147 : Cond.methodLink RX8 147 yX8_type ∈ tg_ALL := tg_in (tb_4 _ (List.mem_of_getElem? (i := 129) rfl)) rfl
theorem ml_L_51 : Cond.methodLink RL 51 yX8_undo ∈ tg_ALL := tg_in (tb_4 _ (List.mem_of_getElem? (i := 130) rfl)) rfl
theorem im_X8_undo : Cond.instanceMethod yX8_undo ∈ tg_ALL := tg_in (tb_4 _ (List.mem_of_getElem? (i := 131) rfl)) rfl
theorem se_X8_undo : Cond.selects RX8 yX8_undo yX8_undo ∈ tg_ALL := tg_in (tb_4 _ (List.mem_of_getElem? (i := 132) rfl)) rfl
theorem co_X8_undo : Cond.code yX8_undo cX8_undo 2 (some .int) ∈ tg_ALL := tg_in (tb_4 _ (List.mem_of_getElem? (i := 133) rfl)) rfl
theorem ml_L_55 : Cond.methodLink RL 55 yX8_judged ∈ tg_ALL := tg_in (tb_4 _ (List.mem_of_getElem? (i := 134) rfl)) rfl
theorem im_X8_judged : Cond.instanceMethod yX8_judged ∈ tg_ALL := tg_in (tb_4 _ (List.mem_of_getElem? (i := 135) rfl)) rfl
theorem se_X8_judged : Cond.selects RX8 yX8_judged yX8_judged ∈ tg_ALL := tg_in (tb_4 _ (List.mem_of_getElem? (i := 136) rfl)) rfl
theorem co_X8_judged : Cond.code yX8_judged cX8_judged 2 (some .int) ∈ tg_ALL := tg_in (tb_4 _ (List.mem_of_getElem? (i := 137) rfl)) rfl
theorem ml_X8_203 : Cond.methodLink RX8 203 yX8_judgedOf ∈ tg_ALL := tg_in (tb_4 _ (List.mem_of_getElem? (i := 138) rfl)) rfl
theorem im_X8_judgedOf : Cond.instanceMethod yX8_judgedOf ∈ tg_ALL := tg_in (tb_4 _ (List.mem_of_getElem? (i := 140) rfl)) rfl
theorem co_X8_judgedOf : Cond.code yX8_judgedOf cX8_judgedOf 3 (some .int) ∈ tg_ALL := tg_in (tb_4 _ (List.mem_of_getElem? (i := 141) rfl)) rfl
theorem ml_X8_200 : Cond.methodLink RX8 200 yX8_done ∈ tg_ALL := tg_in (tb_4 _ (List.mem_of_getElem? (i := 142) rfl)) rfl
theorem im_X8_done : Cond.instanceMethod yX8_done ∈ tg_ALL := tg_in (tb_4 _ (List.mem_of_getElem? (i := 144) rfl)) rfl
theorem co_X8_done : Cond.code yX8_done cX8_done 2 (some .int) ∈ tg_ALL := tg_in (tb_4 _ (List.mem_of_getElem? (i := 145) rfl)) rfl
theorem ml_X8_197 : Cond.methodLink RX8 197 yX8_runs ∈ tg_ALL := tg_in (tb_4 _ (List.mem_of_getElem? (i := 146) rfl)) rfl
theorem im_X8_runs : Cond.instanceMethod yX8_runs ∈ tg_ALL := tg_in (tb_4 _ (List.mem_of_getElem? (i := 148) rfl)) rfl
theorem co_X8_runs : Cond.code yX8_runs cX8_runs 4 (some .int) ∈ tg_ALL := tg_in (tb_4 _ (List.mem_of_getElem? (i := 149) rfl)) rfl
theorem ml_X8_184 : Cond.methodLink RX8 184 yX8_begins ∈ tg_ALL := tg_in (tb_4 _ (List.mem_of_getElem? (i := 150) rfl)) rfl
theorem im_X8_begins : Cond.instanceMethod yX8_begins ∈ tg_ALL := tg_in (tb_4 _ (List.mem_of_getElem? (i := 152) rfl)) rfl
theorem co_X8_begins : Cond.code yX8_begins cX8_begins 3 none ∈ tg_ALL := tg_in (tb_4 _ (List.mem_of_getElem? (i := 153) rfl)) rfl
theorem ml_X8_188 : Cond.methodLink RX8 188 yX8_stepOf ∈ tg_ALL := tg_in (tb_4 _ (List.mem_of_getElem? (i := 154) rfl)) rfl
theorem im_X8_stepOf : Cond.instanceMethod yX8_stepOf ∈ tg_ALL := tg_in (tb_4 _ (List.mem_of_getElem? (i := 156) rfl)) rfl
theorem co_X8_stepOf : Cond.code yX8_stepOf cX8_stepOf 5 (some .int) ∈ tg_ALL := tg_in (tb_4 _ (List.mem_of_getElem? (i := 157) rfl)) rfl
theorem lc_X8_165 : Cond.constantLong RX8 165 (Int64.ofInt (97)) ∈ tg_ALL := tg_in (tb_4 _ (List.mem_of_getElem? (i := 158) rfl)) rfl
theorem lc_X8_167 : Cond.constantLong RX8 167 (Int64.ofInt (104)) ∈ tg_ALL := tg_in (tb_4 _ (List.mem_of_getElem? (i := 159) rfl)) rfl
theorem lc_X8_169 : Cond.constantLong RX8 169 (Int64.ofInt (65)) ∈ tg_ALL := tg_in (tb_4 _ (List.mem_of_getElem? (i := 160) rfl)) rfl
theorem lc_X8_171 : Cond.constantLong RX8 171 (Int64.ofInt (72)) ∈ tg_ALL := tg_in (tb_4 _ (List.mem_of_getElem? (i := 161) rfl)) rfl
theorem ml_X8_173 : Cond.methodLink RX8 173 yX8_touches ∈ tg_ALL := tg_in (tb_4 _ (List.mem_of_getElem? (i := 162) rfl)) rfl
theorem im_X8_touches : Cond.instanceMethod yX8_touches ∈ tg_ALL := tg_in (tb_4 _ (List.mem_of_getElem? (i := 164) rfl)) rfl
theorem co_X8_touches : Cond.code yX8_touches cX8_touches 3 (some .boolean) ∈ tg_ALL := tg_in (tb_4 _ (List.mem_of_getElem? (i := 165) rfl)) rfl
theorem ml_X8_191 : Cond.methodLink RX8 191 yX8_isBorne ∈ tg_ALL := tg_in (tb_4 _ (List.mem_of_getElem? (i := 166) rfl)) rfl
theorem im_X8_isBorne : Cond.instanceMethod yX8_isBorne ∈ tg_ALL := tg_in (tb_4 _ (List.mem_of_getElem? (i := 168) rfl)) rfl
theorem co_X8_isBorne : Cond.code yX8_isBorne cX8_isBorne 2 (some .boolean) ∈ tg_ALL := tg_in (tb_4 _ (List.mem_of_getElem? (i := 169) rfl)) rfl
theorem ml_X8_177 : Cond.methodLink RX8 177 yX8_lengthBehind ∈ tg_ALL := tg_in (tb_4 _ (List.mem_of_getElem? (i := 170) rfl)) rfl
theorem im_X8_lengthBehind : Cond.instanceMethod yX8_lengthBehind ∈ tg_ALL := tg_in (tb_4 _ (List.mem_of_getElem? (i := 172) rfl)) rfl
theorem co_X8_lengthBehind : Cond.code yX8_lengthBehind cX8_lengthBehind 3 (some .int) ∈ tg_ALL := tg_in (tb_4 _ (List.mem_of_getElem? (i := 173) rfl)) rfl
theorem ml_X8_153 : Cond.methodLink RX8 153 yX8_next ∈ tg_ALL := tg_in (tb_4 _ (List.mem_of_getElem? (i := 174) rfl)) rfl
theorem im_X8_next : Cond.instanceMethod yX8_next ∈ tg_ALL := tg_in (tb_4 _ (List.mem_of_getElem? (i := 176) rfl)) rfl
theorem co_X8_next : Cond.code yX8_next cX8_next 2 (some .int) ∈ tg_ALL := tg_in (tb_4 _ (List.mem_of_getElem? (i := 177) rfl)) rfl
theorem ml_X8_194 : Cond.methodLink RX8 194 yX8_does ∈ tg_ALL := tg_in (tb_4 _ (List.mem_of_getElem? (i := 178) rfl)) rfl
theorem im_X8_does : Cond.instanceMethod yX8_does ∈ tg_ALL := tg_in (tb_4 _ (List.mem_of_getElem? (i := 180) rfl)) rfl
theorem co_X8_does : Cond.code yX8_does cX8_does 4 none ∈ tg_ALL := tg_in (tb_4 _ (List.mem_of_getElem? (i := 181) rfl)) rfl
theorem ml_X8_180 : Cond.methodLink RX8 180 yX8_goes ∈ tg_ALL := tg_in (tb_4 _ (List.mem_of_getElem? (i := 182) rfl)) rfl
theorem im_X8_goes : Cond.instanceMethod yX8_goes ∈ tg_ALL := tg_in (tb_4 _ (List.mem_of_getElem? (i := 184) rfl)) rfl
theorem co_X8_goes : Cond.code yX8_goes cX8_goes 5 none ∈ tg_ALL := tg_in (tb_4 _ (List.mem_of_getElem? (i := 185) rfl)) rfl
theorem ml_X8_156 : Cond.methodLink RX8 156 yX8_otherEnd ∈ tg_ALL := tg_in (tb_4 _ (List.mem_of_getElem? (i := 186) rfl)) rfl
theorem im_X8_otherEnd : Cond.instanceMethod yX8_otherEnd ∈ tg_ALL := tg_in (tb_4 _ (List.mem_of_getElem? (i := 188) rfl)) rfl
theorem co_X8_otherEnd : Cond.code yX8_otherEnd cX8_otherEnd 3 (some .int) ∈ tg_ALL := tg_in (tb_4 _ (List.mem_of_getElem? (i := 189) rfl)) rfl
theorem ml_L_60 : Cond.methodLink RL 60 yX8_state ∈ tg_ALL := tg_in (tb_4 _ (List.mem_of_getElem? (i := 190) rfl)) rfl
theorem im_X8_state : Cond.instanceMethod yX8_state ∈ tg_ALL := tg_in (tb_4 _ (List.mem_of_getElem? (i := 191) rfl)) rfl
theorem se_X8_state : Cond.selects RX8 yX8_state yX8_state ∈ tg_ALL := tg_in (tb_4 _ (List.mem_of_getElem? (i := 192) rfl)) rfl
theorem co_X8_state : Cond.code yX8_state cX8_state 4 (some .int) ∈ tg_ALL := tg_in (tb_4 _ (List.mem_of_getElem? (i := 193) rfl)) rfl
theorem ml_X8_206 : Cond.methodLink RX8 206 yX8_isSo ∈ tg_ALL := tg_in (tb_4 _ (List.mem_of_getElem? (i := 194) rfl)) rfl
theorem im_X8_isSo : Cond.instanceMethod yX8_isSo ∈ tg_ALL := tg_in (tb_4 _ (List.mem_of_getElem? (i := 196) rfl)) rfl
theorem co_X8_isSo : Cond.code yX8_isSo cX8_isSo 3 (some .boolean) ∈ tg_ALL := tg_in (tb_4 _ (List.mem_of_getElem? (i := 197) rfl)) rfl
theorem ml_X8_209 : Cond.methodLink RX8 209 yX8_stateNow ∈ tg_ALL := tg_in (tb_4 _ (List.mem_of_getElem? (i := 198) rfl)) rfl
theorem im_X8_stateNow : Cond.instanceMethod yX8_stateNow ∈ tg_ALL := tg_in (tb_4 _ (List.mem_of_getElem? (i := 200) rfl)) rfl
theorem co_X8_stateNow : Cond.code yX8_stateNow cX8_stateNow 2 (some .int) ∈ tg_ALL := tg_in (tb_4 _ (List.mem_of_getElem? (i := 201) rfl)) rfl
theorem ml_L_64 : Cond.methodLink RL 64 yX8_rope ∈ tg_ALL := tg_in (tb_4 _ (List.mem_of_getElem? (i := 202) rfl)) rfl
theorem im_X8_rope : Cond.instanceMethod yX8_rope ∈ tg_ALL := tg_in (tb_4 _ (List.mem_of_getElem? (i := 203) rfl)) rfl
theorem se_X8_rope : Cond.selects RX8 yX8_rope yX8_rope ∈ tg_ALL := tg_in (tb_4 _ (List.mem_of_getElem? (i := 204) rfl)) rfl
theorem co_X8_rope : Cond.code yX8_rope cX8_rope 4 (some .int) ∈ tg_ALL := tg_in (tb_4 _ (List.mem_of_getElem? (i := 205) rfl)) rfl
theorem ml_L_68 : Cond.methodLink RL 68 yX8_needs ∈ tg_ALL := tg_in (tb_4 _ (List.mem_of_getElem? (i := 206) rfl)) rfl
theorem im_X8_needs : Cond.instanceMethod yX8_needs ∈ tg_ALL := tg_in (tb_4 _ (List.mem_of_getElem? (i := 207) rfl)) rfl
theorem se_X8_needs : Cond.selects RX8 yX8_needs yX8_needs ∈ tg_ALL := tg_in (tb_4 _ (List.mem_of_getElem? (i := 208) rfl)) rfl
theorem co_X8_needs : Cond.code yX8_needs cX8_needs 2 (some .int) ∈ tg_ALL := tg_in (tb_4 _ (List.mem_of_getElem? (i := 209) rfl)) rfl
theorem ml_X8_212 : Cond.methodLink RX8 212 yX8_needsOf ∈ tg_ALL := tg_in (tb_4 _ (List.mem_of_getElem? (i := 210) rfl)) rfl
theorem im_X8_needsOf : Cond.instanceMethod yX8_needsOf ∈ tg_ALL := tg_in (tb_4 _ (List.mem_of_getElem? (i := 212) rfl)) rfl
theorem co_X8_needsOf : Cond.code yX8_needsOf cX8_needsOf 5 (some .int) ∈ tg_ALL := tg_in (tb_4 _ (List.mem_of_getElem? (i := 213) rfl)) rfl
theorem ml_L_72 : Cond.methodLink RL 72 yX8_soon ∈ tg_ALL := tg_in (tb_4 _ (List.mem_of_getElem? (i := 214) rfl)) rfl
theorem im_X8_soon : Cond.instanceMethod yX8_soon ∈ tg_ALL := tg_in (tb_4 _ (List.mem_of_getElem? (i := 215) rfl)) rfl
theorem se_X8_soon : Cond.selects RX8 yX8_soon yX8_soon ∈ tg_ALL := tg_in (tb_4 _ (List.mem_of_getElem? (i := 216) rfl)) rfl
theorem co_X8_soon : Cond.code yX8_soon cX8_soon 4 (some .int) ∈ tg_ALL := tg_in (tb_4 _ (List.mem_of_getElem? (i := 217) rfl)) rfl
theorem ml_X8_231 : Cond.methodLink RX8 231 yX8_soonOf ∈ tg_ALL := tg_in (tb_4 _ (List.mem_of_getElem? (i := 218) rfl)) rfl
theorem im_X8_soonOf : Cond.instanceMethod yX8_soonOf ∈ tg_ALL := tg_in (tb_4 _ (List.mem_of_getElem? (i := 220) rfl)) rfl
theorem co_X8_soonOf : Cond.code yX8_soonOf cX8_soonOf 14 (some .int) ∈ tg_ALL := tg_in (tb_4 _ (List.mem_of_getElem? (i := 221) rfl)) rfl
theorem ml_X8_220 : Cond.methodLink RX8 220 yX8_wayNow ∈ tg_ALL := tg_in (tb_4 _ (List.mem_of_getElem? (i := 222) rfl)) rfl
theorem im_X8_wayNow : Cond.instanceMethod yX8_wayNow ∈ tg_ALL := tg_in (tb_4 _ (List.mem_of_getElem? (i := 224) rfl)) rfl
theorem co_X8_wayNow : Cond.code yX8_wayNow cX8_wayNow 4 (some .long) ∈ tg_ALL := tg_in (tb_4 _ (List.mem_of_getElem? (i := 225) rfl)) rfl
theorem ml_X8_224 : Cond.methodLink RX8 224 yX8_keepsWay ∈ tg_ALL := tg_in (tb_4 _ (List.mem_of_getElem? (i := 226) rfl)) rfl
theorem im_X8_keepsWay : Cond.instanceMethod yX8_keepsWay ∈ tg_ALL := tg_in (tb_4 _ (List.mem_of_getElem? (i := 228) rfl)) rfl
theorem co_X8_keepsWay : Cond.code yX8_keepsWay cX8_keepsWay 4 none ∈ tg_ALL := tg_in (tb_4 _ (List.mem_of_getElem? (i := 229) rfl)) rfl
theorem ml_X8_228 : Cond.methodLink RX8 228 yX8_comesTo ∈ tg_ALL := tg_in (tb_4 _ (List.mem_of_getElem? (i := 230) rfl)) rfl
theorem im_X8_comesTo : Cond.instanceMethod yX8_comesTo ∈ tg_ALL := tg_in (tb_4 _ (List.mem_of_getElem? (i := 232) rfl)) rfl
theorem co_X8_comesTo : Cond.code yX8_comesTo cX8_comesTo 5 none ∈ tg_ALL := tg_in (tb_4 _ (List.mem_of_getElem? (i := 233) rfl)) rfl
theorem lc_X8_215 : Cond.constantLong RX8 215 (Int64.ofInt (31)) ∈ tg_ALL := tg_in (tb_4 _ (List.mem_of_getElem? (i := 234) rfl)) rfl
theorem ml_L_76 : Cond.methodLink RL 76 yX8_loose ∈ tg_ALL := tg_in (tb_4 _ (List.mem_of_getElem? (i := 235) rfl)) rfl
theorem im_X8_loose : Cond.instanceMethod yX8_loose ∈ tg_ALL := tg_in (tb_4 _ (List.mem_of_getElem? (i := 236) rfl)) rfl
theorem se_X8_loose : Cond.selects RX8 yX8_loose yX8_loose ∈ tg_ALL := tg_in (tb_4 _ (List.mem_of_getElem? (i := 237) rfl)) rfl
theorem co_X8_loose : Cond.code yX8_loose cX8_loose 2 (some .int) ∈ tg_ALL := tg_in (tb_4 _ (List.mem_of_getElem? (i := 238) rfl)) rfl
theorem ml_X8_234 : Cond.methodLink RX8 234 yX8_looseOf ∈ tg_ALL := tg_in (tb_4 _ (List.mem_of_getElem? (i := 239) rfl)) rfl
theorem im_X8_looseOf : Cond.instanceMethod yX8_looseOf ∈ tg_ALL := tg_in (tb_5 _ (List.mem_of_getElem? (i := 1) rfl)) rfl
theorem co_X8_looseOf : Cond.code yX8_looseOf cX8_looseOf 2 (some .int) ∈ tg_ALL := tg_in (tb_5 _ (List.mem_of_getElem? (i := 2) rfl)) rfl
theorem ml_L_81 : Cond.methodLink RL 81 yX8_pulled ∈ tg_ALL := tg_in (tb_5 _ (List.mem_of_getElem? (i := 3) rfl)) rfl
theorem im_X8_pulled : Cond.instanceMethod yX8_pulled ∈ tg_ALL := tg_in (tb_5 _ (List.mem_of_getElem? (i := 4) rfl)) rfl
theorem se_X8_pulled : Cond.selects RX8 yX8_pulled yX8_pulled ∈ tg_ALL := tg_in (tb_5 _ (List.mem_of_getElem? (i := 5) rfl)) rfl
theorem co_X8_pulled : Cond.code yX8_pulled cX8_pulled 6 (some .int) ∈ tg_ALL := tg_in (tb_5 _ (List.mem_of_getElem? (i := 6) rfl)) rfl
theorem ml_X8_240 : Cond.methodLink RX8 240 yX8_pulledOf ∈ tg_ALL := tg_in (tb_5 _ (List.mem_of_getElem? (i := 7) rfl)) rfl
theorem im_X8_pulledOf : Cond.instanceMethod yX8_pulledOf ∈ tg_ALL := tg_in (tb_5 _ (List.mem_of_getElem? (i := 9) rfl)) rfl
theorem co_X8_pulledOf : Cond.code yX8_pulledOf cX8_pulledOf 13 (some .int) ∈ tg_ALL := tg_in (tb_5 _ (List.mem_of_getElem? (i := 10) rfl)) rfl
theorem ml_X8_237 : Cond.methodLink RX8 237 yX8_haveLikeEnds ∈ tg_ALL := tg_in (tb_5 _ (List.mem_of_getElem? (i := 11) rfl)) rfl
theorem im_X8_haveLikeEnds : Cond.instanceMethod yX8_haveLikeEnds ∈ tg_ALL := tg_in (tb_5 _ (List.mem_of_getElem? (i := 13) rfl)) rfl
theorem co_X8_haveLikeEnds : Cond.code yX8_haveLikeEnds cX8_haveLikeEnds 3 (some .boolean) ∈ tg_ALL := tg_in (tb_5 _ (List.mem_of_getElem? (i := 14) rfl)) rfl
theorem ml_L_85 : Cond.methodLink RL 85 yX8_began ∈ tg_ALL := tg_in (tb_5 _ (List.mem_of_getElem? (i := 15) rfl)) rfl
theorem im_X8_began : Cond.instanceMethod yX8_began ∈ tg_ALL := tg_in (tb_5 _ (List.mem_of_getElem? (i := 16) rfl)) rfl
theorem se_X8_began : Cond.selects RX8 yX8_began yX8_began ∈ tg_ALL := tg_in (tb_5 _ (List.mem_of_getElem? (i := 17) rfl)) rfl
theorem co_X8_began : Cond.code yX8_began cX8_began 3 (some .int) ∈ tg_ALL := tg_in (tb_5 _ (List.mem_of_getElem? (i := 18) rfl)) rfl
theorem ml_X8_245 : Cond.methodLink RX8 245 yX8_beganOf ∈ tg_ALL := tg_in (tb_5 _ (List.mem_of_getElem? (i := 19) rfl)) rfl
theorem im_X8_beganOf : Cond.instanceMethod yX8_beganOf ∈ tg_ALL := tg_in (tb_5 _ (List.mem_of_getElem? (i := 21) rfl)) rfl
theorem co_X8_beganOf : Cond.code yX8_beganOf cX8_beganOf 7 (some .int) ∈ tg_ALL := tg_in (tb_5 _ (List.mem_of_getElem? (i := 22) rfl)) rfl
theorem ic_X8_244 : Cond.constant RX8 244 (Int32.ofInt (100000)) ∈ tg_ALL := tg_in (tb_5 _ (List.mem_of_getElem? (i := 23) rfl)) rfl
theorem ml_L_89 : Cond.methodLink RL 89 yX8_game ∈ tg_ALL := tg_in (tb_5 _ (List.mem_of_getElem? (i := 24) rfl)) rfl
theorem im_X8_game : Cond.instanceMethod yX8_game ∈ tg_ALL := tg_in (tb_5 _ (List.mem_of_getElem? (i := 25) rfl)) rfl
theorem se_X8_game : Cond.selects RX8 yX8_game yX8_game ∈ tg_ALL := tg_in (tb_5 _ (List.mem_of_getElem? (i := 26) rfl)) rfl
theorem co_X8_game : Cond.code yX8_game cX8_game 4 (some .int) ∈ tg_ALL := tg_in (tb_5 _ (List.mem_of_getElem? (i := 27) rfl)) rfl
theorem lc_X8_255 : Cond.constantLong RX8 255 (Int64.ofInt (5)) ∈ tg_ALL := tg_in (tb_5 _ (List.mem_of_getElem? (i := 28) rfl)) rfl
theorem ml_X8_257 : Cond.methodLink RX8 257 yX8_gameOf ∈ tg_ALL := tg_in (tb_5 _ (List.mem_of_getElem? (i := 29) rfl)) rfl
theorem im_X8_gameOf : Cond.instanceMethod yX8_gameOf ∈ tg_ALL := tg_in (tb_5 _ (List.mem_of_getElem? (i := 31) rfl)) rfl
theorem co_X8_gameOf : Cond.code yX8_gameOf cX8_gameOf 14 (some .int) ∈ tg_ALL := tg_in (tb_5 _ (List.mem_of_getElem? (i := 32) rfl)) rfl
theorem ml_X8_248 : Cond.methodLink RX8 248 yX8_enters ∈ tg_ALL := tg_in (tb_5 _ (List.mem_of_getElem? (i := 33) rfl)) rfl
theorem im_X8_enters : Cond.instanceMethod yX8_enters ∈ tg_ALL := tg_in (tb_5 _ (List.mem_of_getElem? (i := 35) rfl)) rfl
theorem co_X8_enters : Cond.code yX8_enters cX8_enters 6 none ∈ tg_ALL := tg_in (tb_5 _ (List.mem_of_getElem? (i := 36) rfl)) rfl
theorem ml_X8_252 : Cond.methodLink RX8 252 yX8_mayPick ∈ tg_ALL := tg_in (tb_5 _ (List.mem_of_getElem? (i := 37) rfl)) rfl
theorem im_X8_mayPick : Cond.instanceMethod yX8_mayPick ∈ tg_ALL := tg_in (tb_5 _ (List.mem_of_getElem? (i := 39) rfl)) rfl
theorem co_X8_mayPick : Cond.code yX8_mayPick cX8_mayPick 3 (some .boolean) ∈ tg_ALL := tg_in (tb_5 _ (List.mem_of_getElem? (i := 40) rfl)) rfl
theorem ml_L_93 : Cond.methodLink RL 93 yX8_alike ∈ tg_ALL := tg_in (tb_5 _ (List.mem_of_getElem? (i := 41) rfl)) rfl
theorem im_X8_alike : Cond.instanceMethod yX8_alike ∈ tg_ALL := tg_in (tb_5 _ (List.mem_of_getElem? (i := 42) rfl)) rfl
theorem se_X8_alike : Cond.selects RX8 yX8_alike yX8_alike ∈ tg_ALL := tg_in (tb_5 _ (List.mem_of_getElem? (i := 43) rfl)) rfl
theorem co_X8_alike : Cond.code yX8_alike cX8_alike 1 (some .int) ∈ tg_ALL := tg_in (tb_5 _ (List.mem_of_getElem? (i := 44) rfl)) rfl
theorem ml_X8_260 : Cond.methodLink RX8 260 yX8_alikeNow ∈ tg_ALL := tg_in (tb_5 _ (List.mem_of_getElem? (i := 45) rfl)) rfl
theorem im_X8_alikeNow : Cond.instanceMethod yX8_alikeNow ∈ tg_ALL := tg_in (tb_5 _ (List.mem_of_getElem? (i := 47) rfl)) rfl
theorem co_X8_alikeNow : Cond.code yX8_alikeNow cX8_alikeNow 5 (some .int) ∈ tg_ALL := tg_in (tb_5 _ (List.mem_of_getElem? (i := 48) rfl)) rfl
theorem ml_L_118 : Cond.methodLink RL 118 yX8_write ∈ tg_ALL := tg_in (tb_5 _ (List.mem_of_getElem? (i := 49) rfl)) rfl
theorem im_X8_write : Cond.instanceMethod yX8_write ∈ tg_ALL := tg_in (tb_5 _ (List.mem_of_getElem? (i := 50) rfl)) rfl
theorem se_X8_write : Cond.selects RX8 yX8_write yX8_write ∈ tg_ALL := tg_in (tb_5 _ (List.mem_of_getElem? (i := 51) rfl)) rfl
theorem co_X8_write : Cond.code yX8_write cX8_write 5 (some .int) ∈ tg_ALL := tg_in (tb_5 _ (List.mem_of_getElem? (i := 52) rfl)) rfl
theorem ml_L_122 : Cond.methodLink RL 122 yX8_count ∈ tg_ALL := tg_in (tb_5 _ (List.mem_of_getElem? (i := 53) rfl)) rfl
theorem im_X8_count : Cond.instanceMethod yX8_count ∈ tg_ALL := tg_in (tb_5 _ (List.mem_of_getElem? (i := 54) rfl)) rfl
theorem se_X8_count : Cond.selects RX8 yX8_count yX8_count ∈ tg_ALL := tg_in (tb_5 _ (List.mem_of_getElem? (i := 55) rfl)) rfl
theorem co_X8_count : Cond.code yX8_count cX8_count 4 (some .int) ∈ tg_ALL := tg_in (tb_5 _ (List.mem_of_getElem? (i := 56) rfl)) rfl
theorem ml_L_127 : Cond.methodLink RL 127 yX8_digest ∈ tg_ALL := tg_in (tb_5 _ (List.mem_of_getElem? (i := 57) rfl)) rfl
theorem im_X8_digest : Cond.instanceMethod yX8_digest ∈ tg_ALL := tg_in (tb_5 _ (List.mem_of_getElem? (i := 58) rfl)) rfl
theorem se_X8_digest : Cond.selects RX8 yX8_digest yX8_digest ∈ tg_ALL := tg_in (tb_5 _ (List.mem_of_getElem? (i := 59) rfl)) rfl
theorem co_X8_digest : Cond.code yX8_digest cX8_digest 5 (some .long) ∈ tg_ALL := tg_in (tb_5 _ (List.mem_of_getElem? (i := 60) rfl)) rfl
theorem lc_X8_263 : Cond.constantLong RX8 263 (Int64.ofInt (17)) ∈ tg_ALL := tg_in (tb_5 _ (List.mem_of_getElem? (i := 61) rfl)) rfl
theorem ml_X8_265 : Cond.methodLink RX8 265 yX8_count ∈ tg_ALL := tg_in (tb_5 _ (List.mem_of_getElem? (i := 62) rfl)) rfl
theorem ml_X8_268 : Cond.methodLink RX8 268 yX8_pulled ∈ tg_ALL := tg_in (tb_5 _ (List.mem_of_getElem? (i := 63) rfl)) rfl
theorem st_copy : Cond.static arraycopyName ∈ tg_ALL := tg_in (tb_3 _ (List.mem_of_getElem? (i := 136) rfl)) rfl
theorem se_X7_textOf : Cond.selects RX7 yX7_textOf yX7_textOf ∈ tg_ALL := tg_in (tb_p _ (List.mem_of_getElem? (i := 0) rfl)) rfl
theorem se_X7_dayOf : Cond.selects RX7 yX7_dayOf yX7_dayOf ∈ tg_ALL := tg_in (tb_p _ (List.mem_of_getElem? (i := 1) rfl)) rfl
theorem se_X2_firstFault : Cond.selects RX2 yX2_firstFault yX2_firstFault ∈ tg_ALL := tg_in (tb_p _ (List.mem_of_getElem? (i := 2) rfl)) rfl
theorem se_X2_fits : Cond.selects RX2 yX2_fits yX2_fits ∈ tg_ALL := tg_in (tb_p _ (List.mem_of_getElem? (i := 3) rfl)) rfl
theorem se_X7_setHeavy : Cond.selects RX7 yX7_setHeavy yX7_setHeavy ∈ tg_ALL := tg_in (tb_p _ (List.mem_of_getElem? (i := 4) rfl)) rfl
theorem se_X7_found : Cond.selects RX7 yX7_found yX7_found ∈ tg_ALL := tg_in (tb_p _ (List.mem_of_getElem? (i := 5) rfl)) rfl
theorem se_X7_ended : Cond.selects RX7 yX7_ended yX7_ended ∈ tg_ALL := tg_in (tb_p _ (List.mem_of_getElem? (i := 6) rfl)) rfl
theorem se_X0_doStep : Cond.selects RX0 yX0_doStep yX0_doStep ∈ tg_ALL := tg_in (tb_p _ (List.mem_of_getElem? (i := 7) rfl)) rfl
theorem se_X1_takeUp : Cond.selects RX1 yX1_takeUp yX1_takeUp ∈ tg_ALL := tg_in (tb_p _ (List.mem_of_getElem? (i := 8) rfl)) rfl
theorem se_X1_layDown : Cond.selects RX1 yX1_layDown yX1_layDown ∈ tg_ALL := tg_in (tb_p _ (List.mem_of_getElem? (i := 9) rfl)) rfl
theorem se_X0_drag : Cond.selects RX0 yX0_drag yX0_drag ∈ tg_ALL := tg_in (tb_p _ (List.mem_of_getElem? (i := 10) rfl)) rfl
theorem se_X0_eat : Cond.selects RX0 yX0_eat yX0_eat ∈ tg_ALL := tg_in (tb_p _ (List.mem_of_getElem? (i := 11) rfl)) rfl
theorem se_X3_note : Cond.selects RX3 yX3_note yX3_note ∈ tg_ALL := tg_in (tb_p _ (List.mem_of_getElem? (i := 12) rfl)) rfl
theorem se_X3_leadsTo : Cond.selects RX3 yX3_leadsTo yX3_leadsTo ∈ tg_ALL := tg_in (tb_p _ (List.mem_of_getElem? (i := 13) rfl)) rfl
theorem se_X2_measureAcross : Cond.selects RX2 yX2_measureAcross yX2_measureAcross ∈ tg_ALL := tg_in (tb_p _ (List.mem_of_getElem? (i := 14) rfl)) rfl
theorem se_X6_gain : Cond.selects RX6 yX6_gain yX6_gain ∈ tg_ALL := tg_in (tb_p _ (List.mem_of_getElem? (i := 15) rfl)) rfl
theorem se_X6_gainByStep : Cond.selects RX6 yX6_gainByStep yX6_gainByStep ∈ tg_ALL := tg_in (tb_p _ (List.mem_of_getElem? (i := 16) rfl)) rfl
theorem se_X4_cut : Cond.selects RX4 yX4_cut yX4_cut ∈ tg_ALL := tg_in (tb_p _ (List.mem_of_getElem? (i := 17) rfl)) rfl
theorem se_X8_met : Cond.selects RX8 yX8_met yX8_met ∈ tg_ALL := tg_in (tb_p _ (List.mem_of_getElem? (i := 18) rfl)) rfl
theorem se_X8_lacks : Cond.selects RX8 yX8_lacks yX8_lacks ∈ tg_ALL := tg_in (tb_p _ (List.mem_of_getElem? (i := 19) rfl)) rfl
theorem se_X8_reads : Cond.selects RX8 yX8_reads yX8_reads ∈ tg_ALL := tg_in (tb_p _ (List.mem_of_getElem? (i := 20) rfl)) rfl
theorem se_X8_readsPart : Cond.selects RX8 yX8_readsPart yX8_readsPart ∈ tg_ALL := tg_in (tb_p _ (List.mem_of_getElem? (i := 21) rfl)) rfl
theorem se_X8_here : Cond.selects RX8 yX8_here yX8_here ∈ tg_ALL := tg_in (tb_p _ (List.mem_of_getElem? (i := 22) rfl)) rfl
theorem se_X8_none : Cond.selects RX8 yX8_none yX8_none ∈ tg_ALL := tg_in (tb_p _ (List.mem_of_getElem? (i := 23) rfl)) rfl
theorem se_X8_isPath : Cond.selects RX8 yX8_isPath yX8_isPath ∈ tg_ALL := tg_in (tb_p _ (List.mem_of_getElem? (i := 24) rfl)) rfl
theorem se_X8_judgedOf : Cond.selects RX8 yX8_judgedOf yX8_judgedOf ∈ tg_ALL := tg_in (tb_p _ (List.mem_of_getElem? (i := 25) rfl)) rfl
theorem se_X8_done : Cond.selects RX8 yX8_done yX8_done ∈ tg_ALL := tg_in (tb_p _ (List.mem_of_getElem? (i := 26) rfl)) rfl
theorem se_X8_runs : Cond.selects RX8 yX8_runs yX8_runs ∈ tg_ALL := tg_in (tb_p _ (List.mem_of_getElem? (i := 27) rfl)) rfl
theorem se_X8_begins : Cond.selects RX8 yX8_begins yX8_begins ∈ tg_ALL := tg_in (tb_p _ (List.mem_of_getElem? (i := 28) rfl)) rfl
theorem se_X8_stepOf : Cond.selects RX8 yX8_stepOf yX8_stepOf ∈ tg_ALL := tg_in (tb_p _ (List.mem_of_getElem? (i := 29) rfl)) rfl
theorem se_X8_touches : Cond.selects RX8 yX8_touches yX8_touches ∈ tg_ALL := tg_in (tb_p _ (List.mem_of_getElem? (i := 30) rfl)) rfl
theorem se_X8_isBorne : Cond.selects RX8 yX8_isBorne yX8_isBorne ∈ tg_ALL := tg_in (tb_p _ (List.mem_of_getElem? (i := 31) rfl)) rfl
theorem se_X8_lengthBehind : Cond.selects RX8 yX8_lengthBehind yX8_lengthBehind ∈ tg_ALL := tg_in (tb_p _ (List.mem_of_getElem? (i := 32) rfl)) rfl
theorem se_X8_next : Cond.selects RX8 yX8_next yX8_next ∈ tg_ALL := tg_in (tb_p _ (List.mem_of_getElem? (i := 33) rfl)) rfl
theorem se_X8_does : Cond.selects RX8 yX8_does yX8_does ∈ tg_ALL := tg_in (tb_p _ (List.mem_of_getElem? (i := 34) rfl)) rfl
theorem se_X8_goes : Cond.selects RX8 yX8_goes yX8_goes ∈ tg_ALL := tg_in (tb_p _ (List.mem_of_getElem? (i := 35) rfl)) rfl
theorem se_X8_otherEnd : Cond.selects RX8 yX8_otherEnd yX8_otherEnd ∈ tg_ALL := tg_in (tb_p _ (List.mem_of_getElem? (i := 36) rfl)) rfl
theorem se_X8_isSo : Cond.selects RX8 yX8_isSo yX8_isSo ∈ tg_ALL := tg_in (tb_p _ (List.mem_of_getElem? (i := 37) rfl)) rfl
theorem se_X8_stateNow : Cond.selects RX8 yX8_stateNow yX8_stateNow ∈ tg_ALL := tg_in (tb_p _ (List.mem_of_getElem? (i := 38) rfl)) rfl
theorem se_X8_needsOf : Cond.selects RX8 yX8_needsOf yX8_needsOf ∈ tg_ALL := tg_in (tb_p _ (List.mem_of_getElem? (i := 39) rfl)) rfl
theorem se_X8_soonOf : Cond.selects RX8 yX8_soonOf yX8_soonOf ∈ tg_ALL := tg_in (tb_p _ (List.mem_of_getElem? (i := 40) rfl)) rfl
theorem se_X8_wayNow : Cond.selects RX8 yX8_wayNow yX8_wayNow ∈ tg_ALL := tg_in (tb_p _ (List.mem_of_getElem? (i := 41) rfl)) rfl
theorem se_X8_keepsWay : Cond.selects RX8 yX8_keepsWay yX8_keepsWay ∈ tg_ALL := tg_in (tb_p _ (List.mem_of_getElem? (i := 42) rfl)) rfl
theorem se_X8_comesTo : Cond.selects RX8 yX8_comesTo yX8_comesTo ∈ tg_ALL := tg_in (tb_p _ (List.mem_of_getElem? (i := 43) rfl)) rfl
theorem se_X8_looseOf : Cond.selects RX8 yX8_looseOf yX8_looseOf ∈ tg_ALL := tg_in (tb_p _ (List.mem_of_getElem? (i := 44) rfl)) rfl
theorem se_X8_pulledOf : Cond.selects RX8 yX8_pulledOf yX8_pulledOf ∈ tg_ALL := tg_in (tb_p _ (List.mem_of_getElem? (i := 45) rfl)) rfl
theorem se_X8_haveLikeEnds : Cond.selects RX8 yX8_haveLikeEnds yX8_haveLikeEnds ∈ tg_ALL := tg_in (tb_p _ (List.mem_of_getElem? (i := 46) rfl)) rfl
theorem se_X8_beganOf : Cond.selects RX8 yX8_beganOf yX8_beganOf ∈ tg_ALL := tg_in (tb_p _ (List.mem_of_getElem? (i := 47) rfl)) rfl
theorem se_X8_gameOf : Cond.selects RX8 yX8_gameOf yX8_gameOf ∈ tg_ALL := tg_in (tb_p _ (List.mem_of_getElem? (i := 48) rfl)) rfl
theorem se_X8_enters : Cond.selects RX8 yX8_enters yX8_enters ∈ tg_ALL := tg_in (tb_p _ (List.mem_of_getElem? (i := 49) rfl)) rfl
theorem se_X8_mayPick : Cond.selects RX8 yX8_mayPick yX8_mayPick ∈ tg_ALL := tg_in (tb_p _ (List.mem_of_getElem? (i := 50) rfl)) rfl
theorem se_X8_alikeNow : Cond.selects RX8 yX8_alikeNow yX8_alikeNow ∈ tg_ALL := tg_in (tb_p _ (List.mem_of_getElem? (i := 51) rfl)) rfl
theorem inAX0 : ∀ w ∈ wsX00, w ∈ tg_ALL := by
  intro w h
  obtain ⟨k, hk, rfl⟩ := List.mem_map.mp h
  have hk2 : k < 8 := List.mem_range.mp hk
  clear h hk
  rcases (show k = 0 ∨ k = 1 ∨ k = 2 ∨ k = 3 ∨ k = 4 ∨ k = 5 ∨ k = 6 ∨ k = 7 by omega) with rfl | rfl | rfl | rfl | rfl | rfl | rfl | rfl
  · exact tg_in (tb_1 _ (List.mem_of_getElem? (i := 143) rfl)) rfl
  · exact tg_in (tb_1 _ (List.mem_of_getElem? (i := 145) rfl)) rfl
  · exact tg_in (tb_1 _ (List.mem_of_getElem? (i := 147) rfl)) rfl
  · exact tg_in (tb_1 _ (List.mem_of_getElem? (i := 149) rfl)) rfl
  · exact tg_in (tb_1 _ (List.mem_of_getElem? (i := 151) rfl)) rfl
  · exact tg_in (tb_1 _ (List.mem_of_getElem? (i := 153) rfl)) rfl
  · exact tg_in (tb_1 _ (List.mem_of_getElem? (i := 155) rfl)) rfl
  · exact tg_in (tb_1 _ (List.mem_of_getElem? (i := 157) rfl)) rfl
theorem inAX1 : ∀ w ∈ wsX10, w ∈ tg_ALL := by
  intro w h
  obtain ⟨k, hk, rfl⟩ := List.mem_map.mp h
  have hk2 : k < 6 := List.mem_range.mp hk
  clear h hk
  rcases (show k = 0 ∨ k = 1 ∨ k = 2 ∨ k = 3 ∨ k = 4 ∨ k = 5 by omega) with rfl | rfl | rfl | rfl | rfl | rfl
  · exact tg_in (tb_1 _ (List.mem_of_getElem? (i := 116) rfl)) rfl
  · exact tg_in (tb_1 _ (List.mem_of_getElem? (i := 118) rfl)) rfl
  · exact tg_in (tb_1 _ (List.mem_of_getElem? (i := 120) rfl)) rfl
  · exact tg_in (tb_1 _ (List.mem_of_getElem? (i := 122) rfl)) rfl
  · exact tg_in (tb_1 _ (List.mem_of_getElem? (i := 124) rfl)) rfl
  · exact tg_in (tb_1 _ (List.mem_of_getElem? (i := 126) rfl)) rfl
theorem inAX2 : ∀ w ∈ wsX20, w ∈ tg_ALL := by
  intro w h
  obtain ⟨k, hk, rfl⟩ := List.mem_map.mp h
  have hk2 : k < 10 := List.mem_range.mp hk
  clear h hk
  rcases (show k = 0 ∨ k = 1 ∨ k = 2 ∨ k = 3 ∨ k = 4 ∨ k = 5 ∨ k = 6 ∨ k = 7 ∨ k = 8 ∨ k = 9 by omega) with rfl | rfl | rfl | rfl | rfl | rfl | rfl | rfl | rfl | rfl
  · exact tg_in (tb_1 _ (List.mem_of_getElem? (i := 66) rfl)) rfl
  · exact tg_in (tb_1 _ (List.mem_of_getElem? (i := 68) rfl)) rfl
  · exact tg_in (tb_1 _ (List.mem_of_getElem? (i := 70) rfl)) rfl
  · exact tg_in (tb_1 _ (List.mem_of_getElem? (i := 72) rfl)) rfl
  · exact tg_in (tb_1 _ (List.mem_of_getElem? (i := 74) rfl)) rfl
  · exact tg_in (tb_1 _ (List.mem_of_getElem? (i := 76) rfl)) rfl
  · exact tg_in (tb_1 _ (List.mem_of_getElem? (i := 78) rfl)) rfl
  · exact tg_in (tb_1 _ (List.mem_of_getElem? (i := 80) rfl)) rfl
  · exact tg_in (tb_1 _ (List.mem_of_getElem? (i := 82) rfl)) rfl
  · exact tg_in (tb_1 _ (List.mem_of_getElem? (i := 84) rfl)) rfl
theorem inAX3 : ∀ w ∈ wsX30, w ∈ tg_ALL := by
  intro w h
  obtain ⟨k, hk, rfl⟩ := List.mem_map.mp h
  have hk2 : k < 5 := List.mem_range.mp hk
  clear h hk
  rcases (show k = 0 ∨ k = 1 ∨ k = 2 ∨ k = 3 ∨ k = 4 by omega) with rfl | rfl | rfl | rfl | rfl
  · exact tg_in (tb_1 _ (List.mem_of_getElem? (i := 173) rfl)) rfl
  · exact tg_in (tb_1 _ (List.mem_of_getElem? (i := 175) rfl)) rfl
  · exact tg_in (tb_1 _ (List.mem_of_getElem? (i := 177) rfl)) rfl
  · exact tg_in (tb_1 _ (List.mem_of_getElem? (i := 179) rfl)) rfl
  · exact tg_in (tb_1 _ (List.mem_of_getElem? (i := 181) rfl)) rfl
theorem inAX4 : ∀ w ∈ wsX40, w ∈ tg_ALL := by
  intro w h
  obtain ⟨k, hk, rfl⟩ := List.mem_map.mp h
  have hk2 : k < 3 := List.mem_range.mp hk
  clear h hk
  rcases (show k = 0 ∨ k = 1 ∨ k = 2 by omega) with rfl | rfl | rfl
  · exact tg_in (tb_1 _ (List.mem_of_getElem? (i := 222) rfl)) rfl
  · exact tg_in (tb_1 _ (List.mem_of_getElem? (i := 224) rfl)) rfl
  · exact tg_in (tb_1 _ (List.mem_of_getElem? (i := 226) rfl)) rfl
theorem inAX5 : ∀ w ∈ wsX50, w ∈ tg_ALL := by
  intro w h
  obtain ⟨k, hk, rfl⟩ := List.mem_map.mp h
  have hk2 : k < 2 := List.mem_range.mp hk
  clear h hk
  rcases (show k = 0 ∨ k = 1 by omega) with rfl | rfl
  · exact tg_in (tb_1 _ (List.mem_of_getElem? (i := 38) rfl)) rfl
  · exact tg_in (tb_1 _ (List.mem_of_getElem? (i := 40) rfl)) rfl
theorem inAX6 : ∀ w ∈ wsX60, w ∈ tg_ALL := by
  intro w h
  obtain ⟨k, hk, rfl⟩ := List.mem_map.mp h
  have hk2 : k < 4 := List.mem_range.mp hk
  clear h hk
  rcases (show k = 0 ∨ k = 1 ∨ k = 2 ∨ k = 3 by omega) with rfl | rfl | rfl | rfl
  · exact tg_in (tb_1 _ (List.mem_of_getElem? (i := 198) rfl)) rfl
  · exact tg_in (tb_1 _ (List.mem_of_getElem? (i := 200) rfl)) rfl
  · exact tg_in (tb_1 _ (List.mem_of_getElem? (i := 202) rfl)) rfl
  · exact tg_in (tb_1 _ (List.mem_of_getElem? (i := 204) rfl)) rfl
theorem inAX7 : ∀ w ∈ wsX70, w ∈ tg_ALL := by
  intro w h
  obtain ⟨k, hk, rfl⟩ := List.mem_map.mp h
  have hk2 : k < 8 := List.mem_range.mp hk
  clear h hk
  rcases (show k = 0 ∨ k = 1 ∨ k = 2 ∨ k = 3 ∨ k = 4 ∨ k = 5 ∨ k = 6 ∨ k = 7 by omega) with rfl | rfl | rfl | rfl | rfl | rfl | rfl | rfl
  · exact tg_in (tb_1 _ (List.mem_of_getElem? (i := 237) rfl)) rfl
  · exact tg_in (tb_1 _ (List.mem_of_getElem? (i := 239) rfl)) rfl
  · exact tg_in (tb_2 _ (List.mem_of_getElem? (i := 1) rfl)) rfl
  · exact tg_in (tb_2 _ (List.mem_of_getElem? (i := 3) rfl)) rfl
  · exact tg_in (tb_2 _ (List.mem_of_getElem? (i := 5) rfl)) rfl
  · exact tg_in (tb_2 _ (List.mem_of_getElem? (i := 7) rfl)) rfl
  · exact tg_in (tb_2 _ (List.mem_of_getElem? (i := 9) rfl)) rfl
  · exact tg_in (tb_2 _ (List.mem_of_getElem? (i := 11) rfl)) rfl
theorem inAX8 : ∀ w ∈ wsX80, w ∈ tg_ALL := by
  intro w h
  obtain ⟨k, hk, rfl⟩ := List.mem_map.mp h
  have hk2 : k < 29 := List.mem_range.mp hk
  clear h hk
  rcases (show k = 0 ∨ k = 1 ∨ k = 2 ∨ k = 3 ∨ k = 4 ∨ k = 5 ∨ k = 6 ∨ k = 7 ∨ k = 8 ∨ k = 9 ∨ k = 10 ∨ k = 11 ∨ k = 12 ∨ k = 13 ∨ k = 14 ∨ k = 15 ∨ k = 16 ∨ k = 17 ∨ k = 18 ∨ k = 19 ∨ k = 20 ∨ k = 21 ∨ k = 22 ∨ k = 23 ∨ k = 24 ∨ k = 25 ∨ k = 26 ∨ k = 27 ∨ k = 28 by omega) with rfl | rfl | rfl | rfl | rfl | rfl | rfl | rfl | rfl | rfl | rfl | rfl | rfl | rfl | rfl | rfl | rfl | rfl | rfl | rfl | rfl | rfl | rfl | rfl | rfl | rfl | rfl | rfl | rfl
  · exact tg_in (tb_3 _ (List.mem_of_getElem? (i := 206) rfl)) rfl
  · exact tg_in (tb_3 _ (List.mem_of_getElem? (i := 208) rfl)) rfl
  · exact tg_in (tb_3 _ (List.mem_of_getElem? (i := 210) rfl)) rfl
  · exact tg_in (tb_3 _ (List.mem_of_getElem? (i := 212) rfl)) rfl
  · exact tg_in (tb_3 _ (List.mem_of_getElem? (i := 214) rfl)) rfl
  · exact tg_in (tb_3 _ (List.mem_of_getElem? (i := 216) rfl)) rfl
  · exact tg_in (tb_3 _ (List.mem_of_getElem? (i := 218) rfl)) rfl
  · exact tg_in (tb_3 _ (List.mem_of_getElem? (i := 220) rfl)) rfl
  · exact tg_in (tb_3 _ (List.mem_of_getElem? (i := 222) rfl)) rfl
  · exact tg_in (tb_3 _ (List.mem_of_getElem? (i := 224) rfl)) rfl
  · exact tg_in (tb_3 _ (List.mem_of_getElem? (i := 226) rfl)) rfl
  · exact tg_in (tb_3 _ (List.mem_of_getElem? (i := 228) rfl)) rfl
  · exact tg_in (tb_3 _ (List.mem_of_getElem? (i := 230) rfl)) rfl
  · exact tg_in (tb_3 _ (List.mem_of_getElem? (i := 232) rfl)) rfl
  · exact tg_in (tb_3 _ (List.mem_of_getElem? (i := 234) rfl)) rfl
  · exact tg_in (tb_3 _ (List.mem_of_getElem? (i := 236) rfl)) rfl
  · exact tg_in (tb_3 _ (List.mem_of_getElem? (i := 238) rfl)) rfl
  · exact tg_in (tb_4 _ (List.mem_of_getElem? (i := 0) rfl)) rfl
  · exact tg_in (tb_4 _ (List.mem_of_getElem? (i := 2) rfl)) rfl
  · exact tg_in (tb_4 _ (List.mem_of_getElem? (i := 4) rfl)) rfl
  · exact tg_in (tb_4 _ (List.mem_of_getElem? (i := 6) rfl)) rfl
  · exact tg_in (tb_4 _ (List.mem_of_getElem? (i := 8) rfl)) rfl
  · exact tg_in (tb_4 _ (List.mem_of_getElem? (i := 10) rfl)) rfl
  · exact tg_in (tb_4 _ (List.mem_of_getElem? (i := 12) rfl)) rfl
  · exact tg_in (tb_4 _ (List.mem_of_getElem? (i := 14) rfl)) rfl
  · exact tg_in (tb_4 _ (List.mem_of_getElem? (i := 16) rfl)) rfl
  · exact tg_in (tb_4 _ (List.mem_of_getElem? (i := 18) rfl)) rfl
  · exact tg_in (tb_4 _ (List.mem_of_getElem? (i := 20) rfl)) rfl
  · exact tg_in (tb_4 _ (List.mem_of_getElem? (i := 22) rfl)) rfl
