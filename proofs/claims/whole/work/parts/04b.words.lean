theorem lw_in0 {w : Cond} (h : w ∈ k2_sels lw_privs) : w ∈ lw_tbl := List.mem_append_left _ h
theorem lw_inT {w : Cond} (h : w ∈ tables_1) : w ∈ lw_tbl := List.mem_append_right _ h
theorem lw_in1 {w : Cond} (h : w ∈ tables_1_1) : w ∈ lw_tbl := lw_inT (List.mem_append_left _ h)
theorem lw_in2 {w : Cond} (h : w ∈ tables_1_2) : w ∈ lw_tbl := lw_inT (List.mem_append_right _ (List.mem_append_left _ h))
theorem lw_in3 {w : Cond} (h : w ∈ tables_1_3) : w ∈ lw_tbl := lw_inT (List.mem_append_right _ (List.mem_append_right _ (List.mem_append_left _ h)))
theorem lw_in4 {w : Cond} (h : w ∈ tables_1_4) : w ∈ lw_tbl := lw_inT (List.mem_append_right _ (List.mem_append_right _ (List.mem_append_right _ (List.mem_append_left _ h))))
theorem lw_in5 {w : Cond} (h : w ∈ tables_1_5) : w ∈ lw_tbl := lw_inT (List.mem_append_right _ (List.mem_append_right _ (List.mem_append_right _ (List.mem_append_right _ h))))
set_option maxRecDepth 100000 in
theorem wd_0 : Cond.methodLink RX4 3 objectInit ∈ mT := mT_in (lw_in1 (List.mem_of_getElem? (i := 31) rfl)) rfl
set_option maxRecDepth 100000 in
theorem wd_1 : Cond.instanceMethod objectInit ∈ mT := mT_in (lw_in1 (List.mem_of_getElem? (i := 18) rfl)) rfl
set_option maxRecDepth 100000 in
theorem wd_2 : Cond.code objectInit ⟨#[0xb1]⟩ 1 none ∈ mT := mT_in (lw_in1 (List.mem_of_getElem? (i := 19) rfl)) rfl
set_option maxRecDepth 100000 in
theorem wd_3 : Cond.methodLink RX4 9 Lib.Math.max.name ∈ mT := mT_in (lw_in1 (List.mem_of_getElem? (i := 32) rfl)) rfl
set_option maxRecDepth 100000 in
theorem wd_4 : Cond.static Lib.Math.max.name ∈ mT := mT_in (lw_in1 (List.mem_of_getElem? (i := 33) rfl)) rfl
set_option maxRecDepth 100000 in
theorem wd_5 : Cond.initialized "java/lang/Math" ∈ mT := mT_in (lw_in1 (List.mem_of_getElem? (i := 4) rfl)) rfl
set_option maxRecDepth 100000 in
theorem wd_6 : Cond.code Lib.Math.max.name Lib.Math.max.code 2 (some .int) ∈ mT := mT_in (lw_in1 (List.mem_of_getElem? (i := 34) rfl)) rfl
set_option maxRecDepth 100000 in
theorem wd_7 : Cond.fieldLink RX4 15 (mTb 4 0).1 (mTb 4 0).2.1 (mTb 4 0).2.2.1 ∈ mT := mT_in (lw_in1 (List.mem_of_getElem? (i := 35) rfl)) rfl
set_option maxRecDepth 100000 in
theorem wd_8 : Cond.fieldLink RX4 21 (mTb 4 1).1 (mTb 4 1).2.1 (mTb 4 1).2.2.1 ∈ mT := mT_in (lw_in1 (List.mem_of_getElem? (i := 36) rfl)) rfl
set_option maxRecDepth 100000 in
theorem wd_9 : Cond.methodLink RX4 25 arraycopyName ∈ mT := mT_in (lw_in1 (List.mem_of_getElem? (i := 126) rfl)) rfl
set_option maxRecDepth 100000 in
theorem wd_10 : Cond.native arraycopyName ∈ mT := mT_in (lw_in1 (List.mem_of_getElem? (i := 106) rfl)) rfl
set_option maxRecDepth 100000 in
theorem wd_11 : Cond.static arraycopyName ∈ mT := mT_in (lw_in1 (List.mem_of_getElem? (i := 105) rfl)) rfl
set_option maxRecDepth 100000 in
theorem wd_12 : Cond.initialized "java/lang/System" ∈ mT := mT_in (lw_in1 (List.mem_of_getElem? (i := 6) rfl)) rfl
set_option maxRecDepth 100000 in
theorem wd_13 : Cond.methodLink RX4 31 yX4_addPart ∈ mT := mT_in (lw_in2 (List.mem_of_getElem? (i := 62) rfl)) rfl
set_option maxRecDepth 100000 in
theorem wd_14 : Cond.instanceMethod yX4_addPart ∈ mT := mT_in (lw_in1 (List.mem_of_getElem? (i := 123) rfl)) rfl
set_option maxRecDepth 100000 in
theorem wd_15 : Cond.initialized RX4 ∈ mT := mT_in (lw_in1 (List.mem_of_getElem? (i := 3) rfl)) rfl
set_option maxRecDepth 100000 in
theorem wd_16 : Cond.code yX4_addPart cX4_addPart 4 none ∈ mT := mT_in (lw_in1 (List.mem_of_getElem? (i := 125) rfl)) rfl
set_option maxRecDepth 100000 in
theorem wd_17 : Cond.selects RX4 yX4_addPart yX4_addPart ∈ mT := mT_in (lw_in1 (List.mem_of_getElem? (i := 124) rfl)) rfl
set_option maxRecDepth 100000 in
theorem wd_18 : Cond.methodLink RX4 35 yX4_at ∈ mT := mT_in (lw_in2 (List.mem_of_getElem? (i := 163) rfl)) rfl
set_option maxRecDepth 100000 in
theorem wd_19 : Cond.instanceMethod yX4_at ∈ mT := mT_in (lw_in2 (List.mem_of_getElem? (i := 69) rfl)) rfl
set_option maxRecDepth 100000 in
theorem wd_20 : Cond.code yX4_at cX4_at 2 (some .int) ∈ mT := mT_in (lw_in2 (List.mem_of_getElem? (i := 71) rfl)) rfl
set_option maxRecDepth 100000 in
theorem wd_21 : Cond.selects RX4 yX4_at yX4_at ∈ mT := mT_in (lw_in2 (List.mem_of_getElem? (i := 70) rfl)) rfl
set_option maxRecDepth 100000 in
theorem wd_22 : Cond.methodLink RX5 3 objectInit ∈ mT := mT_in (lw_in1 (List.mem_of_getElem? (i := 25) rfl)) rfl
set_option maxRecDepth 100000 in
theorem wd_23 : Cond.classLink RX5 9 (mRn 4) ∈ mT := mT_in (lw_in1 (List.mem_of_getElem? (i := 26) rfl)) rfl
set_option maxRecDepth 100000 in
theorem wd_24 : Cond.instantiable (mRn 4) (mN 4) ∈ mT := mT_in (lw_in1 (List.mem_of_getElem? (i := 27) rfl)) rfl
set_option maxRecDepth 100000 in
theorem wd_25 : Cond.methodLink RX5 13 yX4_init ∈ mT := mT_in (lw_in1 (List.mem_of_getElem? (i := 28) rfl)) rfl
set_option maxRecDepth 100000 in
theorem wd_26 : Cond.instanceMethod yX4_init ∈ mT := mT_in (lw_in1 (List.mem_of_getElem? (i := 29) rfl)) rfl
set_option maxRecDepth 100000 in
theorem wd_27 : Cond.code yX4_init cX4_init 2 none ∈ mT := mT_in (lw_in1 (List.mem_of_getElem? (i := 30) rfl)) rfl
set_option maxRecDepth 100000 in
theorem wd_28 : Cond.fieldLink RX5 16 (mTb 5 0).1 (mTb 5 0).2.1 (mTb 5 0).2.2.1 ∈ mT := mT_in (lw_in1 (List.mem_of_getElem? (i := 49) rfl)) rfl
set_option maxRecDepth 100000 in
theorem wd_29 : Cond.fieldLink RX5 20 (mTb 5 1).1 (mTb 5 1).2.1 (mTb 5 1).2.2.1 ∈ mT := mT_in (lw_in1 (List.mem_of_getElem? (i := 54) rfl)) rfl
set_option maxRecDepth 100000 in
theorem wd_30 : Cond.fieldLink RX5 23 (mTb 5 2).1 (mTb 5 2).2.1 (mTb 5 2).2.2.1 ∈ mT := mT_in (lw_in1 (List.mem_of_getElem? (i := 56) rfl)) rfl
set_option maxRecDepth 100000 in
theorem wd_31 : Cond.fieldLink RX5 27 (mTb 5 3).1 (mTb 5 3).2.1 (mTb 5 3).2.2.1 ∈ mT := mT_in (lw_in1 (List.mem_of_getElem? (i := 57) rfl)) rfl
set_option maxRecDepth 100000 in
theorem wd_32 : Cond.fieldLink RX5 30 (mTb 4 1).1 (mTb 4 1).2.1 (mTb 4 1).2.2.1 ∈ mT := mT_in (lw_in1 (List.mem_of_getElem? (i := 37) rfl)) rfl
set_option maxRecDepth 100000 in
theorem wd_33 : Cond.methodLink RX5 34 yX4_add ∈ mT := mT_in (lw_in1 (List.mem_of_getElem? (i := 100) rfl)) rfl
set_option maxRecDepth 100000 in
theorem wd_34 : Cond.instanceMethod yX4_add ∈ mT := mT_in (lw_in1 (List.mem_of_getElem? (i := 89) rfl)) rfl
set_option maxRecDepth 100000 in
theorem wd_35 : Cond.code yX4_add cX4_add 2 none ∈ mT := mT_in (lw_in1 (List.mem_of_getElem? (i := 91) rfl)) rfl
set_option maxRecDepth 100000 in
theorem wd_36 : Cond.selects RX4 yX4_add yX4_add ∈ mT := mT_in (lw_in1 (List.mem_of_getElem? (i := 90) rfl)) rfl
set_option maxRecDepth 100000 in
theorem wd_37 : Cond.methodLink RX5 37 yX4_addNumber ∈ mT := mT_in (lw_in1 (List.mem_of_getElem? (i := 101) rfl)) rfl
set_option maxRecDepth 100000 in
theorem wd_38 : Cond.instanceMethod yX4_addNumber ∈ mT := mT_in (lw_in1 (List.mem_of_getElem? (i := 93) rfl)) rfl
set_option maxRecDepth 100000 in
theorem wd_39 : Cond.code yX4_addNumber cX4_addNumber 2 none ∈ mT := mT_in (lw_in1 (List.mem_of_getElem? (i := 95) rfl)) rfl
set_option maxRecDepth 100000 in
theorem wd_40 : Cond.selects RX4 yX4_addNumber yX4_addNumber ∈ mT := mT_in (lw_in1 (List.mem_of_getElem? (i := 94) rfl)) rfl
set_option maxRecDepth 100000 in
theorem wd_41 : Cond.fieldLink RX5 40 RX5 "FIRST" "[I" ∈ mT := mT_in (lw_in1 (List.mem_of_getElem? (i := 102) rfl)) rfl
set_option maxRecDepth 100000 in
theorem wd_42 : Cond.methodLink RX5 43 arraycopyName ∈ mT := mT_in (lw_in1 (List.mem_of_getElem? (i := 104) rfl)) rfl
set_option maxRecDepth 100000 in
theorem wd_43 : Cond.methodLink RX5 49 yX4_number ∈ mT := mT_in (lw_in1 (List.mem_of_getElem? (i := 107) rfl)) rfl
set_option maxRecDepth 100000 in
theorem wd_44 : Cond.instanceMethod yX4_number ∈ mT := mT_in (lw_in1 (List.mem_of_getElem? (i := 108) rfl)) rfl
set_option maxRecDepth 100000 in
theorem wd_45 : Cond.code yX4_number cX4_number 2 (some .int) ∈ mT := mT_in (lw_in1 (List.mem_of_getElem? (i := 110) rfl)) rfl
set_option maxRecDepth 100000 in
theorem wd_46 : Cond.selects RX4 yX4_number yX4_number ∈ mT := mT_in (lw_in1 (List.mem_of_getElem? (i := 109) rfl)) rfl
set_option maxRecDepth 100000 in
theorem wd_47 : Cond.methodLink RX5 53 yX5_stretch ∈ mT := mT_in (lw_in1 (List.mem_of_getElem? (i := 111) rfl)) rfl
set_option maxRecDepth 100000 in
theorem wd_48 : Cond.instanceMethod yX5_stretch ∈ mT := mT_in (lw_in1 (List.mem_of_getElem? (i := 113) rfl)) rfl
set_option maxRecDepth 100000 in
theorem wd_49 : Cond.initialized RX5 ∈ mT := mT_in (lw_in1 (List.mem_of_getElem? (i := 2) rfl)) rfl
set_option maxRecDepth 100000 in
theorem wd_50 : Cond.code yX5_stretch cX5_stretch 6 none ∈ mT := mT_in (lw_in1 (List.mem_of_getElem? (i := 114) rfl)) rfl
set_option maxRecDepth 100000 in
theorem wd_51 : Cond.selects RX5 yX5_stretch yX5_stretch ∈ mT := mT_in (lw_in0 (List.mem_of_getElem? (i := 0) rfl)) rfl
set_option maxRecDepth 100000 in
theorem wd_52 : Cond.methodLink RX5 56 yX5_mix ∈ mT := mT_in (lw_in1 (List.mem_of_getElem? (i := 115) rfl)) rfl
set_option maxRecDepth 100000 in
theorem wd_53 : Cond.instanceMethod yX5_mix ∈ mT := mT_in (lw_in1 (List.mem_of_getElem? (i := 117) rfl)) rfl
set_option maxRecDepth 100000 in
theorem wd_54 : Cond.code yX5_mix cX5_mix 14 none ∈ mT := mT_in (lw_in1 (List.mem_of_getElem? (i := 118) rfl)) rfl
set_option maxRecDepth 100000 in
theorem wd_55 : Cond.selects RX5 yX5_mix yX5_mix ∈ mT := mT_in (lw_in0 (List.mem_of_getElem? (i := 1) rfl)) rfl
set_option maxRecDepth 100000 in
theorem wd_56 : Cond.methodLink RX5 59 yX4_empty ∈ mT := mT_in (lw_in1 (List.mem_of_getElem? (i := 121) rfl)) rfl
set_option maxRecDepth 100000 in
theorem wd_57 : Cond.instanceMethod yX4_empty ∈ mT := mT_in (lw_in1 (List.mem_of_getElem? (i := 85) rfl)) rfl
set_option maxRecDepth 100000 in
theorem wd_58 : Cond.code yX4_empty cX4_empty 1 none ∈ mT := mT_in (lw_in1 (List.mem_of_getElem? (i := 87) rfl)) rfl
set_option maxRecDepth 100000 in
theorem wd_59 : Cond.selects RX4 yX4_empty yX4_empty ∈ mT := mT_in (lw_in1 (List.mem_of_getElem? (i := 86) rfl)) rfl
set_option maxRecDepth 100000 in
theorem wd_60 : Cond.methodLink RX5 62 yX4_addPart ∈ mT := mT_in (lw_in2 (List.mem_of_getElem? (i := 37) rfl)) rfl
set_option maxRecDepth 100000 in
theorem wd_61 : Cond.methodLink RX5 66 yX5_finish ∈ mT := mT_in (lw_in2 (List.mem_of_getElem? (i := 38) rfl)) rfl
set_option maxRecDepth 100000 in
theorem wd_62 : Cond.instanceMethod yX5_finish ∈ mT := mT_in (lw_in1 (List.mem_of_getElem? (i := 97) rfl)) rfl
set_option maxRecDepth 100000 in
theorem wd_63 : Cond.code yX5_finish cX5_finish 4 (some (.object "GossipWatch$Row")) ∈ mT := mT_in (lw_in1 (List.mem_of_getElem? (i := 99) rfl)) rfl
set_option maxRecDepth 100000 in
theorem wd_64 : Cond.selects RX5 yX5_finish yX5_finish ∈ mT := mT_in (lw_in1 (List.mem_of_getElem? (i := 98) rfl)) rfl
set_option maxRecDepth 100000 in
theorem wd_65 : Cond.fieldLink RX5 70 RX5 "ROUND" "[I" ∈ mT := mT_in (lw_in1 (List.mem_of_getElem? (i := 119) rfl)) rfl
set_option maxRecDepth 100000 in
theorem wd_66 : Cond.methodLink RX2 3 objectInit ∈ mT := mT_in (lw_in1 (List.mem_of_getElem? (i := 169) rfl)) rfl
set_option maxRecDepth 100000 in
theorem wd_67 : Cond.classLink RX2 9 (mRn 4) ∈ mT := mT_in (lw_in1 (List.mem_of_getElem? (i := 170) rfl)) rfl
set_option maxRecDepth 100000 in
theorem wd_68 : Cond.methodLink RX2 11 yX4_init ∈ mT := mT_in (lw_in1 (List.mem_of_getElem? (i := 171) rfl)) rfl
set_option maxRecDepth 100000 in
theorem wd_69 : Cond.fieldLink RX2 14 (mTb 2 0).1 (mTb 2 0).2.1 (mTb 2 0).2.2.1 ∈ mT := mT_in (lw_in1 (List.mem_of_getElem? (i := 172) rfl)) rfl
set_option maxRecDepth 100000 in
theorem wd_70 : Cond.fieldLink RX2 20 (mTb 2 1).1 (mTb 2 1).2.1 (mTb 2 1).2.2.1 ∈ mT := mT_in (lw_in1 (List.mem_of_getElem? (i := 174) rfl)) rfl
set_option maxRecDepth 100000 in
theorem wd_71 : Cond.fieldLink RX2 24 (mTb 4 1).1 (mTb 4 1).2.1 (mTb 4 1).2.2.1 ∈ mT := mT_in (lw_in1 (List.mem_of_getElem? (i := 38) rfl)) rfl
set_option maxRecDepth 100000 in
theorem wd_72 : Cond.methodLink RX0 3 objectInit ∈ mT := mT_in (lw_in1 (List.mem_of_getElem? (i := 132) rfl)) rfl
set_option maxRecDepth 100000 in
theorem wd_73 : Cond.classLink RX0 9 (mRn 4) ∈ mT := mT_in (lw_in1 (List.mem_of_getElem? (i := 133) rfl)) rfl
set_option maxRecDepth 100000 in
theorem wd_74 : Cond.methodLink RX0 11 yX4_init ∈ mT := mT_in (lw_in1 (List.mem_of_getElem? (i := 134) rfl)) rfl
set_option maxRecDepth 100000 in
theorem wd_75 : Cond.fieldLink RX0 14 (mTb 0 0).1 (mTb 0 0).2.1 (mTb 0 0).2.2.1 ∈ mT := mT_in (lw_in1 (List.mem_of_getElem? (i := 135) rfl)) rfl
set_option maxRecDepth 100000 in
theorem wd_76 : Cond.fieldLink RX0 20 (mTb 0 1).1 (mTb 0 1).2.1 (mTb 0 1).2.2.1 ∈ mT := mT_in (lw_in1 (List.mem_of_getElem? (i := 136) rfl)) rfl
set_option maxRecDepth 100000 in
theorem wd_77 : Cond.fieldLink RX0 23 (mTb 4 1).1 (mTb 4 1).2.1 (mTb 4 1).2.2.1 ∈ mT := mT_in (lw_in1 (List.mem_of_getElem? (i := 39) rfl)) rfl
set_option maxRecDepth 100000 in
theorem wd_78 : Cond.methodLink RX0 27 yX4_becomePart ∈ mT := mT_in (lw_in2 (List.mem_of_getElem? (i := 201) rfl)) rfl
set_option maxRecDepth 100000 in
theorem wd_79 : Cond.instanceMethod yX4_becomePart ∈ mT := mT_in (lw_in2 (List.mem_of_getElem? (i := 59) rfl)) rfl
set_option maxRecDepth 100000 in
theorem wd_80 : Cond.code yX4_becomePart cX4_becomePart 4 none ∈ mT := mT_in (lw_in2 (List.mem_of_getElem? (i := 61) rfl)) rfl
set_option maxRecDepth 100000 in
theorem wd_81 : Cond.selects RX4 yX4_becomePart yX4_becomePart ∈ mT := mT_in (lw_in2 (List.mem_of_getElem? (i := 60) rfl)) rfl
set_option maxRecDepth 100000 in
theorem wd_82 : Cond.methodLink RX0 31 yX0_rises ∈ mT := mT_in (lw_in2 (List.mem_of_getElem? (i := 202) rfl)) rfl
set_option maxRecDepth 100000 in
theorem wd_83 : Cond.instanceMethod yX0_rises ∈ mT := mT_in (lw_in2 (List.mem_of_getElem? (i := 204) rfl)) rfl
set_option maxRecDepth 100000 in
theorem wd_84 : Cond.initialized RX0 ∈ mT := mT_in (lw_in1 (List.mem_of_getElem? (i := 7) rfl)) rfl
set_option maxRecDepth 100000 in
theorem wd_85 : Cond.code yX0_rises cX0_rises 10 (some .boolean) ∈ mT := mT_in (lw_in2 (List.mem_of_getElem? (i := 205) rfl)) rfl
set_option maxRecDepth 100000 in
theorem wd_86 : Cond.selects RX0 yX0_rises yX0_rises ∈ mT := mT_in (lw_in0 (List.mem_of_getElem? (i := 10) rfl)) rfl
set_option maxRecDepth 100000 in
theorem wd_87 : Cond.methodLink RX0 35 yX4_sameAs ∈ mT := mT_in (lw_in2 (List.mem_of_getElem? (i := 208) rfl)) rfl
set_option maxRecDepth 100000 in
theorem wd_88 : Cond.instanceMethod yX4_sameAs ∈ mT := mT_in (lw_in2 (List.mem_of_getElem? (i := 160) rfl)) rfl
set_option maxRecDepth 100000 in
theorem wd_89 : Cond.code yX4_sameAs cX4_sameAs 6 (some .boolean) ∈ mT := mT_in (lw_in2 (List.mem_of_getElem? (i := 162) rfl)) rfl
set_option maxRecDepth 100000 in
theorem wd_90 : Cond.selects RX4 yX4_sameAs yX4_sameAs ∈ mT := mT_in (lw_in2 (List.mem_of_getElem? (i := 161) rfl)) rfl
set_option maxRecDepth 100000 in
theorem wd_91 : Cond.methodLink RX0 39 yX4_number ∈ mT := mT_in (lw_in2 (List.mem_of_getElem? (i := 230) rfl)) rfl
set_option maxRecDepth 100000 in
theorem wd_92 : Cond.fieldLink RX0 43 (mTb 5 0).1 (mTb 5 0).2.1 (mTb 5 0).2.2.1 ∈ mT := mT_in (lw_in1 (List.mem_of_getElem? (i := 51) rfl)) rfl
set_option maxRecDepth 100000 in
theorem wd_93 : Cond.methodLink RX0 48 yX4_empty ∈ mT := mT_in (lw_in2 (List.mem_of_getElem? (i := 231) rfl)) rfl
set_option maxRecDepth 100000 in
theorem wd_94 : Cond.methodLink RX0 51 yX4_add ∈ mT := mT_in (lw_in2 (List.mem_of_getElem? (i := 232) rfl)) rfl
set_option maxRecDepth 100000 in
theorem wd_95 : Cond.methodLink RX0 54 yX4_addPart ∈ mT := mT_in (lw_in2 (List.mem_of_getElem? (i := 233) rfl)) rfl
set_option maxRecDepth 100000 in
theorem wd_96 : Cond.methodLink RX0 57 yX5_finish ∈ mT := mT_in (lw_in2 (List.mem_of_getElem? (i := 234) rfl)) rfl
set_option maxRecDepth 100000 in
theorem wd_97 : Cond.methodLink RX0 61 yX4_become ∈ mT := mT_in (lw_in2 (List.mem_of_getElem? (i := 207) rfl)) rfl
set_option maxRecDepth 100000 in
theorem wd_98 : Cond.instanceMethod yX4_become ∈ mT := mT_in (lw_in2 (List.mem_of_getElem? (i := 189) rfl)) rfl
set_option maxRecDepth 100000 in
theorem wd_99 : Cond.code yX4_become cX4_become 2 none ∈ mT := mT_in (lw_in2 (List.mem_of_getElem? (i := 191) rfl)) rfl
set_option maxRecDepth 100000 in
theorem wd_100 : Cond.selects RX4 yX4_become yX4_become ∈ mT := mT_in (lw_in2 (List.mem_of_getElem? (i := 190) rfl)) rfl
set_option maxRecDepth 100000 in
theorem wd_101 : Cond.methodLink RX0 65 yX5_join ∈ mT := mT_in (lw_in2 (List.mem_of_getElem? (i := 206) rfl)) rfl
set_option maxRecDepth 100000 in
theorem wd_102 : Cond.instanceMethod yX5_join ∈ mT := mT_in (lw_in2 (List.mem_of_getElem? (i := 34) rfl)) rfl
set_option maxRecDepth 100000 in
theorem wd_103 : Cond.code yX5_join cX5_join 5 (some (.object "GossipWatch$Row")) ∈ mT := mT_in (lw_in2 (List.mem_of_getElem? (i := 36) rfl)) rfl
set_option maxRecDepth 100000 in
theorem wd_104 : Cond.selects RX5 yX5_join yX5_join ∈ mT := mT_in (lw_in2 (List.mem_of_getElem? (i := 35) rfl)) rfl
set_option maxRecDepth 100000 in
theorem wd_105 : Cond.methodLink RX6 3 objectInit ∈ mT := mT_in (lw_in1 (List.mem_of_getElem? (i := 148) rfl)) rfl
set_option maxRecDepth 100000 in
theorem wd_106 : Cond.fieldLink RX6 11 (mTb 6 0).1 (mTb 6 0).2.1 (mTb 6 0).2.2.1 ∈ mT := mT_in (lw_in1 (List.mem_of_getElem? (i := 152) rfl)) rfl
set_option maxRecDepth 100000 in
theorem wd_107 : Cond.classLink RX6 15 (mRn 4) ∈ mT := mT_in (lw_in1 (List.mem_of_getElem? (i := 149) rfl)) rfl
set_option maxRecDepth 100000 in
theorem wd_108 : Cond.fieldLink RX6 17 (mTb 6 1).1 (mTb 6 1).2.1 (mTb 6 1).2.2.1 ∈ mT := mT_in (lw_in1 (List.mem_of_getElem? (i := 153) rfl)) rfl
set_option maxRecDepth 100000 in
theorem wd_109 : Cond.methodLink RX6 21 yX4_init ∈ mT := mT_in (lw_in1 (List.mem_of_getElem? (i := 151) rfl)) rfl
set_option maxRecDepth 100000 in
theorem wd_110 : Cond.fieldLink RX6 24 (mTb 6 2).1 (mTb 6 2).2.1 (mTb 6 2).2.2.1 ∈ mT := mT_in (lw_in1 (List.mem_of_getElem? (i := 154) rfl)) rfl
set_option maxRecDepth 100000 in
theorem wd_111 : Cond.fieldLink RX6 28 (mTb 5 0).1 (mTb 5 0).2.1 (mTb 5 0).2.2.1 ∈ mT := mT_in (lw_in1 (List.mem_of_getElem? (i := 52) rfl)) rfl
set_option maxRecDepth 100000 in
theorem wd_112 : Cond.methodLink RX6 34 yX4_empty ∈ mT := mT_in (lw_in2 (List.mem_of_getElem? (i := 28) rfl)) rfl
set_option maxRecDepth 100000 in
theorem wd_113 : Cond.methodLink RX6 37 yX4_add ∈ mT := mT_in (lw_in2 (List.mem_of_getElem? (i := 29) rfl)) rfl
set_option maxRecDepth 100000 in
theorem wd_114 : Cond.methodLink RX6 40 yX4_addNumber ∈ mT := mT_in (lw_in2 (List.mem_of_getElem? (i := 30) rfl)) rfl
set_option maxRecDepth 100000 in
theorem wd_115 : Cond.methodLink RX6 43 yX5_finish ∈ mT := mT_in (lw_in2 (List.mem_of_getElem? (i := 31) rfl)) rfl
set_option maxRecDepth 100000 in
theorem wd_116 : Cond.methodLink RX6 47 yX4_addPart ∈ mT := mT_in (lw_in2 (List.mem_of_getElem? (i := 32) rfl)) rfl
set_option maxRecDepth 100000 in
theorem wd_117 : Cond.fieldLink RX6 51 (mTb 4 1).1 (mTb 4 1).2.1 (mTb 4 1).2.2.1 ∈ mT := mT_in (lw_in1 (List.mem_of_getElem? (i := 40) rfl)) rfl
set_option maxRecDepth 100000 in
theorem wd_118 : Cond.methodLink RX6 54 yX5_join ∈ mT := mT_in (lw_in2 (List.mem_of_getElem? (i := 33) rfl)) rfl
set_option maxRecDepth 100000 in
theorem wd_119 : Cond.fieldLink RX6 58 (mTb 5 1).1 (mTb 5 1).2.1 (mTb 5 1).2.2.1 ∈ mT := mT_in (lw_in1 (List.mem_of_getElem? (i := 55) rfl)) rfl
set_option maxRecDepth 100000 in
theorem wd_120 : Cond.methodLink RX6 61 yX4_becomePart ∈ mT := mT_in (lw_in2 (List.mem_of_getElem? (i := 58) rfl)) rfl
set_option maxRecDepth 100000 in
theorem wd_121 : Cond.methodLink RX6 64 yX6_splitOf ∈ mT := mT_in (lw_in2 (List.mem_of_getElem? (i := 80) rfl)) rfl
set_option maxRecDepth 100000 in
theorem wd_122 : Cond.initialized RX6 ∈ mT := mT_in (lw_in1 (List.mem_of_getElem? (i := 8) rfl)) rfl
set_option maxRecDepth 100000 in
theorem wd_123 : Cond.code yX6_splitOf cX6_splitOf 3 (some .int) ∈ mT := mT_in (lw_in2 (List.mem_of_getElem? (i := 82) rfl)) rfl
set_option maxRecDepth 100000 in
theorem wd_124 : Cond.static yX6_splitOf ∈ mT := mT_in (lw_in2 (List.mem_of_getElem? (i := 81) rfl)) rfl
set_option maxRecDepth 100000 in
theorem wd_125 : Cond.methodLink RX6 68 yX6_rootOf ∈ mT := mT_in (lw_in2 (List.mem_of_getElem? (i := 83) rfl)) rfl
set_option maxRecDepth 100000 in
theorem wd_126 : Cond.instanceMethod yX6_rootOf ∈ mT := mT_in (lw_in2 (List.mem_of_getElem? (i := 55) rfl)) rfl
set_option maxRecDepth 100000 in
theorem wd_127 : Cond.code yX6_rootOf cX6_rootOf 9 (some (.object "GossipWatch$Row")) ∈ mT := mT_in (lw_in2 (List.mem_of_getElem? (i := 57) rfl)) rfl
set_option maxRecDepth 100000 in
theorem wd_128 : Cond.selects RX6 yX6_rootOf yX6_rootOf ∈ mT := mT_in (lw_in2 (List.mem_of_getElem? (i := 56) rfl)) rfl
set_option maxRecDepth 100000 in
theorem wd_129 : Cond.methodLink RX7 3 objectInit ∈ mT := mT_in (lw_in1 (List.mem_of_getElem? (i := 17) rfl)) rfl
set_option maxRecDepth 100000 in
theorem wd_130 : Cond.classLink RX7 9 (mRn 5) ∈ mT := mT_in (lw_in1 (List.mem_of_getElem? (i := 20) rfl)) rfl
set_option maxRecDepth 100000 in
theorem wd_131 : Cond.instantiable (mRn 5) (mN 5) ∈ mT := mT_in (lw_in1 (List.mem_of_getElem? (i := 21) rfl)) rfl
set_option maxRecDepth 100000 in
theorem wd_132 : Cond.instanceMethod yX5_init ∈ mT := mT_in (lw_in1 (List.mem_of_getElem? (i := 23) rfl)) rfl
set_option maxRecDepth 100000 in
theorem wd_133 : Cond.code yX5_init cX5_init 1 none ∈ mT := mT_in (lw_in1 (List.mem_of_getElem? (i := 24) rfl)) rfl
set_option maxRecDepth 100000 in
theorem wd_134 : Cond.fieldLink RX7 12 (mTb 7 0).1 (mTb 7 0).2.1 (mTb 7 0).2.2.1 ∈ mT := mT_in (lw_in1 (List.mem_of_getElem? (i := 224) rfl)) rfl
set_option maxRecDepth 100000 in
theorem wd_135 : Cond.classLink RX7 16 (mRn 1) ∈ mT := mT_in (lw_in1 (List.mem_of_getElem? (i := 68) rfl)) rfl
set_option maxRecDepth 100000 in
theorem wd_136 : Cond.instantiable (mRn 1) (mN 1) ∈ mT := mT_in (lw_in1 (List.mem_of_getElem? (i := 69) rfl)) rfl
set_option maxRecDepth 100000 in
theorem wd_137 : Cond.initialized (mRn 1) ∈ mT := mT_in (lw_in1 (List.mem_of_getElem? (i := 5) rfl)) rfl
set_option maxRecDepth 100000 in
theorem wd_138 : Cond.instanceMethod yX1_init ∈ mT := mT_in (lw_in1 (List.mem_of_getElem? (i := 71) rfl)) rfl
set_option maxRecDepth 100000 in
theorem wd_139 : Cond.code yX1_init cX1_init 1 none ∈ mT := mT_in (lw_in1 (List.mem_of_getElem? (i := 72) rfl)) rfl
set_option maxRecDepth 100000 in
theorem wd_140 : Cond.fieldLink RX7 19 (mTb 7 1).1 (mTb 7 1).2.1 (mTb 7 1).2.2.1 ∈ mT := mT_in (lw_in1 (List.mem_of_getElem? (i := 225) rfl)) rfl
set_option maxRecDepth 100000 in
theorem wd_141 : Cond.methodLink RX7 23 yX1_makeFrom ∈ mT := mT_in (lw_in1 (List.mem_of_getElem? (i := 80) rfl)) rfl
set_option maxRecDepth 100000 in
theorem wd_142 : Cond.instanceMethod yX1_makeFrom ∈ mT := mT_in (lw_in1 (List.mem_of_getElem? (i := 81) rfl)) rfl
set_option maxRecDepth 100000 in
theorem wd_143 : Cond.code yX1_makeFrom cX1_makeFrom 5 none ∈ mT := mT_in (lw_in1 (List.mem_of_getElem? (i := 83) rfl)) rfl
set_option maxRecDepth 100000 in
theorem wd_144 : Cond.selects RX1 yX1_makeFrom yX1_makeFrom ∈ mT := mT_in (lw_in1 (List.mem_of_getElem? (i := 82) rfl)) rfl
set_option maxRecDepth 100000 in
theorem wd_145 : Cond.classLink RX7 27 (mRn 0) ∈ mT := mT_in (lw_in1 (List.mem_of_getElem? (i := 127) rfl)) rfl
set_option maxRecDepth 100000 in
theorem wd_146 : Cond.instantiable (mRn 0) (mN 0) ∈ mT := mT_in (lw_in1 (List.mem_of_getElem? (i := 128) rfl)) rfl
set_option maxRecDepth 100000 in
theorem wd_147 : Cond.instanceMethod yX0_init ∈ mT := mT_in (lw_in1 (List.mem_of_getElem? (i := 130) rfl)) rfl
set_option maxRecDepth 100000 in
theorem wd_148 : Cond.code yX0_init cX0_init 1 none ∈ mT := mT_in (lw_in1 (List.mem_of_getElem? (i := 131) rfl)) rfl
set_option maxRecDepth 100000 in
theorem wd_149 : Cond.fieldLink RX7 30 (mTb 7 2).1 (mTb 7 2).2.1 (mTb 7 2).2.2.1 ∈ mT := mT_in (lw_in1 (List.mem_of_getElem? (i := 226) rfl)) rfl
set_option maxRecDepth 100000 in
theorem wd_150 : Cond.classLink RX7 34 (mRn 6) ∈ mT := mT_in (lw_in1 (List.mem_of_getElem? (i := 142) rfl)) rfl
set_option maxRecDepth 100000 in
theorem wd_151 : Cond.instantiable (mRn 6) (mN 6) ∈ mT := mT_in (lw_in1 (List.mem_of_getElem? (i := 144) rfl)) rfl
set_option maxRecDepth 100000 in
theorem wd_152 : Cond.fieldLink RX7 36 (mTb 7 3).1 (mTb 7 3).2.1 (mTb 7 3).2.2.1 ∈ mT := mT_in (lw_in1 (List.mem_of_getElem? (i := 227) rfl)) rfl
set_option maxRecDepth 100000 in
theorem wd_153 : Cond.methodLink RX7 40 yX6_init ∈ mT := mT_in (lw_in1 (List.mem_of_getElem? (i := 145) rfl)) rfl
set_option maxRecDepth 100000 in
theorem wd_154 : Cond.instanceMethod yX6_init ∈ mT := mT_in (lw_in1 (List.mem_of_getElem? (i := 146) rfl)) rfl
set_option maxRecDepth 100000 in
theorem wd_155 : Cond.code yX6_init cX6_init 2 none ∈ mT := mT_in (lw_in1 (List.mem_of_getElem? (i := 147) rfl)) rfl
set_option maxRecDepth 100000 in
theorem wd_156 : Cond.classLink RX7 41 (mRn 2) ∈ mT := mT_in (lw_in1 (List.mem_of_getElem? (i := 163) rfl)) rfl
set_option maxRecDepth 100000 in
theorem wd_157 : Cond.instantiable (mRn 2) (mN 2) ∈ mT := mT_in (lw_in1 (List.mem_of_getElem? (i := 165) rfl)) rfl
set_option maxRecDepth 100000 in
theorem wd_158 : Cond.initialized (mRn 2) ∈ mT := mT_in (lw_in1 (List.mem_of_getElem? (i := 9) rfl)) rfl
set_option maxRecDepth 100000 in
theorem wd_159 : Cond.fieldLink RX7 43 (mTb 7 4).1 (mTb 7 4).2.1 (mTb 7 4).2.2.1 ∈ mT := mT_in (lw_in1 (List.mem_of_getElem? (i := 228) rfl)) rfl
set_option maxRecDepth 100000 in
theorem wd_160 : Cond.instanceMethod yX2_init ∈ mT := mT_in (lw_in1 (List.mem_of_getElem? (i := 167) rfl)) rfl
set_option maxRecDepth 100000 in
theorem wd_161 : Cond.code yX2_init cX2_init 1 none ∈ mT := mT_in (lw_in1 (List.mem_of_getElem? (i := 168) rfl)) rfl
set_option maxRecDepth 100000 in
theorem wd_162 : Cond.classLink RX7 48 (mRn 3) ∈ mT := mT_in (lw_in1 (List.mem_of_getElem? (i := 181) rfl)) rfl
set_option maxRecDepth 100000 in
theorem wd_163 : Cond.instantiable (mRn 3) (mN 3) ∈ mT := mT_in (lw_in1 (List.mem_of_getElem? (i := 183) rfl)) rfl
set_option maxRecDepth 100000 in
theorem wd_164 : Cond.initialized (mRn 3) ∈ mT := mT_in (lw_in1 (List.mem_of_getElem? (i := 10) rfl)) rfl
set_option maxRecDepth 100000 in
theorem wd_165 : Cond.fieldLink RX7 50 (mTb 7 5).1 (mTb 7 5).2.1 (mTb 7 5).2.2.1 ∈ mT := mT_in (lw_in1 (List.mem_of_getElem? (i := 229) rfl)) rfl
set_option maxRecDepth 100000 in
theorem wd_166 : Cond.methodLink RX7 54 yX3_init ∈ mT := mT_in (lw_in1 (List.mem_of_getElem? (i := 184) rfl)) rfl
set_option maxRecDepth 100000 in
theorem wd_167 : Cond.instanceMethod yX3_init ∈ mT := mT_in (lw_in1 (List.mem_of_getElem? (i := 185) rfl)) rfl
set_option maxRecDepth 100000 in
theorem wd_168 : Cond.code yX3_init cX3_init 2 none ∈ mT := mT_in (lw_in1 (List.mem_of_getElem? (i := 186) rfl)) rfl
set_option maxRecDepth 100000 in
theorem wd_169 : Cond.classLink RX7 55 (mRn 4) ∈ mT := mT_in (lw_in1 (List.mem_of_getElem? (i := 222) rfl)) rfl
set_option maxRecDepth 100000 in
theorem wd_170 : Cond.methodLink RX7 57 yX4_init ∈ mT := mT_in (lw_in1 (List.mem_of_getElem? (i := 223) rfl)) rfl
set_option maxRecDepth 100000 in
theorem wd_171 : Cond.fieldLink RX7 60 (mTb 7 6).1 (mTb 7 6).2.1 (mTb 7 6).2.2.1 ∈ mT := mT_in (lw_in1 (List.mem_of_getElem? (i := 230) rfl)) rfl
set_option maxRecDepth 100000 in
theorem wd_172 : Cond.fieldLink RX7 64 (mTb 7 7).1 (mTb 7 7).2.1 (mTb 7 7).2.2.1 ∈ mT := mT_in (lw_in1 (List.mem_of_getElem? (i := 231) rfl)) rfl
set_option maxRecDepth 100000 in
theorem wd_173 : Cond.fieldLink RX7 67 (mTb 7 8).1 (mTb 7 8).2.1 (mTb 7 8).2.2.1 ∈ mT := mT_in (lw_in1 (List.mem_of_getElem? (i := 232) rfl)) rfl
set_option maxRecDepth 100000 in
theorem wd_174 : Cond.methodLink RX7 71 yX7_viewOf ∈ mT := mT_in (lw_in2 (List.mem_of_getElem? (i := 16) rfl)) rfl
set_option maxRecDepth 100000 in
theorem wd_175 : Cond.instanceMethod yX7_viewOf ∈ mT := mT_in (lw_in2 (List.mem_of_getElem? (i := 18) rfl)) rfl
set_option maxRecDepth 100000 in
theorem wd_176 : Cond.initialized RX7 ∈ mT := mT_in (lw_in1 (List.mem_of_getElem? (i := 1) rfl)) rfl
set_option maxRecDepth 100000 in
theorem wd_177 : Cond.code yX7_viewOf cX7_viewOf 3 (some (.object "GossipWatch$View")) ∈ mT := mT_in (lw_in2 (List.mem_of_getElem? (i := 19) rfl)) rfl
set_option maxRecDepth 100000 in
theorem wd_178 : Cond.selects RX7 yX7_viewOf yX7_viewOf ∈ mT := mT_in (lw_in0 (List.mem_of_getElem? (i := 2) rfl)) rfl
set_option maxRecDepth 100000 in
theorem wd_179 : Cond.methodLink RX7 75 yX6_isFull ∈ mT := mT_in (lw_in2 (List.mem_of_getElem? (i := 20) rfl)) rfl
set_option maxRecDepth 100000 in
theorem wd_180 : Cond.instanceMethod yX6_isFull ∈ mT := mT_in (lw_in2 (List.mem_of_getElem? (i := 21) rfl)) rfl
set_option maxRecDepth 100000 in
theorem wd_181 : Cond.code yX6_isFull cX6_isFull 1 (some .boolean) ∈ mT := mT_in (lw_in2 (List.mem_of_getElem? (i := 23) rfl)) rfl
set_option maxRecDepth 100000 in
theorem wd_182 : Cond.selects RX6 yX6_isFull yX6_isFull ∈ mT := mT_in (lw_in2 (List.mem_of_getElem? (i := 22) rfl)) rfl
set_option maxRecDepth 100000 in
theorem wd_183 : Cond.methodLink RX7 79 yX6_addLeaf ∈ mT := mT_in (lw_in2 (List.mem_of_getElem? (i := 24) rfl)) rfl
set_option maxRecDepth 100000 in
theorem wd_184 : Cond.instanceMethod yX6_addLeaf ∈ mT := mT_in (lw_in2 (List.mem_of_getElem? (i := 25) rfl)) rfl
set_option maxRecDepth 100000 in
theorem wd_185 : Cond.code yX6_addLeaf cX6_addLeaf 6 none ∈ mT := mT_in (lw_in2 (List.mem_of_getElem? (i := 27) rfl)) rfl
set_option maxRecDepth 100000 in
theorem wd_186 : Cond.selects RX6 yX6_addLeaf yX6_addLeaf ∈ mT := mT_in (lw_in2 (List.mem_of_getElem? (i := 26) rfl)) rfl
set_option maxRecDepth 100000 in
theorem wd_187 : Cond.fieldLink RX7 83 (mTb 6 2).1 (mTb 6 2).2.1 (mTb 6 2).2.2.1 ∈ mT := mT_in (lw_in1 (List.mem_of_getElem? (i := 155) rfl)) rfl
set_option maxRecDepth 100000 in
theorem wd_188 : Cond.methodLink RX7 86 yX7_nextLetter ∈ mT := mT_in (lw_in2 (List.mem_of_getElem? (i := 47) rfl)) rfl
set_option maxRecDepth 100000 in
theorem wd_189 : Cond.instanceMethod yX7_nextLetter ∈ mT := mT_in (lw_in2 (List.mem_of_getElem? (i := 49) rfl)) rfl
set_option maxRecDepth 100000 in
theorem wd_190 : Cond.code yX7_nextLetter cX7_nextLetter 4 (some (.object "GossipWatch$Row")) ∈ mT := mT_in (lw_in2 (List.mem_of_getElem? (i := 50) rfl)) rfl
set_option maxRecDepth 100000 in
theorem wd_191 : Cond.selects RX7 yX7_nextLetter yX7_nextLetter ∈ mT := mT_in (lw_in0 (List.mem_of_getElem? (i := 3) rfl)) rfl
set_option maxRecDepth 100000 in
theorem wd_192 : Cond.methodLink RX7 90 yX4_addNumber ∈ mT := mT_in (lw_in2 (List.mem_of_getElem? (i := 53) rfl)) rfl
set_option maxRecDepth 100000 in
theorem wd_193 : Cond.methodLink RX7 93 yX6_rootOf ∈ mT := mT_in (lw_in2 (List.mem_of_getElem? (i := 54) rfl)) rfl
set_option maxRecDepth 100000 in
theorem wd_194 : Cond.methodLink RX7 97 yX4_addPart ∈ mT := mT_in (lw_in2 (List.mem_of_getElem? (i := 63) rfl)) rfl
set_option maxRecDepth 100000 in
theorem wd_195 : Cond.methodLink RX7 101 yX1_signFor ∈ mT := mT_in (lw_in2 (List.mem_of_getElem? (i := 64) rfl)) rfl
set_option maxRecDepth 100000 in
theorem wd_196 : Cond.instanceMethod yX1_signFor ∈ mT := mT_in (lw_in2 (List.mem_of_getElem? (i := 65) rfl)) rfl
set_option maxRecDepth 100000 in
theorem wd_197 : Cond.code yX1_signFor cX1_signFor 6 (some (.object "GossipWatch$Row")) ∈ mT := mT_in (lw_in2 (List.mem_of_getElem? (i := 67) rfl)) rfl
set_option maxRecDepth 100000 in
theorem wd_198 : Cond.selects RX1 yX1_signFor yX1_signFor ∈ mT := mT_in (lw_in2 (List.mem_of_getElem? (i := 66) rfl)) rfl
set_option maxRecDepth 100000 in
theorem wd_199 : Cond.methodLink RX7 105 yX4_empty ∈ mT := mT_in (lw_in2 (List.mem_of_getElem? (i := 51) rfl)) rfl
set_option maxRecDepth 100000 in
theorem wd_200 : Cond.methodLink RX7 108 yX6_pushProof ∈ mT := mT_in (lw_in2 (List.mem_of_getElem? (i := 76) rfl)) rfl
set_option maxRecDepth 100000 in
theorem wd_201 : Cond.instanceMethod yX6_pushProof ∈ mT := mT_in (lw_in2 (List.mem_of_getElem? (i := 77) rfl)) rfl
set_option maxRecDepth 100000 in
theorem wd_202 : Cond.code yX6_pushProof cX6_pushProof 9 none ∈ mT := mT_in (lw_in2 (List.mem_of_getElem? (i := 79) rfl)) rfl
set_option maxRecDepth 100000 in
theorem wd_203 : Cond.selects RX6 yX6_pushProof yX6_pushProof ∈ mT := mT_in (lw_in2 (List.mem_of_getElem? (i := 78) rfl)) rfl
set_option maxRecDepth 100000 in
theorem wd_204 : Cond.methodLink RX7 112 yX4_addHashesReversed ∈ mT := mT_in (lw_in2 (List.mem_of_getElem? (i := 84) rfl)) rfl
set_option maxRecDepth 100000 in
theorem wd_205 : Cond.instanceMethod yX4_addHashesReversed ∈ mT := mT_in (lw_in2 (List.mem_of_getElem? (i := 85) rfl)) rfl
set_option maxRecDepth 100000 in
theorem wd_206 : Cond.code yX4_addHashesReversed cX4_addHashesReversed 3 none ∈ mT := mT_in (lw_in2 (List.mem_of_getElem? (i := 87) rfl)) rfl
set_option maxRecDepth 100000 in
theorem wd_207 : Cond.selects RX4 yX4_addHashesReversed yX4_addHashesReversed ∈ mT := mT_in (lw_in2 (List.mem_of_getElem? (i := 86) rfl)) rfl
set_option maxRecDepth 100000 in
theorem wd_208 : Cond.methodLink RX7 116 yX6_leafAt ∈ mT := mT_in (lw_in2 (List.mem_of_getElem? (i := 92) rfl)) rfl
set_option maxRecDepth 100000 in
theorem wd_209 : Cond.instanceMethod yX6_leafAt ∈ mT := mT_in (lw_in2 (List.mem_of_getElem? (i := 93) rfl)) rfl
set_option maxRecDepth 100000 in
theorem wd_210 : Cond.code yX6_leafAt cX6_leafAt 2 (some .int) ∈ mT := mT_in (lw_in2 (List.mem_of_getElem? (i := 95) rfl)) rfl
set_option maxRecDepth 100000 in
theorem wd_211 : Cond.selects RX6 yX6_leafAt yX6_leafAt ∈ mT := mT_in (lw_in2 (List.mem_of_getElem? (i := 94) rfl)) rfl
set_option maxRecDepth 100000 in
theorem wd_212 : Cond.methodLink RX7 120 yX6_pushPath ∈ mT := mT_in (lw_in2 (List.mem_of_getElem? (i := 96) rfl)) rfl
set_option maxRecDepth 100000 in
theorem wd_213 : Cond.instanceMethod yX6_pushPath ∈ mT := mT_in (lw_in2 (List.mem_of_getElem? (i := 97) rfl)) rfl
set_option maxRecDepth 100000 in
theorem wd_214 : Cond.code yX6_pushPath cX6_pushPath 9 none ∈ mT := mT_in (lw_in2 (List.mem_of_getElem? (i := 99) rfl)) rfl
set_option maxRecDepth 100000 in
theorem wd_215 : Cond.selects RX6 yX6_pushPath yX6_pushPath ∈ mT := mT_in (lw_in2 (List.mem_of_getElem? (i := 98) rfl)) rfl
set_option maxRecDepth 100000 in
theorem wd_216 : Cond.methodLink RX7 123 yX7_letterOf ∈ mT := mT_in (lw_in2 (List.mem_of_getElem? (i := 104) rfl)) rfl
set_option maxRecDepth 100000 in
theorem wd_217 : Cond.instanceMethod yX7_letterOf ∈ mT := mT_in (lw_in2 (List.mem_of_getElem? (i := 106) rfl)) rfl
set_option maxRecDepth 100000 in
theorem wd_218 : Cond.code yX7_letterOf cX7_letterOf 2 (some (.object "GossipWatch$Letter")) ∈ mT := mT_in (lw_in2 (List.mem_of_getElem? (i := 107) rfl)) rfl
set_option maxRecDepth 100000 in
theorem wd_219 : Cond.selects RX7 yX7_letterOf yX7_letterOf ∈ mT := mT_in (lw_in0 (List.mem_of_getElem? (i := 4) rfl)) rfl
set_option maxRecDepth 100000 in
theorem wd_220 : Cond.fieldLink RX7 127 (mTb 2 0).1 (mTb 2 0).2.1 (mTb 2 0).2.2.1 ∈ mT := mT_in (lw_in1 (List.mem_of_getElem? (i := 173) rfl)) rfl
set_option maxRecDepth 100000 in
theorem wd_221 : Cond.methodLink RX7 130 yX4_has ∈ mT := mT_in (lw_in2 (List.mem_of_getElem? (i := 108) rfl)) rfl
set_option maxRecDepth 100000 in
theorem wd_222 : Cond.instanceMethod yX4_has ∈ mT := mT_in (lw_in2 (List.mem_of_getElem? (i := 109) rfl)) rfl
set_option maxRecDepth 100000 in
theorem wd_223 : Cond.code yX4_has cX4_has 2 (some .boolean) ∈ mT := mT_in (lw_in2 (List.mem_of_getElem? (i := 111) rfl)) rfl
set_option maxRecDepth 100000 in
theorem wd_224 : Cond.selects RX4 yX4_has yX4_has ∈ mT := mT_in (lw_in2 (List.mem_of_getElem? (i := 110) rfl)) rfl
set_option maxRecDepth 100000 in
theorem wd_225 : Cond.methodLink RX7 134 yX4_at ∈ mT := mT_in (lw_in2 (List.mem_of_getElem? (i := 112) rfl)) rfl
set_option maxRecDepth 100000 in
theorem wd_226 : Cond.methodLink RX7 137 yX4_put ∈ mT := mT_in (lw_in2 (List.mem_of_getElem? (i := 113) rfl)) rfl
set_option maxRecDepth 100000 in
theorem wd_227 : Cond.instanceMethod yX4_put ∈ mT := mT_in (lw_in2 (List.mem_of_getElem? (i := 114) rfl)) rfl
set_option maxRecDepth 100000 in
theorem wd_228 : Cond.code yX4_put cX4_put 3 none ∈ mT := mT_in (lw_in2 (List.mem_of_getElem? (i := 116) rfl)) rfl
set_option maxRecDepth 100000 in
theorem wd_229 : Cond.selects RX4 yX4_put yX4_put ∈ mT := mT_in (lw_in2 (List.mem_of_getElem? (i := 115) rfl)) rfl
set_option maxRecDepth 100000 in
theorem wd_230 : Cond.methodLink RX7 141 yX2_hashCount ∈ mT := mT_in (lw_in2 (List.mem_of_getElem? (i := 121) rfl)) rfl
set_option maxRecDepth 100000 in
theorem wd_231 : Cond.instanceMethod yX2_hashCount ∈ mT := mT_in (lw_in2 (List.mem_of_getElem? (i := 122) rfl)) rfl
set_option maxRecDepth 100000 in
theorem wd_232 : Cond.code yX2_hashCount cX2_hashCount 1 (some .int) ∈ mT := mT_in (lw_in2 (List.mem_of_getElem? (i := 124) rfl)) rfl
set_option maxRecDepth 100000 in
theorem wd_233 : Cond.selects RX2 yX2_hashCount yX2_hashCount ∈ mT := mT_in (lw_in2 (List.mem_of_getElem? (i := 123) rfl)) rfl
set_option maxRecDepth 100000 in
theorem wd_234 : Cond.fieldLink RX7 145 (mTb 4 1).1 (mTb 4 1).2.1 (mTb 4 1).2.2.1 ∈ mT := mT_in (lw_in1 (List.mem_of_getElem? (i := 41) rfl)) rfl
set_option maxRecDepth 100000 in
theorem wd_235 : Cond.methodLink RX7 148 yX4_resize ∈ mT := mT_in (lw_in2 (List.mem_of_getElem? (i := 125) rfl)) rfl
set_option maxRecDepth 100000 in
theorem wd_236 : Cond.instanceMethod yX4_resize ∈ mT := mT_in (lw_in2 (List.mem_of_getElem? (i := 126) rfl)) rfl
set_option maxRecDepth 100000 in
theorem wd_237 : Cond.code yX4_resize cX4_resize 3 none ∈ mT := mT_in (lw_in2 (List.mem_of_getElem? (i := 128) rfl)) rfl
set_option maxRecDepth 100000 in
theorem wd_238 : Cond.selects RX4 yX4_resize yX4_resize ∈ mT := mT_in (lw_in2 (List.mem_of_getElem? (i := 127) rfl)) rfl
set_option maxRecDepth 100000 in
theorem wd_239 : Cond.fieldLink RX7 151 (mTb 2 1).1 (mTb 2 1).2.1 (mTb 2 1).2.2.1 ∈ mT := mT_in (lw_in1 (List.mem_of_getElem? (i := 175) rfl)) rfl
set_option maxRecDepth 100000 in
theorem wd_240 : Cond.methodLink RX7 154 yX7_monitorOf ∈ mT := mT_in (lw_in2 (List.mem_of_getElem? (i := 149) rfl)) rfl
set_option maxRecDepth 100000 in
theorem wd_241 : Cond.instanceMethod yX7_monitorOf ∈ mT := mT_in (lw_in2 (List.mem_of_getElem? (i := 151) rfl)) rfl
set_option maxRecDepth 100000 in
theorem wd_242 : Cond.code yX7_monitorOf cX7_monitorOf 2 (some (.object "GossipWatch$Monitor")) ∈ mT := mT_in (lw_in2 (List.mem_of_getElem? (i := 152) rfl)) rfl
set_option maxRecDepth 100000 in
theorem wd_243 : Cond.selects RX7 yX7_monitorOf yX7_monitorOf ∈ mT := mT_in (lw_in0 (List.mem_of_getElem? (i := 5) rfl)) rfl
set_option maxRecDepth 100000 in
theorem wd_244 : Cond.methodLink RX7 158 yX1_haveSigned ∈ mT := mT_in (lw_in2 (List.mem_of_getElem? (i := 153) rfl)) rfl
set_option maxRecDepth 100000 in
theorem wd_245 : Cond.instanceMethod yX1_haveSigned ∈ mT := mT_in (lw_in2 (List.mem_of_getElem? (i := 154) rfl)) rfl
set_option maxRecDepth 100000 in
theorem wd_246 : Cond.code yX1_haveSigned cX1_haveSigned 7 (some .boolean) ∈ mT := mT_in (lw_in2 (List.mem_of_getElem? (i := 156) rfl)) rfl
set_option maxRecDepth 100000 in
theorem wd_247 : Cond.selects RX1 yX1_haveSigned yX1_haveSigned ∈ mT := mT_in (lw_in2 (List.mem_of_getElem? (i := 155) rfl)) rfl
set_option maxRecDepth 100000 in
theorem wd_248 : Cond.methodLink RX7 162 yX3_takeHead ∈ mT := mT_in (lw_in2 (List.mem_of_getElem? (i := 164) rfl)) rfl
set_option maxRecDepth 100000 in
theorem wd_249 : Cond.instanceMethod yX3_takeHead ∈ mT := mT_in (lw_in2 (List.mem_of_getElem? (i := 165) rfl)) rfl
set_option maxRecDepth 100000 in
theorem wd_250 : Cond.code yX3_takeHead cX3_takeHead 3 (some .int) ∈ mT := mT_in (lw_in2 (List.mem_of_getElem? (i := 167) rfl)) rfl
set_option maxRecDepth 100000 in
theorem wd_251 : Cond.selects RX3 yX3_takeHead yX3_takeHead ∈ mT := mT_in (lw_in2 (List.mem_of_getElem? (i := 166) rfl)) rfl
set_option maxRecDepth 100000 in
theorem wd_252 : Cond.methodLink RX7 166 yX3_noted ∈ mT := mT_in (lw_in2 (List.mem_of_getElem? (i := 192) rfl)) rfl
set_option maxRecDepth 100000 in
theorem wd_253 : Cond.instanceMethod yX3_noted ∈ mT := mT_in (lw_in2 (List.mem_of_getElem? (i := 193) rfl)) rfl
set_option maxRecDepth 100000 in
theorem wd_254 : Cond.code yX3_noted cX3_noted 2 (some .int) ∈ mT := mT_in (lw_in2 (List.mem_of_getElem? (i := 195) rfl)) rfl
set_option maxRecDepth 100000 in
theorem wd_255 : Cond.selects RX3 yX3_noted yX3_noted ∈ mT := mT_in (lw_in2 (List.mem_of_getElem? (i := 194) rfl)) rfl
set_option maxRecDepth 100000 in
theorem wd_256 : Cond.methodLink RX7 169 yX4_number ∈ mT := mT_in (lw_in2 (List.mem_of_getElem? (i := 196) rfl)) rfl
set_option maxRecDepth 100000 in
theorem wd_257 : Cond.methodLink RX7 172 yX0_ofProof ∈ mT := mT_in (lw_in2 (List.mem_of_getElem? (i := 197) rfl)) rfl
set_option maxRecDepth 100000 in
theorem wd_258 : Cond.instanceMethod yX0_ofProof ∈ mT := mT_in (lw_in2 (List.mem_of_getElem? (i := 198) rfl)) rfl
set_option maxRecDepth 100000 in
theorem wd_259 : Cond.code yX0_ofProof cX0_ofProof 11 (some (.object "GossipWatch$Row")) ∈ mT := mT_in (lw_in2 (List.mem_of_getElem? (i := 200) rfl)) rfl
set_option maxRecDepth 100000 in
theorem wd_260 : Cond.selects RX0 yX0_ofProof yX0_ofProof ∈ mT := mT_in (lw_in2 (List.mem_of_getElem? (i := 199) rfl)) rfl
set_option maxRecDepth 100000 in
theorem wd_261 : Cond.methodLink RX7 176 yX3_takeProof ∈ mT := mT_in (lw_in2 (List.mem_of_getElem? (i := 209) rfl)) rfl
set_option maxRecDepth 100000 in
theorem wd_262 : Cond.instanceMethod yX3_takeProof ∈ mT := mT_in (lw_in2 (List.mem_of_getElem? (i := 210) rfl)) rfl
set_option maxRecDepth 100000 in
theorem wd_263 : Cond.code yX3_takeProof cX3_takeProof 5 (some .int) ∈ mT := mT_in (lw_in2 (List.mem_of_getElem? (i := 212) rfl)) rfl
set_option maxRecDepth 100000 in
theorem wd_264 : Cond.selects RX3 yX3_takeProof yX3_takeProof ∈ mT := mT_in (lw_in2 (List.mem_of_getElem? (i := 211) rfl)) rfl
set_option maxRecDepth 100000 in
theorem wd_265 : Cond.methodLink RX7 180 yX0_ofPath ∈ mT := mT_in (lw_in2 (List.mem_of_getElem? (i := 226) rfl)) rfl
set_option maxRecDepth 100000 in
theorem wd_266 : Cond.instanceMethod yX0_ofPath ∈ mT := mT_in (lw_in2 (List.mem_of_getElem? (i := 227) rfl)) rfl
set_option maxRecDepth 100000 in
theorem wd_267 : Cond.code yX0_ofPath cX0_ofPath 5 (some (.object "GossipWatch$Row")) ∈ mT := mT_in (lw_in2 (List.mem_of_getElem? (i := 229) rfl)) rfl
set_option maxRecDepth 100000 in
theorem wd_268 : Cond.selects RX0 yX0_ofPath yX0_ofPath ∈ mT := mT_in (lw_in2 (List.mem_of_getElem? (i := 228) rfl)) rfl
set_option maxRecDepth 100000 in
theorem wd_269 : Cond.methodLink RX7 184 yX3_countAccepting ∈ mT := mT_in (lw_in2 (List.mem_of_getElem? (i := 235) rfl)) rfl
set_option maxRecDepth 100000 in
theorem wd_270 : Cond.instanceMethod yX3_countAccepting ∈ mT := mT_in (lw_in2 (List.mem_of_getElem? (i := 236) rfl)) rfl
set_option maxRecDepth 100000 in
theorem wd_271 : Cond.code yX3_countAccepting cX3_countAccepting 5 (some .int) ∈ mT := mT_in (lw_in2 (List.mem_of_getElem? (i := 238) rfl)) rfl
set_option maxRecDepth 100000 in
theorem wd_272 : Cond.selects RX3 yX3_countAccepting yX3_countAccepting ∈ mT := mT_in (lw_in2 (List.mem_of_getElem? (i := 237) rfl)) rfl
set_option maxRecDepth 100000 in
theorem wd_273 : Cond.fieldLink RX7 187 (mTb 3 4).1 (mTb 3 4).2.1 (mTb 3 4).2.2.1 ∈ mT := mT_in (lw_in1 (List.mem_of_getElem? (i := 198) rfl)) rfl
set_option maxRecDepth 100000 in
theorem wd_274 : Cond.fieldLink RX7 190 (mTb 3 0).1 (mTb 3 0).2.1 (mTb 3 0).2.2.1 ∈ mT := mT_in (lw_in1 (List.mem_of_getElem? (i := 193) rfl)) rfl
set_option maxRecDepth 100000 in
theorem wd_275 : Cond.methodLink RX7 194 yX3_countOf ∈ mT := mT_in (lw_in3 (List.mem_of_getElem? (i := 7) rfl)) rfl
set_option maxRecDepth 100000 in
theorem wd_276 : Cond.instanceMethod yX3_countOf ∈ mT := mT_in (lw_in3 (List.mem_of_getElem? (i := 8) rfl)) rfl
set_option maxRecDepth 100000 in
theorem wd_277 : Cond.code yX3_countOf cX3_countOf 2 (some .int) ∈ mT := mT_in (lw_in3 (List.mem_of_getElem? (i := 10) rfl)) rfl
set_option maxRecDepth 100000 in
theorem wd_278 : Cond.selects RX3 yX3_countOf yX3_countOf ∈ mT := mT_in (lw_in3 (List.mem_of_getElem? (i := 9) rfl)) rfl
set_option maxRecDepth 100000 in
theorem wd_279 : Cond.methodLink RX7 197 yX3_hasHead ∈ mT := mT_in (lw_in3 (List.mem_of_getElem? (i := 15) rfl)) rfl
set_option maxRecDepth 100000 in
theorem wd_280 : Cond.instanceMethod yX3_hasHead ∈ mT := mT_in (lw_in3 (List.mem_of_getElem? (i := 16) rfl)) rfl
set_option maxRecDepth 100000 in
theorem wd_281 : Cond.code yX3_hasHead cX3_hasHead 2 (some .boolean) ∈ mT := mT_in (lw_in3 (List.mem_of_getElem? (i := 18) rfl)) rfl
set_option maxRecDepth 100000 in
theorem wd_282 : Cond.selects RX3 yX3_hasHead yX3_hasHead ∈ mT := mT_in (lw_in3 (List.mem_of_getElem? (i := 17) rfl)) rfl
set_option maxRecDepth 100000 in
theorem wd_283 : Cond.methodLink RX7 200 yX3_ofFact ∈ mT := mT_in (lw_in3 (List.mem_of_getElem? (i := 23) rfl)) rfl
set_option maxRecDepth 100000 in
theorem wd_284 : Cond.instanceMethod yX3_ofFact ∈ mT := mT_in (lw_in3 (List.mem_of_getElem? (i := 24) rfl)) rfl
set_option maxRecDepth 100000 in
theorem wd_285 : Cond.code yX3_ofFact cX3_ofFact 3 (some .int) ∈ mT := mT_in (lw_in3 (List.mem_of_getElem? (i := 26) rfl)) rfl
set_option maxRecDepth 100000 in
theorem wd_286 : Cond.selects RX3 yX3_ofFact yX3_ofFact ∈ mT := mT_in (lw_in3 (List.mem_of_getElem? (i := 25) rfl)) rfl
set_option maxRecDepth 100000 in
theorem wd_287 : Cond.methodLink RX7 204 yX3_ofRecord ∈ mT := mT_in (lw_in3 (List.mem_of_getElem? (i := 36) rfl)) rfl
set_option maxRecDepth 100000 in
theorem wd_288 : Cond.instanceMethod yX3_ofRecord ∈ mT := mT_in (lw_in3 (List.mem_of_getElem? (i := 37) rfl)) rfl
set_option maxRecDepth 100000 in
theorem wd_289 : Cond.code yX3_ofRecord cX3_ofRecord 3 (some .int) ∈ mT := mT_in (lw_in3 (List.mem_of_getElem? (i := 39) rfl)) rfl
set_option maxRecDepth 100000 in
theorem wd_290 : Cond.selects RX3 yX3_ofRecord yX3_ofRecord ∈ mT := mT_in (lw_in3 (List.mem_of_getElem? (i := 38) rfl)) rfl
set_option maxRecDepth 100000 in
theorem wd_291 : Cond.methodLink RX7 207 yX3_hasRecord ∈ mT := mT_in (lw_in3 (List.mem_of_getElem? (i := 48) rfl)) rfl
set_option maxRecDepth 100000 in
theorem wd_292 : Cond.instanceMethod yX3_hasRecord ∈ mT := mT_in (lw_in3 (List.mem_of_getElem? (i := 41) rfl)) rfl
set_option maxRecDepth 100000 in
theorem wd_293 : Cond.code yX3_hasRecord cX3_hasRecord 2 (some .boolean) ∈ mT := mT_in (lw_in3 (List.mem_of_getElem? (i := 43) rfl)) rfl
set_option maxRecDepth 100000 in
theorem wd_294 : Cond.selects RX3 yX3_hasRecord yX3_hasRecord ∈ mT := mT_in (lw_in3 (List.mem_of_getElem? (i := 42) rfl)) rfl
set_option maxRecDepth 100000 in
theorem wd_295 : Cond.methodLink RX7 210 yX3_writeRecord ∈ mT := mT_in (lw_in3 (List.mem_of_getElem? (i := 49) rfl)) rfl
set_option maxRecDepth 100000 in
theorem wd_296 : Cond.instanceMethod yX3_writeRecord ∈ mT := mT_in (lw_in3 (List.mem_of_getElem? (i := 50) rfl)) rfl
set_option maxRecDepth 100000 in
theorem wd_297 : Cond.code yX3_writeRecord cX3_writeRecord 6 none ∈ mT := mT_in (lw_in3 (List.mem_of_getElem? (i := 52) rfl)) rfl
set_option maxRecDepth 100000 in
theorem wd_298 : Cond.selects RX3 yX3_writeRecord yX3_writeRecord ∈ mT := mT_in (lw_in3 (List.mem_of_getElem? (i := 51) rfl)) rfl
set_option maxRecDepth 100000 in
theorem wd_299 : Cond.methodLink RX7 214 yX7_bothAreSigned ∈ mT := mT_in (lw_in3 (List.mem_of_getElem? (i := 73) rfl)) rfl
set_option maxRecDepth 100000 in
theorem wd_300 : Cond.instanceMethod yX7_bothAreSigned ∈ mT := mT_in (lw_in3 (List.mem_of_getElem? (i := 75) rfl)) rfl
set_option maxRecDepth 100000 in
theorem wd_301 : Cond.code yX7_bothAreSigned cX7_bothAreSigned 1 (some .boolean) ∈ mT := mT_in (lw_in3 (List.mem_of_getElem? (i := 76) rfl)) rfl
set_option maxRecDepth 100000 in
theorem wd_302 : Cond.selects RX7 yX7_bothAreSigned yX7_bothAreSigned ∈ mT := mT_in (lw_in0 (List.mem_of_getElem? (i := 15) rfl)) rfl
set_option maxRecDepth 100000 in
theorem wd_303 : Cond.methodLink RX7 217 yX7_isFork ∈ mT := mT_in (lw_in3 (List.mem_of_getElem? (i := 77) rfl)) rfl
set_option maxRecDepth 100000 in
theorem wd_304 : Cond.instanceMethod yX7_isFork ∈ mT := mT_in (lw_in3 (List.mem_of_getElem? (i := 79) rfl)) rfl
set_option maxRecDepth 100000 in
theorem wd_305 : Cond.code yX7_isFork cX7_isFork 1 (some .boolean) ∈ mT := mT_in (lw_in3 (List.mem_of_getElem? (i := 80) rfl)) rfl
set_option maxRecDepth 100000 in
theorem wd_306 : Cond.selects RX7 yX7_isFork yX7_isFork ∈ mT := mT_in (lw_in0 (List.mem_of_getElem? (i := 16) rfl)) rfl
set_option maxRecDepth 100000 in
theorem wd_307 : Cond.methodLink RX7 220 yX7_endsWithWholeHashes ∈ mT := mT_in (lw_in3 (List.mem_of_getElem? (i := 82) rfl)) rfl
set_option maxRecDepth 100000 in
theorem wd_308 : Cond.instanceMethod yX7_endsWithWholeHashes ∈ mT := mT_in (lw_in3 (List.mem_of_getElem? (i := 84) rfl)) rfl
set_option maxRecDepth 100000 in
theorem wd_309 : Cond.code yX7_endsWithWholeHashes cX7_endsWithWholeHashes 1 (some .boolean) ∈ mT := mT_in (lw_in3 (List.mem_of_getElem? (i := 85) rfl)) rfl
set_option maxRecDepth 100000 in
theorem wd_310 : Cond.selects RX7 yX7_endsWithWholeHashes yX7_endsWithWholeHashes ∈ mT := mT_in (lw_in0 (List.mem_of_getElem? (i := 17) rfl)) rfl
set_option maxRecDepth 100000 in
theorem wd_311 : Cond.methodLink RX7 223 yX7_isBreach ∈ mT := mT_in (lw_in3 (List.mem_of_getElem? (i := 86) rfl)) rfl
set_option maxRecDepth 100000 in
theorem wd_312 : Cond.instanceMethod yX7_isBreach ∈ mT := mT_in (lw_in3 (List.mem_of_getElem? (i := 88) rfl)) rfl
set_option maxRecDepth 100000 in
theorem wd_313 : Cond.code yX7_isBreach cX7_isBreach 4 (some .boolean) ∈ mT := mT_in (lw_in3 (List.mem_of_getElem? (i := 89) rfl)) rfl
set_option maxRecDepth 100000 in
theorem wd_314 : Cond.selects RX7 yX7_isBreach yX7_isBreach ∈ mT := mT_in (lw_in0 (List.mem_of_getElem? (i := 18) rfl)) rfl
set_option maxRecDepth 100000 in
theorem wd_315 : Cond.fieldLink RX7 226 (mTb 5 0).1 (mTb 5 0).2.1 (mTb 5 0).2.2.1 ∈ mT := mT_in (lw_in1 (List.mem_of_getElem? (i := 53) rfl)) rfl
set_option maxRecDepth 100000 in
theorem wd_316 : Cond.methodLink RX7 229 yX4_become ∈ mT := mT_in (lw_in3 (List.mem_of_getElem? (i := 94) rfl)) rfl
set_option maxRecDepth 100000 in
theorem wd_317 : Cond.methodLink RX7 232 yX5_finish ∈ mT := mT_in (lw_in3 (List.mem_of_getElem? (i := 95) rfl)) rfl
set_option maxRecDepth 100000 in
theorem wd_318 : Cond.methodLink RX7 236 yX4_add ∈ mT := mT_in (lw_in2 (List.mem_of_getElem? (i := 52) rfl)) rfl
set_option maxRecDepth 100000 in
theorem wd_319 : Cond.methodLink RX7 239 yX4_sameAs ∈ mT := mT_in (lw_in3 (List.mem_of_getElem? (i := 81) rfl)) rfl
set_option maxRecDepth 100000 in
theorem wd_320 : Cond.methodLink RX3 3 objectInit ∈ mT := mT_in (lw_in1 (List.mem_of_getElem? (i := 187) rfl)) rfl
set_option maxRecDepth 100000 in
theorem wd_321 : Cond.classLink RX3 11 (mRn 4) ∈ mT := mT_in (lw_in1 (List.mem_of_getElem? (i := 188) rfl)) rfl
set_option maxRecDepth 100000 in
theorem wd_322 : Cond.fieldLink RX3 13 (mTb 3 0).1 (mTb 3 0).2.1 (mTb 3 0).2.2.1 ∈ mT := mT_in (lw_in1 (List.mem_of_getElem? (i := 192) rfl)) rfl
set_option maxRecDepth 100000 in
theorem wd_323 : Cond.fieldLink RX3 17 (mTb 3 1).1 (mTb 3 1).2.1 (mTb 3 1).2.2.1 ∈ mT := mT_in (lw_in1 (List.mem_of_getElem? (i := 194) rfl)) rfl
set_option maxRecDepth 100000 in
theorem wd_324 : Cond.fieldLink RX3 20 (mTb 3 2).1 (mTb 3 2).2.1 (mTb 3 2).2.2.1 ∈ mT := mT_in (lw_in1 (List.mem_of_getElem? (i := 195) rfl)) rfl
set_option maxRecDepth 100000 in
theorem wd_325 : Cond.fieldLink RX3 26 (mTb 3 3).1 (mTb 3 3).2.1 (mTb 3 3).2.2.1 ∈ mT := mT_in (lw_in1 (List.mem_of_getElem? (i := 196) rfl)) rfl
set_option maxRecDepth 100000 in
theorem wd_326 : Cond.methodLink RX3 29 yX4_init ∈ mT := mT_in (lw_in1 (List.mem_of_getElem? (i := 191) rfl)) rfl
set_option maxRecDepth 100000 in
theorem wd_327 : Cond.fieldLink RX3 32 (mTb 3 7).1 (mTb 3 7).2.1 (mTb 3 7).2.2.1 ∈ mT := mT_in (lw_in1 (List.mem_of_getElem? (i := 201) rfl)) rfl
set_option maxRecDepth 100000 in
theorem wd_328 : Cond.fieldLink RX3 36 (mTb 3 8).1 (mTb 3 8).2.1 (mTb 3 8).2.2.1 ∈ mT := mT_in (lw_in1 (List.mem_of_getElem? (i := 202) rfl)) rfl
set_option maxRecDepth 100000 in
theorem wd_329 : Cond.methodLink RX3 39 yX3_holdsLike ∈ mT := mT_in (lw_in2 (List.mem_of_getElem? (i := 168) rfl)) rfl
set_option maxRecDepth 100000 in
theorem wd_330 : Cond.instanceMethod yX3_holdsLike ∈ mT := mT_in (lw_in2 (List.mem_of_getElem? (i := 170) rfl)) rfl
set_option maxRecDepth 100000 in
theorem wd_331 : Cond.code yX3_holdsLike cX3_holdsLike 3 (some .boolean) ∈ mT := mT_in (lw_in2 (List.mem_of_getElem? (i := 171) rfl)) rfl
set_option maxRecDepth 100000 in
theorem wd_332 : Cond.selects RX3 yX3_holdsLike yX3_holdsLike ∈ mT := mT_in (lw_in0 (List.mem_of_getElem? (i := 6) rfl)) rfl
set_option maxRecDepth 100000 in
theorem wd_333 : Cond.fieldLink RX3 43 (mTb 3 6).1 (mTb 3 6).2.1 (mTb 3 6).2.2.1 ∈ mT := mT_in (lw_in1 (List.mem_of_getElem? (i := 200) rfl)) rfl
set_option maxRecDepth 100000 in
theorem wd_334 : Cond.fieldLink RX3 46 (mTb 3 4).1 (mTb 3 4).2.1 (mTb 3 4).2.2.1 ∈ mT := mT_in (lw_in1 (List.mem_of_getElem? (i := 197) rfl)) rfl
set_option maxRecDepth 100000 in
theorem wd_335 : Cond.methodLink RX3 49 yX3_raiseForks ∈ mT := mT_in (lw_in2 (List.mem_of_getElem? (i := 173) rfl)) rfl
set_option maxRecDepth 100000 in
theorem wd_336 : Cond.instanceMethod yX3_raiseForks ∈ mT := mT_in (lw_in2 (List.mem_of_getElem? (i := 175) rfl)) rfl
set_option maxRecDepth 100000 in
theorem wd_337 : Cond.code yX3_raiseForks cX3_raiseForks 3 (some .boolean) ∈ mT := mT_in (lw_in2 (List.mem_of_getElem? (i := 176) rfl)) rfl
set_option maxRecDepth 100000 in
theorem wd_338 : Cond.selects RX3 yX3_raiseForks yX3_raiseForks ∈ mT := mT_in (lw_in0 (List.mem_of_getElem? (i := 7) rfl)) rfl
set_option maxRecDepth 100000 in
theorem wd_339 : Cond.methodLink RX3 52 yX3_raiseBreachesOfHead ∈ mT := mT_in (lw_in2 (List.mem_of_getElem? (i := 181) rfl)) rfl
set_option maxRecDepth 100000 in
theorem wd_340 : Cond.instanceMethod yX3_raiseBreachesOfHead ∈ mT := mT_in (lw_in2 (List.mem_of_getElem? (i := 183) rfl)) rfl
set_option maxRecDepth 100000 in
theorem wd_341 : Cond.code yX3_raiseBreachesOfHead cX3_raiseBreachesOfHead 3 (some .boolean) ∈ mT := mT_in (lw_in2 (List.mem_of_getElem? (i := 184) rfl)) rfl
set_option maxRecDepth 100000 in
theorem wd_342 : Cond.selects RX3 yX3_raiseBreachesOfHead yX3_raiseBreachesOfHead ∈ mT := mT_in (lw_in0 (List.mem_of_getElem? (i := 9) rfl)) rfl
set_option maxRecDepth 100000 in
theorem wd_343 : Cond.methodLink RX3 55 yX4_become ∈ mT := mT_in (lw_in2 (List.mem_of_getElem? (i := 188) rfl)) rfl
set_option maxRecDepth 100000 in
theorem wd_344 : Cond.methodLink RX3 59 yX3_headAccepting ∈ mT := mT_in (lw_in2 (List.mem_of_getElem? (i := 213) rfl)) rfl
set_option maxRecDepth 100000 in
theorem wd_345 : Cond.instanceMethod yX3_headAccepting ∈ mT := mT_in (lw_in2 (List.mem_of_getElem? (i := 215) rfl)) rfl
set_option maxRecDepth 100000 in
theorem wd_346 : Cond.code yX3_headAccepting cX3_headAccepting 5 (some .int) ∈ mT := mT_in (lw_in2 (List.mem_of_getElem? (i := 216) rfl)) rfl
set_option maxRecDepth 100000 in
theorem wd_347 : Cond.selects RX3 yX3_headAccepting yX3_headAccepting ∈ mT := mT_in (lw_in0 (List.mem_of_getElem? (i := 11) rfl)) rfl
set_option maxRecDepth 100000 in
theorem wd_348 : Cond.methodLink RX3 63 yX3_hasFactLike ∈ mT := mT_in (lw_in2 (List.mem_of_getElem? (i := 218) rfl)) rfl
set_option maxRecDepth 100000 in
theorem wd_349 : Cond.instanceMethod yX3_hasFactLike ∈ mT := mT_in (lw_in2 (List.mem_of_getElem? (i := 220) rfl)) rfl
set_option maxRecDepth 100000 in
theorem wd_350 : Cond.code yX3_hasFactLike cX3_hasFactLike 5 (some .boolean) ∈ mT := mT_in (lw_in2 (List.mem_of_getElem? (i := 221) rfl)) rfl
set_option maxRecDepth 100000 in
theorem wd_351 : Cond.selects RX3 yX3_hasFactLike yX3_hasFactLike ∈ mT := mT_in (lw_in0 (List.mem_of_getElem? (i := 12) rfl)) rfl
set_option maxRecDepth 100000 in
theorem wd_352 : Cond.fieldLink RX3 67 (mTb 3 5).1 (mTb 3 5).2.1 (mTb 3 5).2.2.1 ∈ mT := mT_in (lw_in1 (List.mem_of_getElem? (i := 199) rfl)) rfl
set_option maxRecDepth 100000 in
theorem wd_353 : Cond.methodLink RX3 70 yX3_raiseBreachesOfFact ∈ mT := mT_in (lw_in2 (List.mem_of_getElem? (i := 222) rfl)) rfl
set_option maxRecDepth 100000 in
theorem wd_354 : Cond.instanceMethod yX3_raiseBreachesOfFact ∈ mT := mT_in (lw_in2 (List.mem_of_getElem? (i := 224) rfl)) rfl
set_option maxRecDepth 100000 in
theorem wd_355 : Cond.code yX3_raiseBreachesOfFact cX3_raiseBreachesOfFact 4 (some .boolean) ∈ mT := mT_in (lw_in2 (List.mem_of_getElem? (i := 225) rfl)) rfl
set_option maxRecDepth 100000 in
theorem wd_356 : Cond.selects RX3 yX3_raiseBreachesOfFact yX3_raiseBreachesOfFact ∈ mT := mT_in (lw_in0 (List.mem_of_getElem? (i := 13) rfl)) rfl
set_option maxRecDepth 100000 in
theorem wd_357 : Cond.methodLink RX3 73 yX4_sameAs ∈ mT := mT_in (lw_in2 (List.mem_of_getElem? (i := 172) rfl)) rfl
set_option maxRecDepth 100000 in
theorem wd_358 : Cond.methodLink RX3 77 yX3_hasFact ∈ mT := mT_in (lw_in3 (List.mem_of_getElem? (i := 27) rfl)) rfl
set_option maxRecDepth 100000 in
theorem wd_359 : Cond.instanceMethod yX3_hasFact ∈ mT := mT_in (lw_in3 (List.mem_of_getElem? (i := 29) rfl)) rfl
set_option maxRecDepth 100000 in
theorem wd_360 : Cond.code yX3_hasFact cX3_hasFact 2 (some .boolean) ∈ mT := mT_in (lw_in3 (List.mem_of_getElem? (i := 30) rfl)) rfl
set_option maxRecDepth 100000 in
theorem wd_361 : Cond.selects RX3 yX3_hasFact yX3_hasFact ∈ mT := mT_in (lw_in0 (List.mem_of_getElem? (i := 14) rfl)) rfl
set_option maxRecDepth 100000 in
theorem wd_362 : Cond.methodLink RX3 81 yX4_at ∈ mT := mT_in (lw_in2 (List.mem_of_getElem? (i := 217) rfl)) rfl
set_option maxRecDepth 100000 in
theorem wd_363 : Cond.methodLink RX3 85 yX4_number ∈ mT := mT_in (lw_in3 (List.mem_of_getElem? (i := 31) rfl)) rfl
set_option maxRecDepth 100000 in
theorem wd_364 : Cond.fieldLink RX3 88 (mTb 4 1).1 (mTb 4 1).2.1 (mTb 4 1).2.2.1 ∈ mT := mT_in (lw_in1 (List.mem_of_getElem? (i := 42) rfl)) rfl
set_option maxRecDepth 100000 in
theorem wd_365 : Cond.methodLink RX3 91 yX3_hasRecord ∈ mT := mT_in (lw_in3 (List.mem_of_getElem? (i := 40) rfl)) rfl
set_option maxRecDepth 100000 in
theorem wd_366 : Cond.methodLink RX3 94 yX3_hasHead ∈ mT := mT_in (lw_in3 (List.mem_of_getElem? (i := 53) rfl)) rfl
set_option maxRecDepth 100000 in
theorem wd_367 : Cond.methodLink RX3 97 yX4_empty ∈ mT := mT_in (lw_in3 (List.mem_of_getElem? (i := 54) rfl)) rfl
set_option maxRecDepth 100000 in
theorem wd_368 : Cond.methodLink RX3 100 yX4_add ∈ mT := mT_in (lw_in3 (List.mem_of_getElem? (i := 55) rfl)) rfl
set_option maxRecDepth 100000 in
theorem wd_369 : Cond.methodLink RX3 103 yX4_addPart ∈ mT := mT_in (lw_in3 (List.mem_of_getElem? (i := 56) rfl)) rfl
set_option maxRecDepth 100000 in
theorem wd_370 : Cond.methodLink RX3 107 yX3_raise ∈ mT := mT_in (lw_in2 (List.mem_of_getElem? (i := 177) rfl)) rfl
set_option maxRecDepth 100000 in
theorem wd_371 : Cond.instanceMethod yX3_raise ∈ mT := mT_in (lw_in2 (List.mem_of_getElem? (i := 179) rfl)) rfl
set_option maxRecDepth 100000 in
theorem wd_372 : Cond.code yX3_raise cX3_raise 6 (some .boolean) ∈ mT := mT_in (lw_in2 (List.mem_of_getElem? (i := 180) rfl)) rfl
set_option maxRecDepth 100000 in
theorem wd_373 : Cond.selects RX3 yX3_raise yX3_raise ∈ mT := mT_in (lw_in0 (List.mem_of_getElem? (i := 8) rfl)) rfl
set_option maxRecDepth 100000 in
theorem wd_374 : Cond.methodLink RX3 111 yX3_belies ∈ mT := mT_in (lw_in2 (List.mem_of_getElem? (i := 185) rfl)) rfl
set_option maxRecDepth 100000 in
theorem wd_375 : Cond.code yX3_belies cX3_belies 2 (some .boolean) ∈ mT := mT_in (lw_in2 (List.mem_of_getElem? (i := 187) rfl)) rfl
set_option maxRecDepth 100000 in
theorem wd_376 : Cond.static yX3_belies ∈ mT := mT_in (lw_in2 (List.mem_of_getElem? (i := 186) rfl)) rfl
set_option maxRecDepth 100000 in
theorem wd_377 : Cond.methodLink RX1 3 objectInit ∈ mT := mT_in (lw_in1 (List.mem_of_getElem? (i := 73) rfl)) rfl
set_option maxRecDepth 100000 in
theorem wd_378 : Cond.classLink RX1 9 (mRn 4) ∈ mT := mT_in (lw_in1 (List.mem_of_getElem? (i := 74) rfl)) rfl
set_option maxRecDepth 100000 in
theorem wd_379 : Cond.methodLink RX1 13 yX4_init ∈ mT := mT_in (lw_in1 (List.mem_of_getElem? (i := 75) rfl)) rfl
set_option maxRecDepth 100000 in
theorem wd_380 : Cond.fieldLink RX1 16 (mTb 1 0).1 (mTb 1 0).2.1 (mTb 1 0).2.2.1 ∈ mT := mT_in (lw_in1 (List.mem_of_getElem? (i := 76) rfl)) rfl
set_option maxRecDepth 100000 in
theorem wd_381 : Cond.methodLink RX1 20 yX4_empty ∈ mT := mT_in (lw_in1 (List.mem_of_getElem? (i := 84) rfl)) rfl
set_option maxRecDepth 100000 in
theorem wd_382 : Cond.fieldLink RX1 23 (mTb 5 0).1 (mTb 5 0).2.1 (mTb 5 0).2.2.1 ∈ mT := mT_in (lw_in1 (List.mem_of_getElem? (i := 50) rfl)) rfl
set_option maxRecDepth 100000 in
theorem wd_383 : Cond.methodLink RX1 28 yX4_add ∈ mT := mT_in (lw_in1 (List.mem_of_getElem? (i := 88) rfl)) rfl
set_option maxRecDepth 100000 in
theorem wd_384 : Cond.methodLink RX1 31 yX4_addNumber ∈ mT := mT_in (lw_in1 (List.mem_of_getElem? (i := 92) rfl)) rfl
set_option maxRecDepth 100000 in
theorem wd_385 : Cond.methodLink RX1 34 yX5_finish ∈ mT := mT_in (lw_in1 (List.mem_of_getElem? (i := 96) rfl)) rfl
set_option maxRecDepth 100000 in
theorem wd_386 : Cond.methodLink RX1 38 yX4_addPart ∈ mT := mT_in (lw_in1 (List.mem_of_getElem? (i := 122) rfl)) rfl
set_option maxRecDepth 100000 in
theorem wd_387 : Cond.methodLink RX1 42 yX4_at ∈ mT := mT_in (lw_in2 (List.mem_of_getElem? (i := 68) rfl)) rfl
set_option maxRecDepth 100000 in
theorem wd_388 : Cond.methodLink RX1 46 yX4_number ∈ mT := mT_in (lw_in2 (List.mem_of_getElem? (i := 157) rfl)) rfl
set_option maxRecDepth 100000 in
theorem wd_389 : Cond.methodLink RX1 49 yX1_signFor ∈ mT := mT_in (lw_in2 (List.mem_of_getElem? (i := 158) rfl)) rfl
set_option maxRecDepth 100000 in
theorem wd_390 : Cond.methodLink RX1 53 yX4_sameAs ∈ mT := mT_in (lw_in2 (List.mem_of_getElem? (i := 159) rfl)) rfl
set_option maxRecDepth 100000 in
theorem wd_391 : Cond.fieldLink RX8 1 (mTb 8 6).1 (mTb 8 6).2.1 (mTb 8 6).2.2.1 ∈ mT := mT_in (lw_in3 (List.mem_of_getElem? (i := 207) rfl)) rfl
set_option maxRecDepth 100000 in
theorem wd_392 : Cond.fieldLink RX8 7 (mTb 8 5).1 (mTb 8 5).2.1 (mTb 8 5).2.2.1 ∈ mT := mT_in (lw_in3 (List.mem_of_getElem? (i := 206) rfl)) rfl
set_option maxRecDepth 100000 in
theorem wd_393 : Cond.methodLink RX8 11 yX8_put ∈ mT := mT_in (lw_in3 (List.mem_of_getElem? (i := 181) rfl)) rfl
set_option maxRecDepth 100000 in
theorem wd_394 : Cond.instanceMethod yX8_put ∈ mT := mT_in (lw_in3 (List.mem_of_getElem? (i := 183) rfl)) rfl
set_option maxRecDepth 100000 in
theorem wd_395 : Cond.initialized RX8 ∈ mT := mT_in (lw_in1 (List.mem_of_getElem? (i := 11) rfl)) rfl
set_option maxRecDepth 100000 in
theorem wd_396 : Cond.code yX8_put cX8_put 2 none ∈ mT := mT_in (lw_in3 (List.mem_of_getElem? (i := 184) rfl)) rfl
set_option maxRecDepth 100000 in
theorem wd_397 : Cond.selects RX8 yX8_put yX8_put ∈ mT := mT_in (lw_in0 (List.mem_of_getElem? (i := 20) rfl)) rfl
set_option maxRecDepth 100000 in
theorem wd_398 : Cond.constantLong RX8 15 (8) ∈ mT := mT_in (lw_in3 (List.mem_of_getElem? (i := 193) rfl)) rfl
set_option maxRecDepth 100000 in
theorem wd_399 : Cond.methodLink RX8 17 yX8_putNumber ∈ mT := mT_in (lw_in3 (List.mem_of_getElem? (i := 185) rfl)) rfl
set_option maxRecDepth 100000 in
theorem wd_400 : Cond.instanceMethod yX8_putNumber ∈ mT := mT_in (lw_in3 (List.mem_of_getElem? (i := 187) rfl)) rfl
set_option maxRecDepth 100000 in
theorem wd_401 : Cond.code yX8_putNumber cX8_putNumber 5 none ∈ mT := mT_in (lw_in3 (List.mem_of_getElem? (i := 188) rfl)) rfl
set_option maxRecDepth 100000 in
theorem wd_402 : Cond.selects RX8 yX8_putNumber yX8_putNumber ∈ mT := mT_in (lw_in0 (List.mem_of_getElem? (i := 21) rfl)) rfl
set_option maxRecDepth 100000 in
theorem wd_403 : Cond.fieldLink RX8 21 (mTb 8 3).1 (mTb 8 3).2.1 (mTb 8 3).2.2.1 ∈ mT := mT_in (lw_in3 (List.mem_of_getElem? (i := 204) rfl)) rfl
set_option maxRecDepth 100000 in
theorem wd_404 : Cond.fieldLink RX8 25 (mTb 8 1).1 (mTb 8 1).2.1 (mTb 8 1).2.2.1 ∈ mT := mT_in (lw_in3 (List.mem_of_getElem? (i := 202) rfl)) rfl
set_option maxRecDepth 100000 in
theorem wd_405 : Cond.methodLink RX8 28 yX8_block ∈ mT := mT_in (lw_in3 (List.mem_of_getElem? (i := 194) rfl)) rfl
set_option maxRecDepth 100000 in
theorem wd_406 : Cond.instanceMethod yX8_block ∈ mT := mT_in (lw_in3 (List.mem_of_getElem? (i := 196) rfl)) rfl
set_option maxRecDepth 100000 in
theorem wd_407 : Cond.code yX8_block cX8_block 6 none ∈ mT := mT_in (lw_in3 (List.mem_of_getElem? (i := 197) rfl)) rfl
set_option maxRecDepth 100000 in
theorem wd_408 : Cond.selects RX8 yX8_block yX8_block ∈ mT := mT_in (lw_in0 (List.mem_of_getElem? (i := 23) rfl)) rfl
set_option maxRecDepth 100000 in
theorem wd_409 : Cond.fieldLink RX8 31 (mTb 8 7).1 (mTb 8 7).2.1 (mTb 8 7).2.2.1 ∈ mT := mT_in (lw_in3 (List.mem_of_getElem? (i := 208) rfl)) rfl
set_option maxRecDepth 100000 in
theorem wd_410 : Cond.fieldLink RX8 34 (mTb 8 2).1 (mTb 8 2).2.1 (mTb 8 2).2.2.1 ∈ mT := mT_in (lw_in3 (List.mem_of_getElem? (i := 203) rfl)) rfl
set_option maxRecDepth 100000 in
theorem wd_411 : Cond.methodLink RX8 37 yX8_turned ∈ mT := mT_in (lw_in3 (List.mem_of_getElem? (i := 198) rfl)) rfl
set_option maxRecDepth 100000 in
theorem wd_412 : Cond.code yX8_turned cX8_turned 2 (some .int) ∈ mT := mT_in (lw_in3 (List.mem_of_getElem? (i := 200) rfl)) rfl
set_option maxRecDepth 100000 in
theorem wd_413 : Cond.static yX8_turned ∈ mT := mT_in (lw_in3 (List.mem_of_getElem? (i := 199) rfl)) rfl
set_option maxRecDepth 100000 in
theorem wd_414 : Cond.fieldLink RX8 41 (mTb 8 4).1 (mTb 8 4).2.1 (mTb 8 4).2.2.1 ∈ mT := mT_in (lw_in3 (List.mem_of_getElem? (i := 205) rfl)) rfl
set_option maxRecDepth 100000 in
theorem wd_415 : Cond.fieldLink RX8 44 (mTb 8 0).1 (mTb 8 0).2.1 (mTb 8 0).2.2.1 ∈ mT := mT_in (lw_in3 (List.mem_of_getElem? (i := 201) rfl)) rfl
set_option maxRecDepth 100000 in
theorem wd_416 : Cond.methodLink RX8 47 objectInit ∈ mT := mT_in (lw_in3 (List.mem_of_getElem? (i := 104) rfl)) rfl
set_option maxRecDepth 100000 in
theorem wd_417 : Cond.constant RX8 53 (1116352408) ∈ mT := mT_in (lw_in3 (List.mem_of_getElem? (i := 105) rfl)) rfl
set_option maxRecDepth 100000 in
theorem wd_418 : Cond.constant RX8 54 (1899447441) ∈ mT := mT_in (lw_in3 (List.mem_of_getElem? (i := 106) rfl)) rfl
set_option maxRecDepth 100000 in
theorem wd_419 : Cond.constant RX8 55 (-1245643825) ∈ mT := mT_in (lw_in3 (List.mem_of_getElem? (i := 107) rfl)) rfl
set_option maxRecDepth 100000 in
theorem wd_420 : Cond.constant RX8 56 (-373957723) ∈ mT := mT_in (lw_in3 (List.mem_of_getElem? (i := 108) rfl)) rfl
set_option maxRecDepth 100000 in
theorem wd_421 : Cond.constant RX8 57 (961987163) ∈ mT := mT_in (lw_in3 (List.mem_of_getElem? (i := 109) rfl)) rfl
set_option maxRecDepth 100000 in
theorem wd_422 : Cond.constant RX8 58 (1508970993) ∈ mT := mT_in (lw_in3 (List.mem_of_getElem? (i := 110) rfl)) rfl
set_option maxRecDepth 100000 in
theorem wd_423 : Cond.constant RX8 59 (-1841331548) ∈ mT := mT_in (lw_in3 (List.mem_of_getElem? (i := 111) rfl)) rfl
set_option maxRecDepth 100000 in
theorem wd_424 : Cond.constant RX8 60 (-1424204075) ∈ mT := mT_in (lw_in3 (List.mem_of_getElem? (i := 112) rfl)) rfl
set_option maxRecDepth 100000 in
theorem wd_425 : Cond.constant RX8 61 (-670586216) ∈ mT := mT_in (lw_in3 (List.mem_of_getElem? (i := 113) rfl)) rfl
set_option maxRecDepth 100000 in
theorem wd_426 : Cond.constant RX8 62 (310598401) ∈ mT := mT_in (lw_in3 (List.mem_of_getElem? (i := 114) rfl)) rfl
set_option maxRecDepth 100000 in
theorem wd_427 : Cond.constant RX8 63 (607225278) ∈ mT := mT_in (lw_in3 (List.mem_of_getElem? (i := 115) rfl)) rfl
set_option maxRecDepth 100000 in
theorem wd_428 : Cond.constant RX8 64 (1426881987) ∈ mT := mT_in (lw_in3 (List.mem_of_getElem? (i := 116) rfl)) rfl
set_option maxRecDepth 100000 in
theorem wd_429 : Cond.constant RX8 65 (1925078388) ∈ mT := mT_in (lw_in3 (List.mem_of_getElem? (i := 117) rfl)) rfl
set_option maxRecDepth 100000 in
theorem wd_430 : Cond.constant RX8 66 (-2132889090) ∈ mT := mT_in (lw_in3 (List.mem_of_getElem? (i := 118) rfl)) rfl
set_option maxRecDepth 100000 in
theorem wd_431 : Cond.constant RX8 67 (-1680079193) ∈ mT := mT_in (lw_in3 (List.mem_of_getElem? (i := 119) rfl)) rfl
set_option maxRecDepth 100000 in
theorem wd_432 : Cond.constant RX8 68 (-1046744716) ∈ mT := mT_in (lw_in3 (List.mem_of_getElem? (i := 120) rfl)) rfl
set_option maxRecDepth 100000 in
theorem wd_433 : Cond.constant RX8 69 (-459576895) ∈ mT := mT_in (lw_in3 (List.mem_of_getElem? (i := 121) rfl)) rfl
set_option maxRecDepth 100000 in
theorem wd_434 : Cond.constant RX8 70 (-272742522) ∈ mT := mT_in (lw_in3 (List.mem_of_getElem? (i := 122) rfl)) rfl
set_option maxRecDepth 100000 in
theorem wd_435 : Cond.constant RX8 71 (264347078) ∈ mT := mT_in (lw_in3 (List.mem_of_getElem? (i := 123) rfl)) rfl
set_option maxRecDepth 100000 in
theorem wd_436 : Cond.constant RX8 72 (604807628) ∈ mT := mT_in (lw_in3 (List.mem_of_getElem? (i := 124) rfl)) rfl
set_option maxRecDepth 100000 in
theorem wd_437 : Cond.constant RX8 73 (770255983) ∈ mT := mT_in (lw_in3 (List.mem_of_getElem? (i := 125) rfl)) rfl
set_option maxRecDepth 100000 in
theorem wd_438 : Cond.constant RX8 74 (1249150122) ∈ mT := mT_in (lw_in3 (List.mem_of_getElem? (i := 126) rfl)) rfl
set_option maxRecDepth 100000 in
theorem wd_439 : Cond.constant RX8 75 (1555081692) ∈ mT := mT_in (lw_in3 (List.mem_of_getElem? (i := 127) rfl)) rfl
set_option maxRecDepth 100000 in
theorem wd_440 : Cond.constant RX8 76 (1996064986) ∈ mT := mT_in (lw_in3 (List.mem_of_getElem? (i := 128) rfl)) rfl
set_option maxRecDepth 100000 in
theorem wd_441 : Cond.constant RX8 77 (-1740746414) ∈ mT := mT_in (lw_in3 (List.mem_of_getElem? (i := 129) rfl)) rfl
set_option maxRecDepth 100000 in
theorem wd_442 : Cond.constant RX8 78 (-1473132947) ∈ mT := mT_in (lw_in3 (List.mem_of_getElem? (i := 130) rfl)) rfl
set_option maxRecDepth 100000 in
theorem wd_443 : Cond.constant RX8 79 (-1341970488) ∈ mT := mT_in (lw_in3 (List.mem_of_getElem? (i := 131) rfl)) rfl
set_option maxRecDepth 100000 in
theorem wd_444 : Cond.constant RX8 80 (-1084653625) ∈ mT := mT_in (lw_in3 (List.mem_of_getElem? (i := 132) rfl)) rfl
set_option maxRecDepth 100000 in
theorem wd_445 : Cond.constant RX8 81 (-958395405) ∈ mT := mT_in (lw_in3 (List.mem_of_getElem? (i := 133) rfl)) rfl
set_option maxRecDepth 100000 in
theorem wd_446 : Cond.constant RX8 82 (-710438585) ∈ mT := mT_in (lw_in3 (List.mem_of_getElem? (i := 134) rfl)) rfl
set_option maxRecDepth 100000 in
theorem wd_447 : Cond.constant RX8 83 (113926993) ∈ mT := mT_in (lw_in3 (List.mem_of_getElem? (i := 135) rfl)) rfl
set_option maxRecDepth 100000 in
theorem wd_448 : Cond.constant RX8 84 (338241895) ∈ mT := mT_in (lw_in3 (List.mem_of_getElem? (i := 136) rfl)) rfl
set_option maxRecDepth 100000 in
theorem wd_449 : Cond.constant RX8 85 (666307205) ∈ mT := mT_in (lw_in3 (List.mem_of_getElem? (i := 137) rfl)) rfl
set_option maxRecDepth 100000 in
theorem wd_450 : Cond.constant RX8 86 (773529912) ∈ mT := mT_in (lw_in3 (List.mem_of_getElem? (i := 138) rfl)) rfl
set_option maxRecDepth 100000 in
theorem wd_451 : Cond.constant RX8 87 (1294757372) ∈ mT := mT_in (lw_in3 (List.mem_of_getElem? (i := 139) rfl)) rfl
set_option maxRecDepth 100000 in
theorem wd_452 : Cond.constant RX8 88 (1396182291) ∈ mT := mT_in (lw_in3 (List.mem_of_getElem? (i := 140) rfl)) rfl
set_option maxRecDepth 100000 in
theorem wd_453 : Cond.constant RX8 89 (1695183700) ∈ mT := mT_in (lw_in3 (List.mem_of_getElem? (i := 141) rfl)) rfl
set_option maxRecDepth 100000 in
theorem wd_454 : Cond.constant RX8 90 (1986661051) ∈ mT := mT_in (lw_in3 (List.mem_of_getElem? (i := 142) rfl)) rfl
set_option maxRecDepth 100000 in
theorem wd_455 : Cond.constant RX8 91 (-2117940946) ∈ mT := mT_in (lw_in3 (List.mem_of_getElem? (i := 143) rfl)) rfl
set_option maxRecDepth 100000 in
theorem wd_456 : Cond.constant RX8 92 (-1838011259) ∈ mT := mT_in (lw_in3 (List.mem_of_getElem? (i := 144) rfl)) rfl
set_option maxRecDepth 100000 in
theorem wd_457 : Cond.constant RX8 93 (-1564481375) ∈ mT := mT_in (lw_in3 (List.mem_of_getElem? (i := 145) rfl)) rfl
set_option maxRecDepth 100000 in
theorem wd_458 : Cond.constant RX8 94 (-1474664885) ∈ mT := mT_in (lw_in3 (List.mem_of_getElem? (i := 146) rfl)) rfl
set_option maxRecDepth 100000 in
theorem wd_459 : Cond.constant RX8 95 (-1035236496) ∈ mT := mT_in (lw_in3 (List.mem_of_getElem? (i := 147) rfl)) rfl
set_option maxRecDepth 100000 in
theorem wd_460 : Cond.constant RX8 96 (-949202525) ∈ mT := mT_in (lw_in3 (List.mem_of_getElem? (i := 148) rfl)) rfl
set_option maxRecDepth 100000 in
theorem wd_461 : Cond.constant RX8 97 (-778901479) ∈ mT := mT_in (lw_in3 (List.mem_of_getElem? (i := 149) rfl)) rfl
set_option maxRecDepth 100000 in
theorem wd_462 : Cond.constant RX8 98 (-694614492) ∈ mT := mT_in (lw_in3 (List.mem_of_getElem? (i := 150) rfl)) rfl
set_option maxRecDepth 100000 in
theorem wd_463 : Cond.constant RX8 99 (-200395387) ∈ mT := mT_in (lw_in3 (List.mem_of_getElem? (i := 151) rfl)) rfl
set_option maxRecDepth 100000 in
theorem wd_464 : Cond.constant RX8 100 (275423344) ∈ mT := mT_in (lw_in3 (List.mem_of_getElem? (i := 152) rfl)) rfl
set_option maxRecDepth 100000 in
theorem wd_465 : Cond.constant RX8 101 (430227734) ∈ mT := mT_in (lw_in3 (List.mem_of_getElem? (i := 153) rfl)) rfl
set_option maxRecDepth 100000 in
theorem wd_466 : Cond.constant RX8 102 (506948616) ∈ mT := mT_in (lw_in3 (List.mem_of_getElem? (i := 154) rfl)) rfl
set_option maxRecDepth 100000 in
theorem wd_467 : Cond.constant RX8 103 (659060556) ∈ mT := mT_in (lw_in3 (List.mem_of_getElem? (i := 155) rfl)) rfl
set_option maxRecDepth 100000 in
theorem wd_468 : Cond.constant RX8 104 (883997877) ∈ mT := mT_in (lw_in3 (List.mem_of_getElem? (i := 156) rfl)) rfl
set_option maxRecDepth 100000 in
theorem wd_469 : Cond.constant RX8 105 (958139571) ∈ mT := mT_in (lw_in3 (List.mem_of_getElem? (i := 157) rfl)) rfl
set_option maxRecDepth 100000 in
theorem wd_470 : Cond.constant RX8 106 (1322822218) ∈ mT := mT_in (lw_in3 (List.mem_of_getElem? (i := 158) rfl)) rfl
set_option maxRecDepth 100000 in
theorem wd_471 : Cond.constant RX8 107 (1537002063) ∈ mT := mT_in (lw_in3 (List.mem_of_getElem? (i := 159) rfl)) rfl
set_option maxRecDepth 100000 in
theorem wd_472 : Cond.constant RX8 108 (1747873779) ∈ mT := mT_in (lw_in3 (List.mem_of_getElem? (i := 160) rfl)) rfl
set_option maxRecDepth 100000 in
theorem wd_473 : Cond.constant RX8 109 (1955562222) ∈ mT := mT_in (lw_in3 (List.mem_of_getElem? (i := 161) rfl)) rfl
set_option maxRecDepth 100000 in
theorem wd_474 : Cond.constant RX8 110 (2024104815) ∈ mT := mT_in (lw_in3 (List.mem_of_getElem? (i := 162) rfl)) rfl
set_option maxRecDepth 100000 in
theorem wd_475 : Cond.constant RX8 111 (-2067236844) ∈ mT := mT_in (lw_in3 (List.mem_of_getElem? (i := 163) rfl)) rfl
set_option maxRecDepth 100000 in
theorem wd_476 : Cond.constant RX8 112 (-1933114872) ∈ mT := mT_in (lw_in3 (List.mem_of_getElem? (i := 164) rfl)) rfl
set_option maxRecDepth 100000 in
theorem wd_477 : Cond.constant RX8 113 (-1866530822) ∈ mT := mT_in (lw_in3 (List.mem_of_getElem? (i := 165) rfl)) rfl
set_option maxRecDepth 100000 in
theorem wd_478 : Cond.constant RX8 114 (-1538233109) ∈ mT := mT_in (lw_in3 (List.mem_of_getElem? (i := 166) rfl)) rfl
set_option maxRecDepth 100000 in
theorem wd_479 : Cond.constant RX8 115 (-1090935817) ∈ mT := mT_in (lw_in3 (List.mem_of_getElem? (i := 167) rfl)) rfl
set_option maxRecDepth 100000 in
theorem wd_480 : Cond.constant RX8 116 (-965641998) ∈ mT := mT_in (lw_in3 (List.mem_of_getElem? (i := 168) rfl)) rfl
set_option maxRecDepth 100000 in
theorem wd_481 : Cond.constant RX8 117 (1779033703) ∈ mT := mT_in (lw_in3 (List.mem_of_getElem? (i := 169) rfl)) rfl
set_option maxRecDepth 100000 in
theorem wd_482 : Cond.constant RX8 118 (-1150833019) ∈ mT := mT_in (lw_in3 (List.mem_of_getElem? (i := 170) rfl)) rfl
set_option maxRecDepth 100000 in
theorem wd_483 : Cond.constant RX8 119 (1013904242) ∈ mT := mT_in (lw_in3 (List.mem_of_getElem? (i := 171) rfl)) rfl
set_option maxRecDepth 100000 in
theorem wd_484 : Cond.constant RX8 120 (-1521486534) ∈ mT := mT_in (lw_in3 (List.mem_of_getElem? (i := 172) rfl)) rfl
set_option maxRecDepth 100000 in
theorem wd_485 : Cond.constant RX8 121 (1359893119) ∈ mT := mT_in (lw_in3 (List.mem_of_getElem? (i := 173) rfl)) rfl
set_option maxRecDepth 100000 in
theorem wd_486 : Cond.constant RX8 122 (-1694144372) ∈ mT := mT_in (lw_in3 (List.mem_of_getElem? (i := 174) rfl)) rfl
set_option maxRecDepth 100000 in
theorem wd_487 : Cond.constant RX8 123 (528734635) ∈ mT := mT_in (lw_in3 (List.mem_of_getElem? (i := 175) rfl)) rfl
set_option maxRecDepth 100000 in
theorem wd_488 : Cond.constant RX8 124 (1541459225) ∈ mT := mT_in (lw_in3 (List.mem_of_getElem? (i := 176) rfl)) rfl
set_option maxRecDepth 100000 in
theorem wd_489 : Cond.fieldLink RX8 125 (mTb 8 8).1 (mTb 8 8).2.1 (mTb 8 8).2.2.1 ∈ mT := mT_in (lw_in3 (List.mem_of_getElem? (i := 209) rfl)) rfl
set_option maxRecDepth 100000 in
theorem wd_490 : Cond.fieldLink RX8 128 (mTb 8 9).1 (mTb 8 9).2.1 (mTb 8 9).2.2.1 ∈ mT := mT_in (lw_in3 (List.mem_of_getElem? (i := 210) rfl)) rfl
set_option maxRecDepth 100000 in
theorem wd_491 : Cond.fieldLink RX8 131 (mTb 8 10).1 (mTb 8 10).2.1 (mTb 8 10).2.2.1 ∈ mT := mT_in (lw_in3 (List.mem_of_getElem? (i := 211) rfl)) rfl
set_option maxRecDepth 100000 in
theorem wd_492 : Cond.fieldLink RX8 134 (mTb 8 11).1 (mTb 8 11).2.1 (mTb 8 11).2.2.1 ∈ mT := mT_in (lw_in3 (List.mem_of_getElem? (i := 212) rfl)) rfl
set_option maxRecDepth 100000 in
theorem wd_493 : Cond.fieldLink RX8 137 (mTb 8 12).1 (mTb 8 12).2.1 (mTb 8 12).2.2.1 ∈ mT := mT_in (lw_in3 (List.mem_of_getElem? (i := 213) rfl)) rfl
set_option maxRecDepth 100000 in
theorem wd_494 : Cond.fieldLink RX8 140 (mTb 8 13).1 (mTb 8 13).2.1 (mTb 8 13).2.2.1 ∈ mT := mT_in (lw_in3 (List.mem_of_getElem? (i := 214) rfl)) rfl
set_option maxRecDepth 100000 in
theorem wd_495 : Cond.fieldLink RX8 143 (mTb 8 15).1 (mTb 8 15).2.1 (mTb 8 15).2.2.1 ∈ mT := mT_in (lw_in3 (List.mem_of_getElem? (i := 216) rfl)) rfl
set_option maxRecDepth 100000 in
theorem wd_496 : Cond.fieldLink RX8 146 (mTb 8 16).1 (mTb 8 16).2.1 (mTb 8 16).2.2.1 ∈ mT := mT_in (lw_in3 (List.mem_of_getElem? (i := 217) rfl)) rfl
set_option maxRecDepth 100000 in
theorem wd_497 : Cond.fieldLink RX8 149 (mTb 8 18).1 (mTb 8 18).2.1 (mTb 8 18).2.2.1 ∈ mT := mT_in (lw_in3 (List.mem_of_getElem? (i := 219) rfl)) rfl
set_option maxRecDepth 100000 in
theorem wd_498 : Cond.fieldLink RX8 152 (mTb 8 19).1 (mTb 8 19).2.1 (mTb 8 19).2.2.1 ∈ mT := mT_in (lw_in3 (List.mem_of_getElem? (i := 220) rfl)) rfl
set_option maxRecDepth 100000 in
theorem wd_499 : Cond.fieldLink RX8 155 (mTb 8 20).1 (mTb 8 20).2.1 (mTb 8 20).2.2.1 ∈ mT := mT_in (lw_in3 (List.mem_of_getElem? (i := 221) rfl)) rfl
set_option maxRecDepth 100000 in
theorem wd_500 : Cond.fieldLink RX8 158 (mTb 8 21).1 (mTb 8 21).2.1 (mTb 8 21).2.2.1 ∈ mT := mT_in (lw_in3 (List.mem_of_getElem? (i := 222) rfl)) rfl
set_option maxRecDepth 100000 in
theorem wd_501 : Cond.fieldLink RX8 161 (mTb 8 22).1 (mTb 8 22).2.1 (mTb 8 22).2.2.1 ∈ mT := mT_in (lw_in3 (List.mem_of_getElem? (i := 223) rfl)) rfl
set_option maxRecDepth 100000 in
theorem wd_502 : Cond.fieldLink RX8 164 (mTb 8 23).1 (mTb 8 23).2.1 (mTb 8 23).2.2.1 ∈ mT := mT_in (lw_in3 (List.mem_of_getElem? (i := 224) rfl)) rfl
set_option maxRecDepth 100000 in
theorem wd_503 : Cond.fieldLink RX8 167 (mTb 8 24).1 (mTb 8 24).2.1 (mTb 8 24).2.2.1 ∈ mT := mT_in (lw_in3 (List.mem_of_getElem? (i := 225) rfl)) rfl
set_option maxRecDepth 100000 in
theorem wd_504 : Cond.fieldLink RX8 170 (mTb 8 25).1 (mTb 8 25).2.1 (mTb 8 25).2.2.1 ∈ mT := mT_in (lw_in3 (List.mem_of_getElem? (i := 226) rfl)) rfl
set_option maxRecDepth 100000 in
theorem wd_505 : Cond.fieldLink RX8 173 (mTb 8 26).1 (mTb 8 26).2.1 (mTb 8 26).2.2.1 ∈ mT := mT_in (lw_in3 (List.mem_of_getElem? (i := 227) rfl)) rfl
set_option maxRecDepth 100000 in
theorem wd_506 : Cond.fieldLink RX8 176 (mTb 8 27).1 (mTb 8 27).2.1 (mTb 8 27).2.2.1 ∈ mT := mT_in (lw_in3 (List.mem_of_getElem? (i := 228) rfl)) rfl
set_option maxRecDepth 100000 in
theorem wd_507 : Cond.fieldLink RX8 179 (mTb 8 28).1 (mTb 8 28).2.1 (mTb 8 28).2.2.1 ∈ mT := mT_in (lw_in3 (List.mem_of_getElem? (i := 229) rfl)) rfl
set_option maxRecDepth 100000 in
theorem wd_508 : Cond.fieldLink RX8 182 (mTb 8 29).1 (mTb 8 29).2.1 (mTb 8 29).2.2.1 ∈ mT := mT_in (lw_in3 (List.mem_of_getElem? (i := 230) rfl)) rfl
set_option maxRecDepth 100000 in
theorem wd_509 : Cond.fieldLink RX8 185 (mTb 8 30).1 (mTb 8 30).2.1 (mTb 8 30).2.2.1 ∈ mT := mT_in (lw_in3 (List.mem_of_getElem? (i := 231) rfl)) rfl
set_option maxRecDepth 100000 in
theorem wd_510 : Cond.fieldLink RX8 188 (mTb 8 31).1 (mTb 8 31).2.1 (mTb 8 31).2.2.1 ∈ mT := mT_in (lw_in3 (List.mem_of_getElem? (i := 232) rfl)) rfl
set_option maxRecDepth 100000 in
theorem wd_511 : Cond.fieldLink RX8 191 (mTb 8 33).1 (mTb 8 33).2.1 (mTb 8 33).2.2.1 ∈ mT := mT_in (lw_in3 (List.mem_of_getElem? (i := 234) rfl)) rfl
set_option maxRecDepth 100000 in
theorem wd_512 : Cond.fieldLink RX8 194 (mTb 8 34).1 (mTb 8 34).2.1 (mTb 8 34).2.2.1 ∈ mT := mT_in (lw_in3 (List.mem_of_getElem? (i := 235) rfl)) rfl
set_option maxRecDepth 100000 in
theorem wd_513 : Cond.methodLink RX8 197 yX8_start ∈ mT := mT_in (lw_in3 (List.mem_of_getElem? (i := 177) rfl)) rfl
set_option maxRecDepth 100000 in
theorem wd_514 : Cond.instanceMethod yX8_start ∈ mT := mT_in (lw_in3 (List.mem_of_getElem? (i := 179) rfl)) rfl
set_option maxRecDepth 100000 in
theorem wd_515 : Cond.code yX8_start cX8_start 1 none ∈ mT := mT_in (lw_in3 (List.mem_of_getElem? (i := 180) rfl)) rfl
set_option maxRecDepth 100000 in
theorem wd_516 : Cond.selects RX8 yX8_start yX8_start ∈ mT := mT_in (lw_in0 (List.mem_of_getElem? (i := 19) rfl)) rfl
set_option maxRecDepth 100000 in
theorem wd_517 : Cond.methodLink RX8 200 yX8_sum ∈ mT := mT_in (lw_in3 (List.mem_of_getElem? (i := 189) rfl)) rfl
set_option maxRecDepth 100000 in
theorem wd_518 : Cond.instanceMethod yX8_sum ∈ mT := mT_in (lw_in3 (List.mem_of_getElem? (i := 191) rfl)) rfl
set_option maxRecDepth 100000 in
theorem wd_519 : Cond.code yX8_sum cX8_sum 5 none ∈ mT := mT_in (lw_in3 (List.mem_of_getElem? (i := 192) rfl)) rfl
set_option maxRecDepth 100000 in
theorem wd_520 : Cond.selects RX8 yX8_sum yX8_sum ∈ mT := mT_in (lw_in0 (List.mem_of_getElem? (i := 22) rfl)) rfl
set_option maxRecDepth 100000 in
theorem wd_521 : Cond.methodLink RX8 203 yX8_in ∈ mT := mT_in (lw_in4 (List.mem_of_getElem? (i := 74) rfl)) rfl
set_option maxRecDepth 100000 in
theorem wd_522 : Cond.code yX8_in cX8_in 3 (some .boolean) ∈ mT := mT_in (lw_in4 (List.mem_of_getElem? (i := 76) rfl)) rfl
set_option maxRecDepth 100000 in
theorem wd_523 : Cond.static yX8_in ∈ mT := mT_in (lw_in4 (List.mem_of_getElem? (i := 75) rfl)) rfl
set_option maxRecDepth 100000 in
theorem wd_524 : Cond.methodLink RX8 207 yX8_isView ∈ mT := mT_in (lw_in4 (List.mem_of_getElem? (i := 71) rfl)) rfl
set_option maxRecDepth 100000 in
theorem wd_525 : Cond.code yX8_isView cX8_isView 2 (some .boolean) ∈ mT := mT_in (lw_in4 (List.mem_of_getElem? (i := 73) rfl)) rfl
set_option maxRecDepth 100000 in
theorem wd_526 : Cond.static yX8_isView ∈ mT := mT_in (lw_in4 (List.mem_of_getElem? (i := 72) rfl)) rfl
set_option maxRecDepth 100000 in
theorem wd_527 : Cond.methodLink RX8 211 yX8_putRow ∈ mT := mT_in (lw_in4 (List.mem_of_getElem? (i := 108) rfl)) rfl
set_option maxRecDepth 100000 in
theorem wd_528 : Cond.instanceMethod yX8_putRow ∈ mT := mT_in (lw_in4 (List.mem_of_getElem? (i := 110) rfl)) rfl
set_option maxRecDepth 100000 in
theorem wd_529 : Cond.code yX8_putRow cX8_putRow 5 none ∈ mT := mT_in (lw_in4 (List.mem_of_getElem? (i := 111) rfl)) rfl
set_option maxRecDepth 100000 in
theorem wd_530 : Cond.selects RX8 yX8_putRow yX8_putRow ∈ mT := mT_in (lw_in0 (List.mem_of_getElem? (i := 29) rfl)) rfl
set_option maxRecDepth 100000 in
theorem wd_531 : Cond.methodLink RX8 215 yX8_half ∈ mT := mT_in (lw_in4 (List.mem_of_getElem? (i := 101) rfl)) rfl
set_option maxRecDepth 100000 in
theorem wd_532 : Cond.code yX8_half cX8_half 2 (some .int) ∈ mT := mT_in (lw_in4 (List.mem_of_getElem? (i := 103) rfl)) rfl
set_option maxRecDepth 100000 in
theorem wd_533 : Cond.static yX8_half ∈ mT := mT_in (lw_in4 (List.mem_of_getElem? (i := 102) rfl)) rfl
set_option maxRecDepth 100000 in
theorem wd_534 : Cond.methodLink RX8 219 yX8_root ∈ mT := mT_in (lw_in4 (List.mem_of_getElem? (i := 97) rfl)) rfl
set_option maxRecDepth 100000 in
theorem wd_535 : Cond.instanceMethod yX8_root ∈ mT := mT_in (lw_in4 (List.mem_of_getElem? (i := 99) rfl)) rfl
set_option maxRecDepth 100000 in
theorem wd_536 : Cond.code yX8_root cX8_root 6 none ∈ mT := mT_in (lw_in4 (List.mem_of_getElem? (i := 100) rfl)) rfl
set_option maxRecDepth 100000 in
theorem wd_537 : Cond.selects RX8 yX8_root yX8_root ∈ mT := mT_in (lw_in0 (List.mem_of_getElem? (i := 27) rfl)) rfl
set_option maxRecDepth 100000 in
theorem wd_538 : Cond.methodLink RX8 223 yX8_joined ∈ mT := mT_in (lw_in4 (List.mem_of_getElem? (i := 104) rfl)) rfl
set_option maxRecDepth 100000 in
theorem wd_539 : Cond.instanceMethod yX8_joined ∈ mT := mT_in (lw_in4 (List.mem_of_getElem? (i := 106) rfl)) rfl
set_option maxRecDepth 100000 in
theorem wd_540 : Cond.code yX8_joined cX8_joined 6 none ∈ mT := mT_in (lw_in4 (List.mem_of_getElem? (i := 107) rfl)) rfl
set_option maxRecDepth 100000 in
theorem wd_541 : Cond.selects RX8 yX8_joined yX8_joined ∈ mT := mT_in (lw_in0 (List.mem_of_getElem? (i := 28) rfl)) rfl
set_option maxRecDepth 100000 in
theorem wd_542 : Cond.fieldLink RX8 227 (mTb 8 14).1 (mTb 8 14).2.1 (mTb 8 14).2.2.1 ∈ mT := mT_in (lw_in3 (List.mem_of_getElem? (i := 215) rfl)) rfl
set_option maxRecDepth 100000 in
theorem wd_543 : Cond.methodLink RX8 230 yX8_adds ∈ mT := mT_in (lw_in4 (List.mem_of_getElem? (i := 89) rfl)) rfl
set_option maxRecDepth 100000 in
theorem wd_544 : Cond.instanceMethod yX8_adds ∈ mT := mT_in (lw_in4 (List.mem_of_getElem? (i := 91) rfl)) rfl
set_option maxRecDepth 100000 in
theorem wd_545 : Cond.code yX8_adds cX8_adds 2 none ∈ mT := mT_in (lw_in4 (List.mem_of_getElem? (i := 92) rfl)) rfl
set_option maxRecDepth 100000 in
theorem wd_546 : Cond.selects RX8 yX8_adds yX8_adds ∈ mT := mT_in (lw_in0 (List.mem_of_getElem? (i := 25) rfl)) rfl
set_option maxRecDepth 100000 in
theorem wd_547 : Cond.methodLink RX8 233 yX8_begins ∈ mT := mT_in (lw_in4 (List.mem_of_getElem? (i := 85) rfl)) rfl
set_option maxRecDepth 100000 in
theorem wd_548 : Cond.instanceMethod yX8_begins ∈ mT := mT_in (lw_in4 (List.mem_of_getElem? (i := 87) rfl)) rfl
set_option maxRecDepth 100000 in
theorem wd_549 : Cond.code yX8_begins cX8_begins 3 none ∈ mT := mT_in (lw_in4 (List.mem_of_getElem? (i := 88) rfl)) rfl
set_option maxRecDepth 100000 in
theorem wd_550 : Cond.selects RX8 yX8_begins yX8_begins ∈ mT := mT_in (lw_in0 (List.mem_of_getElem? (i := 24) rfl)) rfl
set_option maxRecDepth 100000 in
theorem wd_551 : Cond.methodLink RX8 237 yX8_addsNumber ∈ mT := mT_in (lw_in4 (List.mem_of_getElem? (i := 93) rfl)) rfl
set_option maxRecDepth 100000 in
theorem wd_552 : Cond.instanceMethod yX8_addsNumber ∈ mT := mT_in (lw_in4 (List.mem_of_getElem? (i := 95) rfl)) rfl
set_option maxRecDepth 100000 in
theorem wd_553 : Cond.code yX8_addsNumber cX8_addsNumber 3 none ∈ mT := mT_in (lw_in4 (List.mem_of_getElem? (i := 96) rfl)) rfl
set_option maxRecDepth 100000 in
theorem wd_554 : Cond.selects RX8 yX8_addsNumber yX8_addsNumber ∈ mT := mT_in (lw_in0 (List.mem_of_getElem? (i := 26) rfl)) rfl
set_option maxRecDepth 100000 in
theorem wd_555 : Cond.methodLink RX8 240 yX8_addsHash ∈ mT := mT_in (lw_in4 (List.mem_of_getElem? (i := 112) rfl)) rfl
set_option maxRecDepth 100000 in
theorem wd_556 : Cond.instanceMethod yX8_addsHash ∈ mT := mT_in (lw_in4 (List.mem_of_getElem? (i := 114) rfl)) rfl
set_option maxRecDepth 100000 in
theorem wd_557 : Cond.code yX8_addsHash cX8_addsHash 3 none ∈ mT := mT_in (lw_in4 (List.mem_of_getElem? (i := 115) rfl)) rfl
set_option maxRecDepth 100000 in
theorem wd_558 : Cond.selects RX8 yX8_addsHash yX8_addsHash ∈ mT := mT_in (lw_in0 (List.mem_of_getElem? (i := 30) rfl)) rfl
set_option maxRecDepth 100000 in
theorem wd_559 : Cond.methodLink RX8 243 yX8_signs ∈ mT := mT_in (lw_in4 (List.mem_of_getElem? (i := 116) rfl)) rfl
set_option maxRecDepth 100000 in
theorem wd_560 : Cond.instanceMethod yX8_signs ∈ mT := mT_in (lw_in4 (List.mem_of_getElem? (i := 118) rfl)) rfl
set_option maxRecDepth 100000 in
theorem wd_561 : Cond.code yX8_signs cX8_signs 4 none ∈ mT := mT_in (lw_in4 (List.mem_of_getElem? (i := 119) rfl)) rfl
set_option maxRecDepth 100000 in
theorem wd_562 : Cond.selects RX8 yX8_signs yX8_signs ∈ mT := mT_in (lw_in0 (List.mem_of_getElem? (i := 31) rfl)) rfl
set_option maxRecDepth 100000 in
theorem wd_563 : Cond.methodLink RX8 246 yX8_ends ∈ mT := mT_in (lw_in4 (List.mem_of_getElem? (i := 120) rfl)) rfl
set_option maxRecDepth 100000 in
theorem wd_564 : Cond.instanceMethod yX8_ends ∈ mT := mT_in (lw_in4 (List.mem_of_getElem? (i := 122) rfl)) rfl
set_option maxRecDepth 100000 in
theorem wd_565 : Cond.code yX8_ends cX8_ends 1 (some .int) ∈ mT := mT_in (lw_in4 (List.mem_of_getElem? (i := 123) rfl)) rfl
set_option maxRecDepth 100000 in
theorem wd_566 : Cond.selects RX8 yX8_ends yX8_ends ∈ mT := mT_in (lw_in0 (List.mem_of_getElem? (i := 32) rfl)) rfl
set_option maxRecDepth 100000 in
theorem wd_567 : Cond.fieldLink RX8 250 (mTb 8 17).1 (mTb 8 17).2.1 (mTb 8 17).2.2.1 ∈ mT := mT_in (lw_in3 (List.mem_of_getElem? (i := 218) rfl)) rfl
set_option maxRecDepth 100000 in
theorem wd_568 : Cond.methodLink RX8 253 yX8_note ∈ mT := mT_in (lw_in4 (List.mem_of_getElem? (i := 128) rfl)) rfl
set_option maxRecDepth 100000 in
theorem wd_569 : Cond.instanceMethod yX8_note ∈ mT := mT_in (lw_in4 (List.mem_of_getElem? (i := 130) rfl)) rfl
set_option maxRecDepth 100000 in
theorem wd_570 : Cond.code yX8_note cX8_note 3 none ∈ mT := mT_in (lw_in4 (List.mem_of_getElem? (i := 131) rfl)) rfl
set_option maxRecDepth 100000 in
theorem wd_571 : Cond.selects RX8 yX8_note yX8_note ∈ mT := mT_in (lw_in0 (List.mem_of_getElem? (i := 33) rfl)) rfl
set_option maxRecDepth 100000 in
theorem wd_572 : Cond.methodLink RX8 256 yX8_addsNoted ∈ mT := mT_in (lw_in4 (List.mem_of_getElem? (i := 132) rfl)) rfl
set_option maxRecDepth 100000 in
theorem wd_573 : Cond.instanceMethod yX8_addsNoted ∈ mT := mT_in (lw_in4 (List.mem_of_getElem? (i := 134) rfl)) rfl
set_option maxRecDepth 100000 in
theorem wd_574 : Cond.code yX8_addsNoted cX8_addsNoted 2 none ∈ mT := mT_in (lw_in4 (List.mem_of_getElem? (i := 135) rfl)) rfl
set_option maxRecDepth 100000 in
theorem wd_575 : Cond.selects RX8 yX8_addsNoted yX8_addsNoted ∈ mT := mT_in (lw_in0 (List.mem_of_getElem? (i := 34) rfl)) rfl
set_option maxRecDepth 100000 in
theorem wd_576 : Cond.methodLink RX8 259 yX8_isLetter ∈ mT := mT_in (lw_in4 (List.mem_of_getElem? (i := 144) rfl)) rfl
set_option maxRecDepth 100000 in
theorem wd_577 : Cond.instanceMethod yX8_isLetter ∈ mT := mT_in (lw_in4 (List.mem_of_getElem? (i := 146) rfl)) rfl
set_option maxRecDepth 100000 in
theorem wd_578 : Cond.code yX8_isLetter cX8_isLetter 2 (some .boolean) ∈ mT := mT_in (lw_in4 (List.mem_of_getElem? (i := 147) rfl)) rfl
set_option maxRecDepth 100000 in
theorem wd_579 : Cond.selects RX8 yX8_isLetter yX8_isLetter ∈ mT := mT_in (lw_in0 (List.mem_of_getElem? (i := 35) rfl)) rfl
set_option maxRecDepth 100000 in
theorem wd_580 : Cond.methodLink RX8 263 yX8_headOf ∈ mT := mT_in (lw_in4 (List.mem_of_getElem? (i := 152) rfl)) rfl
set_option maxRecDepth 100000 in
theorem wd_581 : Cond.code yX8_headOf cX8_headOf 1 (some .int) ∈ mT := mT_in (lw_in4 (List.mem_of_getElem? (i := 154) rfl)) rfl
set_option maxRecDepth 100000 in
theorem wd_582 : Cond.static yX8_headOf ∈ mT := mT_in (lw_in4 (List.mem_of_getElem? (i := 153) rfl)) rfl
set_option maxRecDepth 100000 in
theorem wd_583 : Cond.methodLink RX8 266 yX8_number ∈ mT := mT_in (lw_in4 (List.mem_of_getElem? (i := 183) rfl)) rfl
set_option maxRecDepth 100000 in
theorem wd_584 : Cond.code yX8_number cX8_number 2 (some .int) ∈ mT := mT_in (lw_in4 (List.mem_of_getElem? (i := 185) rfl)) rfl
set_option maxRecDepth 100000 in
theorem wd_585 : Cond.static yX8_number ∈ mT := mT_in (lw_in4 (List.mem_of_getElem? (i := 184) rfl)) rfl
set_option maxRecDepth 100000 in
theorem wd_586 : Cond.methodLink RX8 270 yX8_isSame ∈ mT := mT_in (lw_in4 (List.mem_of_getElem? (i := 186) rfl)) rfl
set_option maxRecDepth 100000 in
theorem wd_587 : Cond.code yX8_isSame cX8_isSame 6 (some .boolean) ∈ mT := mT_in (lw_in4 (List.mem_of_getElem? (i := 188) rfl)) rfl
set_option maxRecDepth 100000 in
theorem wd_588 : Cond.static yX8_isSame ∈ mT := mT_in (lw_in4 (List.mem_of_getElem? (i := 187) rfl)) rfl
set_option maxRecDepth 100000 in
theorem wd_589 : Cond.methodLink RX8 274 yX8_copies ∈ mT := mT_in (lw_in4 (List.mem_of_getElem? (i := 219) rfl)) rfl
set_option maxRecDepth 100000 in
theorem wd_590 : Cond.instanceMethod yX8_copies ∈ mT := mT_in (lw_in4 (List.mem_of_getElem? (i := 221) rfl)) rfl
set_option maxRecDepth 100000 in
theorem wd_591 : Cond.code yX8_copies cX8_copies 5 none ∈ mT := mT_in (lw_in4 (List.mem_of_getElem? (i := 222) rfl)) rfl
set_option maxRecDepth 100000 in
theorem wd_592 : Cond.selects RX8 yX8_copies yX8_copies ∈ mT := mT_in (lw_in0 (List.mem_of_getElem? (i := 44) rfl)) rfl
set_option maxRecDepth 100000 in
theorem wd_593 : Cond.methodLink RX8 277 yX8_isSigned ∈ mT := mT_in (lw_in4 (List.mem_of_getElem? (i := 179) rfl)) rfl
set_option maxRecDepth 100000 in
theorem wd_594 : Cond.instanceMethod yX8_isSigned ∈ mT := mT_in (lw_in4 (List.mem_of_getElem? (i := 181) rfl)) rfl
set_option maxRecDepth 100000 in
theorem wd_595 : Cond.code yX8_isSigned cX8_isSigned 3 (some .boolean) ∈ mT := mT_in (lw_in4 (List.mem_of_getElem? (i := 182) rfl)) rfl
set_option maxRecDepth 100000 in
theorem wd_596 : Cond.selects RX8 yX8_isSigned yX8_isSigned ∈ mT := mT_in (lw_in0 (List.mem_of_getElem? (i := 37) rfl)) rfl
set_option maxRecDepth 100000 in
theorem wd_597 : Cond.methodLink RX8 281 yX8_headAt ∈ mT := mT_in (lw_in4 (List.mem_of_getElem? (i := 189) rfl)) rfl
set_option maxRecDepth 100000 in
theorem wd_598 : Cond.code yX8_headAt cX8_headAt 2 (some .int) ∈ mT := mT_in (lw_in4 (List.mem_of_getElem? (i := 191) rfl)) rfl
set_option maxRecDepth 100000 in
theorem wd_599 : Cond.static yX8_headAt ∈ mT := mT_in (lw_in4 (List.mem_of_getElem? (i := 190) rfl)) rfl
set_option maxRecDepth 100000 in
theorem wd_600 : Cond.methodLink RX8 284 yX8_isAgainst ∈ mT := mT_in (lw_in4 (List.mem_of_getElem? (i := 192) rfl)) rfl
set_option maxRecDepth 100000 in
theorem wd_601 : Cond.instanceMethod yX8_isAgainst ∈ mT := mT_in (lw_in4 (List.mem_of_getElem? (i := 194) rfl)) rfl
set_option maxRecDepth 100000 in
theorem wd_602 : Cond.code yX8_isAgainst cX8_isAgainst 6 (some .boolean) ∈ mT := mT_in (lw_in4 (List.mem_of_getElem? (i := 195) rfl)) rfl
set_option maxRecDepth 100000 in
theorem wd_603 : Cond.selects RX8 yX8_isAgainst yX8_isAgainst ∈ mT := mT_in (lw_in0 (List.mem_of_getElem? (i := 38) rfl)) rfl
set_option maxRecDepth 100000 in
theorem wd_604 : Cond.methodLink RX8 288 yX8_records ∈ mT := mT_in (lw_in4 (List.mem_of_getElem? (i := 199) rfl)) rfl
set_option maxRecDepth 100000 in
theorem wd_605 : Cond.instanceMethod yX8_records ∈ mT := mT_in (lw_in4 (List.mem_of_getElem? (i := 201) rfl)) rfl
set_option maxRecDepth 100000 in
theorem wd_606 : Cond.code yX8_records cX8_records 7 none ∈ mT := mT_in (lw_in4 (List.mem_of_getElem? (i := 202) rfl)) rfl
set_option maxRecDepth 100000 in
theorem wd_607 : Cond.selects RX8 yX8_records yX8_records ∈ mT := mT_in (lw_in0 (List.mem_of_getElem? (i := 39) rfl)) rfl
set_option maxRecDepth 100000 in
theorem wd_608 : Cond.methodLink RX8 292 yX8_factAt ∈ mT := mT_in (lw_in4 (List.mem_of_getElem? (i := 196) rfl)) rfl
set_option maxRecDepth 100000 in
theorem wd_609 : Cond.code yX8_factAt cX8_factAt 2 (some .int) ∈ mT := mT_in (lw_in4 (List.mem_of_getElem? (i := 198) rfl)) rfl
set_option maxRecDepth 100000 in
theorem wd_610 : Cond.static yX8_factAt ∈ mT := mT_in (lw_in4 (List.mem_of_getElem? (i := 197) rfl)) rfl
set_option maxRecDepth 100000 in
theorem wd_611 : Cond.methodLink RX8 295 yX8_leads ∈ mT := mT_in (lw_in4 (List.mem_of_getElem? (i := 215) rfl)) rfl
set_option maxRecDepth 100000 in
theorem wd_612 : Cond.instanceMethod yX8_leads ∈ mT := mT_in (lw_in4 (List.mem_of_getElem? (i := 217) rfl)) rfl
set_option maxRecDepth 100000 in
theorem wd_613 : Cond.code yX8_leads cX8_leads 14 (some .boolean) ∈ mT := mT_in (lw_in4 (List.mem_of_getElem? (i := 218) rfl)) rfl
set_option maxRecDepth 100000 in
theorem wd_614 : Cond.selects RX8 yX8_leads yX8_leads ∈ mT := mT_in (lw_in0 (List.mem_of_getElem? (i := 43) rfl)) rfl
set_option maxRecDepth 100000 in
theorem wd_615 : Cond.methodLink RX8 299 yX8_isWay ∈ mT := mT_in (lw_in4 (List.mem_of_getElem? (i := 223) rfl)) rfl
set_option maxRecDepth 100000 in
theorem wd_616 : Cond.instanceMethod yX8_isWay ∈ mT := mT_in (lw_in4 (List.mem_of_getElem? (i := 225) rfl)) rfl
set_option maxRecDepth 100000 in
theorem wd_617 : Cond.code yX8_isWay cX8_isWay 13 (some .boolean) ∈ mT := mT_in (lw_in4 (List.mem_of_getElem? (i := 226) rfl)) rfl
set_option maxRecDepth 100000 in
theorem wd_618 : Cond.selects RX8 yX8_isWay yX8_isWay ∈ mT := mT_in (lw_in0 (List.mem_of_getElem? (i := 45) rfl)) rfl
set_option maxRecDepth 100000 in
theorem wd_619 : Cond.methodLink RX8 302 yX8_accepts ∈ mT := mT_in (lw_in4 (List.mem_of_getElem? (i := 211) rfl)) rfl
set_option maxRecDepth 100000 in
theorem wd_620 : Cond.instanceMethod yX8_accepts ∈ mT := mT_in (lw_in4 (List.mem_of_getElem? (i := 213) rfl)) rfl
set_option maxRecDepth 100000 in
theorem wd_621 : Cond.code yX8_accepts cX8_accepts 6 (some .boolean) ∈ mT := mT_in (lw_in4 (List.mem_of_getElem? (i := 214) rfl)) rfl
set_option maxRecDepth 100000 in
theorem wd_622 : Cond.selects RX8 yX8_accepts yX8_accepts ∈ mT := mT_in (lw_in0 (List.mem_of_getElem? (i := 42) rfl)) rfl
set_option maxRecDepth 100000 in
theorem wd_623 : Cond.methodLink RX8 306 yX8_isOther ∈ mT := mT_in (lw_in4 (List.mem_of_getElem? (i := 227) rfl)) rfl
set_option maxRecDepth 100000 in
theorem wd_624 : Cond.instanceMethod yX8_isOther ∈ mT := mT_in (lw_in4 (List.mem_of_getElem? (i := 229) rfl)) rfl
set_option maxRecDepth 100000 in
theorem wd_625 : Cond.code yX8_isOther cX8_isOther 6 (some .boolean) ∈ mT := mT_in (lw_in4 (List.mem_of_getElem? (i := 230) rfl)) rfl
set_option maxRecDepth 100000 in
theorem wd_626 : Cond.selects RX8 yX8_isOther yX8_isOther ∈ mT := mT_in (lw_in0 (List.mem_of_getElem? (i := 46) rfl)) rfl
set_option maxRecDepth 100000 in
theorem wd_627 : Cond.methodLink RX8 309 yX8_takesHead ∈ mT := mT_in (lw_in4 (List.mem_of_getElem? (i := 175) rfl)) rfl
set_option maxRecDepth 100000 in
theorem wd_628 : Cond.instanceMethod yX8_takesHead ∈ mT := mT_in (lw_in4 (List.mem_of_getElem? (i := 177) rfl)) rfl
set_option maxRecDepth 100000 in
theorem wd_629 : Cond.code yX8_takesHead cX8_takesHead 7 (some .int) ∈ mT := mT_in (lw_in4 (List.mem_of_getElem? (i := 178) rfl)) rfl
set_option maxRecDepth 100000 in
theorem wd_630 : Cond.selects RX8 yX8_takesHead yX8_takesHead ∈ mT := mT_in (lw_in0 (List.mem_of_getElem? (i := 36) rfl)) rfl
set_option maxRecDepth 100000 in
theorem wd_631 : Cond.methodLink RX8 313 yX8_answered ∈ mT := mT_in (lw_in4 (List.mem_of_getElem? (i := 203) rfl)) rfl
set_option maxRecDepth 100000 in
theorem wd_632 : Cond.instanceMethod yX8_answered ∈ mT := mT_in (lw_in4 (List.mem_of_getElem? (i := 205) rfl)) rfl
set_option maxRecDepth 100000 in
theorem wd_633 : Cond.code yX8_answered cX8_answered 3 (some .int) ∈ mT := mT_in (lw_in4 (List.mem_of_getElem? (i := 206) rfl)) rfl
set_option maxRecDepth 100000 in
theorem wd_634 : Cond.selects RX8 yX8_answered yX8_answered ∈ mT := mT_in (lw_in0 (List.mem_of_getElem? (i := 40) rfl)) rfl
set_option maxRecDepth 100000 in
theorem wd_635 : Cond.methodLink RX8 316 yX8_takesProof ∈ mT := mT_in (lw_in4 (List.mem_of_getElem? (i := 207) rfl)) rfl
set_option maxRecDepth 100000 in
theorem wd_636 : Cond.instanceMethod yX8_takesProof ∈ mT := mT_in (lw_in4 (List.mem_of_getElem? (i := 209) rfl)) rfl
set_option maxRecDepth 100000 in
theorem wd_637 : Cond.code yX8_takesProof cX8_takesProof 8 (some .int) ∈ mT := mT_in (lw_in4 (List.mem_of_getElem? (i := 210) rfl)) rfl
set_option maxRecDepth 100000 in
theorem wd_638 : Cond.selects RX8 yX8_takesProof yX8_takesProof ∈ mT := mT_in (lw_in0 (List.mem_of_getElem? (i := 41) rfl)) rfl
set_option maxRecDepth 100000 in
theorem wd_639 : Cond.methodLink RX8 319 yX8_isRecord ∈ mT := mT_in (lw_in5 (List.mem_of_getElem? (i := 11) rfl)) rfl
set_option maxRecDepth 100000 in
theorem wd_640 : Cond.instanceMethod yX8_isRecord ∈ mT := mT_in (lw_in5 (List.mem_of_getElem? (i := 13) rfl)) rfl
set_option maxRecDepth 100000 in
theorem wd_641 : Cond.code yX8_isRecord cX8_isRecord 3 (some .boolean) ∈ mT := mT_in (lw_in5 (List.mem_of_getElem? (i := 14) rfl)) rfl
set_option maxRecDepth 100000 in
theorem wd_642 : Cond.selects RX8 yX8_isRecord yX8_isRecord ∈ mT := mT_in (lw_in0 (List.mem_of_getElem? (i := 47) rfl)) rfl
set_option maxRecDepth 100000 in
theorem wd_643 : Cond.fieldLink RX8 322 (mTb 8 32).1 (mTb 8 32).2.1 (mTb 8 32).2.2.1 ∈ mT := mT_in (lw_in3 (List.mem_of_getElem? (i := 233) rfl)) rfl
set_option maxRecDepth 100000 in
theorem wd_644 : Cond.methodLink RX8 325 yX8_lays ∈ mT := mT_in (lw_in5 (List.mem_of_getElem? (i := 19) rfl)) rfl
set_option maxRecDepth 100000 in
theorem wd_645 : Cond.instanceMethod yX8_lays ∈ mT := mT_in (lw_in5 (List.mem_of_getElem? (i := 21) rfl)) rfl
set_option maxRecDepth 100000 in
theorem wd_646 : Cond.code yX8_lays cX8_lays 5 none ∈ mT := mT_in (lw_in5 (List.mem_of_getElem? (i := 22) rfl)) rfl
set_option maxRecDepth 100000 in
theorem wd_647 : Cond.selects RX8 yX8_lays yX8_lays ∈ mT := mT_in (lw_in0 (List.mem_of_getElem? (i := 48) rfl)) rfl
set_option maxRecDepth 100000 in
theorem wd_648 : Cond.classLink RL 7 (mRn 7) ∈ mT := mT_in (lw_in1 (List.mem_of_getElem? (i := 12) rfl)) rfl
set_option maxRecDepth 100000 in
theorem wd_649 : Cond.instantiable (mRn 7) (mN 7) ∈ mT := mT_in (lw_in1 (List.mem_of_getElem? (i := 13) rfl)) rfl
set_option maxRecDepth 100000 in
theorem wd_650 : Cond.methodLink RL 9 yL_cell ∈ mT := mT_in (lw_in3 (List.mem_of_getElem? (i := 96) rfl)) rfl
set_option maxRecDepth 100000 in
theorem wd_651 : Cond.initialized RL ∈ mT := mT_in (lw_in1 (List.mem_of_getElem? (i := 0) rfl)) rfl
set_option maxRecDepth 100000 in
theorem wd_652 : Cond.code yL_cell cL_cell 2 (some .int) ∈ mT := mT_in (lw_in3 (List.mem_of_getElem? (i := 98) rfl)) rfl
set_option maxRecDepth 100000 in
theorem wd_653 : Cond.static yL_cell ∈ mT := mT_in (lw_in3 (List.mem_of_getElem? (i := 97) rfl)) rfl
set_option maxRecDepth 100000 in
theorem wd_654 : Cond.methodLink RL 15 yX7_init ∈ mT := mT_in (lw_in1 (List.mem_of_getElem? (i := 14) rfl)) rfl
set_option maxRecDepth 100000 in
theorem wd_655 : Cond.instanceMethod yX7_init ∈ mT := mT_in (lw_in1 (List.mem_of_getElem? (i := 15) rfl)) rfl
set_option maxRecDepth 100000 in
theorem wd_656 : Cond.code yX7_init cX7_init 4 none ∈ mT := mT_in (lw_in1 (List.mem_of_getElem? (i := 16) rfl)) rfl
set_option maxRecDepth 100000 in
theorem wd_657 : Cond.classLink RL 18 (mRn 8) ∈ mT := mT_in (lw_in3 (List.mem_of_getElem? (i := 99) rfl)) rfl
set_option maxRecDepth 100000 in
theorem wd_658 : Cond.instantiable (mRn 8) (mN 8) ∈ mT := mT_in (lw_in3 (List.mem_of_getElem? (i := 100) rfl)) rfl
set_option maxRecDepth 100000 in
theorem wd_659 : Cond.methodLink RL 20 yX8_init ∈ mT := mT_in (lw_in3 (List.mem_of_getElem? (i := 101) rfl)) rfl
set_option maxRecDepth 100000 in
theorem wd_660 : Cond.instanceMethod yX8_init ∈ mT := mT_in (lw_in3 (List.mem_of_getElem? (i := 102) rfl)) rfl
set_option maxRecDepth 100000 in
theorem wd_661 : Cond.code yX8_init cX8_init 5 none ∈ mT := mT_in (lw_in3 (List.mem_of_getElem? (i := 103) rfl)) rfl
set_option maxRecDepth 100000 in
theorem wd_662 : Cond.methodLink RL 21 yX7_append ∈ mT := mT_in (lw_in2 (List.mem_of_getElem? (i := 12) rfl)) rfl
set_option maxRecDepth 100000 in
theorem wd_663 : Cond.instanceMethod yX7_append ∈ mT := mT_in (lw_in2 (List.mem_of_getElem? (i := 13) rfl)) rfl
set_option maxRecDepth 100000 in
theorem wd_664 : Cond.code yX7_append cX7_append 5 (some .int) ∈ mT := mT_in (lw_in2 (List.mem_of_getElem? (i := 15) rfl)) rfl
set_option maxRecDepth 100000 in
theorem wd_665 : Cond.selects RX7 yX7_append yX7_append ∈ mT := mT_in (lw_in2 (List.mem_of_getElem? (i := 14) rfl)) rfl
set_option maxRecDepth 100000 in
theorem wd_666 : Cond.methodLink RL 25 yX8_append ∈ mT := mT_in (lw_in4 (List.mem_of_getElem? (i := 67) rfl)) rfl
set_option maxRecDepth 100000 in
theorem wd_667 : Cond.instanceMethod yX8_append ∈ mT := mT_in (lw_in4 (List.mem_of_getElem? (i := 68) rfl)) rfl
set_option maxRecDepth 100000 in
theorem wd_668 : Cond.code yX8_append cX8_append 5 (some .int) ∈ mT := mT_in (lw_in4 (List.mem_of_getElem? (i := 70) rfl)) rfl
set_option maxRecDepth 100000 in
theorem wd_669 : Cond.selects RX8 yX8_append yX8_append ∈ mT := mT_in (lw_in4 (List.mem_of_getElem? (i := 69) rfl)) rfl
set_option maxRecDepth 100000 in
theorem wd_670 : Cond.methodLink RL 26 yX7_leaves ∈ mT := mT_in (lw_in2 (List.mem_of_getElem? (i := 39) rfl)) rfl
set_option maxRecDepth 100000 in
theorem wd_671 : Cond.instanceMethod yX7_leaves ∈ mT := mT_in (lw_in2 (List.mem_of_getElem? (i := 40) rfl)) rfl
set_option maxRecDepth 100000 in
theorem wd_672 : Cond.code yX7_leaves cX7_leaves 4 (some .int) ∈ mT := mT_in (lw_in2 (List.mem_of_getElem? (i := 42) rfl)) rfl
set_option maxRecDepth 100000 in
theorem wd_673 : Cond.selects RX7 yX7_leaves yX7_leaves ∈ mT := mT_in (lw_in2 (List.mem_of_getElem? (i := 41) rfl)) rfl
set_option maxRecDepth 100000 in
theorem wd_674 : Cond.methodLink RL 30 yX8_leaves ∈ mT := mT_in (lw_in4 (List.mem_of_getElem? (i := 77) rfl)) rfl
set_option maxRecDepth 100000 in
theorem wd_675 : Cond.instanceMethod yX8_leaves ∈ mT := mT_in (lw_in4 (List.mem_of_getElem? (i := 78) rfl)) rfl
set_option maxRecDepth 100000 in
theorem wd_676 : Cond.code yX8_leaves cX8_leaves 3 (some .int) ∈ mT := mT_in (lw_in4 (List.mem_of_getElem? (i := 80) rfl)) rfl
set_option maxRecDepth 100000 in
theorem wd_677 : Cond.selects RX8 yX8_leaves yX8_leaves ∈ mT := mT_in (lw_in4 (List.mem_of_getElem? (i := 79) rfl)) rfl
set_option maxRecDepth 100000 in
theorem wd_678 : Cond.methodLink RL 31 yX7_head ∈ mT := mT_in (lw_in2 (List.mem_of_getElem? (i := 43) rfl)) rfl
set_option maxRecDepth 100000 in
theorem wd_679 : Cond.instanceMethod yX7_head ∈ mT := mT_in (lw_in2 (List.mem_of_getElem? (i := 44) rfl)) rfl
set_option maxRecDepth 100000 in
theorem wd_680 : Cond.code yX7_head cX7_head 6 (some .int) ∈ mT := mT_in (lw_in2 (List.mem_of_getElem? (i := 46) rfl)) rfl
set_option maxRecDepth 100000 in
theorem wd_681 : Cond.selects RX7 yX7_head yX7_head ∈ mT := mT_in (lw_in2 (List.mem_of_getElem? (i := 45) rfl)) rfl
set_option maxRecDepth 100000 in
theorem wd_682 : Cond.methodLink RL 34 yX8_head ∈ mT := mT_in (lw_in4 (List.mem_of_getElem? (i := 81) rfl)) rfl
set_option maxRecDepth 100000 in
theorem wd_683 : Cond.instanceMethod yX8_head ∈ mT := mT_in (lw_in4 (List.mem_of_getElem? (i := 82) rfl)) rfl
set_option maxRecDepth 100000 in
theorem wd_684 : Cond.code yX8_head cX8_head 5 (some .int) ∈ mT := mT_in (lw_in4 (List.mem_of_getElem? (i := 84) rfl)) rfl
set_option maxRecDepth 100000 in
theorem wd_685 : Cond.selects RX8 yX8_head yX8_head ∈ mT := mT_in (lw_in4 (List.mem_of_getElem? (i := 83) rfl)) rfl
set_option maxRecDepth 100000 in
theorem wd_686 : Cond.methodLink RL 35 yX7_proof ∈ mT := mT_in (lw_in2 (List.mem_of_getElem? (i := 72) rfl)) rfl
set_option maxRecDepth 100000 in
theorem wd_687 : Cond.instanceMethod yX7_proof ∈ mT := mT_in (lw_in2 (List.mem_of_getElem? (i := 73) rfl)) rfl
set_option maxRecDepth 100000 in
theorem wd_688 : Cond.code yX7_proof cX7_proof 7 (some .int) ∈ mT := mT_in (lw_in2 (List.mem_of_getElem? (i := 75) rfl)) rfl
set_option maxRecDepth 100000 in
theorem wd_689 : Cond.selects RX7 yX7_proof yX7_proof ∈ mT := mT_in (lw_in2 (List.mem_of_getElem? (i := 74) rfl)) rfl
set_option maxRecDepth 100000 in
theorem wd_690 : Cond.methodLink RL 39 yX8_proof ∈ mT := mT_in (lw_in4 (List.mem_of_getElem? (i := 124) rfl)) rfl
set_option maxRecDepth 100000 in
theorem wd_691 : Cond.instanceMethod yX8_proof ∈ mT := mT_in (lw_in4 (List.mem_of_getElem? (i := 125) rfl)) rfl
set_option maxRecDepth 100000 in
theorem wd_692 : Cond.code yX8_proof cX8_proof 11 (some .int) ∈ mT := mT_in (lw_in4 (List.mem_of_getElem? (i := 127) rfl)) rfl
set_option maxRecDepth 100000 in
theorem wd_693 : Cond.selects RX8 yX8_proof yX8_proof ∈ mT := mT_in (lw_in4 (List.mem_of_getElem? (i := 126) rfl)) rfl
set_option maxRecDepth 100000 in
theorem wd_694 : Cond.methodLink RL 40 yX7_path ∈ mT := mT_in (lw_in2 (List.mem_of_getElem? (i := 88) rfl)) rfl
set_option maxRecDepth 100000 in
theorem wd_695 : Cond.instanceMethod yX7_path ∈ mT := mT_in (lw_in2 (List.mem_of_getElem? (i := 89) rfl)) rfl
set_option maxRecDepth 100000 in
theorem wd_696 : Cond.code yX7_path cX7_path 7 (some .int) ∈ mT := mT_in (lw_in2 (List.mem_of_getElem? (i := 91) rfl)) rfl
set_option maxRecDepth 100000 in
theorem wd_697 : Cond.selects RX7 yX7_path yX7_path ∈ mT := mT_in (lw_in2 (List.mem_of_getElem? (i := 90) rfl)) rfl
set_option maxRecDepth 100000 in
theorem wd_698 : Cond.methodLink RL 43 yX8_path ∈ mT := mT_in (lw_in4 (List.mem_of_getElem? (i := 136) rfl)) rfl
set_option maxRecDepth 100000 in
theorem wd_699 : Cond.instanceMethod yX8_path ∈ mT := mT_in (lw_in4 (List.mem_of_getElem? (i := 137) rfl)) rfl
set_option maxRecDepth 100000 in
theorem wd_700 : Cond.code yX8_path cX8_path 10 (some .int) ∈ mT := mT_in (lw_in4 (List.mem_of_getElem? (i := 139) rfl)) rfl
set_option maxRecDepth 100000 in
theorem wd_701 : Cond.selects RX8 yX8_path yX8_path ∈ mT := mT_in (lw_in4 (List.mem_of_getElem? (i := 138) rfl)) rfl
set_option maxRecDepth 100000 in
theorem wd_702 : Cond.methodLink RL 44 yX7_alter ∈ mT := mT_in (lw_in2 (List.mem_of_getElem? (i := 100) rfl)) rfl
set_option maxRecDepth 100000 in
theorem wd_703 : Cond.instanceMethod yX7_alter ∈ mT := mT_in (lw_in2 (List.mem_of_getElem? (i := 101) rfl)) rfl
set_option maxRecDepth 100000 in
theorem wd_704 : Cond.code yX7_alter cX7_alter 5 (some .int) ∈ mT := mT_in (lw_in2 (List.mem_of_getElem? (i := 103) rfl)) rfl
set_option maxRecDepth 100000 in
theorem wd_705 : Cond.selects RX7 yX7_alter yX7_alter ∈ mT := mT_in (lw_in2 (List.mem_of_getElem? (i := 102) rfl)) rfl
set_option maxRecDepth 100000 in
theorem wd_706 : Cond.methodLink RL 47 yX8_alter ∈ mT := mT_in (lw_in4 (List.mem_of_getElem? (i := 140) rfl)) rfl
set_option maxRecDepth 100000 in
theorem wd_707 : Cond.instanceMethod yX8_alter ∈ mT := mT_in (lw_in4 (List.mem_of_getElem? (i := 141) rfl)) rfl
set_option maxRecDepth 100000 in
theorem wd_708 : Cond.code yX8_alter cX8_alter 5 (some .int) ∈ mT := mT_in (lw_in4 (List.mem_of_getElem? (i := 143) rfl)) rfl
set_option maxRecDepth 100000 in
theorem wd_709 : Cond.selects RX8 yX8_alter yX8_alter ∈ mT := mT_in (lw_in4 (List.mem_of_getElem? (i := 142) rfl)) rfl
set_option maxRecDepth 100000 in
theorem wd_710 : Cond.methodLink RL 48 yX7_cut ∈ mT := mT_in (lw_in2 (List.mem_of_getElem? (i := 117) rfl)) rfl
set_option maxRecDepth 100000 in
theorem wd_711 : Cond.instanceMethod yX7_cut ∈ mT := mT_in (lw_in2 (List.mem_of_getElem? (i := 118) rfl)) rfl
set_option maxRecDepth 100000 in
theorem wd_712 : Cond.code yX7_cut cX7_cut 5 (some .int) ∈ mT := mT_in (lw_in2 (List.mem_of_getElem? (i := 120) rfl)) rfl
set_option maxRecDepth 100000 in
theorem wd_713 : Cond.selects RX7 yX7_cut yX7_cut ∈ mT := mT_in (lw_in2 (List.mem_of_getElem? (i := 119) rfl)) rfl
set_option maxRecDepth 100000 in
theorem wd_714 : Cond.methodLink RL 51 yX8_cut ∈ mT := mT_in (lw_in4 (List.mem_of_getElem? (i := 148) rfl)) rfl
set_option maxRecDepth 100000 in
theorem wd_715 : Cond.instanceMethod yX8_cut ∈ mT := mT_in (lw_in4 (List.mem_of_getElem? (i := 149) rfl)) rfl
set_option maxRecDepth 100000 in
theorem wd_716 : Cond.code yX8_cut cX8_cut 4 (some .int) ∈ mT := mT_in (lw_in4 (List.mem_of_getElem? (i := 151) rfl)) rfl
set_option maxRecDepth 100000 in
theorem wd_717 : Cond.selects RX8 yX8_cut yX8_cut ∈ mT := mT_in (lw_in4 (List.mem_of_getElem? (i := 150) rfl)) rfl
set_option maxRecDepth 100000 in
theorem wd_718 : Cond.methodLink RL 52 yX7_sign ∈ mT := mT_in (lw_in2 (List.mem_of_getElem? (i := 129) rfl)) rfl
set_option maxRecDepth 100000 in
theorem wd_719 : Cond.instanceMethod yX7_sign ∈ mT := mT_in (lw_in2 (List.mem_of_getElem? (i := 130) rfl)) rfl
set_option maxRecDepth 100000 in
theorem wd_720 : Cond.code yX7_sign cX7_sign 4 (some .boolean) ∈ mT := mT_in (lw_in2 (List.mem_of_getElem? (i := 132) rfl)) rfl
set_option maxRecDepth 100000 in
theorem wd_721 : Cond.selects RX7 yX7_sign yX7_sign ∈ mT := mT_in (lw_in2 (List.mem_of_getElem? (i := 131) rfl)) rfl
set_option maxRecDepth 100000 in
theorem wd_722 : Cond.methodLink RL 56 yX8_sign ∈ mT := mT_in (lw_in4 (List.mem_of_getElem? (i := 155) rfl)) rfl
set_option maxRecDepth 100000 in
theorem wd_723 : Cond.instanceMethod yX8_sign ∈ mT := mT_in (lw_in4 (List.mem_of_getElem? (i := 156) rfl)) rfl
set_option maxRecDepth 100000 in
theorem wd_724 : Cond.code yX8_sign cX8_sign 3 (some .boolean) ∈ mT := mT_in (lw_in4 (List.mem_of_getElem? (i := 158) rfl)) rfl
set_option maxRecDepth 100000 in
theorem wd_725 : Cond.selects RX8 yX8_sign yX8_sign ∈ mT := mT_in (lw_in4 (List.mem_of_getElem? (i := 157) rfl)) rfl
set_option maxRecDepth 100000 in
theorem wd_726 : Cond.methodLink RL 57 yX7_clear ∈ mT := mT_in (lw_in2 (List.mem_of_getElem? (i := 133) rfl)) rfl
set_option maxRecDepth 100000 in
theorem wd_727 : Cond.instanceMethod yX7_clear ∈ mT := mT_in (lw_in2 (List.mem_of_getElem? (i := 134) rfl)) rfl
set_option maxRecDepth 100000 in
theorem wd_728 : Cond.code yX7_clear cX7_clear 2 (some .int) ∈ mT := mT_in (lw_in2 (List.mem_of_getElem? (i := 136) rfl)) rfl
set_option maxRecDepth 100000 in
theorem wd_729 : Cond.selects RX7 yX7_clear yX7_clear ∈ mT := mT_in (lw_in2 (List.mem_of_getElem? (i := 135) rfl)) rfl
set_option maxRecDepth 100000 in
theorem wd_730 : Cond.methodLink RL 61 yX8_clear ∈ mT := mT_in (lw_in4 (List.mem_of_getElem? (i := 159) rfl)) rfl
set_option maxRecDepth 100000 in
theorem wd_731 : Cond.instanceMethod yX8_clear ∈ mT := mT_in (lw_in4 (List.mem_of_getElem? (i := 160) rfl)) rfl
set_option maxRecDepth 100000 in
theorem wd_732 : Cond.code yX8_clear cX8_clear 2 (some .int) ∈ mT := mT_in (lw_in4 (List.mem_of_getElem? (i := 162) rfl)) rfl
set_option maxRecDepth 100000 in
theorem wd_733 : Cond.selects RX8 yX8_clear yX8_clear ∈ mT := mT_in (lw_in4 (List.mem_of_getElem? (i := 161) rfl)) rfl
set_option maxRecDepth 100000 in
theorem wd_734 : Cond.methodLink RL 62 yX7_letters ∈ mT := mT_in (lw_in2 (List.mem_of_getElem? (i := 137) rfl)) rfl
set_option maxRecDepth 100000 in
theorem wd_735 : Cond.instanceMethod yX7_letters ∈ mT := mT_in (lw_in2 (List.mem_of_getElem? (i := 138) rfl)) rfl
set_option maxRecDepth 100000 in
theorem wd_736 : Cond.code yX7_letters cX7_letters 1 (some .int) ∈ mT := mT_in (lw_in2 (List.mem_of_getElem? (i := 140) rfl)) rfl
set_option maxRecDepth 100000 in
theorem wd_737 : Cond.selects RX7 yX7_letters yX7_letters ∈ mT := mT_in (lw_in2 (List.mem_of_getElem? (i := 139) rfl)) rfl
set_option maxRecDepth 100000 in
theorem wd_738 : Cond.methodLink RL 65 yX8_letters ∈ mT := mT_in (lw_in4 (List.mem_of_getElem? (i := 163) rfl)) rfl
set_option maxRecDepth 100000 in
theorem wd_739 : Cond.instanceMethod yX8_letters ∈ mT := mT_in (lw_in4 (List.mem_of_getElem? (i := 164) rfl)) rfl
set_option maxRecDepth 100000 in
theorem wd_740 : Cond.code yX8_letters cX8_letters 1 (some .int) ∈ mT := mT_in (lw_in4 (List.mem_of_getElem? (i := 166) rfl)) rfl
set_option maxRecDepth 100000 in
theorem wd_741 : Cond.selects RX8 yX8_letters yX8_letters ∈ mT := mT_in (lw_in4 (List.mem_of_getElem? (i := 165) rfl)) rfl
set_option maxRecDepth 100000 in
theorem wd_742 : Cond.methodLink RL 66 yX7_letter ∈ mT := mT_in (lw_in2 (List.mem_of_getElem? (i := 141) rfl)) rfl
set_option maxRecDepth 100000 in
theorem wd_743 : Cond.instanceMethod yX7_letter ∈ mT := mT_in (lw_in2 (List.mem_of_getElem? (i := 142) rfl)) rfl
set_option maxRecDepth 100000 in
theorem wd_744 : Cond.code yX7_letter cX7_letter 4 (some .int) ∈ mT := mT_in (lw_in2 (List.mem_of_getElem? (i := 144) rfl)) rfl
set_option maxRecDepth 100000 in
theorem wd_745 : Cond.selects RX7 yX7_letter yX7_letter ∈ mT := mT_in (lw_in2 (List.mem_of_getElem? (i := 143) rfl)) rfl
set_option maxRecDepth 100000 in
theorem wd_746 : Cond.methodLink RL 69 yX8_letter ∈ mT := mT_in (lw_in4 (List.mem_of_getElem? (i := 167) rfl)) rfl
set_option maxRecDepth 100000 in
theorem wd_747 : Cond.instanceMethod yX8_letter ∈ mT := mT_in (lw_in4 (List.mem_of_getElem? (i := 168) rfl)) rfl
set_option maxRecDepth 100000 in
theorem wd_748 : Cond.code yX8_letter cX8_letter 3 (some .int) ∈ mT := mT_in (lw_in4 (List.mem_of_getElem? (i := 170) rfl)) rfl
set_option maxRecDepth 100000 in
theorem wd_749 : Cond.selects RX8 yX8_letter yX8_letter ∈ mT := mT_in (lw_in4 (List.mem_of_getElem? (i := 169) rfl)) rfl
set_option maxRecDepth 100000 in
theorem wd_750 : Cond.methodLink RL 70 yX7_take ∈ mT := mT_in (lw_in2 (List.mem_of_getElem? (i := 145) rfl)) rfl
set_option maxRecDepth 100000 in
theorem wd_751 : Cond.instanceMethod yX7_take ∈ mT := mT_in (lw_in2 (List.mem_of_getElem? (i := 146) rfl)) rfl
set_option maxRecDepth 100000 in
theorem wd_752 : Cond.code yX7_take cX7_take 7 (some .int) ∈ mT := mT_in (lw_in2 (List.mem_of_getElem? (i := 148) rfl)) rfl
set_option maxRecDepth 100000 in
theorem wd_753 : Cond.selects RX7 yX7_take yX7_take ∈ mT := mT_in (lw_in2 (List.mem_of_getElem? (i := 147) rfl)) rfl
set_option maxRecDepth 100000 in
theorem wd_754 : Cond.methodLink RL 73 yX8_take ∈ mT := mT_in (lw_in4 (List.mem_of_getElem? (i := 171) rfl)) rfl
set_option maxRecDepth 100000 in
theorem wd_755 : Cond.instanceMethod yX8_take ∈ mT := mT_in (lw_in4 (List.mem_of_getElem? (i := 172) rfl)) rfl
set_option maxRecDepth 100000 in
theorem wd_756 : Cond.code yX8_take cX8_take 5 (some .int) ∈ mT := mT_in (lw_in4 (List.mem_of_getElem? (i := 174) rfl)) rfl
set_option maxRecDepth 100000 in
theorem wd_757 : Cond.selects RX8 yX8_take yX8_take ∈ mT := mT_in (lw_in4 (List.mem_of_getElem? (i := 173) rfl)) rfl
set_option maxRecDepth 100000 in
theorem wd_758 : Cond.methodLink RL 74 yX7_gossip ∈ mT := mT_in (lw_in2 (List.mem_of_getElem? (i := 239) rfl)) rfl
set_option maxRecDepth 100000 in
theorem wd_759 : Cond.instanceMethod yX7_gossip ∈ mT := mT_in (lw_in3 (List.mem_of_getElem? (i := 0) rfl)) rfl
set_option maxRecDepth 100000 in
theorem wd_760 : Cond.code yX7_gossip cX7_gossip 7 (some .int) ∈ mT := mT_in (lw_in3 (List.mem_of_getElem? (i := 2) rfl)) rfl
set_option maxRecDepth 100000 in
theorem wd_761 : Cond.selects RX7 yX7_gossip yX7_gossip ∈ mT := mT_in (lw_in3 (List.mem_of_getElem? (i := 1) rfl)) rfl
set_option maxRecDepth 100000 in
theorem wd_762 : Cond.methodLink RL 77 yX8_gossip ∈ mT := mT_in (lw_in4 (List.mem_of_getElem? (i := 231) rfl)) rfl
set_option maxRecDepth 100000 in
theorem wd_763 : Cond.instanceMethod yX8_gossip ∈ mT := mT_in (lw_in4 (List.mem_of_getElem? (i := 232) rfl)) rfl
set_option maxRecDepth 100000 in
theorem wd_764 : Cond.code yX8_gossip cX8_gossip 5 (some .int) ∈ mT := mT_in (lw_in4 (List.mem_of_getElem? (i := 234) rfl)) rfl
set_option maxRecDepth 100000 in
theorem wd_765 : Cond.selects RX8 yX8_gossip yX8_gossip ∈ mT := mT_in (lw_in4 (List.mem_of_getElem? (i := 233) rfl)) rfl
set_option maxRecDepth 100000 in
theorem wd_766 : Cond.methodLink RL 78 yX7_holds ∈ mT := mT_in (lw_in3 (List.mem_of_getElem? (i := 3) rfl)) rfl
set_option maxRecDepth 100000 in
theorem wd_767 : Cond.instanceMethod yX7_holds ∈ mT := mT_in (lw_in3 (List.mem_of_getElem? (i := 4) rfl)) rfl
set_option maxRecDepth 100000 in
theorem wd_768 : Cond.code yX7_holds cX7_holds 4 (some .int) ∈ mT := mT_in (lw_in3 (List.mem_of_getElem? (i := 6) rfl)) rfl
set_option maxRecDepth 100000 in
theorem wd_769 : Cond.selects RX7 yX7_holds yX7_holds ∈ mT := mT_in (lw_in3 (List.mem_of_getElem? (i := 5) rfl)) rfl
set_option maxRecDepth 100000 in
theorem wd_770 : Cond.methodLink RL 81 yX8_holds ∈ mT := mT_in (lw_in4 (List.mem_of_getElem? (i := 235) rfl)) rfl
set_option maxRecDepth 100000 in
theorem wd_771 : Cond.instanceMethod yX8_holds ∈ mT := mT_in (lw_in4 (List.mem_of_getElem? (i := 236) rfl)) rfl
set_option maxRecDepth 100000 in
theorem wd_772 : Cond.code yX8_holds cX8_holds 3 (some .int) ∈ mT := mT_in (lw_in4 (List.mem_of_getElem? (i := 238) rfl)) rfl
set_option maxRecDepth 100000 in
theorem wd_773 : Cond.selects RX8 yX8_holds yX8_holds ∈ mT := mT_in (lw_in4 (List.mem_of_getElem? (i := 237) rfl)) rfl
set_option maxRecDepth 100000 in
theorem wd_774 : Cond.methodLink RL 82 yX7_held ∈ mT := mT_in (lw_in3 (List.mem_of_getElem? (i := 11) rfl)) rfl
set_option maxRecDepth 100000 in
theorem wd_775 : Cond.instanceMethod yX7_held ∈ mT := mT_in (lw_in3 (List.mem_of_getElem? (i := 12) rfl)) rfl
set_option maxRecDepth 100000 in
theorem wd_776 : Cond.code yX7_held cX7_held 5 (some .int) ∈ mT := mT_in (lw_in3 (List.mem_of_getElem? (i := 14) rfl)) rfl
set_option maxRecDepth 100000 in
theorem wd_777 : Cond.selects RX7 yX7_held yX7_held ∈ mT := mT_in (lw_in3 (List.mem_of_getElem? (i := 13) rfl)) rfl
set_option maxRecDepth 100000 in
theorem wd_778 : Cond.methodLink RL 85 yX8_held ∈ mT := mT_in (lw_in4 (List.mem_of_getElem? (i := 239) rfl)) rfl
set_option maxRecDepth 100000 in
theorem wd_779 : Cond.instanceMethod yX8_held ∈ mT := mT_in (lw_in5 (List.mem_of_getElem? (i := 0) rfl)) rfl
set_option maxRecDepth 100000 in
theorem wd_780 : Cond.code yX8_held cX8_held 4 (some .int) ∈ mT := mT_in (lw_in5 (List.mem_of_getElem? (i := 2) rfl)) rfl
set_option maxRecDepth 100000 in
theorem wd_781 : Cond.selects RX8 yX8_held yX8_held ∈ mT := mT_in (lw_in5 (List.mem_of_getElem? (i := 1) rfl)) rfl
set_option maxRecDepth 100000 in
theorem wd_782 : Cond.methodLink RL 86 yX7_fact ∈ mT := mT_in (lw_in3 (List.mem_of_getElem? (i := 19) rfl)) rfl
set_option maxRecDepth 100000 in
theorem wd_783 : Cond.instanceMethod yX7_fact ∈ mT := mT_in (lw_in3 (List.mem_of_getElem? (i := 20) rfl)) rfl
set_option maxRecDepth 100000 in
theorem wd_784 : Cond.code yX7_fact cX7_fact 5 (some .int) ∈ mT := mT_in (lw_in3 (List.mem_of_getElem? (i := 22) rfl)) rfl
set_option maxRecDepth 100000 in
theorem wd_785 : Cond.selects RX7 yX7_fact yX7_fact ∈ mT := mT_in (lw_in3 (List.mem_of_getElem? (i := 21) rfl)) rfl
set_option maxRecDepth 100000 in
theorem wd_786 : Cond.methodLink RL 89 yX8_fact ∈ mT := mT_in (lw_in5 (List.mem_of_getElem? (i := 3) rfl)) rfl
set_option maxRecDepth 100000 in
theorem wd_787 : Cond.instanceMethod yX8_fact ∈ mT := mT_in (lw_in5 (List.mem_of_getElem? (i := 4) rfl)) rfl
set_option maxRecDepth 100000 in
theorem wd_788 : Cond.code yX8_fact cX8_fact 5 (some .int) ∈ mT := mT_in (lw_in5 (List.mem_of_getElem? (i := 6) rfl)) rfl
set_option maxRecDepth 100000 in
theorem wd_789 : Cond.selects RX8 yX8_fact yX8_fact ∈ mT := mT_in (lw_in5 (List.mem_of_getElem? (i := 5) rfl)) rfl
set_option maxRecDepth 100000 in
theorem wd_790 : Cond.methodLink RL 90 yX7_record ∈ mT := mT_in (lw_in3 (List.mem_of_getElem? (i := 32) rfl)) rfl
set_option maxRecDepth 100000 in
theorem wd_791 : Cond.instanceMethod yX7_record ∈ mT := mT_in (lw_in3 (List.mem_of_getElem? (i := 33) rfl)) rfl
set_option maxRecDepth 100000 in
theorem wd_792 : Cond.code yX7_record cX7_record 5 (some .int) ∈ mT := mT_in (lw_in3 (List.mem_of_getElem? (i := 35) rfl)) rfl
set_option maxRecDepth 100000 in
theorem wd_793 : Cond.selects RX7 yX7_record yX7_record ∈ mT := mT_in (lw_in3 (List.mem_of_getElem? (i := 34) rfl)) rfl
set_option maxRecDepth 100000 in
theorem wd_794 : Cond.methodLink RL 93 yX8_record ∈ mT := mT_in (lw_in5 (List.mem_of_getElem? (i := 7) rfl)) rfl
set_option maxRecDepth 100000 in
theorem wd_795 : Cond.instanceMethod yX8_record ∈ mT := mT_in (lw_in5 (List.mem_of_getElem? (i := 8) rfl)) rfl
set_option maxRecDepth 100000 in
theorem wd_796 : Cond.code yX8_record cX8_record 5 (some .int) ∈ mT := mT_in (lw_in5 (List.mem_of_getElem? (i := 10) rfl)) rfl
set_option maxRecDepth 100000 in
theorem wd_797 : Cond.selects RX8 yX8_record yX8_record ∈ mT := mT_in (lw_in5 (List.mem_of_getElem? (i := 9) rfl)) rfl
set_option maxRecDepth 100000 in
theorem wd_798 : Cond.methodLink RL 94 yX7_lay ∈ mT := mT_in (lw_in3 (List.mem_of_getElem? (i := 44) rfl)) rfl
set_option maxRecDepth 100000 in
theorem wd_799 : Cond.instanceMethod yX7_lay ∈ mT := mT_in (lw_in3 (List.mem_of_getElem? (i := 45) rfl)) rfl
set_option maxRecDepth 100000 in
theorem wd_800 : Cond.code yX7_lay cX7_lay 4 (some .int) ∈ mT := mT_in (lw_in3 (List.mem_of_getElem? (i := 47) rfl)) rfl
set_option maxRecDepth 100000 in
theorem wd_801 : Cond.selects RX7 yX7_lay yX7_lay ∈ mT := mT_in (lw_in3 (List.mem_of_getElem? (i := 46) rfl)) rfl
set_option maxRecDepth 100000 in
theorem wd_802 : Cond.methodLink RL 97 yX8_lay ∈ mT := mT_in (lw_in5 (List.mem_of_getElem? (i := 15) rfl)) rfl
set_option maxRecDepth 100000 in
theorem wd_803 : Cond.instanceMethod yX8_lay ∈ mT := mT_in (lw_in5 (List.mem_of_getElem? (i := 16) rfl)) rfl
set_option maxRecDepth 100000 in
theorem wd_804 : Cond.code yX8_lay cX8_lay 7 (some .int) ∈ mT := mT_in (lw_in5 (List.mem_of_getElem? (i := 18) rfl)) rfl
set_option maxRecDepth 100000 in
theorem wd_805 : Cond.selects RX8 yX8_lay yX8_lay ∈ mT := mT_in (lw_in5 (List.mem_of_getElem? (i := 17) rfl)) rfl
set_option maxRecDepth 100000 in
theorem wd_806 : Cond.methodLink RL 98 yX7_desk ∈ mT := mT_in (lw_in3 (List.mem_of_getElem? (i := 57) rfl)) rfl
set_option maxRecDepth 100000 in
theorem wd_807 : Cond.instanceMethod yX7_desk ∈ mT := mT_in (lw_in3 (List.mem_of_getElem? (i := 58) rfl)) rfl
set_option maxRecDepth 100000 in
theorem wd_808 : Cond.code yX7_desk cX7_desk 2 (some .int) ∈ mT := mT_in (lw_in3 (List.mem_of_getElem? (i := 60) rfl)) rfl
set_option maxRecDepth 100000 in
theorem wd_809 : Cond.selects RX7 yX7_desk yX7_desk ∈ mT := mT_in (lw_in3 (List.mem_of_getElem? (i := 59) rfl)) rfl
set_option maxRecDepth 100000 in
theorem wd_810 : Cond.methodLink RL 102 yX8_desk ∈ mT := mT_in (lw_in5 (List.mem_of_getElem? (i := 23) rfl)) rfl
set_option maxRecDepth 100000 in
theorem wd_811 : Cond.instanceMethod yX8_desk ∈ mT := mT_in (lw_in5 (List.mem_of_getElem? (i := 24) rfl)) rfl
set_option maxRecDepth 100000 in
theorem wd_812 : Cond.code yX8_desk cX8_desk 2 (some .int) ∈ mT := mT_in (lw_in5 (List.mem_of_getElem? (i := 26) rfl)) rfl
set_option maxRecDepth 100000 in
theorem wd_813 : Cond.selects RX8 yX8_desk yX8_desk ∈ mT := mT_in (lw_in5 (List.mem_of_getElem? (i := 25) rfl)) rfl
set_option maxRecDepth 100000 in
theorem wd_814 : Cond.methodLink RL 103 yX7_patch ∈ mT := mT_in (lw_in3 (List.mem_of_getElem? (i := 61) rfl)) rfl
set_option maxRecDepth 100000 in
theorem wd_815 : Cond.instanceMethod yX7_patch ∈ mT := mT_in (lw_in3 (List.mem_of_getElem? (i := 62) rfl)) rfl
set_option maxRecDepth 100000 in
theorem wd_816 : Cond.code yX7_patch cX7_patch 3 (some .boolean) ∈ mT := mT_in (lw_in3 (List.mem_of_getElem? (i := 64) rfl)) rfl
set_option maxRecDepth 100000 in
theorem wd_817 : Cond.selects RX7 yX7_patch yX7_patch ∈ mT := mT_in (lw_in3 (List.mem_of_getElem? (i := 63) rfl)) rfl
set_option maxRecDepth 100000 in
theorem wd_818 : Cond.methodLink RL 107 yX8_patch ∈ mT := mT_in (lw_in5 (List.mem_of_getElem? (i := 27) rfl)) rfl
set_option maxRecDepth 100000 in
theorem wd_819 : Cond.instanceMethod yX8_patch ∈ mT := mT_in (lw_in5 (List.mem_of_getElem? (i := 28) rfl)) rfl
set_option maxRecDepth 100000 in
theorem wd_820 : Cond.code yX8_patch cX8_patch 3 (some .boolean) ∈ mT := mT_in (lw_in5 (List.mem_of_getElem? (i := 30) rfl)) rfl
set_option maxRecDepth 100000 in
theorem wd_821 : Cond.selects RX8 yX8_patch yX8_patch ∈ mT := mT_in (lw_in5 (List.mem_of_getElem? (i := 29) rfl)) rfl
set_option maxRecDepth 100000 in
theorem wd_822 : Cond.methodLink RL 108 yX7_trim ∈ mT := mT_in (lw_in3 (List.mem_of_getElem? (i := 65) rfl)) rfl
set_option maxRecDepth 100000 in
theorem wd_823 : Cond.instanceMethod yX7_trim ∈ mT := mT_in (lw_in3 (List.mem_of_getElem? (i := 66) rfl)) rfl
set_option maxRecDepth 100000 in
theorem wd_824 : Cond.code yX7_trim cX7_trim 2 (some .boolean) ∈ mT := mT_in (lw_in3 (List.mem_of_getElem? (i := 68) rfl)) rfl
set_option maxRecDepth 100000 in
theorem wd_825 : Cond.selects RX7 yX7_trim yX7_trim ∈ mT := mT_in (lw_in3 (List.mem_of_getElem? (i := 67) rfl)) rfl
set_option maxRecDepth 100000 in
theorem wd_826 : Cond.methodLink RL 111 yX8_trim ∈ mT := mT_in (lw_in5 (List.mem_of_getElem? (i := 31) rfl)) rfl
set_option maxRecDepth 100000 in
theorem wd_827 : Cond.instanceMethod yX8_trim ∈ mT := mT_in (lw_in5 (List.mem_of_getElem? (i := 32) rfl)) rfl
set_option maxRecDepth 100000 in
theorem wd_828 : Cond.code yX8_trim cX8_trim 3 (some .boolean) ∈ mT := mT_in (lw_in5 (List.mem_of_getElem? (i := 34) rfl)) rfl
set_option maxRecDepth 100000 in
theorem wd_829 : Cond.selects RX8 yX8_trim yX8_trim ∈ mT := mT_in (lw_in5 (List.mem_of_getElem? (i := 33) rfl)) rfl
set_option maxRecDepth 100000 in
theorem wd_830 : Cond.methodLink RL 112 yX7_audit ∈ mT := mT_in (lw_in3 (List.mem_of_getElem? (i := 69) rfl)) rfl
set_option maxRecDepth 100000 in
theorem wd_831 : Cond.instanceMethod yX7_audit ∈ mT := mT_in (lw_in3 (List.mem_of_getElem? (i := 70) rfl)) rfl
set_option maxRecDepth 100000 in
theorem wd_832 : Cond.code yX7_audit cX7_audit 2 (some .boolean) ∈ mT := mT_in (lw_in3 (List.mem_of_getElem? (i := 72) rfl)) rfl
set_option maxRecDepth 100000 in
theorem wd_833 : Cond.selects RX7 yX7_audit yX7_audit ∈ mT := mT_in (lw_in3 (List.mem_of_getElem? (i := 71) rfl)) rfl
set_option maxRecDepth 100000 in
theorem wd_834 : Cond.methodLink RL 116 yX8_audit ∈ mT := mT_in (lw_in5 (List.mem_of_getElem? (i := 35) rfl)) rfl
set_option maxRecDepth 100000 in
theorem wd_835 : Cond.instanceMethod yX8_audit ∈ mT := mT_in (lw_in5 (List.mem_of_getElem? (i := 36) rfl)) rfl
set_option maxRecDepth 100000 in
theorem wd_836 : Cond.code yX8_audit cX8_audit 6 (some .boolean) ∈ mT := mT_in (lw_in5 (List.mem_of_getElem? (i := 38) rfl)) rfl
set_option maxRecDepth 100000 in
theorem wd_837 : Cond.selects RX8 yX8_audit yX8_audit ∈ mT := mT_in (lw_in5 (List.mem_of_getElem? (i := 37) rfl)) rfl
set_option maxRecDepth 100000 in
theorem wd_838 : Cond.methodLink RL 117 yX7_hash ∈ mT := mT_in (lw_in3 (List.mem_of_getElem? (i := 90) rfl)) rfl
set_option maxRecDepth 100000 in
theorem wd_839 : Cond.instanceMethod yX7_hash ∈ mT := mT_in (lw_in3 (List.mem_of_getElem? (i := 91) rfl)) rfl
set_option maxRecDepth 100000 in
theorem wd_840 : Cond.code yX7_hash cX7_hash 2 (some .int) ∈ mT := mT_in (lw_in3 (List.mem_of_getElem? (i := 93) rfl)) rfl
set_option maxRecDepth 100000 in
theorem wd_841 : Cond.selects RX7 yX7_hash yX7_hash ∈ mT := mT_in (lw_in3 (List.mem_of_getElem? (i := 92) rfl)) rfl
set_option maxRecDepth 100000 in
theorem wd_842 : Cond.methodLink RL 120 yX8_hash ∈ mT := mT_in (lw_in5 (List.mem_of_getElem? (i := 39) rfl)) rfl
set_option maxRecDepth 100000 in
theorem wd_843 : Cond.instanceMethod yX8_hash ∈ mT := mT_in (lw_in5 (List.mem_of_getElem? (i := 40) rfl)) rfl
set_option maxRecDepth 100000 in
theorem wd_844 : Cond.code yX8_hash cX8_hash 2 (some .int) ∈ mT := mT_in (lw_in5 (List.mem_of_getElem? (i := 42) rfl)) rfl
set_option maxRecDepth 100000 in
theorem wd_845 : Cond.selects RX8 yX8_hash yX8_hash ∈ mT := mT_in (lw_in5 (List.mem_of_getElem? (i := 41) rfl)) rfl
