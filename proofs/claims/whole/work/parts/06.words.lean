def aw : List Cond := lw_tbl.filter goodWord
theorem aw_t {w : Cond} (h : w ∈ tables_1) (g : goodWord w = true) : w ∈ aw := List.mem_filter.mpr ⟨List.mem_append_right _ h, g⟩
theorem aw_s {w : Cond} (h : w ∈ k2_sels lw_privs) (g : goodWord w = true) : w ∈ aw := List.mem_filter.mpr ⟨List.mem_append_left _ h, g⟩
theorem aw_good {w : Cond} (h : w ∈ aw) : (w.onTables && w.keeps) = true ∨ ∃ ty, w = .arrayClass ty := good_of_word (List.mem_filter.mp h).2
theorem aw_ht {args : Array Value} {s : State} (h : ∀ w ∈ lw_tbl, w.before args s = true) : ∀ w ∈ aw, w.before args s = true := fun w hw => h w (List.mem_filter.mp hw).1
abbrev Wy (y : MethodName) (cc : ByteArray) (nL : Nat) (ret : Option FieldType) : List Cond := Cond.code y cc nL ret :: aw
theorem gi_all {y : MethodName} {cc : ByteArray} {nL : Nat} {ret : Option FieldType} (h : Cond.code y cc nL ret ∈ aw) : GoodIn aw (Wy y cc nL ret) := fun w hw => by
  rcases List.mem_cons.mp hw with rfl | hw
  · exact ⟨h, aw_good h⟩
  · exact ⟨hw, aw_good hw⟩
theorem gi_V {own C : String} {idx : Nat} {y : MethodName} {cc : ByteArray} {nL : Nat} {ret : Option FieldType} (h1 : Cond.methodLink own idx y ∈ aw) (h2 : Cond.instanceMethod y ∈ aw) (h3 : Cond.selects C y y ∈ aw) (h4 : Cond.initialized C ∈ aw) (h5 : Cond.code y cc nL ret ∈ aw) : GoodIn aw (wsV own idx C y (Wy y cc nL ret)) := fun w hw => by
  rcases List.mem_append.mp hw with hw | hw
  · simp only [List.mem_cons, List.not_mem_nil, or_false] at hw
    rcases hw with rfl | rfl | rfl | rfl
    · exact ⟨h1, aw_good h1⟩
    · exact ⟨h2, aw_good h2⟩
    · exact ⟨h3, aw_good h3⟩
    · exact ⟨h4, aw_good h4⟩
  · exact gi_all h5 w hw
theorem gi_S {own : String} {idx : Nat} {y : MethodName} {cc : ByteArray} {nL : Nat} {ret : Option FieldType} (h1 : Cond.methodLink own idx y ∈ aw) (h2 : Cond.static y ∈ aw) (h4 : Cond.initialized y.cls ∈ aw) (h5 : Cond.code y cc nL ret ∈ aw) : GoodIn aw (va_wsS own idx y (Wy y cc nL ret)) := fun w hw => by
  rcases List.mem_append.mp hw with hw | hw
  · simp only [List.mem_cons, List.not_mem_nil, or_false] at hw
    rcases hw with rfl | rfl | rfl
    · exact ⟨h1, aw_good h1⟩
    · exact ⟨h2, aw_good h2⟩
    · exact ⟨h4, aw_good h4⟩
  · exact gi_all h5 w hw
theorem tw_0 : Cond.initialized RL ∈ aw := aw_t (List.mem_append_left _ (List.mem_of_getElem? (i := 0) rfl)) rfl
theorem tw_1 : Cond.initialized RX5 ∈ aw := aw_t (List.mem_append_left _ (List.mem_of_getElem? (i := 1) rfl)) rfl
theorem tw_2 : Cond.initialized RX4 ∈ aw := aw_t (List.mem_append_left _ (List.mem_of_getElem? (i := 2) rfl)) rfl
theorem tw_3 : Cond.initialized RX0 ∈ aw := aw_t (List.mem_append_left _ (List.mem_of_getElem? (i := 3) rfl)) rfl
theorem tw_4 : Cond.initialized RX3 ∈ aw := aw_t (List.mem_append_left _ (List.mem_of_getElem? (i := 4) rfl)) rfl
theorem tw_5 : Cond.initialized RX2 ∈ aw := aw_t (List.mem_append_left _ (List.mem_of_getElem? (i := 5) rfl)) rfl
theorem tw_6 : Cond.initialized RX1 ∈ aw := aw_t (List.mem_append_left _ (List.mem_of_getElem? (i := 6) rfl)) rfl
theorem tw_7 : Cond.initialized RX6 ∈ aw := aw_t (List.mem_append_left _ (List.mem_of_getElem? (i := 7) rfl)) rfl
theorem tw_8 : Cond.initialized "java/lang/System" ∈ aw := aw_t (List.mem_append_left _ (List.mem_of_getElem? (i := 8) rfl)) rfl
theorem tw_9 : Cond.initialized "java/lang/Math" ∈ aw := aw_t (List.mem_append_left _ (List.mem_of_getElem? (i := 9) rfl)) rfl
theorem tw_10 : Cond.initialized RJ6 ∈ aw := aw_t (List.mem_append_left _ (List.mem_of_getElem? (i := 10) rfl)) rfl
theorem tw_11 : Cond.classLink RL 7 RX5 ∈ aw := aw_t (List.mem_append_left _ (List.mem_of_getElem? (i := 11) rfl)) rfl
theorem tw_12 : Cond.instantiable RX5 7 ∈ aw := aw_t (List.mem_append_left _ (List.mem_of_getElem? (i := 12) rfl)) rfl
theorem tw_13 : Cond.methodLink RL 9 yX5_init ∈ aw := aw_t (List.mem_append_left _ (List.mem_of_getElem? (i := 13) rfl)) rfl
theorem tw_14 : Cond.instanceMethod yX5_init ∈ aw := aw_t (List.mem_append_left _ (List.mem_of_getElem? (i := 14) rfl)) rfl
theorem tw_15 : Cond.code yX5_init cX5_init 1 none ∈ aw := aw_t (List.mem_append_left _ (List.mem_of_getElem? (i := 15) rfl)) rfl
theorem tw_16 : Cond.methodLink RX5 3 objectInit ∈ aw := aw_t (List.mem_append_left _ (List.mem_of_getElem? (i := 16) rfl)) rfl
theorem tw_17 : Cond.instanceMethod objectInit ∈ aw := aw_t (List.mem_append_left _ (List.mem_of_getElem? (i := 17) rfl)) rfl
theorem tw_18 : Cond.code objectInit ⟨#[0xb1]⟩ 1 none ∈ aw := aw_t (List.mem_append_left _ (List.mem_of_getElem? (i := 18) rfl)) rfl
theorem tw_19 : Cond.classLink RX5 9 RX4 ∈ aw := aw_t (List.mem_append_left _ (List.mem_of_getElem? (i := 19) rfl)) rfl
theorem tw_20 : Cond.instantiable RX4 4 ∈ aw := aw_t (List.mem_append_left _ (List.mem_of_getElem? (i := 20) rfl)) rfl
theorem tw_21 : Cond.methodLink RX5 11 yX4_init ∈ aw := aw_t (List.mem_append_left _ (List.mem_of_getElem? (i := 21) rfl)) rfl
theorem tw_22 : Cond.instanceMethod yX4_init ∈ aw := aw_t (List.mem_append_left _ (List.mem_of_getElem? (i := 22) rfl)) rfl
theorem tw_23 : Cond.code yX4_init cX4_init 1 none ∈ aw := aw_t (List.mem_append_left _ (List.mem_of_getElem? (i := 23) rfl)) rfl
theorem tw_24 : Cond.methodLink RX4 3 objectInit ∈ aw := aw_t (List.mem_append_left _ (List.mem_of_getElem? (i := 24) rfl)) rfl
theorem tw_25 : Cond.fieldLink RX4 9 "PartedWebs$Web" "places" "I" ∈ aw := aw_t (List.mem_append_left _ (List.mem_of_getElem? (i := 25) rfl)) rfl
theorem tw_26 : Cond.fieldLinkNest RX1 40 "PartedWebs$Web" "places" "I" RX5 ∈ lw_tbl := List.mem_append_right _ (List.mem_append_left _ (List.mem_of_getElem? (i := 26) rfl))
theorem tw_27 : Cond.fieldLinkNest RX5 51 "PartedWebs$Web" "places" "I" RX5 ∈ lw_tbl := List.mem_append_right _ (List.mem_append_left _ (List.mem_of_getElem? (i := 27) rfl))
theorem tw_28 : Cond.fieldLinkNest RX2 58 "PartedWebs$Web" "places" "I" RX5 ∈ lw_tbl := List.mem_append_right _ (List.mem_append_left _ (List.mem_of_getElem? (i := 28) rfl))
theorem tw_29 : Cond.fieldLink RX4 15 "PartedWebs$Web" "start" "I" ∈ aw := aw_t (List.mem_append_left _ (List.mem_of_getElem? (i := 29) rfl)) rfl
theorem tw_30 : Cond.fieldLinkNest RX2 41 "PartedWebs$Web" "start" "I" RX5 ∈ lw_tbl := List.mem_append_right _ (List.mem_append_left _ (List.mem_of_getElem? (i := 30) rfl))
theorem tw_31 : Cond.fieldLinkNest RX5 118 "PartedWebs$Web" "start" "I" RX5 ∈ lw_tbl := List.mem_append_right _ (List.mem_append_left _ (List.mem_of_getElem? (i := 31) rfl))
theorem tw_32 : Cond.fieldLink RX4 18 "PartedWebs$Web" "fairPlaces" "I" ∈ aw := aw_t (List.mem_append_left _ (List.mem_of_getElem? (i := 32) rfl)) rfl
theorem tw_33 : Cond.fieldLinkNest RX5 121 "PartedWebs$Web" "fairPlaces" "I" RX5 ∈ lw_tbl := List.mem_append_right _ (List.mem_append_left _ (List.mem_of_getElem? (i := 33) rfl))
theorem tw_34 : Cond.fieldLink RX4 21 "PartedWebs$Web" "weights" "[I" ∈ aw := aw_t (List.mem_append_left _ (List.mem_of_getElem? (i := 34) rfl)) rfl
theorem tw_35 : Cond.lays "PartedWebs$Web" "PartedWebs$Web" "places" "I" ∈ aw := aw_t (List.mem_append_left _ (List.mem_of_getElem? (i := 35) rfl)) rfl
theorem tw_36 : Cond.lays "PartedWebs$Web" "PartedWebs$Web" "start" "I" ∈ aw := aw_t (List.mem_append_left _ (List.mem_of_getElem? (i := 37) rfl)) rfl
theorem tw_37 : Cond.lays "PartedWebs$Web" "PartedWebs$Web" "fairPlaces" "I" ∈ aw := aw_t (List.mem_append_left _ (List.mem_of_getElem? (i := 39) rfl)) rfl
theorem tw_38 : Cond.laysFinal "PartedWebs$Web" "PartedWebs$Web" "weights" "[I" ∈ aw := aw_t (List.mem_append_left _ (List.mem_of_getElem? (i := 41) rfl)) rfl
theorem tw_39 : Cond.arrayClass .int ∈ aw := aw_t (List.mem_append_left _ (List.mem_of_getElem? (i := 44) rfl)) rfl
theorem tw_40 : Cond.classLink RX5 23 RX0 ∈ aw := aw_t (List.mem_append_left _ (List.mem_of_getElem? (i := 45) rfl)) rfl
theorem tw_41 : Cond.instantiable RX0 2 ∈ aw := aw_t (List.mem_append_left _ (List.mem_of_getElem? (i := 46) rfl)) rfl
theorem tw_42 : Cond.methodLink RX5 25 yX0_init ∈ aw := aw_t (List.mem_append_left _ (List.mem_of_getElem? (i := 47) rfl)) rfl
theorem tw_43 : Cond.instanceMethod yX0_init ∈ aw := aw_t (List.mem_append_left _ (List.mem_of_getElem? (i := 48) rfl)) rfl
theorem tw_44 : Cond.code yX0_init cX0_init 2 none ∈ aw := aw_t (List.mem_append_left _ (List.mem_of_getElem? (i := 49) rfl)) rfl
theorem tw_45 : Cond.methodLink RX0 3 objectInit ∈ aw := aw_t (List.mem_append_left _ (List.mem_of_getElem? (i := 50) rfl)) rfl
theorem tw_46 : Cond.classLink RX0 9 RX4 ∈ aw := aw_t (List.mem_append_left _ (List.mem_of_getElem? (i := 51) rfl)) rfl
theorem tw_47 : Cond.arrayOver (.object "PartedWebs$Web") ∈ lw_tbl := List.mem_append_right _ (List.mem_append_left _ (List.mem_of_getElem? (i := 52) rfl))
theorem tw_48 : Cond.methodLink RX0 17 yX4_init ∈ aw := aw_t (List.mem_append_left _ (List.mem_of_getElem? (i := 53) rfl)) rfl
theorem tw_49 : Cond.fieldLink RX0 11 "PartedWebs$History" "states" "[LPartedWebs$Web;" ∈ aw := aw_t (List.mem_append_left _ (List.mem_of_getElem? (i := 54) rfl)) rfl
theorem tw_50 : Cond.fieldLink RX0 18 "PartedWebs$History" "size" "I" ∈ aw := aw_t (List.mem_append_left _ (List.mem_of_getElem? (i := 55) rfl)) rfl
theorem tw_51 : Cond.fieldLinkNest RX5 147 "PartedWebs$History" "size" "I" RX5 ∈ lw_tbl := List.mem_append_right _ (List.mem_append_left _ (List.mem_of_getElem? (i := 56) rfl))
theorem tw_52 : Cond.laysFinal "PartedWebs$History" "PartedWebs$History" "states" "[LPartedWebs$Web;" ∈ aw := aw_t (List.mem_append_left _ (List.mem_of_getElem? (i := 57) rfl)) rfl
theorem tw_53 : Cond.lays "PartedWebs$History" "PartedWebs$History" "size" "I" ∈ aw := aw_t (List.mem_append_left _ (List.mem_of_getElem? (i := 59) rfl)) rfl
theorem tw_54 : Cond.classLink RX5 30 RX3 ∈ aw := aw_t (List.mem_append_left _ (List.mem_of_getElem? (i := 62) rfl)) rfl
theorem tw_55 : Cond.instantiable RX3 9 ∈ aw := aw_t (List.mem_append_left _ (List.mem_of_getElem? (i := 63) rfl)) rfl
theorem tw_56 : Cond.methodLink RX5 32 yX3_init ∈ aw := aw_t (List.mem_append_left _ (List.mem_of_getElem? (i := 64) rfl)) rfl
theorem tw_57 : Cond.instanceMethod yX3_init ∈ aw := aw_t (List.mem_append_left _ (List.mem_of_getElem? (i := 65) rfl)) rfl
theorem tw_58 : Cond.code yX3_init cX3_init 1 none ∈ aw := aw_t (List.mem_append_left _ (List.mem_of_getElem? (i := 66) rfl)) rfl
theorem tw_59 : Cond.methodLink RX3 3 objectInit ∈ aw := aw_t (List.mem_append_left _ (List.mem_of_getElem? (i := 67) rfl)) rfl
theorem tw_60 : Cond.fieldLink RX3 9 "PartedWebs$TieText" "signs" "[C" ∈ aw := aw_t (List.mem_append_left _ (List.mem_of_getElem? (i := 68) rfl)) rfl
theorem tw_61 : Cond.fieldLink RX3 15 "PartedWebs$TieText" "length" "I" ∈ aw := aw_t (List.mem_append_left _ (List.mem_of_getElem? (i := 69) rfl)) rfl
theorem tw_62 : Cond.fieldLinkNest RX5 140 "PartedWebs$TieText" "length" "I" RX5 ∈ lw_tbl := List.mem_append_right _ (List.mem_append_left _ (List.mem_of_getElem? (i := 70) rfl))
theorem tw_63 : Cond.fieldLink RX3 19 "PartedWebs$TieText" "lowers" "[I" ∈ aw := aw_t (List.mem_append_left _ (List.mem_of_getElem? (i := 71) rfl)) rfl
theorem tw_64 : Cond.fieldLink RX3 23 "PartedWebs$TieText" "highers" "[I" ∈ aw := aw_t (List.mem_append_left _ (List.mem_of_getElem? (i := 72) rfl)) rfl
theorem tw_65 : Cond.fieldLink RX3 26 "PartedWebs$TieText" "weights" "[I" ∈ aw := aw_t (List.mem_append_left _ (List.mem_of_getElem? (i := 73) rfl)) rfl
theorem tw_66 : Cond.fieldLink RX3 29 "PartedWebs$TieText" "ties" "I" ∈ aw := aw_t (List.mem_append_left _ (List.mem_of_getElem? (i := 74) rfl)) rfl
theorem tw_67 : Cond.fieldLinkNest RX5 108 "PartedWebs$TieText" "ties" "I" RX5 ∈ lw_tbl := List.mem_append_right _ (List.mem_append_left _ (List.mem_of_getElem? (i := 75) rfl))
theorem tw_68 : Cond.fieldLink RX3 32 "PartedWebs$TieText" "due" "I" ∈ aw := aw_t (List.mem_append_left _ (List.mem_of_getElem? (i := 76) rfl)) rfl
theorem tw_69 : Cond.fieldLink RX3 54 "PartedWebs$TieText" "lower" "I" ∈ aw := aw_t (List.mem_append_left _ (List.mem_of_getElem? (i := 77) rfl)) rfl
theorem tw_70 : Cond.fieldLink RX3 57 "PartedWebs$TieText" "higher" "I" ∈ aw := aw_t (List.mem_append_left _ (List.mem_of_getElem? (i := 78) rfl)) rfl
theorem tw_71 : Cond.laysFinal "PartedWebs$TieText" "PartedWebs$TieText" "signs" "[C" ∈ aw := aw_t (List.mem_append_left _ (List.mem_of_getElem? (i := 79) rfl)) rfl
theorem tw_72 : Cond.lays "PartedWebs$TieText" "PartedWebs$TieText" "length" "I" ∈ aw := aw_t (List.mem_append_left _ (List.mem_of_getElem? (i := 81) rfl)) rfl
theorem tw_73 : Cond.laysFinal "PartedWebs$TieText" "PartedWebs$TieText" "lowers" "[I" ∈ aw := aw_t (List.mem_append_left _ (List.mem_of_getElem? (i := 83) rfl)) rfl
theorem tw_74 : Cond.laysFinal "PartedWebs$TieText" "PartedWebs$TieText" "highers" "[I" ∈ aw := aw_t (List.mem_append_left _ (List.mem_of_getElem? (i := 85) rfl)) rfl
theorem tw_75 : Cond.laysFinal "PartedWebs$TieText" "PartedWebs$TieText" "weights" "[I" ∈ aw := aw_t (List.mem_append_left _ (List.mem_of_getElem? (i := 87) rfl)) rfl
theorem tw_76 : Cond.lays "PartedWebs$TieText" "PartedWebs$TieText" "ties" "I" ∈ aw := aw_t (List.mem_append_left _ (List.mem_of_getElem? (i := 89) rfl)) rfl
theorem tw_77 : Cond.lays "PartedWebs$TieText" "PartedWebs$TieText" "due" "I" ∈ aw := aw_t (List.mem_append_left _ (List.mem_of_getElem? (i := 91) rfl)) rfl
theorem tw_78 : Cond.lays "PartedWebs$TieText" "PartedWebs$TieText" "lower" "I" ∈ aw := aw_t (List.mem_append_left _ (List.mem_of_getElem? (i := 93) rfl)) rfl
theorem tw_79 : Cond.lays "PartedWebs$TieText" "PartedWebs$TieText" "higher" "I" ∈ aw := aw_t (List.mem_append_left _ (List.mem_of_getElem? (i := 95) rfl)) rfl
theorem tw_80 : Cond.arrayClass .char ∈ aw := aw_t (List.mem_append_left _ (List.mem_of_getElem? (i := 98) rfl)) rfl
theorem tw_81 : Cond.classLink RX5 37 RX2 ∈ aw := aw_t (List.mem_append_left _ (List.mem_of_getElem? (i := 99) rfl)) rfl
theorem tw_82 : Cond.instantiable RX2 8 ∈ aw := aw_t (List.mem_append_left _ (List.mem_of_getElem? (i := 100) rfl)) rfl
theorem tw_83 : Cond.methodLink RX5 39 yX2_init ∈ aw := aw_t (List.mem_append_left _ (List.mem_of_getElem? (i := 101) rfl)) rfl
theorem tw_84 : Cond.instanceMethod yX2_init ∈ aw := aw_t (List.mem_append_left _ (List.mem_of_getElem? (i := 102) rfl)) rfl
theorem tw_85 : Cond.code yX2_init cX2_init 1 none ∈ aw := aw_t (List.mem_append_left _ (List.mem_of_getElem? (i := 103) rfl)) rfl
theorem tw_86 : Cond.methodLink RX2 3 objectInit ∈ aw := aw_t (List.mem_append_left _ (List.mem_of_getElem? (i := 104) rfl)) rfl
theorem tw_87 : Cond.fieldLink RX2 9 "PartedWebs$Phases" "places" "I" ∈ aw := aw_t (List.mem_append_left _ (List.mem_of_getElem? (i := 105) rfl)) rfl
theorem tw_88 : Cond.fieldLink RX2 15 "PartedWebs$Phases" "members" "[I" ∈ aw := aw_t (List.mem_append_left _ (List.mem_of_getElem? (i := 106) rfl)) rfl
theorem tw_89 : Cond.fieldLink RX2 19 "PartedWebs$Phases" "ties" "[I" ∈ aw := aw_t (List.mem_append_left _ (List.mem_of_getElem? (i := 107) rfl)) rfl
theorem tw_90 : Cond.fieldLink RX2 22 "PartedWebs$Phases" "nears" "[I" ∈ aw := aw_t (List.mem_append_left _ (List.mem_of_getElem? (i := 108) rfl)) rfl
theorem tw_91 : Cond.fieldLink RX2 25 "PartedWebs$Phases" "names" "[I" ∈ aw := aw_t (List.mem_append_left _ (List.mem_of_getElem? (i := 109) rfl)) rfl
theorem tw_92 : Cond.fieldLink RX2 28 "PartedWebs$Phases" "nearnesses" "[I" ∈ aw := aw_t (List.mem_append_left _ (List.mem_of_getElem? (i := 110) rfl)) rfl
theorem tw_93 : Cond.fieldLink RX2 31 "PartedWebs$Phases" "partings" "[I" ∈ aw := aw_t (List.mem_append_left _ (List.mem_of_getElem? (i := 111) rfl)) rfl
theorem tw_94 : Cond.fieldLink RX2 34 "PartedWebs$Phases" "unions" "[I" ∈ aw := aw_t (List.mem_append_left _ (List.mem_of_getElem? (i := 112) rfl)) rfl
theorem tw_95 : Cond.lays "PartedWebs$Phases" "PartedWebs$Phases" "places" "I" ∈ aw := aw_t (List.mem_append_left _ (List.mem_of_getElem? (i := 113) rfl)) rfl
theorem tw_96 : Cond.laysFinal "PartedWebs$Phases" "PartedWebs$Phases" "members" "[I" ∈ aw := aw_t (List.mem_append_left _ (List.mem_of_getElem? (i := 115) rfl)) rfl
theorem tw_97 : Cond.laysFinal "PartedWebs$Phases" "PartedWebs$Phases" "ties" "[I" ∈ aw := aw_t (List.mem_append_left _ (List.mem_of_getElem? (i := 117) rfl)) rfl
theorem tw_98 : Cond.laysFinal "PartedWebs$Phases" "PartedWebs$Phases" "nears" "[I" ∈ aw := aw_t (List.mem_append_left _ (List.mem_of_getElem? (i := 119) rfl)) rfl
theorem tw_99 : Cond.laysFinal "PartedWebs$Phases" "PartedWebs$Phases" "names" "[I" ∈ aw := aw_t (List.mem_append_left _ (List.mem_of_getElem? (i := 121) rfl)) rfl
theorem tw_100 : Cond.laysFinal "PartedWebs$Phases" "PartedWebs$Phases" "nearnesses" "[I" ∈ aw := aw_t (List.mem_append_left _ (List.mem_of_getElem? (i := 123) rfl)) rfl
theorem tw_101 : Cond.laysFinal "PartedWebs$Phases" "PartedWebs$Phases" "partings" "[I" ∈ aw := aw_t (List.mem_append_left _ (List.mem_of_getElem? (i := 125) rfl)) rfl
theorem tw_102 : Cond.laysFinal "PartedWebs$Phases" "PartedWebs$Phases" "unions" "[I" ∈ aw := aw_t (List.mem_append_left _ (List.mem_of_getElem? (i := 127) rfl)) rfl
theorem tw_103 : Cond.classLink RX5 44 RX1 ∈ aw := aw_t (List.mem_append_left _ (List.mem_of_getElem? (i := 130) rfl)) rfl
theorem tw_104 : Cond.instantiable RX1 9 ∈ aw := aw_t (List.mem_append_left _ (List.mem_of_getElem? (i := 131) rfl)) rfl
theorem tw_105 : Cond.methodLink RX5 46 yX1_init ∈ aw := aw_t (List.mem_append_left _ (List.mem_of_getElem? (i := 132) rfl)) rfl
theorem tw_106 : Cond.instanceMethod yX1_init ∈ aw := aw_t (List.mem_append_left _ (List.mem_of_getElem? (i := 133) rfl)) rfl
theorem tw_107 : Cond.code yX1_init cX1_init 1 none ∈ aw := aw_t (List.mem_append_left _ (List.mem_of_getElem? (i := 134) rfl)) rfl
theorem tw_108 : Cond.methodLink RX1 3 objectInit ∈ aw := aw_t (List.mem_append_left _ (List.mem_of_getElem? (i := 135) rfl)) rfl
theorem tw_109 : Cond.fieldLink RX1 9 "PartedWebs$Partings" "places" "I" ∈ aw := aw_t (List.mem_append_left _ (List.mem_of_getElem? (i := 136) rfl)) rfl
theorem tw_110 : Cond.fieldLink RX1 15 "PartedWebs$Partings" "end" "I" ∈ aw := aw_t (List.mem_append_left _ (List.mem_of_getElem? (i := 137) rfl)) rfl
theorem tw_111 : Cond.fieldLink RX1 18 "PartedWebs$Partings" "weights" "[I" ∈ aw := aw_t (List.mem_append_left _ (List.mem_of_getElem? (i := 138) rfl)) rfl
theorem tw_112 : Cond.fieldLink RX1 22 "PartedWebs$Partings" "pulls" "[I" ∈ aw := aw_t (List.mem_append_left _ (List.mem_of_getElem? (i := 139) rfl)) rfl
theorem tw_113 : Cond.fieldLink RX1 25 "PartedWebs$Partings" "leastWeight" "I" ∈ aw := aw_t (List.mem_append_left _ (List.mem_of_getElem? (i := 140) rfl)) rfl
theorem tw_114 : Cond.fieldLink RX1 28 "PartedWebs$Partings" "leastCount" "I" ∈ aw := aw_t (List.mem_append_left _ (List.mem_of_getElem? (i := 141) rfl)) rfl
theorem tw_115 : Cond.fieldLinkNest RX5 207 "PartedWebs$Partings" "leastCount" "I" RX5 ∈ lw_tbl := List.mem_append_right _ (List.mem_append_left _ (List.mem_of_getElem? (i := 142) rfl))
theorem tw_116 : Cond.fieldLink RX1 31 "PartedWebs$Partings" "leastSets" "[I" ∈ aw := aw_t (List.mem_append_left _ (List.mem_of_getElem? (i := 143) rfl)) rfl
theorem tw_117 : Cond.fieldLink RX1 34 "PartedWebs$Partings" "tightCount" "I" ∈ aw := aw_t (List.mem_append_left _ (List.mem_of_getElem? (i := 144) rfl)) rfl
theorem tw_118 : Cond.fieldLinkNest RX5 219 "PartedWebs$Partings" "tightCount" "I" RX5 ∈ lw_tbl := List.mem_append_right _ (List.mem_append_left _ (List.mem_of_getElem? (i := 145) rfl))
theorem tw_119 : Cond.fieldLink RX1 37 "PartedWebs$Partings" "tightPairs" "[I" ∈ aw := aw_t (List.mem_append_left _ (List.mem_of_getElem? (i := 146) rfl)) rfl
theorem tw_120 : Cond.lays "PartedWebs$Partings" "PartedWebs$Partings" "places" "I" ∈ aw := aw_t (List.mem_append_left _ (List.mem_of_getElem? (i := 147) rfl)) rfl
theorem tw_121 : Cond.lays "PartedWebs$Partings" "PartedWebs$Partings" "end" "I" ∈ aw := aw_t (List.mem_append_left _ (List.mem_of_getElem? (i := 149) rfl)) rfl
theorem tw_122 : Cond.laysFinal "PartedWebs$Partings" "PartedWebs$Partings" "weights" "[I" ∈ aw := aw_t (List.mem_append_left _ (List.mem_of_getElem? (i := 151) rfl)) rfl
theorem tw_123 : Cond.laysFinal "PartedWebs$Partings" "PartedWebs$Partings" "pulls" "[I" ∈ aw := aw_t (List.mem_append_left _ (List.mem_of_getElem? (i := 153) rfl)) rfl
theorem tw_124 : Cond.lays "PartedWebs$Partings" "PartedWebs$Partings" "leastWeight" "I" ∈ aw := aw_t (List.mem_append_left _ (List.mem_of_getElem? (i := 155) rfl)) rfl
theorem tw_125 : Cond.lays "PartedWebs$Partings" "PartedWebs$Partings" "leastCount" "I" ∈ aw := aw_t (List.mem_append_left _ (List.mem_of_getElem? (i := 157) rfl)) rfl
theorem tw_126 : Cond.laysFinal "PartedWebs$Partings" "PartedWebs$Partings" "leastSets" "[I" ∈ aw := aw_t (List.mem_append_left _ (List.mem_of_getElem? (i := 159) rfl)) rfl
theorem tw_127 : Cond.lays "PartedWebs$Partings" "PartedWebs$Partings" "tightCount" "I" ∈ aw := aw_t (List.mem_append_left _ (List.mem_of_getElem? (i := 161) rfl)) rfl
theorem tw_128 : Cond.laysFinal "PartedWebs$Partings" "PartedWebs$Partings" "tightPairs" "[I" ∈ aw := aw_t (List.mem_append_left _ (List.mem_of_getElem? (i := 163) rfl)) rfl
theorem tw_129 : Cond.fieldLink RX5 12 "PartedWebs" "web" "LPartedWebs$Web;" ∈ aw := aw_t (List.mem_append_left _ (List.mem_of_getElem? (i := 166) rfl)) rfl
theorem tw_130 : Cond.fieldLink RX5 16 "PartedWebs" "snapshot" "LPartedWebs$Web;" ∈ aw := aw_t (List.mem_append_left _ (List.mem_of_getElem? (i := 167) rfl)) rfl
theorem tw_131 : Cond.fieldLink RX5 19 "PartedWebs" "kept" "Z" ∈ aw := aw_t (List.mem_append_left _ (List.mem_of_getElem? (i := 168) rfl)) rfl
theorem tw_132 : Cond.fieldLink RX5 26 "PartedWebs" "history" "LPartedWebs$History;" ∈ aw := aw_t (List.mem_append_left _ (List.mem_of_getElem? (i := 169) rfl)) rfl
theorem tw_133 : Cond.fieldLink RX5 33 "PartedWebs" "text" "LPartedWebs$TieText;" ∈ aw := aw_t (List.mem_append_left _ (List.mem_of_getElem? (i := 170) rfl)) rfl
theorem tw_134 : Cond.fieldLink RX5 40 "PartedWebs" "phases" "LPartedWebs$Phases;" ∈ aw := aw_t (List.mem_append_left _ (List.mem_of_getElem? (i := 171) rfl)) rfl
theorem tw_135 : Cond.fieldLink RX5 47 "PartedWebs" "partings" "LPartedWebs$Partings;" ∈ aw := aw_t (List.mem_append_left _ (List.mem_of_getElem? (i := 172) rfl)) rfl
theorem tw_136 : Cond.laysFinal "PartedWebs" "PartedWebs" "web" "LPartedWebs$Web;" ∈ aw := aw_t (List.mem_append_left _ (List.mem_of_getElem? (i := 173) rfl)) rfl
theorem tw_137 : Cond.laysFinal "PartedWebs" "PartedWebs" "snapshot" "LPartedWebs$Web;" ∈ aw := aw_t (List.mem_append_left _ (List.mem_of_getElem? (i := 175) rfl)) rfl
theorem tw_138 : Cond.lays "PartedWebs" "PartedWebs" "kept" "Z" ∈ aw := aw_t (List.mem_append_left _ (List.mem_of_getElem? (i := 177) rfl)) rfl
theorem tw_139 : Cond.laysFinal "PartedWebs" "PartedWebs" "history" "LPartedWebs$History;" ∈ aw := aw_t (List.mem_append_left _ (List.mem_of_getElem? (i := 179) rfl)) rfl
theorem tw_140 : Cond.laysFinal "PartedWebs" "PartedWebs" "text" "LPartedWebs$TieText;" ∈ aw := aw_t (List.mem_append_left _ (List.mem_of_getElem? (i := 181) rfl)) rfl
theorem tw_141 : Cond.laysFinal "PartedWebs" "PartedWebs" "phases" "LPartedWebs$Phases;" ∈ aw := aw_t (List.mem_append_left _ (List.mem_of_getElem? (i := 183) rfl)) rfl
theorem tw_142 : Cond.laysFinal "PartedWebs" "PartedWebs" "partings" "LPartedWebs$Partings;" ∈ aw := aw_t (List.mem_append_left _ (List.mem_of_getElem? (i := 185) rfl)) rfl
theorem tw_143 : Cond.methodLink RL 13 yX5_grow ∈ aw := aw_t (List.mem_append_left _ (List.mem_of_getElem? (i := 188) rfl)) rfl
theorem tw_144 : Cond.instanceMethod yX5_grow ∈ aw := aw_t (List.mem_append_left _ (List.mem_of_getElem? (i := 189) rfl)) rfl
theorem tw_145 : Cond.selects RX5 yX5_grow yX5_grow ∈ aw := aw_t (List.mem_append_left _ (List.mem_of_getElem? (i := 190) rfl)) rfl
theorem tw_146 : Cond.code yX5_grow cX5_grow 1 (some .int) ∈ aw := aw_t (List.mem_append_left _ (List.mem_of_getElem? (i := 191) rfl)) rfl
theorem tw_147 : Cond.methodLink RX5 55 yX0_remember ∈ aw := aw_t (List.mem_append_left _ (List.mem_of_getElem? (i := 192) rfl)) rfl
theorem tw_148 : Cond.instanceMethod yX0_remember ∈ aw := aw_t (List.mem_append_left _ (List.mem_of_getElem? (i := 193) rfl)) rfl
theorem tw_149 : Cond.selects RX0 yX0_remember yX0_remember ∈ aw := aw_t (List.mem_append_left _ (List.mem_of_getElem? (i := 194) rfl)) rfl
theorem tw_150 : Cond.code yX0_remember cX0_remember 2 none ∈ aw := aw_t (List.mem_append_left _ (List.mem_of_getElem? (i := 195) rfl)) rfl
theorem tw_151 : Cond.methodLink RX0 22 yX0_dropOldest ∈ aw := aw_t (List.mem_append_left _ (List.mem_of_getElem? (i := 196) rfl)) rfl
theorem tw_153 : Cond.instanceMethod yX0_dropOldest ∈ aw := aw_t (List.mem_append_left _ (List.mem_of_getElem? (i := 198) rfl)) rfl
theorem tw_154 : Cond.code yX0_dropOldest cX0_dropOldest 3 none ∈ aw := aw_t (List.mem_append_left _ (List.mem_of_getElem? (i := 199) rfl)) rfl
theorem tw_155 : Cond.methodLink RX0 25 yX4_copyFrom ∈ aw := aw_t (List.mem_append_left _ (List.mem_of_getElem? (i := 200) rfl)) rfl
theorem tw_156 : Cond.instanceMethod yX4_copyFrom ∈ aw := aw_t (List.mem_append_left _ (List.mem_of_getElem? (i := 201) rfl)) rfl
theorem tw_157 : Cond.selects RX4 yX4_copyFrom yX4_copyFrom ∈ aw := aw_t (List.mem_append_left _ (List.mem_of_getElem? (i := 202) rfl)) rfl
theorem tw_158 : Cond.code yX4_copyFrom cX4_copyFrom 2 none ∈ aw := aw_t (List.mem_append_left _ (List.mem_of_getElem? (i := 203) rfl)) rfl
theorem tw_159 : Cond.methodLink RX4 25 arraycopyName ∈ aw := aw_t (List.mem_append_left _ (List.mem_of_getElem? (i := 204) rfl)) rfl
theorem tw_160 : Cond.static arraycopyName ∈ aw := aw_t (List.mem_append_left _ (List.mem_of_getElem? (i := 205) rfl)) rfl
theorem tw_161 : Cond.native arraycopyName ∈ aw := aw_t (List.mem_append_left _ (List.mem_of_getElem? (i := 206) rfl)) rfl
theorem tw_162 : Cond.methodLink RX5 59 yX4_addPlace ∈ aw := aw_t (List.mem_append_left _ (List.mem_of_getElem? (i := 207) rfl)) rfl
theorem tw_163 : Cond.instanceMethod yX4_addPlace ∈ aw := aw_t (List.mem_append_left _ (List.mem_of_getElem? (i := 208) rfl)) rfl
theorem tw_164 : Cond.selects RX4 yX4_addPlace yX4_addPlace ∈ aw := aw_t (List.mem_append_left _ (List.mem_of_getElem? (i := 209) rfl)) rfl
theorem tw_165 : Cond.code yX4_addPlace cX4_addPlace 2 none ∈ aw := aw_t (List.mem_append_left _ (List.mem_of_getElem? (i := 210) rfl)) rfl
theorem tw_166 : Cond.methodLink RX4 35 yX4_bind ∈ aw := aw_t (List.mem_append_left _ (List.mem_of_getElem? (i := 211) rfl)) rfl
theorem tw_167 : Cond.instanceMethod yX4_bind ∈ aw := aw_t (List.mem_append_left _ (List.mem_of_getElem? (i := 212) rfl)) rfl
theorem tw_168 : Cond.selects RX4 yX4_bind yX4_bind ∈ aw := aw_t (List.mem_append_left _ (List.mem_of_getElem? (i := 213) rfl)) rfl
theorem tw_169 : Cond.code yX4_bind cX4_bind 4 none ∈ aw := aw_t (List.mem_append_left _ (List.mem_of_getElem? (i := 214) rfl)) rfl
theorem tw_170 : Cond.methodLink RX4 31 yX4_has ∈ aw := aw_t (List.mem_append_left _ (List.mem_of_getElem? (i := 215) rfl)) rfl
theorem tw_171 : Cond.instanceMethod yX4_has ∈ aw := aw_t (List.mem_append_left _ (List.mem_of_getElem? (i := 216) rfl)) rfl
theorem tw_172 : Cond.selects RX4 yX4_has yX4_has ∈ aw := aw_t (List.mem_append_left _ (List.mem_of_getElem? (i := 217) rfl)) rfl
theorem tw_173 : Cond.code yX4_has cX4_has 2 (some .boolean) ∈ aw := aw_t (List.mem_append_left _ (List.mem_of_getElem? (i := 218) rfl)) rfl
theorem tw_174 : Cond.methodLink RL 18 yX5_remove ∈ aw := aw_t (List.mem_append_left _ (List.mem_of_getElem? (i := 219) rfl)) rfl
theorem tw_175 : Cond.instanceMethod yX5_remove ∈ aw := aw_t (List.mem_append_left _ (List.mem_of_getElem? (i := 220) rfl)) rfl
theorem tw_176 : Cond.selects RX5 yX5_remove yX5_remove ∈ aw := aw_t (List.mem_append_left _ (List.mem_of_getElem? (i := 221) rfl)) rfl
theorem tw_177 : Cond.code yX5_remove cX5_remove 2 (some .int) ∈ aw := aw_t (List.mem_append_left _ (List.mem_of_getElem? (i := 222) rfl)) rfl
theorem tw_178 : Cond.methodLink RX5 62 yX4_has ∈ aw := aw_t (List.mem_append_left _ (List.mem_of_getElem? (i := 223) rfl)) rfl
theorem tw_179 : Cond.methodLink RX5 66 yX4_dropPlace ∈ aw := aw_t (List.mem_append_left _ (List.mem_of_getElem? (i := 224) rfl)) rfl
theorem tw_180 : Cond.instanceMethod yX4_dropPlace ∈ aw := aw_t (List.mem_append_left _ (List.mem_of_getElem? (i := 225) rfl)) rfl
theorem tw_181 : Cond.selects RX4 yX4_dropPlace yX4_dropPlace ∈ aw := aw_t (List.mem_append_left _ (List.mem_of_getElem? (i := 226) rfl)) rfl
theorem tw_182 : Cond.code yX4_dropPlace cX4_dropPlace 6 none ∈ aw := aw_t (List.mem_append_left _ (List.mem_of_getElem? (i := 227) rfl)) rfl
theorem tw_183 : Cond.methodLink RX4 39 yX4_tieOf ∈ aw := aw_t (List.mem_append_left _ (List.mem_of_getElem? (i := 228) rfl)) rfl
theorem tw_184 : Cond.instanceMethod yX4_tieOf ∈ aw := aw_t (List.mem_append_left _ (List.mem_of_getElem? (i := 229) rfl)) rfl
theorem tw_185 : Cond.selects RX4 yX4_tieOf yX4_tieOf ∈ aw := aw_t (List.mem_append_left _ (List.mem_of_getElem? (i := 230) rfl)) rfl
theorem tw_186 : Cond.code yX4_tieOf cX4_tieOf 3 (some .int) ∈ aw := aw_t (List.mem_append_left _ (List.mem_of_getElem? (i := 231) rfl)) rfl
theorem tw_187 : Cond.methodLink RL 23 yX5_join ∈ aw := aw_t (List.mem_append_left _ (List.mem_of_getElem? (i := 232) rfl)) rfl
theorem tw_188 : Cond.instanceMethod yX5_join ∈ aw := aw_t (List.mem_append_left _ (List.mem_of_getElem? (i := 233) rfl)) rfl
theorem tw_189 : Cond.selects RX5 yX5_join yX5_join ∈ aw := aw_t (List.mem_append_left _ (List.mem_of_getElem? (i := 234) rfl)) rfl
theorem tw_190 : Cond.code yX5_join cX5_join 4 (some .int) ∈ aw := aw_t (List.mem_append_left _ (List.mem_of_getElem? (i := 235) rfl)) rfl
theorem tw_191 : Cond.methodLink RX5 70 yX5_pairError ∈ aw := aw_t (List.mem_append_left _ (List.mem_of_getElem? (i := 236) rfl)) rfl
theorem tw_193 : Cond.instanceMethod yX5_pairError ∈ aw := aw_t (List.mem_append_left _ (List.mem_of_getElem? (i := 238) rfl)) rfl
theorem tw_194 : Cond.code yX5_pairError cX5_pairError 3 (some .int) ∈ aw := aw_t (List.mem_append_left _ (List.mem_of_getElem? (i := 239) rfl)) rfl
theorem tw_195 : Cond.methodLink RX5 74 Lib.Math.min.name ∈ aw := aw_t (List.mem_append_right _ (List.mem_append_left _ (List.mem_of_getElem? (i := 0) rfl))) rfl
theorem tw_196 : Cond.static Lib.Math.min.name ∈ aw := aw_t (List.mem_append_right _ (List.mem_append_left _ (List.mem_of_getElem? (i := 1) rfl))) rfl
theorem tw_197 : Cond.code Lib.Math.min.name Lib.Math.min.code 2 (some .int) ∈ aw := aw_t (List.mem_append_right _ (List.mem_append_left _ (List.mem_of_getElem? (i := 2) rfl))) rfl
theorem tw_198 : Cond.methodLink RX5 79 Lib.Math.max.name ∈ aw := aw_t (List.mem_append_right _ (List.mem_append_left _ (List.mem_of_getElem? (i := 3) rfl))) rfl
theorem tw_199 : Cond.static Lib.Math.max.name ∈ aw := aw_t (List.mem_append_right _ (List.mem_append_left _ (List.mem_of_getElem? (i := 4) rfl))) rfl
theorem tw_200 : Cond.code Lib.Math.max.name Lib.Math.max.code 2 (some .int) ∈ aw := aw_t (List.mem_append_right _ (List.mem_append_left _ (List.mem_of_getElem? (i := 5) rfl))) rfl
theorem tw_201 : Cond.methodLink RX5 82 yX4_mergePlaces ∈ aw := aw_t (List.mem_append_right _ (List.mem_append_left _ (List.mem_of_getElem? (i := 6) rfl))) rfl
theorem tw_202 : Cond.instanceMethod yX4_mergePlaces ∈ aw := aw_t (List.mem_append_right _ (List.mem_append_left _ (List.mem_of_getElem? (i := 7) rfl))) rfl
theorem tw_203 : Cond.selects RX4 yX4_mergePlaces yX4_mergePlaces ∈ aw := aw_t (List.mem_append_right _ (List.mem_append_left _ (List.mem_of_getElem? (i := 8) rfl))) rfl
theorem tw_204 : Cond.code yX4_mergePlaces cX4_mergePlaces 5 none ∈ aw := aw_t (List.mem_append_right _ (List.mem_append_left _ (List.mem_of_getElem? (i := 9) rfl))) rfl
theorem tw_205 : Cond.methodLink RX4 43 Lib.Math.min.name ∈ aw := aw_t (List.mem_append_right _ (List.mem_append_left _ (List.mem_of_getElem? (i := 10) rfl))) rfl
theorem tw_206 : Cond.methodLink RX4 48 yX4_dropPlace ∈ aw := aw_t (List.mem_append_right _ (List.mem_append_left _ (List.mem_of_getElem? (i := 11) rfl))) rfl
theorem tw_207 : Cond.methodLink RL 28 yX5_tie ∈ aw := aw_t (List.mem_append_right _ (List.mem_append_left _ (List.mem_of_getElem? (i := 12) rfl))) rfl
theorem tw_208 : Cond.instanceMethod yX5_tie ∈ aw := aw_t (List.mem_append_right _ (List.mem_append_left _ (List.mem_of_getElem? (i := 13) rfl))) rfl
theorem tw_209 : Cond.selects RX5 yX5_tie yX5_tie ∈ aw := aw_t (List.mem_append_right _ (List.mem_append_left _ (List.mem_of_getElem? (i := 14) rfl))) rfl
theorem tw_210 : Cond.code yX5_tie cX5_tie 6 (some .int) ∈ aw := aw_t (List.mem_append_right _ (List.mem_append_left _ (List.mem_of_getElem? (i := 15) rfl))) rfl
theorem tw_211 : Cond.methodLink RX5 86 yX5_tieError ∈ aw := aw_t (List.mem_append_right _ (List.mem_append_left _ (List.mem_of_getElem? (i := 16) rfl))) rfl
theorem tw_213 : Cond.instanceMethod yX5_tieError ∈ aw := aw_t (List.mem_append_right _ (List.mem_append_left _ (List.mem_of_getElem? (i := 18) rfl))) rfl
theorem tw_214 : Cond.code yX5_tieError cX5_tieError 5 (some .int) ∈ aw := aw_t (List.mem_append_right _ (List.mem_append_left _ (List.mem_of_getElem? (i := 19) rfl))) rfl
theorem tw_215 : Cond.methodLink RX5 90 yX4_tieOf ∈ aw := aw_t (List.mem_append_right _ (List.mem_append_left _ (List.mem_of_getElem? (i := 20) rfl))) rfl
theorem tw_216 : Cond.methodLink RX5 93 yX4_bind ∈ aw := aw_t (List.mem_append_right _ (List.mem_append_left _ (List.mem_of_getElem? (i := 21) rfl))) rfl
theorem tw_217 : Cond.methodLink RL 33 yX5_tieAll ∈ aw := aw_t (List.mem_append_right _ (List.mem_append_left _ (List.mem_of_getElem? (i := 22) rfl))) rfl
theorem tw_218 : Cond.instanceMethod yX5_tieAll ∈ aw := aw_t (List.mem_append_right _ (List.mem_append_left _ (List.mem_of_getElem? (i := 23) rfl))) rfl
theorem tw_219 : Cond.selects RX5 yX5_tieAll yX5_tieAll ∈ aw := aw_t (List.mem_append_right _ (List.mem_append_left _ (List.mem_of_getElem? (i := 24) rfl))) rfl
theorem tw_220 : Cond.code yX5_tieAll cX5_tieAll 2 (some .int) ∈ aw := aw_t (List.mem_append_right _ (List.mem_append_left _ (List.mem_of_getElem? (i := 25) rfl))) rfl
theorem tw_221 : Cond.methodLink RX5 97 yX3_read ∈ aw := aw_t (List.mem_append_right _ (List.mem_append_left _ (List.mem_of_getElem? (i := 26) rfl))) rfl
theorem tw_222 : Cond.instanceMethod yX3_read ∈ aw := aw_t (List.mem_append_right _ (List.mem_append_left _ (List.mem_of_getElem? (i := 27) rfl))) rfl
theorem tw_223 : Cond.selects RX3 yX3_read yX3_read ∈ aw := aw_t (List.mem_append_right _ (List.mem_append_left _ (List.mem_of_getElem? (i := 28) rfl))) rfl
theorem tw_224 : Cond.code yX3_read cX3_read 2 (some .int) ∈ aw := aw_t (List.mem_append_right _ (List.mem_append_left _ (List.mem_of_getElem? (i := 29) rfl))) rfl
theorem tw_225 : Cond.methodLink RX3 35 yX3_takes ∈ aw := aw_t (List.mem_append_right _ (List.mem_append_left _ (List.mem_of_getElem? (i := 30) rfl))) rfl
theorem tw_227 : Cond.instanceMethod yX3_takes ∈ aw := aw_t (List.mem_append_right _ (List.mem_append_left _ (List.mem_of_getElem? (i := 32) rfl))) rfl
theorem tw_228 : Cond.code yX3_takes cX3_takes 2 (some .boolean) ∈ aw := aw_t (List.mem_append_right _ (List.mem_append_left _ (List.mem_of_getElem? (i := 33) rfl))) rfl
theorem tw_229 : Cond.methodLink RX3 39 yX3_takesFirstLetter ∈ aw := aw_t (List.mem_append_right _ (List.mem_append_left _ (List.mem_of_getElem? (i := 34) rfl))) rfl
theorem tw_231 : Cond.instanceMethod yX3_takesFirstLetter ∈ aw := aw_t (List.mem_append_right _ (List.mem_append_left _ (List.mem_of_getElem? (i := 36) rfl))) rfl
theorem tw_232 : Cond.code yX3_takesFirstLetter cX3_takesFirstLetter 2 (some .boolean) ∈ aw := aw_t (List.mem_append_right _ (List.mem_append_left _ (List.mem_of_getElem? (i := 37) rfl))) rfl
theorem tw_233 : Cond.methodLink RX3 42 yX3_takesSecondLetter ∈ aw := aw_t (List.mem_append_right _ (List.mem_append_left _ (List.mem_of_getElem? (i := 38) rfl))) rfl
theorem tw_235 : Cond.instanceMethod yX3_takesSecondLetter ∈ aw := aw_t (List.mem_append_right _ (List.mem_append_left _ (List.mem_of_getElem? (i := 40) rfl))) rfl
theorem tw_236 : Cond.code yX3_takesSecondLetter cX3_takesSecondLetter 2 (some .boolean) ∈ aw := aw_t (List.mem_append_right _ (List.mem_append_left _ (List.mem_of_getElem? (i := 41) rfl))) rfl
theorem tw_237 : Cond.methodLink RX3 45 yX3_takesFirstDigit ∈ aw := aw_t (List.mem_append_right _ (List.mem_append_left _ (List.mem_of_getElem? (i := 42) rfl))) rfl
theorem tw_239 : Cond.instanceMethod yX3_takesFirstDigit ∈ aw := aw_t (List.mem_append_right _ (List.mem_append_left _ (List.mem_of_getElem? (i := 44) rfl))) rfl
theorem tw_240 : Cond.code yX3_takesFirstDigit cX3_takesFirstDigit 2 (some .boolean) ∈ aw := aw_t (List.mem_append_right _ (List.mem_append_left _ (List.mem_of_getElem? (i := 45) rfl))) rfl
theorem tw_241 : Cond.methodLink RX3 60 yX3_isDigit ∈ aw := aw_t (List.mem_append_right _ (List.mem_append_left _ (List.mem_of_getElem? (i := 46) rfl))) rfl
theorem tw_242 : Cond.static yX3_isDigit ∈ aw := aw_t (List.mem_append_right _ (List.mem_append_left _ (List.mem_of_getElem? (i := 47) rfl))) rfl
theorem tw_243 : Cond.code yX3_isDigit cX3_isDigit 1 (some .boolean) ∈ aw := aw_t (List.mem_append_right _ (List.mem_append_left _ (List.mem_of_getElem? (i := 48) rfl))) rfl
theorem tw_244 : Cond.methodLink RX3 48 yX3_takesSecondDigit ∈ aw := aw_t (List.mem_append_right _ (List.mem_append_left _ (List.mem_of_getElem? (i := 49) rfl))) rfl
theorem tw_246 : Cond.instanceMethod yX3_takesSecondDigit ∈ aw := aw_t (List.mem_append_right _ (List.mem_append_left _ (List.mem_of_getElem? (i := 51) rfl))) rfl
theorem tw_247 : Cond.code yX3_takesSecondDigit cX3_takesSecondDigit 2 (some .boolean) ∈ aw := aw_t (List.mem_append_right _ (List.mem_append_left _ (List.mem_of_getElem? (i := 52) rfl))) rfl
theorem tw_248 : Cond.methodLink RX3 51 yX3_takesComma ∈ aw := aw_t (List.mem_append_right _ (List.mem_append_left _ (List.mem_of_getElem? (i := 53) rfl))) rfl
theorem tw_250 : Cond.instanceMethod yX3_takesComma ∈ aw := aw_t (List.mem_append_right _ (List.mem_append_left _ (List.mem_of_getElem? (i := 55) rfl))) rfl
theorem tw_251 : Cond.code yX3_takesComma cX3_takesComma 2 (some .boolean) ∈ aw := aw_t (List.mem_append_right _ (List.mem_append_left _ (List.mem_of_getElem? (i := 56) rfl))) rfl
theorem tw_252 : Cond.methodLink RX5 101 yX3_fits ∈ aw := aw_t (List.mem_append_right _ (List.mem_append_left _ (List.mem_of_getElem? (i := 57) rfl))) rfl
theorem tw_253 : Cond.instanceMethod yX3_fits ∈ aw := aw_t (List.mem_append_right _ (List.mem_append_left _ (List.mem_of_getElem? (i := 58) rfl))) rfl
theorem tw_254 : Cond.selects RX3 yX3_fits yX3_fits ∈ aw := aw_t (List.mem_append_right _ (List.mem_append_left _ (List.mem_of_getElem? (i := 59) rfl))) rfl
theorem tw_255 : Cond.code yX3_fits cX3_fits 3 (some .boolean) ∈ aw := aw_t (List.mem_append_right _ (List.mem_append_left _ (List.mem_of_getElem? (i := 60) rfl))) rfl
theorem tw_256 : Cond.methodLink RX3 63 yX4_has ∈ aw := aw_t (List.mem_append_right _ (List.mem_append_left _ (List.mem_of_getElem? (i := 61) rfl))) rfl
theorem tw_257 : Cond.methodLink RX5 105 yX3_bindAll ∈ aw := aw_t (List.mem_append_right _ (List.mem_append_left _ (List.mem_of_getElem? (i := 62) rfl))) rfl
theorem tw_258 : Cond.instanceMethod yX3_bindAll ∈ aw := aw_t (List.mem_append_right _ (List.mem_append_left _ (List.mem_of_getElem? (i := 63) rfl))) rfl
theorem tw_259 : Cond.selects RX3 yX3_bindAll yX3_bindAll ∈ aw := aw_t (List.mem_append_right _ (List.mem_append_left _ (List.mem_of_getElem? (i := 64) rfl))) rfl
theorem tw_260 : Cond.code yX3_bindAll cX3_bindAll 3 none ∈ aw := aw_t (List.mem_append_right _ (List.mem_append_left _ (List.mem_of_getElem? (i := 65) rfl))) rfl
theorem tw_261 : Cond.methodLink RX3 69 yX4_bind ∈ aw := aw_t (List.mem_append_right _ (List.mem_append_left _ (List.mem_of_getElem? (i := 66) rfl))) rfl
theorem tw_262 : Cond.methodLink RL 37 yX5_set ∈ aw := aw_t (List.mem_append_right _ (List.mem_append_left _ (List.mem_of_getElem? (i := 67) rfl))) rfl
theorem tw_263 : Cond.instanceMethod yX5_set ∈ aw := aw_t (List.mem_append_right _ (List.mem_append_left _ (List.mem_of_getElem? (i := 68) rfl))) rfl
theorem tw_264 : Cond.selects RX5 yX5_set yX5_set ∈ aw := aw_t (List.mem_append_right _ (List.mem_append_left _ (List.mem_of_getElem? (i := 69) rfl))) rfl
theorem tw_265 : Cond.code yX5_set cX5_set 3 (some .int) ∈ aw := aw_t (List.mem_append_right _ (List.mem_append_left _ (List.mem_of_getElem? (i := 70) rfl))) rfl
theorem tw_266 : Cond.methodLink RX5 111 yX5_setStart ∈ aw := aw_t (List.mem_append_right _ (List.mem_append_left _ (List.mem_of_getElem? (i := 71) rfl))) rfl
theorem tw_268 : Cond.instanceMethod yX5_setStart ∈ aw := aw_t (List.mem_append_right _ (List.mem_append_left _ (List.mem_of_getElem? (i := 73) rfl))) rfl
theorem tw_269 : Cond.code yX5_setStart cX5_setStart 3 (some .int) ∈ aw := aw_t (List.mem_append_right _ (List.mem_append_left _ (List.mem_of_getElem? (i := 74) rfl))) rfl
theorem tw_270 : Cond.methodLink RX5 115 yX5_setFairPlaces ∈ aw := aw_t (List.mem_append_right _ (List.mem_append_left _ (List.mem_of_getElem? (i := 75) rfl))) rfl
theorem tw_272 : Cond.instanceMethod yX5_setFairPlaces ∈ aw := aw_t (List.mem_append_right _ (List.mem_append_left _ (List.mem_of_getElem? (i := 77) rfl))) rfl
theorem tw_273 : Cond.code yX5_setFairPlaces cX5_setFairPlaces 3 (some .int) ∈ aw := aw_t (List.mem_append_right _ (List.mem_append_left _ (List.mem_of_getElem? (i := 78) rfl))) rfl
theorem tw_274 : Cond.methodLink RL 41 yX5_strengthen ∈ aw := aw_t (List.mem_append_right _ (List.mem_append_left _ (List.mem_of_getElem? (i := 79) rfl))) rfl
theorem tw_275 : Cond.instanceMethod yX5_strengthen ∈ aw := aw_t (List.mem_append_right _ (List.mem_append_left _ (List.mem_of_getElem? (i := 80) rfl))) rfl
theorem tw_276 : Cond.selects RX5 yX5_strengthen yX5_strengthen ∈ aw := aw_t (List.mem_append_right _ (List.mem_append_left _ (List.mem_of_getElem? (i := 81) rfl))) rfl
theorem tw_277 : Cond.code yX5_strengthen cX5_strengthen 5 (some .int) ∈ aw := aw_t (List.mem_append_right _ (List.mem_append_left _ (List.mem_of_getElem? (i := 82) rfl))) rfl
theorem tw_278 : Cond.methodLink RX5 124 yX2_run ∈ aw := aw_t (List.mem_append_right _ (List.mem_append_left _ (List.mem_of_getElem? (i := 83) rfl))) rfl
theorem tw_279 : Cond.instanceMethod yX2_run ∈ aw := aw_t (List.mem_append_right _ (List.mem_append_left _ (List.mem_of_getElem? (i := 84) rfl))) rfl
theorem tw_280 : Cond.selects RX2 yX2_run yX2_run ∈ aw := aw_t (List.mem_append_right _ (List.mem_append_left _ (List.mem_of_getElem? (i := 85) rfl))) rfl
theorem tw_281 : Cond.code yX2_run cX2_run 3 none ∈ aw := aw_t (List.mem_append_right _ (List.mem_append_left _ (List.mem_of_getElem? (i := 86) rfl))) rfl
theorem tw_282 : Cond.methodLink RX2 37 yX2_begin ∈ aw := aw_t (List.mem_append_right _ (List.mem_append_left _ (List.mem_of_getElem? (i := 87) rfl))) rfl
theorem tw_284 : Cond.instanceMethod yX2_begin ∈ aw := aw_t (List.mem_append_right _ (List.mem_append_left _ (List.mem_of_getElem? (i := 89) rfl))) rfl
theorem tw_285 : Cond.code yX2_begin cX2_begin 4 none ∈ aw := aw_t (List.mem_append_right _ (List.mem_append_left _ (List.mem_of_getElem? (i := 90) rfl))) rfl
theorem tw_286 : Cond.methodLink RX2 59 yX4_tieOf ∈ aw := aw_t (List.mem_append_right _ (List.mem_append_left _ (List.mem_of_getElem? (i := 91) rfl))) rfl
theorem tw_287 : Cond.methodLink RX2 46 yX2_nameOfLumpWith ∈ aw := aw_t (List.mem_append_right _ (List.mem_append_left _ (List.mem_of_getElem? (i := 92) rfl))) rfl
theorem tw_289 : Cond.instanceMethod yX2_nameOfLumpWith ∈ aw := aw_t (List.mem_append_right _ (List.mem_append_left _ (List.mem_of_getElem? (i := 94) rfl))) rfl
theorem tw_290 : Cond.code yX2_nameOfLumpWith cX2_nameOfLumpWith 3 (some .int) ∈ aw := aw_t (List.mem_append_right _ (List.mem_append_left _ (List.mem_of_getElem? (i := 95) rfl))) rfl
theorem tw_291 : Cond.methodLinkNest RX2 63 yX5_holds RX5 ∈ lw_tbl := List.mem_append_right _ (List.mem_append_right _ (List.mem_append_left _ (List.mem_of_getElem? (i := 96) rfl)))
theorem tw_292 : Cond.static yX5_holds ∈ aw := aw_t (List.mem_append_right _ (List.mem_append_left _ (List.mem_of_getElem? (i := 97) rfl))) rfl
theorem tw_293 : Cond.code yX5_holds cX5_holds 2 (some .boolean) ∈ aw := aw_t (List.mem_append_right _ (List.mem_append_left _ (List.mem_of_getElem? (i := 98) rfl))) rfl
theorem tw_294 : Cond.methodLink RX2 50 yX2_swallowAll ∈ aw := aw_t (List.mem_append_right _ (List.mem_append_left _ (List.mem_of_getElem? (i := 99) rfl))) rfl
theorem tw_296 : Cond.instanceMethod yX2_swallowAll ∈ aw := aw_t (List.mem_append_right _ (List.mem_append_left _ (List.mem_of_getElem? (i := 101) rfl))) rfl
theorem tw_297 : Cond.code yX2_swallowAll cX2_swallowAll 6 none ∈ aw := aw_t (List.mem_append_right _ (List.mem_append_left _ (List.mem_of_getElem? (i := 102) rfl))) rfl
theorem tw_298 : Cond.methodLink RX2 67 yX2_lumpsIn ∈ aw := aw_t (List.mem_append_right _ (List.mem_append_left _ (List.mem_of_getElem? (i := 103) rfl))) rfl
theorem tw_299 : Cond.instanceMethod yX2_lumpsIn ∈ aw := aw_t (List.mem_append_right _ (List.mem_append_left _ (List.mem_of_getElem? (i := 104) rfl))) rfl
theorem tw_300 : Cond.selects RX2 yX2_lumpsIn yX2_lumpsIn ∈ aw := aw_t (List.mem_append_right _ (List.mem_append_left _ (List.mem_of_getElem? (i := 105) rfl))) rfl
theorem tw_301 : Cond.code yX2_lumpsIn cX2_lumpsIn 2 (some .int) ∈ aw := aw_t (List.mem_append_right _ (List.mem_append_left _ (List.mem_of_getElem? (i := 106) rfl))) rfl
theorem tw_302 : Cond.methodLink RX2 70 yX2_drawNearer ∈ aw := aw_t (List.mem_append_right _ (List.mem_append_left _ (List.mem_of_getElem? (i := 107) rfl))) rfl
theorem tw_304 : Cond.instanceMethod yX2_drawNearer ∈ aw := aw_t (List.mem_append_right _ (List.mem_append_left _ (List.mem_of_getElem? (i := 109) rfl))) rfl
theorem tw_305 : Cond.code yX2_drawNearer cX2_drawNearer 4 none ∈ aw := aw_t (List.mem_append_right _ (List.mem_append_left _ (List.mem_of_getElem? (i := 110) rfl))) rfl
theorem tw_306 : Cond.methodLink RX2 73 yX2_nearestOf ∈ aw := aw_t (List.mem_append_right _ (List.mem_append_left _ (List.mem_of_getElem? (i := 111) rfl))) rfl
theorem tw_308 : Cond.instanceMethod yX2_nearestOf ∈ aw := aw_t (List.mem_append_right _ (List.mem_append_left _ (List.mem_of_getElem? (i := 113) rfl))) rfl
theorem tw_309 : Cond.code yX2_nearestOf cX2_nearestOf 5 (some .int) ∈ aw := aw_t (List.mem_append_right _ (List.mem_append_left _ (List.mem_of_getElem? (i := 114) rfl))) rfl
theorem tw_310 : Cond.methodLink RX2 54 yX2_endPhase ∈ aw := aw_t (List.mem_append_right _ (List.mem_append_left _ (List.mem_of_getElem? (i := 115) rfl))) rfl
theorem tw_312 : Cond.instanceMethod yX2_endPhase ∈ aw := aw_t (List.mem_append_right _ (List.mem_append_left _ (List.mem_of_getElem? (i := 117) rfl))) rfl
theorem tw_313 : Cond.code yX2_endPhase cX2_endPhase 5 none ∈ aw := aw_t (List.mem_append_right _ (List.mem_append_left _ (List.mem_of_getElem? (i := 118) rfl))) rfl
theorem tw_314 : Cond.methodLink RX2 76 yX2_nameAt ∈ aw := aw_t (List.mem_append_right _ (List.mem_append_left _ (List.mem_of_getElem? (i := 119) rfl))) rfl
theorem tw_315 : Cond.instanceMethod yX2_nameAt ∈ aw := aw_t (List.mem_append_right _ (List.mem_append_left _ (List.mem_of_getElem? (i := 120) rfl))) rfl
theorem tw_316 : Cond.selects RX2 yX2_nameAt yX2_nameAt ∈ aw := aw_t (List.mem_append_right _ (List.mem_append_left _ (List.mem_of_getElem? (i := 121) rfl))) rfl
theorem tw_317 : Cond.code yX2_nameAt cX2_nameAt 3 (some .int) ∈ aw := aw_t (List.mem_append_right _ (List.mem_append_left _ (List.mem_of_getElem? (i := 122) rfl))) rfl
theorem tw_318 : Cond.methodLink RX2 97 yX2_isRank ∈ aw := aw_t (List.mem_append_right _ (List.mem_append_left _ (List.mem_of_getElem? (i := 123) rfl))) rfl
theorem tw_320 : Cond.instanceMethod yX2_isRank ∈ aw := aw_t (List.mem_append_right _ (List.mem_append_left _ (List.mem_of_getElem? (i := 125) rfl))) rfl
theorem tw_321 : Cond.code yX2_isRank cX2_isRank 3 (some .boolean) ∈ aw := aw_t (List.mem_append_right _ (List.mem_append_left _ (List.mem_of_getElem? (i := 126) rfl))) rfl
theorem tw_322 : Cond.methodLink RX2 90 yX2_isPhase ∈ aw := aw_t (List.mem_append_right _ (List.mem_append_left _ (List.mem_of_getElem? (i := 127) rfl))) rfl
theorem tw_324 : Cond.instanceMethod yX2_isPhase ∈ aw := aw_t (List.mem_append_right _ (List.mem_append_left _ (List.mem_of_getElem? (i := 129) rfl))) rfl
theorem tw_325 : Cond.code yX2_isPhase cX2_isPhase 2 (some .boolean) ∈ aw := aw_t (List.mem_append_right _ (List.mem_append_left _ (List.mem_of_getElem? (i := 130) rfl))) rfl
theorem tw_326 : Cond.methodLink RX2 79 Lib.Math.min.name ∈ aw := aw_t (List.mem_append_right _ (List.mem_append_left _ (List.mem_of_getElem? (i := 131) rfl))) rfl
theorem tw_327 : Cond.methodLink RX2 84 Lib.Math.max.name ∈ aw := aw_t (List.mem_append_right _ (List.mem_append_left _ (List.mem_of_getElem? (i := 132) rfl))) rfl
theorem tw_328 : Cond.methodLink RX2 87 yX2_unite ∈ aw := aw_t (List.mem_append_right _ (List.mem_append_left _ (List.mem_of_getElem? (i := 133) rfl))) rfl
theorem tw_330 : Cond.instanceMethod yX2_unite ∈ aw := aw_t (List.mem_append_right _ (List.mem_append_left _ (List.mem_of_getElem? (i := 135) rfl))) rfl
theorem tw_331 : Cond.code yX2_unite cX2_unite 5 none ∈ aw := aw_t (List.mem_append_right _ (List.mem_append_left _ (List.mem_of_getElem? (i := 136) rfl))) rfl
theorem tw_332 : Cond.methodLink RX5 127 yX2_leastPhase ∈ aw := aw_t (List.mem_append_right _ (List.mem_append_left _ (List.mem_of_getElem? (i := 137) rfl))) rfl
theorem tw_333 : Cond.instanceMethod yX2_leastPhase ∈ aw := aw_t (List.mem_append_right _ (List.mem_append_left _ (List.mem_of_getElem? (i := 138) rfl))) rfl
theorem tw_334 : Cond.selects RX2 yX2_leastPhase yX2_leastPhase ∈ aw := aw_t (List.mem_append_right _ (List.mem_append_left _ (List.mem_of_getElem? (i := 139) rfl))) rfl
theorem tw_335 : Cond.code yX2_leastPhase cX2_leastPhase 3 (some .int) ∈ aw := aw_t (List.mem_append_right _ (List.mem_append_left _ (List.mem_of_getElem? (i := 140) rfl))) rfl
theorem tw_336 : Cond.methodLink RX2 100 yX2_weightIn ∈ aw := aw_t (List.mem_append_right _ (List.mem_append_left _ (List.mem_of_getElem? (i := 141) rfl))) rfl
theorem tw_337 : Cond.instanceMethod yX2_weightIn ∈ aw := aw_t (List.mem_append_right _ (List.mem_append_left _ (List.mem_of_getElem? (i := 142) rfl))) rfl
theorem tw_338 : Cond.selects RX2 yX2_weightIn yX2_weightIn ∈ aw := aw_t (List.mem_append_right _ (List.mem_append_left _ (List.mem_of_getElem? (i := 143) rfl))) rfl
theorem tw_339 : Cond.code yX2_weightIn cX2_weightIn 2 (some .int) ∈ aw := aw_t (List.mem_append_right _ (List.mem_append_left _ (List.mem_of_getElem? (i := 144) rfl))) rfl
theorem tw_340 : Cond.methodLink RX2 94 yX2_nearnessAt ∈ aw := aw_t (List.mem_append_right _ (List.mem_append_left _ (List.mem_of_getElem? (i := 145) rfl))) rfl
theorem tw_341 : Cond.instanceMethod yX2_nearnessAt ∈ aw := aw_t (List.mem_append_right _ (List.mem_append_left _ (List.mem_of_getElem? (i := 146) rfl))) rfl
theorem tw_342 : Cond.selects RX2 yX2_nearnessAt yX2_nearnessAt ∈ aw := aw_t (List.mem_append_right _ (List.mem_append_left _ (List.mem_of_getElem? (i := 147) rfl))) rfl
theorem tw_343 : Cond.code yX2_nearnessAt cX2_nearnessAt 3 (some .int) ∈ aw := aw_t (List.mem_append_right _ (List.mem_append_left _ (List.mem_of_getElem? (i := 148) rfl))) rfl
theorem tw_344 : Cond.methodLink RX5 130 yX2_partingOf ∈ aw := aw_t (List.mem_append_right _ (List.mem_append_left _ (List.mem_of_getElem? (i := 149) rfl))) rfl
theorem tw_345 : Cond.instanceMethod yX2_partingOf ∈ aw := aw_t (List.mem_append_right _ (List.mem_append_left _ (List.mem_of_getElem? (i := 150) rfl))) rfl
theorem tw_346 : Cond.selects RX2 yX2_partingOf yX2_partingOf ∈ aw := aw_t (List.mem_append_right _ (List.mem_append_left _ (List.mem_of_getElem? (i := 151) rfl))) rfl
theorem tw_347 : Cond.code yX2_partingOf cX2_partingOf 2 (some .int) ∈ aw := aw_t (List.mem_append_right _ (List.mem_append_left _ (List.mem_of_getElem? (i := 152) rfl))) rfl
theorem tw_348 : Cond.methodLink RX5 133 yX5_parts ∈ aw := aw_t (List.mem_append_right _ (List.mem_append_left _ (List.mem_of_getElem? (i := 153) rfl))) rfl
theorem tw_349 : Cond.static yX5_parts ∈ aw := aw_t (List.mem_append_right _ (List.mem_append_left _ (List.mem_of_getElem? (i := 154) rfl))) rfl
theorem tw_350 : Cond.code yX5_parts cX5_parts 3 (some .boolean) ∈ aw := aw_t (List.mem_append_right _ (List.mem_append_left _ (List.mem_of_getElem? (i := 155) rfl))) rfl
theorem tw_351 : Cond.methodLink RX5 240 yX5_holds ∈ aw := aw_t (List.mem_append_right _ (List.mem_append_left _ (List.mem_of_getElem? (i := 156) rfl))) rfl
theorem tw_352 : Cond.methodLink RX5 137 yX5_pairNumber ∈ aw := aw_t (List.mem_append_right _ (List.mem_append_left _ (List.mem_of_getElem? (i := 157) rfl))) rfl
theorem tw_353 : Cond.static yX5_pairNumber ∈ aw := aw_t (List.mem_append_right _ (List.mem_append_left _ (List.mem_of_getElem? (i := 158) rfl))) rfl
theorem tw_354 : Cond.code yX5_pairNumber cX5_pairNumber 2 (some .int) ∈ aw := aw_t (List.mem_append_right _ (List.mem_append_left _ (List.mem_of_getElem? (i := 159) rfl))) rfl
theorem tw_355 : Cond.methodLink RL 45 yX5_type ∈ aw := aw_t (List.mem_append_right _ (List.mem_append_left _ (List.mem_of_getElem? (i := 160) rfl))) rfl
theorem tw_356 : Cond.instanceMethod yX5_type ∈ aw := aw_t (List.mem_append_right _ (List.mem_append_left _ (List.mem_of_getElem? (i := 161) rfl))) rfl
theorem tw_357 : Cond.selects RX5 yX5_type yX5_type ∈ aw := aw_t (List.mem_append_right _ (List.mem_append_left _ (List.mem_of_getElem? (i := 162) rfl))) rfl
theorem tw_358 : Cond.code yX5_type cX5_type 2 (some .int) ∈ aw := aw_t (List.mem_append_right _ (List.mem_append_left _ (List.mem_of_getElem? (i := 163) rfl))) rfl
theorem tw_359 : Cond.methodLink RX5 143 yX3_append ∈ aw := aw_t (List.mem_append_right _ (List.mem_append_left _ (List.mem_of_getElem? (i := 164) rfl))) rfl
theorem tw_360 : Cond.instanceMethod yX3_append ∈ aw := aw_t (List.mem_append_right _ (List.mem_append_left _ (List.mem_of_getElem? (i := 165) rfl))) rfl
theorem tw_361 : Cond.selects RX3 yX3_append yX3_append ∈ aw := aw_t (List.mem_append_right _ (List.mem_append_left _ (List.mem_of_getElem? (i := 166) rfl))) rfl
theorem tw_362 : Cond.code yX3_append cX3_append 2 none ∈ aw := aw_t (List.mem_append_right _ (List.mem_append_left _ (List.mem_of_getElem? (i := 167) rfl))) rfl
theorem tw_363 : Cond.methodLink RL 50 yX5_clearText ∈ aw := aw_t (List.mem_append_right _ (List.mem_append_left _ (List.mem_of_getElem? (i := 168) rfl))) rfl
theorem tw_364 : Cond.instanceMethod yX5_clearText ∈ aw := aw_t (List.mem_append_right _ (List.mem_append_left _ (List.mem_of_getElem? (i := 169) rfl))) rfl
theorem tw_365 : Cond.selects RX5 yX5_clearText yX5_clearText ∈ aw := aw_t (List.mem_append_right _ (List.mem_append_left _ (List.mem_of_getElem? (i := 170) rfl))) rfl
theorem tw_366 : Cond.code yX5_clearText cX5_clearText 2 (some .int) ∈ aw := aw_t (List.mem_append_right _ (List.mem_append_left _ (List.mem_of_getElem? (i := 171) rfl))) rfl
theorem tw_367 : Cond.methodLink RL 54 yX5_undo ∈ aw := aw_t (List.mem_append_right _ (List.mem_append_left _ (List.mem_of_getElem? (i := 172) rfl))) rfl
theorem tw_368 : Cond.instanceMethod yX5_undo ∈ aw := aw_t (List.mem_append_right _ (List.mem_append_left _ (List.mem_of_getElem? (i := 173) rfl))) rfl
theorem tw_369 : Cond.selects RX5 yX5_undo yX5_undo ∈ aw := aw_t (List.mem_append_right _ (List.mem_append_left _ (List.mem_of_getElem? (i := 174) rfl))) rfl
theorem tw_370 : Cond.code yX5_undo cX5_undo 1 (some .int) ∈ aw := aw_t (List.mem_append_right _ (List.mem_append_left _ (List.mem_of_getElem? (i := 175) rfl))) rfl
theorem tw_371 : Cond.methodLink RX5 150 yX0_takeBack ∈ aw := aw_t (List.mem_append_right _ (List.mem_append_left _ (List.mem_of_getElem? (i := 176) rfl))) rfl
theorem tw_372 : Cond.instanceMethod yX0_takeBack ∈ aw := aw_t (List.mem_append_right _ (List.mem_append_left _ (List.mem_of_getElem? (i := 177) rfl))) rfl
theorem tw_373 : Cond.selects RX0 yX0_takeBack yX0_takeBack ∈ aw := aw_t (List.mem_append_right _ (List.mem_append_left _ (List.mem_of_getElem? (i := 178) rfl))) rfl
theorem tw_374 : Cond.code yX0_takeBack cX0_takeBack 2 none ∈ aw := aw_t (List.mem_append_right _ (List.mem_append_left _ (List.mem_of_getElem? (i := 179) rfl))) rfl
theorem tw_375 : Cond.methodLink RL 58 yX5_keep ∈ aw := aw_t (List.mem_append_right _ (List.mem_append_left _ (List.mem_of_getElem? (i := 180) rfl))) rfl
theorem tw_376 : Cond.instanceMethod yX5_keep ∈ aw := aw_t (List.mem_append_right _ (List.mem_append_left _ (List.mem_of_getElem? (i := 181) rfl))) rfl
theorem tw_377 : Cond.selects RX5 yX5_keep yX5_keep ∈ aw := aw_t (List.mem_append_right _ (List.mem_append_left _ (List.mem_of_getElem? (i := 182) rfl))) rfl
theorem tw_378 : Cond.code yX5_keep cX5_keep 1 (some .int) ∈ aw := aw_t (List.mem_append_right _ (List.mem_append_left _ (List.mem_of_getElem? (i := 183) rfl))) rfl
theorem tw_379 : Cond.methodLink RX5 153 yX4_copyFrom ∈ aw := aw_t (List.mem_append_right _ (List.mem_append_left _ (List.mem_of_getElem? (i := 184) rfl))) rfl
theorem tw_380 : Cond.methodLink RL 62 yX5_restore ∈ aw := aw_t (List.mem_append_right _ (List.mem_append_left _ (List.mem_of_getElem? (i := 185) rfl))) rfl
theorem tw_381 : Cond.instanceMethod yX5_restore ∈ aw := aw_t (List.mem_append_right _ (List.mem_append_left _ (List.mem_of_getElem? (i := 186) rfl))) rfl
theorem tw_382 : Cond.selects RX5 yX5_restore yX5_restore ∈ aw := aw_t (List.mem_append_right _ (List.mem_append_left _ (List.mem_of_getElem? (i := 187) rfl))) rfl
theorem tw_383 : Cond.code yX5_restore cX5_restore 1 (some .int) ∈ aw := aw_t (List.mem_append_right _ (List.mem_append_left _ (List.mem_of_getElem? (i := 188) rfl))) rfl
theorem tw_384 : Cond.methodLink RL 66 yX5_weight ∈ aw := aw_t (List.mem_append_right _ (List.mem_append_left _ (List.mem_of_getElem? (i := 189) rfl))) rfl
theorem tw_385 : Cond.instanceMethod yX5_weight ∈ aw := aw_t (List.mem_append_right _ (List.mem_append_left _ (List.mem_of_getElem? (i := 190) rfl))) rfl
theorem tw_386 : Cond.selects RX5 yX5_weight yX5_weight ∈ aw := aw_t (List.mem_append_right _ (List.mem_append_left _ (List.mem_of_getElem? (i := 191) rfl))) rfl
theorem tw_387 : Cond.code yX5_weight cX5_weight 4 (some .int) ∈ aw := aw_t (List.mem_append_right _ (List.mem_append_left _ (List.mem_of_getElem? (i := 192) rfl))) rfl
theorem tw_388 : Cond.methodLink RL 70 yX5_place ∈ aw := aw_t (List.mem_append_right _ (List.mem_append_left _ (List.mem_of_getElem? (i := 193) rfl))) rfl
theorem tw_389 : Cond.instanceMethod yX5_place ∈ aw := aw_t (List.mem_append_right _ (List.mem_append_left _ (List.mem_of_getElem? (i := 194) rfl))) rfl
theorem tw_390 : Cond.selects RX5 yX5_place yX5_place ∈ aw := aw_t (List.mem_append_right _ (List.mem_append_left _ (List.mem_of_getElem? (i := 195) rfl))) rfl
theorem tw_391 : Cond.code yX5_place cX5_place 3 (some .int) ∈ aw := aw_t (List.mem_append_right _ (List.mem_append_left _ (List.mem_of_getElem? (i := 196) rfl))) rfl
theorem tw_392 : Cond.methodLink RX5 156 yX4_weightsOf ∈ aw := aw_t (List.mem_append_right _ (List.mem_append_left _ (List.mem_of_getElem? (i := 197) rfl))) rfl
theorem tw_393 : Cond.instanceMethod yX4_weightsOf ∈ aw := aw_t (List.mem_append_right _ (List.mem_append_left _ (List.mem_of_getElem? (i := 198) rfl))) rfl
theorem tw_394 : Cond.selects RX4 yX4_weightsOf yX4_weightsOf ∈ aw := aw_t (List.mem_append_right _ (List.mem_append_left _ (List.mem_of_getElem? (i := 199) rfl))) rfl
theorem tw_395 : Cond.code yX4_weightsOf cX4_weightsOf 4 (some .int) ∈ aw := aw_t (List.mem_append_right _ (List.mem_append_left _ (List.mem_of_getElem? (i := 200) rfl))) rfl
theorem tw_396 : Cond.methodLink RX5 159 yX4_neighboursOf ∈ aw := aw_t (List.mem_append_right _ (List.mem_append_left _ (List.mem_of_getElem? (i := 201) rfl))) rfl
theorem tw_397 : Cond.instanceMethod yX4_neighboursOf ∈ aw := aw_t (List.mem_append_right _ (List.mem_append_left _ (List.mem_of_getElem? (i := 202) rfl))) rfl
theorem tw_398 : Cond.selects RX4 yX4_neighboursOf yX4_neighboursOf ∈ aw := aw_t (List.mem_append_right _ (List.mem_append_left _ (List.mem_of_getElem? (i := 203) rfl))) rfl
theorem tw_399 : Cond.code yX4_neighboursOf cX4_neighboursOf 4 (some .int) ∈ aw := aw_t (List.mem_append_right _ (List.mem_append_left _ (List.mem_of_getElem? (i := 204) rfl))) rfl
theorem tw_400 : Cond.methodLink RX5 162 yX4_reachedFrom ∈ aw := aw_t (List.mem_append_right _ (List.mem_append_left _ (List.mem_of_getElem? (i := 205) rfl))) rfl
theorem tw_401 : Cond.instanceMethod yX4_reachedFrom ∈ aw := aw_t (List.mem_append_right _ (List.mem_append_left _ (List.mem_of_getElem? (i := 206) rfl))) rfl
theorem tw_402 : Cond.selects RX4 yX4_reachedFrom yX4_reachedFrom ∈ aw := aw_t (List.mem_append_right _ (List.mem_append_left _ (List.mem_of_getElem? (i := 207) rfl))) rfl
theorem tw_403 : Cond.code yX4_reachedFrom cX4_reachedFrom 5 (some .int) ∈ aw := aw_t (List.mem_append_right _ (List.mem_append_left _ (List.mem_of_getElem? (i := 208) rfl))) rfl
theorem tw_404 : Cond.methodLinkNest RX4 52 yX5_holds RX5 ∈ lw_tbl := List.mem_append_right _ (List.mem_append_right _ (List.mem_append_left _ (List.mem_of_getElem? (i := 209) rfl)))
theorem tw_405 : Cond.methodLink RX4 56 yX4_neighboursOf ∈ aw := aw_t (List.mem_append_right _ (List.mem_append_left _ (List.mem_of_getElem? (i := 210) rfl))) rfl
theorem tw_406 : Cond.methodLink RX5 165 yX1_measure ∈ aw := aw_t (List.mem_append_right _ (List.mem_append_left _ (List.mem_of_getElem? (i := 211) rfl))) rfl
theorem tw_407 : Cond.instanceMethod yX1_measure ∈ aw := aw_t (List.mem_append_right _ (List.mem_append_left _ (List.mem_of_getElem? (i := 212) rfl))) rfl
theorem tw_408 : Cond.selects RX1 yX1_measure yX1_measure ∈ aw := aw_t (List.mem_append_right _ (List.mem_append_left _ (List.mem_of_getElem? (i := 213) rfl))) rfl
theorem tw_409 : Cond.code yX1_measure cX1_measure 3 none ∈ aw := aw_t (List.mem_append_right _ (List.mem_append_left _ (List.mem_of_getElem? (i := 214) rfl))) rfl
theorem tw_410 : Cond.methodLink RX1 43 yX1_measurePulls ∈ aw := aw_t (List.mem_append_right _ (List.mem_append_left _ (List.mem_of_getElem? (i := 215) rfl))) rfl
theorem tw_412 : Cond.instanceMethod yX1_measurePulls ∈ aw := aw_t (List.mem_append_right _ (List.mem_append_left _ (List.mem_of_getElem? (i := 217) rfl))) rfl
theorem tw_413 : Cond.code yX1_measurePulls cX1_measurePulls 6 none ∈ aw := aw_t (List.mem_append_right _ (List.mem_append_left _ (List.mem_of_getElem? (i := 218) rfl))) rfl
theorem tw_414 : Cond.methodLink RX1 57 yX4_tieOf ∈ aw := aw_t (List.mem_append_right _ (List.mem_append_left _ (List.mem_of_getElem? (i := 219) rfl))) rfl
theorem tw_415 : Cond.methodLink RX1 47 yX1_measureWith ∈ aw := aw_t (List.mem_append_right _ (List.mem_append_left _ (List.mem_of_getElem? (i := 220) rfl))) rfl
theorem tw_417 : Cond.instanceMethod yX1_measureWith ∈ aw := aw_t (List.mem_append_right _ (List.mem_append_left _ (List.mem_of_getElem? (i := 222) rfl))) rfl
theorem tw_418 : Cond.code yX1_measureWith cX1_measureWith 5 none ∈ aw := aw_t (List.mem_append_right _ (List.mem_append_left _ (List.mem_of_getElem? (i := 223) rfl))) rfl
theorem tw_419 : Cond.methodLink RX1 61 yX4_weightsOf ∈ aw := aw_t (List.mem_append_right _ (List.mem_append_left _ (List.mem_of_getElem? (i := 224) rfl))) rfl
theorem tw_420 : Cond.methodLink RX1 50 yX1_findLeast ∈ aw := aw_t (List.mem_append_right _ (List.mem_append_left _ (List.mem_of_getElem? (i := 225) rfl))) rfl
theorem tw_422 : Cond.instanceMethod yX1_findLeast ∈ aw := aw_t (List.mem_append_right _ (List.mem_append_left _ (List.mem_of_getElem? (i := 227) rfl))) rfl
theorem tw_423 : Cond.code yX1_findLeast cX1_findLeast 2 none ∈ aw := aw_t (List.mem_append_right _ (List.mem_append_left _ (List.mem_of_getElem? (i := 228) rfl))) rfl
theorem tw_424 : Cond.methodLink RX1 53 yX1_findTight ∈ aw := aw_t (List.mem_append_right _ (List.mem_append_left _ (List.mem_of_getElem? (i := 229) rfl))) rfl
theorem tw_426 : Cond.instanceMethod yX1_findTight ∈ aw := aw_t (List.mem_append_right _ (List.mem_append_left _ (List.mem_of_getElem? (i := 231) rfl))) rfl
theorem tw_427 : Cond.code yX1_findTight cX1_findTight 4 none ∈ aw := aw_t (List.mem_append_right _ (List.mem_append_left _ (List.mem_of_getElem? (i := 232) rfl))) rfl
theorem tw_428 : Cond.methodLink RX1 65 yX1_partedByAllLeast ∈ aw := aw_t (List.mem_append_right _ (List.mem_append_left _ (List.mem_of_getElem? (i := 233) rfl))) rfl
theorem tw_430 : Cond.instanceMethod yX1_partedByAllLeast ∈ aw := aw_t (List.mem_append_right _ (List.mem_append_left _ (List.mem_of_getElem? (i := 235) rfl))) rfl
theorem tw_431 : Cond.code yX1_partedByAllLeast cX1_partedByAllLeast 4 (some .boolean) ∈ aw := aw_t (List.mem_append_right _ (List.mem_append_left _ (List.mem_of_getElem? (i := 236) rfl))) rfl
theorem tw_432 : Cond.methodLinkNest RX1 72 yX5_parts RX5 ∈ lw_tbl := List.mem_append_right _ (List.mem_append_right _ (List.mem_append_left _ (List.mem_of_getElem? (i := 237) rfl)))
theorem tw_433 : Cond.methodLinkNest RX1 69 yX5_pairNumber RX5 ∈ lw_tbl := List.mem_append_right _ (List.mem_append_right _ (List.mem_append_left _ (List.mem_of_getElem? (i := 238) rfl)))
theorem tw_434 : Cond.methodLink RX5 168 yX1_tightPairsOf ∈ aw := aw_t (List.mem_append_right _ (List.mem_append_left _ (List.mem_of_getElem? (i := 239) rfl))) rfl
theorem tw_435 : Cond.instanceMethod yX1_tightPairsOf ∈ aw := aw_t (List.mem_append_right _ (List.mem_append_right _ (List.mem_append_left _ (List.mem_of_getElem? (i := 0) rfl)))) rfl
theorem tw_436 : Cond.selects RX1 yX1_tightPairsOf yX1_tightPairsOf ∈ aw := aw_t (List.mem_append_right _ (List.mem_append_right _ (List.mem_append_left _ (List.mem_of_getElem? (i := 1) rfl)))) rfl
theorem tw_437 : Cond.code yX1_tightPairsOf cX1_tightPairsOf 4 (some .int) ∈ aw := aw_t (List.mem_append_right _ (List.mem_append_right _ (List.mem_append_left _ (List.mem_of_getElem? (i := 2) rfl)))) rfl
theorem tw_438 : Cond.methodLink RX5 171 yX2_firstRankOf ∈ aw := aw_t (List.mem_append_right _ (List.mem_append_right _ (List.mem_append_left _ (List.mem_of_getElem? (i := 3) rfl)))) rfl
theorem tw_439 : Cond.instanceMethod yX2_firstRankOf ∈ aw := aw_t (List.mem_append_right _ (List.mem_append_right _ (List.mem_append_left _ (List.mem_of_getElem? (i := 4) rfl)))) rfl
theorem tw_440 : Cond.selects RX2 yX2_firstRankOf yX2_firstRankOf ∈ aw := aw_t (List.mem_append_right _ (List.mem_append_right _ (List.mem_append_left _ (List.mem_of_getElem? (i := 5) rfl)))) rfl
theorem tw_441 : Cond.code yX2_firstRankOf cX2_firstRankOf 4 (some .int) ∈ aw := aw_t (List.mem_append_right _ (List.mem_append_right _ (List.mem_append_left _ (List.mem_of_getElem? (i := 6) rfl)))) rfl
theorem tw_442 : Cond.methodLink RX5 174 yX2_nearnessAt ∈ aw := aw_t (List.mem_append_right _ (List.mem_append_right _ (List.mem_append_left _ (List.mem_of_getElem? (i := 7) rfl)))) rfl
theorem tw_443 : Cond.methodLink RL 74 yX5_phase ∈ aw := aw_t (List.mem_append_right _ (List.mem_append_right _ (List.mem_append_left _ (List.mem_of_getElem? (i := 8) rfl)))) rfl
theorem tw_444 : Cond.instanceMethod yX5_phase ∈ aw := aw_t (List.mem_append_right _ (List.mem_append_right _ (List.mem_append_left _ (List.mem_of_getElem? (i := 9) rfl)))) rfl
theorem tw_445 : Cond.selects RX5 yX5_phase yX5_phase ∈ aw := aw_t (List.mem_append_right _ (List.mem_append_right _ (List.mem_append_left _ (List.mem_of_getElem? (i := 10) rfl)))) rfl
theorem tw_446 : Cond.code yX5_phase cX5_phase 4 (some .int) ∈ aw := aw_t (List.mem_append_right _ (List.mem_append_right _ (List.mem_append_left _ (List.mem_of_getElem? (i := 11) rfl)))) rfl
theorem tw_447 : Cond.methodLink RX5 177 yX5_isPhase ∈ aw := aw_t (List.mem_append_right _ (List.mem_append_right _ (List.mem_append_left _ (List.mem_of_getElem? (i := 12) rfl)))) rfl
theorem tw_449 : Cond.instanceMethod yX5_isPhase ∈ aw := aw_t (List.mem_append_right _ (List.mem_append_right _ (List.mem_append_left _ (List.mem_of_getElem? (i := 14) rfl)))) rfl
theorem tw_450 : Cond.code yX5_isPhase cX5_isPhase 2 (some .boolean) ∈ aw := aw_t (List.mem_append_right _ (List.mem_append_right _ (List.mem_append_left _ (List.mem_of_getElem? (i := 15) rfl)))) rfl
theorem tw_451 : Cond.methodLink RX5 180 yX2_lumpsIn ∈ aw := aw_t (List.mem_append_right _ (List.mem_append_right _ (List.mem_append_left _ (List.mem_of_getElem? (i := 16) rfl)))) rfl
theorem tw_452 : Cond.methodLink RX5 183 yX2_weightIn ∈ aw := aw_t (List.mem_append_right _ (List.mem_append_right _ (List.mem_append_left _ (List.mem_of_getElem? (i := 17) rfl)))) rfl
theorem tw_453 : Cond.methodLink RX5 186 yX2_nameAt ∈ aw := aw_t (List.mem_append_right _ (List.mem_append_right _ (List.mem_append_left _ (List.mem_of_getElem? (i := 18) rfl)))) rfl
theorem tw_454 : Cond.methodLink RX5 189 yX2_unionIn ∈ aw := aw_t (List.mem_append_right _ (List.mem_append_right _ (List.mem_append_left _ (List.mem_of_getElem? (i := 19) rfl)))) rfl
theorem tw_455 : Cond.instanceMethod yX2_unionIn ∈ aw := aw_t (List.mem_append_right _ (List.mem_append_right _ (List.mem_append_left _ (List.mem_of_getElem? (i := 20) rfl)))) rfl
theorem tw_456 : Cond.selects RX2 yX2_unionIn yX2_unionIn ∈ aw := aw_t (List.mem_append_right _ (List.mem_append_right _ (List.mem_append_left _ (List.mem_of_getElem? (i := 21) rfl)))) rfl
theorem tw_457 : Cond.code yX2_unionIn cX2_unionIn 2 (some .int) ∈ aw := aw_t (List.mem_append_right _ (List.mem_append_right _ (List.mem_append_left _ (List.mem_of_getElem? (i := 22) rfl)))) rfl
theorem tw_458 : Cond.methodLink RL 78 yX5_swallowed ∈ aw := aw_t (List.mem_append_right _ (List.mem_append_right _ (List.mem_append_left _ (List.mem_of_getElem? (i := 23) rfl)))) rfl
theorem tw_459 : Cond.instanceMethod yX5_swallowed ∈ aw := aw_t (List.mem_append_right _ (List.mem_append_right _ (List.mem_append_left _ (List.mem_of_getElem? (i := 24) rfl)))) rfl
theorem tw_460 : Cond.selects RX5 yX5_swallowed yX5_swallowed ∈ aw := aw_t (List.mem_append_right _ (List.mem_append_right _ (List.mem_append_left _ (List.mem_of_getElem? (i := 25) rfl)))) rfl
theorem tw_461 : Cond.code yX5_swallowed cX5_swallowed 4 (some .int) ∈ aw := aw_t (List.mem_append_right _ (List.mem_append_right _ (List.mem_append_left _ (List.mem_of_getElem? (i := 26) rfl)))) rfl
theorem tw_462 : Cond.methodLink RL 83 yX5_least ∈ aw := aw_t (List.mem_append_right _ (List.mem_append_right _ (List.mem_append_left _ (List.mem_of_getElem? (i := 27) rfl)))) rfl
theorem tw_463 : Cond.instanceMethod yX5_least ∈ aw := aw_t (List.mem_append_right _ (List.mem_append_right _ (List.mem_append_left _ (List.mem_of_getElem? (i := 28) rfl)))) rfl
theorem tw_464 : Cond.selects RX5 yX5_least yX5_least ∈ aw := aw_t (List.mem_append_right _ (List.mem_append_right _ (List.mem_append_left _ (List.mem_of_getElem? (i := 29) rfl)))) rfl
theorem tw_465 : Cond.code yX5_least cX5_least 2 (some .int) ∈ aw := aw_t (List.mem_append_right _ (List.mem_append_right _ (List.mem_append_left _ (List.mem_of_getElem? (i := 30) rfl)))) rfl
theorem tw_466 : Cond.methodLink RX5 192 yX5_leastByPhases ∈ aw := aw_t (List.mem_append_right _ (List.mem_append_right _ (List.mem_append_left _ (List.mem_of_getElem? (i := 31) rfl)))) rfl
theorem tw_468 : Cond.instanceMethod yX5_leastByPhases ∈ aw := aw_t (List.mem_append_right _ (List.mem_append_right _ (List.mem_append_left _ (List.mem_of_getElem? (i := 33) rfl)))) rfl
theorem tw_469 : Cond.code yX5_leastByPhases cX5_leastByPhases 3 (some .int) ∈ aw := aw_t (List.mem_append_right _ (List.mem_append_right _ (List.mem_append_left _ (List.mem_of_getElem? (i := 34) rfl)))) rfl
theorem tw_470 : Cond.methodLink RX5 195 yX5_leastFair ∈ aw := aw_t (List.mem_append_right _ (List.mem_append_right _ (List.mem_append_left _ (List.mem_of_getElem? (i := 35) rfl)))) rfl
theorem tw_472 : Cond.instanceMethod yX5_leastFair ∈ aw := aw_t (List.mem_append_right _ (List.mem_append_right _ (List.mem_append_left _ (List.mem_of_getElem? (i := 37) rfl)))) rfl
theorem tw_473 : Cond.code yX5_leastFair cX5_leastFair 3 (some .int) ∈ aw := aw_t (List.mem_append_right _ (List.mem_append_right _ (List.mem_append_left _ (List.mem_of_getElem? (i := 38) rfl)))) rfl
theorem tw_474 : Cond.methodLink RX5 199 yX1_leastFair ∈ aw := aw_t (List.mem_append_right _ (List.mem_append_right _ (List.mem_append_left _ (List.mem_of_getElem? (i := 39) rfl)))) rfl
theorem tw_475 : Cond.instanceMethod yX1_leastFair ∈ aw := aw_t (List.mem_append_right _ (List.mem_append_right _ (List.mem_append_left _ (List.mem_of_getElem? (i := 40) rfl)))) rfl
theorem tw_476 : Cond.selects RX1 yX1_leastFair yX1_leastFair ∈ aw := aw_t (List.mem_append_right _ (List.mem_append_right _ (List.mem_append_left _ (List.mem_of_getElem? (i := 41) rfl)))) rfl
theorem tw_477 : Cond.code yX1_leastFair cX1_leastFair 4 (some .int) ∈ aw := aw_t (List.mem_append_right _ (List.mem_append_right _ (List.mem_append_left _ (List.mem_of_getElem? (i := 42) rfl)))) rfl
theorem tw_478 : Cond.methodLink RX1 88 yX1_isFair ∈ aw := aw_t (List.mem_append_right _ (List.mem_append_right _ (List.mem_append_left _ (List.mem_of_getElem? (i := 43) rfl)))) rfl
theorem tw_480 : Cond.instanceMethod yX1_isFair ∈ aw := aw_t (List.mem_append_right _ (List.mem_append_right _ (List.mem_append_left _ (List.mem_of_getElem? (i := 45) rfl)))) rfl
theorem tw_481 : Cond.code yX1_isFair cX1_isFair 4 (some .boolean) ∈ aw := aw_t (List.mem_append_right _ (List.mem_append_right _ (List.mem_append_left _ (List.mem_of_getElem? (i := 46) rfl)))) rfl
theorem tw_482 : Cond.methodLink RX1 83 yJ6_bitCount_0f7a4 ∈ aw := aw_t (List.mem_append_right _ (List.mem_append_right _ (List.mem_append_left _ (List.mem_of_getElem? (i := 47) rfl)))) rfl
theorem tw_483 : Cond.static yJ6_bitCount_0f7a4 ∈ aw := aw_t (List.mem_append_right _ (List.mem_append_right _ (List.mem_append_left _ (List.mem_of_getElem? (i := 48) rfl)))) rfl
theorem tw_484 : Cond.code yJ6_bitCount_0f7a4 cJ6_bitCount_0f7a4 1 (some .int) ∈ aw := aw_t (List.mem_append_right _ (List.mem_append_right _ (List.mem_append_left _ (List.mem_of_getElem? (i := 49) rfl)))) rfl
theorem tw_485 : Cond.constant RJ6 265 (1431655765 : Int32) ∈ aw := aw_t (List.mem_append_right _ (List.mem_append_right _ (List.mem_append_left _ (List.mem_of_getElem? (i := 50) rfl)))) rfl
theorem tw_486 : Cond.constant RJ6 266 (858993459 : Int32) ∈ aw := aw_t (List.mem_append_right _ (List.mem_append_right _ (List.mem_append_left _ (List.mem_of_getElem? (i := 51) rfl)))) rfl
theorem tw_487 : Cond.constant RJ6 267 (252645135 : Int32) ∈ aw := aw_t (List.mem_append_right _ (List.mem_append_right _ (List.mem_append_left _ (List.mem_of_getElem? (i := 52) rfl)))) rfl
theorem tw_488 : Cond.methodLink RX5 201 yX1_isParting ∈ aw := aw_t (List.mem_append_right _ (List.mem_append_right _ (List.mem_append_left _ (List.mem_of_getElem? (i := 53) rfl)))) rfl
theorem tw_489 : Cond.instanceMethod yX1_isParting ∈ aw := aw_t (List.mem_append_right _ (List.mem_append_right _ (List.mem_append_left _ (List.mem_of_getElem? (i := 54) rfl)))) rfl
theorem tw_490 : Cond.selects RX1 yX1_isParting yX1_isParting ∈ aw := aw_t (List.mem_append_right _ (List.mem_append_right _ (List.mem_append_left _ (List.mem_of_getElem? (i := 55) rfl)))) rfl
theorem tw_491 : Cond.code yX1_isParting cX1_isParting 2 (some .boolean) ∈ aw := aw_t (List.mem_append_right _ (List.mem_append_right _ (List.mem_append_left _ (List.mem_of_getElem? (i := 56) rfl)))) rfl
theorem tw_492 : Cond.methodLinkNest RX1 76 yX5_holds RX5 ∈ lw_tbl := List.mem_append_right _ (List.mem_append_right _ (List.mem_append_right _ (List.mem_append_left _ (List.mem_of_getElem? (i := 57) rfl))))
theorem tw_493 : Cond.methodLink RX5 204 yX1_weightOf ∈ aw := aw_t (List.mem_append_right _ (List.mem_append_right _ (List.mem_append_left _ (List.mem_of_getElem? (i := 58) rfl)))) rfl
theorem tw_494 : Cond.instanceMethod yX1_weightOf ∈ aw := aw_t (List.mem_append_right _ (List.mem_append_right _ (List.mem_append_left _ (List.mem_of_getElem? (i := 59) rfl)))) rfl
theorem tw_495 : Cond.selects RX1 yX1_weightOf yX1_weightOf ∈ aw := aw_t (List.mem_append_right _ (List.mem_append_right _ (List.mem_append_left _ (List.mem_of_getElem? (i := 60) rfl)))) rfl
theorem tw_496 : Cond.code yX1_weightOf cX1_weightOf 2 (some .int) ∈ aw := aw_t (List.mem_append_right _ (List.mem_append_right _ (List.mem_append_left _ (List.mem_of_getElem? (i := 61) rfl)))) rfl
theorem tw_497 : Cond.methodLink RX1 79 yX1_isParting ∈ aw := aw_t (List.mem_append_right _ (List.mem_append_right _ (List.mem_append_left _ (List.mem_of_getElem? (i := 62) rfl)))) rfl
theorem tw_498 : Cond.methodLink RL 87 yX5_leastOf ∈ aw := aw_t (List.mem_append_right _ (List.mem_append_right _ (List.mem_append_left _ (List.mem_of_getElem? (i := 63) rfl)))) rfl
theorem tw_499 : Cond.instanceMethod yX5_leastOf ∈ aw := aw_t (List.mem_append_right _ (List.mem_append_right _ (List.mem_append_left _ (List.mem_of_getElem? (i := 64) rfl)))) rfl
theorem tw_500 : Cond.selects RX5 yX5_leastOf yX5_leastOf ∈ aw := aw_t (List.mem_append_right _ (List.mem_append_right _ (List.mem_append_left _ (List.mem_of_getElem? (i := 65) rfl)))) rfl
theorem tw_501 : Cond.code yX5_leastOf cX5_leastOf 2 (some .int) ∈ aw := aw_t (List.mem_append_right _ (List.mem_append_right _ (List.mem_append_left _ (List.mem_of_getElem? (i := 66) rfl)))) rfl
theorem tw_502 : Cond.methodLink RX5 210 yX1_leastAt ∈ aw := aw_t (List.mem_append_right _ (List.mem_append_right _ (List.mem_append_left _ (List.mem_of_getElem? (i := 67) rfl)))) rfl
theorem tw_503 : Cond.instanceMethod yX1_leastAt ∈ aw := aw_t (List.mem_append_right _ (List.mem_append_right _ (List.mem_append_left _ (List.mem_of_getElem? (i := 68) rfl)))) rfl
theorem tw_504 : Cond.selects RX1 yX1_leastAt yX1_leastAt ∈ aw := aw_t (List.mem_append_right _ (List.mem_append_right _ (List.mem_append_left _ (List.mem_of_getElem? (i := 69) rfl)))) rfl
theorem tw_505 : Cond.code yX1_leastAt cX1_leastAt 2 (some .int) ∈ aw := aw_t (List.mem_append_right _ (List.mem_append_right _ (List.mem_append_left _ (List.mem_of_getElem? (i := 70) rfl)))) rfl
theorem tw_506 : Cond.methodLink RL 91 yX5_between ∈ aw := aw_t (List.mem_append_right _ (List.mem_append_right _ (List.mem_append_left _ (List.mem_of_getElem? (i := 71) rfl)))) rfl
theorem tw_507 : Cond.instanceMethod yX5_between ∈ aw := aw_t (List.mem_append_right _ (List.mem_append_right _ (List.mem_append_left _ (List.mem_of_getElem? (i := 72) rfl)))) rfl
theorem tw_508 : Cond.selects RX5 yX5_between yX5_between ∈ aw := aw_t (List.mem_append_right _ (List.mem_append_right _ (List.mem_append_left _ (List.mem_of_getElem? (i := 73) rfl)))) rfl
theorem tw_509 : Cond.code yX5_between cX5_between 6 (some .int) ∈ aw := aw_t (List.mem_append_right _ (List.mem_append_right _ (List.mem_append_left _ (List.mem_of_getElem? (i := 74) rfl)))) rfl
theorem tw_510 : Cond.methodLink RX5 213 yX1_leastBetween ∈ aw := aw_t (List.mem_append_right _ (List.mem_append_right _ (List.mem_append_left _ (List.mem_of_getElem? (i := 75) rfl)))) rfl
theorem tw_511 : Cond.instanceMethod yX1_leastBetween ∈ aw := aw_t (List.mem_append_right _ (List.mem_append_right _ (List.mem_append_left _ (List.mem_of_getElem? (i := 76) rfl)))) rfl
theorem tw_512 : Cond.selects RX1 yX1_leastBetween yX1_leastBetween ∈ aw := aw_t (List.mem_append_right _ (List.mem_append_right _ (List.mem_append_left _ (List.mem_of_getElem? (i := 77) rfl)))) rfl
theorem tw_513 : Cond.code yX1_leastBetween cX1_leastBetween 5 (some .int) ∈ aw := aw_t (List.mem_append_right _ (List.mem_append_right _ (List.mem_append_left _ (List.mem_of_getElem? (i := 78) rfl)))) rfl
theorem tw_514 : Cond.methodLink RL 95 yX5_parting ∈ aw := aw_t (List.mem_append_right _ (List.mem_append_right _ (List.mem_append_left _ (List.mem_of_getElem? (i := 79) rfl)))) rfl
theorem tw_515 : Cond.instanceMethod yX5_parting ∈ aw := aw_t (List.mem_append_right _ (List.mem_append_right _ (List.mem_append_left _ (List.mem_of_getElem? (i := 80) rfl)))) rfl
theorem tw_516 : Cond.selects RX5 yX5_parting yX5_parting ∈ aw := aw_t (List.mem_append_right _ (List.mem_append_right _ (List.mem_append_left _ (List.mem_of_getElem? (i := 81) rfl)))) rfl
theorem tw_517 : Cond.code yX5_parting cX5_parting 2 (some .int) ∈ aw := aw_t (List.mem_append_right _ (List.mem_append_right _ (List.mem_append_left _ (List.mem_of_getElem? (i := 82) rfl)))) rfl
theorem tw_518 : Cond.methodLink RL 99 yX5_wouldBe ∈ aw := aw_t (List.mem_append_right _ (List.mem_append_right _ (List.mem_append_left _ (List.mem_of_getElem? (i := 83) rfl)))) rfl
theorem tw_519 : Cond.instanceMethod yX5_wouldBe ∈ aw := aw_t (List.mem_append_right _ (List.mem_append_right _ (List.mem_append_left _ (List.mem_of_getElem? (i := 84) rfl)))) rfl
theorem tw_520 : Cond.selects RX5 yX5_wouldBe yX5_wouldBe ∈ aw := aw_t (List.mem_append_right _ (List.mem_append_right _ (List.mem_append_left _ (List.mem_of_getElem? (i := 85) rfl)))) rfl
theorem tw_521 : Cond.code yX5_wouldBe cX5_wouldBe 5 (some .int) ∈ aw := aw_t (List.mem_append_right _ (List.mem_append_right _ (List.mem_append_left _ (List.mem_of_getElem? (i := 86) rfl)))) rfl
theorem tw_522 : Cond.methodLink RX5 216 yX1_leastWeightWith ∈ aw := aw_t (List.mem_append_right _ (List.mem_append_right _ (List.mem_append_left _ (List.mem_of_getElem? (i := 87) rfl)))) rfl
theorem tw_523 : Cond.instanceMethod yX1_leastWeightWith ∈ aw := aw_t (List.mem_append_right _ (List.mem_append_right _ (List.mem_append_left _ (List.mem_of_getElem? (i := 88) rfl)))) rfl
theorem tw_524 : Cond.selects RX1 yX1_leastWeightWith yX1_leastWeightWith ∈ aw := aw_t (List.mem_append_right _ (List.mem_append_right _ (List.mem_append_left _ (List.mem_of_getElem? (i := 89) rfl)))) rfl
theorem tw_525 : Cond.code yX1_leastWeightWith cX1_leastWeightWith 7 (some .int) ∈ aw := aw_t (List.mem_append_right _ (List.mem_append_right _ (List.mem_append_left _ (List.mem_of_getElem? (i := 90) rfl)))) rfl
theorem tw_526 : Cond.methodLink RL 103 yX5_tight ∈ aw := aw_t (List.mem_append_right _ (List.mem_append_right _ (List.mem_append_left _ (List.mem_of_getElem? (i := 91) rfl)))) rfl
theorem tw_527 : Cond.instanceMethod yX5_tight ∈ aw := aw_t (List.mem_append_right _ (List.mem_append_right _ (List.mem_append_left _ (List.mem_of_getElem? (i := 92) rfl)))) rfl
theorem tw_528 : Cond.selects RX5 yX5_tight yX5_tight ∈ aw := aw_t (List.mem_append_right _ (List.mem_append_right _ (List.mem_append_left _ (List.mem_of_getElem? (i := 93) rfl)))) rfl
theorem tw_529 : Cond.code yX5_tight cX5_tight 2 (some .int) ∈ aw := aw_t (List.mem_append_right _ (List.mem_append_right _ (List.mem_append_left _ (List.mem_of_getElem? (i := 94) rfl)))) rfl
theorem tw_530 : Cond.methodLink RX5 222 yX1_tightAt ∈ aw := aw_t (List.mem_append_right _ (List.mem_append_right _ (List.mem_append_left _ (List.mem_of_getElem? (i := 95) rfl)))) rfl
theorem tw_531 : Cond.instanceMethod yX1_tightAt ∈ aw := aw_t (List.mem_append_right _ (List.mem_append_right _ (List.mem_append_left _ (List.mem_of_getElem? (i := 96) rfl)))) rfl
theorem tw_532 : Cond.selects RX1 yX1_tightAt yX1_tightAt ∈ aw := aw_t (List.mem_append_right _ (List.mem_append_right _ (List.mem_append_left _ (List.mem_of_getElem? (i := 97) rfl)))) rfl
theorem tw_533 : Cond.code yX1_tightAt cX1_tightAt 2 (some .int) ∈ aw := aw_t (List.mem_append_right _ (List.mem_append_right _ (List.mem_append_left _ (List.mem_of_getElem? (i := 98) rfl)))) rfl
theorem tw_534 : Cond.methodLink RL 107 yX5_count ∈ aw := aw_t (List.mem_append_right _ (List.mem_append_right _ (List.mem_append_left _ (List.mem_of_getElem? (i := 99) rfl)))) rfl
theorem tw_535 : Cond.instanceMethod yX5_count ∈ aw := aw_t (List.mem_append_right _ (List.mem_append_right _ (List.mem_append_left _ (List.mem_of_getElem? (i := 100) rfl)))) rfl
theorem tw_536 : Cond.selects RX5 yX5_count yX5_count ∈ aw := aw_t (List.mem_append_right _ (List.mem_append_right _ (List.mem_append_left _ (List.mem_of_getElem? (i := 101) rfl)))) rfl
theorem tw_537 : Cond.code yX5_count cX5_count 2 (some .int) ∈ aw := aw_t (List.mem_append_right _ (List.mem_append_right _ (List.mem_append_left _ (List.mem_of_getElem? (i := 102) rfl)))) rfl
theorem tw_538 : Cond.methodLink RX5 225 yX4_tieCount ∈ aw := aw_t (List.mem_append_right _ (List.mem_append_right _ (List.mem_append_left _ (List.mem_of_getElem? (i := 103) rfl)))) rfl
theorem tw_539 : Cond.instanceMethod yX4_tieCount ∈ aw := aw_t (List.mem_append_right _ (List.mem_append_right _ (List.mem_append_left _ (List.mem_of_getElem? (i := 104) rfl)))) rfl
theorem tw_540 : Cond.selects RX4 yX4_tieCount yX4_tieCount ∈ aw := aw_t (List.mem_append_right _ (List.mem_append_right _ (List.mem_append_left _ (List.mem_of_getElem? (i := 105) rfl)))) rfl
theorem tw_541 : Cond.code yX4_tieCount cX4_tieCount 3 (some .int) ∈ aw := aw_t (List.mem_append_right _ (List.mem_append_right _ (List.mem_append_left _ (List.mem_of_getElem? (i := 106) rfl)))) rfl
theorem tw_542 : Cond.methodLink RX4 63 yJ6_bitCount_0f7a4 ∈ aw := aw_t (List.mem_append_right _ (List.mem_append_right _ (List.mem_append_left _ (List.mem_of_getElem? (i := 107) rfl)))) rfl
theorem tw_543 : Cond.methodLink RX5 228 yX4_allWeights ∈ aw := aw_t (List.mem_append_right _ (List.mem_append_right _ (List.mem_append_left _ (List.mem_of_getElem? (i := 108) rfl)))) rfl
theorem tw_544 : Cond.instanceMethod yX4_allWeights ∈ aw := aw_t (List.mem_append_right _ (List.mem_append_right _ (List.mem_append_left _ (List.mem_of_getElem? (i := 109) rfl)))) rfl
theorem tw_545 : Cond.selects RX4 yX4_allWeights yX4_allWeights ∈ aw := aw_t (List.mem_append_right _ (List.mem_append_right _ (List.mem_append_left _ (List.mem_of_getElem? (i := 110) rfl)))) rfl
theorem tw_546 : Cond.code yX4_allWeights cX4_allWeights 3 (some .int) ∈ aw := aw_t (List.mem_append_right _ (List.mem_append_right _ (List.mem_append_left _ (List.mem_of_getElem? (i := 111) rfl)))) rfl
theorem tw_547 : Cond.methodLink RX4 68 yX4_weightsOf ∈ aw := aw_t (List.mem_append_right _ (List.mem_append_right _ (List.mem_append_left _ (List.mem_of_getElem? (i := 112) rfl)))) rfl
theorem tw_548 : Cond.methodLink RX5 231 yX5_countPartings ∈ aw := aw_t (List.mem_append_right _ (List.mem_append_right _ (List.mem_append_left _ (List.mem_of_getElem? (i := 113) rfl)))) rfl
theorem tw_550 : Cond.instanceMethod yX5_countPartings ∈ aw := aw_t (List.mem_append_right _ (List.mem_append_right _ (List.mem_append_left _ (List.mem_of_getElem? (i := 115) rfl)))) rfl
theorem tw_551 : Cond.code yX5_countPartings cX5_countPartings 2 (some .int) ∈ aw := aw_t (List.mem_append_right _ (List.mem_append_right _ (List.mem_append_left _ (List.mem_of_getElem? (i := 116) rfl)))) rfl
theorem tw_552 : Cond.methodLink RX5 237 yX1_fairCount ∈ aw := aw_t (List.mem_append_right _ (List.mem_append_right _ (List.mem_append_left _ (List.mem_of_getElem? (i := 117) rfl)))) rfl
theorem tw_553 : Cond.instanceMethod yX1_fairCount ∈ aw := aw_t (List.mem_append_right _ (List.mem_append_right _ (List.mem_append_left _ (List.mem_of_getElem? (i := 118) rfl)))) rfl
theorem tw_554 : Cond.selects RX1 yX1_fairCount yX1_fairCount ∈ aw := aw_t (List.mem_append_right _ (List.mem_append_right _ (List.mem_append_left _ (List.mem_of_getElem? (i := 119) rfl)))) rfl
theorem tw_555 : Cond.code yX1_fairCount cX1_fairCount 4 (some .int) ∈ aw := aw_t (List.mem_append_right _ (List.mem_append_right _ (List.mem_append_left _ (List.mem_of_getElem? (i := 120) rfl)))) rfl
theorem tw_556 : Cond.methodLink RX5 234 yX4_partCount ∈ aw := aw_t (List.mem_append_right _ (List.mem_append_right _ (List.mem_append_left _ (List.mem_of_getElem? (i := 121) rfl)))) rfl
theorem tw_557 : Cond.instanceMethod yX4_partCount ∈ aw := aw_t (List.mem_append_right _ (List.mem_append_right _ (List.mem_append_left _ (List.mem_of_getElem? (i := 122) rfl)))) rfl
theorem tw_558 : Cond.selects RX4 yX4_partCount yX4_partCount ∈ aw := aw_t (List.mem_append_right _ (List.mem_append_right _ (List.mem_append_left _ (List.mem_of_getElem? (i := 123) rfl)))) rfl
theorem tw_559 : Cond.code yX4_partCount cX4_partCount 4 (some .int) ∈ aw := aw_t (List.mem_append_right _ (List.mem_append_right _ (List.mem_append_left _ (List.mem_of_getElem? (i := 124) rfl)))) rfl
theorem tw_560 : Cond.methodLink RX4 60 yX4_reachedFrom ∈ aw := aw_t (List.mem_append_right _ (List.mem_append_right _ (List.mem_append_left _ (List.mem_of_getElem? (i := 125) rfl)))) rfl
theorem tw_561 : Cond.classLink RL 10 RX6 ∈ aw := aw_t (List.mem_append_right _ (List.mem_append_right _ (List.mem_append_left _ (List.mem_of_getElem? (i := 126) rfl)))) rfl
theorem tw_562 : Cond.instantiable RX6 18 ∈ aw := aw_t (List.mem_append_right _ (List.mem_append_right _ (List.mem_append_left _ (List.mem_of_getElem? (i := 127) rfl)))) rfl
theorem tw_563 : Cond.methodLink RL 12 yX6_init ∈ aw := aw_t (List.mem_append_right _ (List.mem_append_right _ (List.mem_append_left _ (List.mem_of_getElem? (i := 128) rfl)))) rfl
theorem tw_564 : Cond.instanceMethod yX6_init ∈ aw := aw_t (List.mem_append_right _ (List.mem_append_right _ (List.mem_append_left _ (List.mem_of_getElem? (i := 129) rfl)))) rfl
theorem tw_565 : Cond.code yX6_init cX6_init 1 none ∈ aw := aw_t (List.mem_append_right _ (List.mem_append_right _ (List.mem_append_left _ (List.mem_of_getElem? (i := 130) rfl)))) rfl
theorem tw_566 : Cond.methodLink RX6 1 objectInit ∈ aw := aw_t (List.mem_append_right _ (List.mem_append_right _ (List.mem_append_left _ (List.mem_of_getElem? (i := 131) rfl)))) rfl
theorem tw_567 : Cond.fieldLink RX6 34 "PartedWebsModel" "thrown" "I" ∈ aw := aw_t (List.mem_append_right _ (List.mem_append_right _ (List.mem_append_left _ (List.mem_of_getElem? (i := 132) rfl)))) rfl
theorem tw_568 : Cond.fieldLink RX6 7 "PartedWebsModel" "s" "[I" ∈ aw := aw_t (List.mem_append_right _ (List.mem_append_right _ (List.mem_append_left _ (List.mem_of_getElem? (i := 133) rfl)))) rfl
theorem tw_569 : Cond.fieldLink RX6 13 "PartedWebsModel" "saved" "[I" ∈ aw := aw_t (List.mem_append_right _ (List.mem_append_right _ (List.mem_append_left _ (List.mem_of_getElem? (i := 134) rfl)))) rfl
theorem tw_570 : Cond.fieldLink RX6 42 "PartedWebsModel" "savedMany" "I" ∈ aw := aw_t (List.mem_append_right _ (List.mem_append_right _ (List.mem_append_left _ (List.mem_of_getElem? (i := 135) rfl)))) rfl
theorem tw_571 : Cond.fieldLink RX6 16 "PartedWebsModel" "snapshot" "[I" ∈ aw := aw_t (List.mem_append_right _ (List.mem_append_right _ (List.mem_append_left _ (List.mem_of_getElem? (i := 136) rfl)))) rfl
theorem tw_572 : Cond.fieldLink RX6 150 "PartedWebsModel" "hasSnapshot" "Z" ∈ aw := aw_t (List.mem_append_right _ (List.mem_append_right _ (List.mem_append_left _ (List.mem_of_getElem? (i := 137) rfl)))) rfl
theorem tw_573 : Cond.fieldLink RX6 19 "PartedWebsModel" "text" "[I" ∈ aw := aw_t (List.mem_append_right _ (List.mem_append_right _ (List.mem_append_left _ (List.mem_of_getElem? (i := 138) rfl)))) rfl
theorem tw_574 : Cond.fieldLink RX6 128 "PartedWebsModel" "length" "I" ∈ aw := aw_t (List.mem_append_right _ (List.mem_append_right _ (List.mem_append_left _ (List.mem_of_getElem? (i := 139) rfl)))) rfl
theorem tw_575 : Cond.fieldLink RX6 22 "PartedWebsModel" "lumps" "[I" ∈ aw := aw_t (List.mem_append_right _ (List.mem_append_right _ (List.mem_append_left _ (List.mem_of_getElem? (i := 140) rfl)))) rfl
theorem tw_576 : Cond.fieldLink RX6 77 "PartedWebsModel" "lumpMany" "I" ∈ aw := aw_t (List.mem_append_right _ (List.mem_append_right _ (List.mem_append_left _ (List.mem_of_getElem? (i := 141) rfl)))) rfl
theorem tw_577 : Cond.fieldLink RX6 25 "PartedWebsModel" "order" "[I" ∈ aw := aw_t (List.mem_append_right _ (List.mem_append_right _ (List.mem_append_left _ (List.mem_of_getElem? (i := 142) rfl)))) rfl
theorem tw_578 : Cond.fieldLink RX6 28 "PartedWebsModel" "nears" "[I" ∈ aw := aw_t (List.mem_append_right _ (List.mem_append_right _ (List.mem_append_left _ (List.mem_of_getElem? (i := 143) rfl)))) rfl
theorem tw_579 : Cond.fieldLink RX6 86 "PartedWebsModel" "partingSet" "I" ∈ aw := aw_t (List.mem_append_right _ (List.mem_append_right _ (List.mem_append_left _ (List.mem_of_getElem? (i := 144) rfl)))) rfl
theorem tw_580 : Cond.fieldLink RX6 89 "PartedWebsModel" "partingWeight" "I" ∈ aw := aw_t (List.mem_append_right _ (List.mem_append_right _ (List.mem_append_left _ (List.mem_of_getElem? (i := 145) rfl)))) rfl
theorem tw_581 : Cond.fieldLink RX6 125 "PartedWebsModel" "at" "I" ∈ aw := aw_t (List.mem_append_right _ (List.mem_append_right _ (List.mem_append_left _ (List.mem_of_getElem? (i := 146) rfl)))) rfl
theorem tw_582 : Cond.fieldLink RX6 131 "PartedWebsModel" "isWell" "Z" ∈ aw := aw_t (List.mem_append_right _ (List.mem_append_right _ (List.mem_append_left _ (List.mem_of_getElem? (i := 147) rfl)))) rfl
theorem tw_583 : Cond.fieldLink RX6 31 "PartedWebsModel" "told" "[I" ∈ aw := aw_t (List.mem_append_right _ (List.mem_append_right _ (List.mem_append_left _ (List.mem_of_getElem? (i := 148) rfl)))) rfl
theorem tw_584 : Cond.fieldLink RX6 141 "PartedWebsModel" "toldMany" "I" ∈ aw := aw_t (List.mem_append_right _ (List.mem_append_right _ (List.mem_append_left _ (List.mem_of_getElem? (i := 149) rfl)))) rfl
theorem tw_585 : Cond.lays "PartedWebsModel" "PartedWebsModel" "thrown" "I" ∈ aw := aw_t (List.mem_append_right _ (List.mem_append_right _ (List.mem_append_left _ (List.mem_of_getElem? (i := 150) rfl)))) rfl
theorem tw_586 : Cond.laysFinal "PartedWebsModel" "PartedWebsModel" "s" "[I" ∈ aw := aw_t (List.mem_append_right _ (List.mem_append_right _ (List.mem_append_left _ (List.mem_of_getElem? (i := 152) rfl)))) rfl
theorem tw_587 : Cond.laysFinal "PartedWebsModel" "PartedWebsModel" "saved" "[I" ∈ aw := aw_t (List.mem_append_right _ (List.mem_append_right _ (List.mem_append_left _ (List.mem_of_getElem? (i := 154) rfl)))) rfl
theorem tw_588 : Cond.lays "PartedWebsModel" "PartedWebsModel" "savedMany" "I" ∈ aw := aw_t (List.mem_append_right _ (List.mem_append_right _ (List.mem_append_left _ (List.mem_of_getElem? (i := 156) rfl)))) rfl
theorem tw_589 : Cond.laysFinal "PartedWebsModel" "PartedWebsModel" "snapshot" "[I" ∈ aw := aw_t (List.mem_append_right _ (List.mem_append_right _ (List.mem_append_left _ (List.mem_of_getElem? (i := 158) rfl)))) rfl
theorem tw_590 : Cond.lays "PartedWebsModel" "PartedWebsModel" "hasSnapshot" "Z" ∈ aw := aw_t (List.mem_append_right _ (List.mem_append_right _ (List.mem_append_left _ (List.mem_of_getElem? (i := 160) rfl)))) rfl
theorem tw_591 : Cond.laysFinal "PartedWebsModel" "PartedWebsModel" "text" "[I" ∈ aw := aw_t (List.mem_append_right _ (List.mem_append_right _ (List.mem_append_left _ (List.mem_of_getElem? (i := 162) rfl)))) rfl
theorem tw_592 : Cond.lays "PartedWebsModel" "PartedWebsModel" "length" "I" ∈ aw := aw_t (List.mem_append_right _ (List.mem_append_right _ (List.mem_append_left _ (List.mem_of_getElem? (i := 164) rfl)))) rfl
theorem tw_593 : Cond.laysFinal "PartedWebsModel" "PartedWebsModel" "lumps" "[I" ∈ aw := aw_t (List.mem_append_right _ (List.mem_append_right _ (List.mem_append_left _ (List.mem_of_getElem? (i := 166) rfl)))) rfl
theorem tw_594 : Cond.lays "PartedWebsModel" "PartedWebsModel" "lumpMany" "I" ∈ aw := aw_t (List.mem_append_right _ (List.mem_append_right _ (List.mem_append_left _ (List.mem_of_getElem? (i := 168) rfl)))) rfl
theorem tw_595 : Cond.laysFinal "PartedWebsModel" "PartedWebsModel" "order" "[I" ∈ aw := aw_t (List.mem_append_right _ (List.mem_append_right _ (List.mem_append_left _ (List.mem_of_getElem? (i := 170) rfl)))) rfl
theorem tw_596 : Cond.laysFinal "PartedWebsModel" "PartedWebsModel" "nears" "[I" ∈ aw := aw_t (List.mem_append_right _ (List.mem_append_right _ (List.mem_append_left _ (List.mem_of_getElem? (i := 172) rfl)))) rfl
theorem tw_597 : Cond.lays "PartedWebsModel" "PartedWebsModel" "partingSet" "I" ∈ aw := aw_t (List.mem_append_right _ (List.mem_append_right _ (List.mem_append_left _ (List.mem_of_getElem? (i := 174) rfl)))) rfl
theorem tw_598 : Cond.lays "PartedWebsModel" "PartedWebsModel" "partingWeight" "I" ∈ aw := aw_t (List.mem_append_right _ (List.mem_append_right _ (List.mem_append_left _ (List.mem_of_getElem? (i := 176) rfl)))) rfl
theorem tw_599 : Cond.lays "PartedWebsModel" "PartedWebsModel" "at" "I" ∈ aw := aw_t (List.mem_append_right _ (List.mem_append_right _ (List.mem_append_left _ (List.mem_of_getElem? (i := 178) rfl)))) rfl
theorem tw_600 : Cond.lays "PartedWebsModel" "PartedWebsModel" "isWell" "Z" ∈ aw := aw_t (List.mem_append_right _ (List.mem_append_right _ (List.mem_append_left _ (List.mem_of_getElem? (i := 180) rfl)))) rfl
theorem tw_601 : Cond.laysFinal "PartedWebsModel" "PartedWebsModel" "told" "[I" ∈ aw := aw_t (List.mem_append_right _ (List.mem_append_right _ (List.mem_append_left _ (List.mem_of_getElem? (i := 182) rfl)))) rfl
theorem tw_602 : Cond.lays "PartedWebsModel" "PartedWebsModel" "toldMany" "I" ∈ aw := aw_t (List.mem_append_right _ (List.mem_append_right _ (List.mem_append_left _ (List.mem_of_getElem? (i := 184) rfl)))) rfl
theorem tw_603 : Cond.methodLink RL 17 yX6_grow ∈ aw := aw_t (List.mem_append_right _ (List.mem_append_right _ (List.mem_append_left _ (List.mem_of_getElem? (i := 187) rfl)))) rfl
theorem tw_604 : Cond.instanceMethod yX6_grow ∈ aw := aw_t (List.mem_append_right _ (List.mem_append_right _ (List.mem_append_left _ (List.mem_of_getElem? (i := 188) rfl)))) rfl
theorem tw_605 : Cond.selects RX6 yX6_grow yX6_grow ∈ aw := aw_t (List.mem_append_right _ (List.mem_append_right _ (List.mem_append_left _ (List.mem_of_getElem? (i := 189) rfl)))) rfl
theorem tw_606 : Cond.code yX6_grow cX6_grow 1 (some .int) ∈ aw := aw_t (List.mem_append_right _ (List.mem_append_right _ (List.mem_append_left _ (List.mem_of_getElem? (i := 190) rfl)))) rfl
theorem tw_607 : Cond.methodLink RX6 105 yX6_records ∈ aw := aw_t (List.mem_append_right _ (List.mem_append_right _ (List.mem_append_left _ (List.mem_of_getElem? (i := 191) rfl)))) rfl
theorem tw_609 : Cond.instanceMethod yX6_records ∈ aw := aw_t (List.mem_append_right _ (List.mem_append_right _ (List.mem_append_left _ (List.mem_of_getElem? (i := 193) rfl)))) rfl
theorem tw_610 : Cond.code yX6_records cX6_records 2 none ∈ aw := aw_t (List.mem_append_right _ (List.mem_append_right _ (List.mem_append_left _ (List.mem_of_getElem? (i := 194) rfl)))) rfl
theorem tw_611 : Cond.methodLink RL 22 yX6_remove ∈ aw := aw_t (List.mem_append_right _ (List.mem_append_right _ (List.mem_append_left _ (List.mem_of_getElem? (i := 195) rfl)))) rfl
theorem tw_612 : Cond.instanceMethod yX6_remove ∈ aw := aw_t (List.mem_append_right _ (List.mem_append_right _ (List.mem_append_left _ (List.mem_of_getElem? (i := 196) rfl)))) rfl
theorem tw_613 : Cond.selects RX6 yX6_remove yX6_remove ∈ aw := aw_t (List.mem_append_right _ (List.mem_append_right _ (List.mem_append_left _ (List.mem_of_getElem? (i := 197) rfl)))) rfl
theorem tw_614 : Cond.code yX6_remove cX6_remove 2 (some .int) ∈ aw := aw_t (List.mem_append_right _ (List.mem_append_right _ (List.mem_append_left _ (List.mem_of_getElem? (i := 198) rfl)))) rfl
theorem tw_615 : Cond.methodLink RX6 108 yX6_isPlace ∈ aw := aw_t (List.mem_append_right _ (List.mem_append_right _ (List.mem_append_left _ (List.mem_of_getElem? (i := 199) rfl)))) rfl
theorem tw_617 : Cond.instanceMethod yX6_isPlace ∈ aw := aw_t (List.mem_append_right _ (List.mem_append_right _ (List.mem_append_left _ (List.mem_of_getElem? (i := 201) rfl)))) rfl
theorem tw_618 : Cond.code yX6_isPlace cX6_isPlace 2 (some .boolean) ∈ aw := aw_t (List.mem_append_right _ (List.mem_append_right _ (List.mem_append_left _ (List.mem_of_getElem? (i := 202) rfl)))) rfl
theorem tw_619 : Cond.methodLink RX6 38 yX6_in ∈ aw := aw_t (List.mem_append_right _ (List.mem_append_right _ (List.mem_append_left _ (List.mem_of_getElem? (i := 203) rfl)))) rfl
theorem tw_620 : Cond.static yX6_in ∈ aw := aw_t (List.mem_append_right _ (List.mem_append_right _ (List.mem_append_left _ (List.mem_of_getElem? (i := 204) rfl)))) rfl
theorem tw_621 : Cond.code yX6_in cX6_in 3 (some .boolean) ∈ aw := aw_t (List.mem_append_right _ (List.mem_append_right _ (List.mem_append_left _ (List.mem_of_getElem? (i := 205) rfl)))) rfl
theorem tw_622 : Cond.methodLink RX6 111 yX6_drops ∈ aw := aw_t (List.mem_append_right _ (List.mem_append_right _ (List.mem_append_left _ (List.mem_of_getElem? (i := 206) rfl)))) rfl
theorem tw_624 : Cond.instanceMethod yX6_drops ∈ aw := aw_t (List.mem_append_right _ (List.mem_append_right _ (List.mem_append_left _ (List.mem_of_getElem? (i := 208) rfl)))) rfl
theorem tw_625 : Cond.code yX6_drops cX6_drops 5 none ∈ aw := aw_t (List.mem_append_right _ (List.mem_append_right _ (List.mem_append_left _ (List.mem_of_getElem? (i := 209) rfl)))) rfl
theorem tw_626 : Cond.methodLink RX6 45 yX6_tied ∈ aw := aw_t (List.mem_append_right _ (List.mem_append_right _ (List.mem_append_left _ (List.mem_of_getElem? (i := 210) rfl)))) rfl
theorem tw_628 : Cond.instanceMethod yX6_tied ∈ aw := aw_t (List.mem_append_right _ (List.mem_append_right _ (List.mem_append_left _ (List.mem_of_getElem? (i := 212) rfl)))) rfl
theorem tw_629 : Cond.code yX6_tied cX6_tied 3 (some .int) ∈ aw := aw_t (List.mem_append_right _ (List.mem_append_right _ (List.mem_append_left _ (List.mem_of_getElem? (i := 213) rfl)))) rfl
theorem tw_630 : Cond.methodLink RL 27 yX6_join ∈ aw := aw_t (List.mem_append_right _ (List.mem_append_right _ (List.mem_append_left _ (List.mem_of_getElem? (i := 214) rfl)))) rfl
theorem tw_631 : Cond.instanceMethod yX6_join ∈ aw := aw_t (List.mem_append_right _ (List.mem_append_right _ (List.mem_append_left _ (List.mem_of_getElem? (i := 215) rfl)))) rfl
theorem tw_632 : Cond.selects RX6 yX6_join yX6_join ∈ aw := aw_t (List.mem_append_right _ (List.mem_append_right _ (List.mem_append_left _ (List.mem_of_getElem? (i := 216) rfl)))) rfl
theorem tw_633 : Cond.code yX6_join cX6_join 7 (some .int) ∈ aw := aw_t (List.mem_append_right _ (List.mem_append_right _ (List.mem_append_left _ (List.mem_of_getElem? (i := 217) rfl)))) rfl
theorem tw_634 : Cond.methodLink RX6 114 yX6_ties ∈ aw := aw_t (List.mem_append_right _ (List.mem_append_right _ (List.mem_append_left _ (List.mem_of_getElem? (i := 218) rfl)))) rfl
theorem tw_636 : Cond.instanceMethod yX6_ties ∈ aw := aw_t (List.mem_append_right _ (List.mem_append_right _ (List.mem_append_left _ (List.mem_of_getElem? (i := 220) rfl)))) rfl
theorem tw_637 : Cond.code yX6_ties cX6_ties 4 none ∈ aw := aw_t (List.mem_append_right _ (List.mem_append_right _ (List.mem_append_left _ (List.mem_of_getElem? (i := 221) rfl)))) rfl
theorem tw_638 : Cond.methodLink RL 32 yX6_tie ∈ aw := aw_t (List.mem_append_right _ (List.mem_append_right _ (List.mem_append_left _ (List.mem_of_getElem? (i := 222) rfl)))) rfl
theorem tw_639 : Cond.instanceMethod yX6_tie ∈ aw := aw_t (List.mem_append_right _ (List.mem_append_right _ (List.mem_append_left _ (List.mem_of_getElem? (i := 223) rfl)))) rfl
theorem tw_640 : Cond.selects RX6 yX6_tie yX6_tie ∈ aw := aw_t (List.mem_append_right _ (List.mem_append_right _ (List.mem_append_left _ (List.mem_of_getElem? (i := 224) rfl)))) rfl
theorem tw_641 : Cond.code yX6_tie cX6_tie 6 (some .int) ∈ aw := aw_t (List.mem_append_right _ (List.mem_append_right _ (List.mem_append_left _ (List.mem_of_getElem? (i := 225) rfl)))) rfl
theorem tw_642 : Cond.methodLink RX6 118 yX6_refusesPair ∈ aw := aw_t (List.mem_append_right _ (List.mem_append_right _ (List.mem_append_left _ (List.mem_of_getElem? (i := 226) rfl)))) rfl
theorem tw_644 : Cond.instanceMethod yX6_refusesPair ∈ aw := aw_t (List.mem_append_right _ (List.mem_append_right _ (List.mem_append_left _ (List.mem_of_getElem? (i := 228) rfl)))) rfl
theorem tw_645 : Cond.code yX6_refusesPair cX6_refusesPair 4 (some .int) ∈ aw := aw_t (List.mem_append_right _ (List.mem_append_right _ (List.mem_append_left _ (List.mem_of_getElem? (i := 229) rfl)))) rfl
theorem tw_646 : Cond.methodLink RL 40 yX6_set ∈ aw := aw_t (List.mem_append_right _ (List.mem_append_right _ (List.mem_append_left _ (List.mem_of_getElem? (i := 230) rfl)))) rfl
theorem tw_647 : Cond.instanceMethod yX6_set ∈ aw := aw_t (List.mem_append_right _ (List.mem_append_right _ (List.mem_append_left _ (List.mem_of_getElem? (i := 231) rfl)))) rfl
theorem tw_648 : Cond.selects RX6 yX6_set yX6_set ∈ aw := aw_t (List.mem_append_right _ (List.mem_append_right _ (List.mem_append_left _ (List.mem_of_getElem? (i := 232) rfl)))) rfl
theorem tw_649 : Cond.code yX6_set cX6_set 5 (some .int) ∈ aw := aw_t (List.mem_append_right _ (List.mem_append_right _ (List.mem_append_left _ (List.mem_of_getElem? (i := 233) rfl)))) rfl
theorem tw_650 : Cond.methodLink RL 44 yX6_strengthen ∈ aw := aw_t (List.mem_append_right _ (List.mem_append_right _ (List.mem_append_left _ (List.mem_of_getElem? (i := 234) rfl)))) rfl
theorem tw_651 : Cond.instanceMethod yX6_strengthen ∈ aw := aw_t (List.mem_append_right _ (List.mem_append_right _ (List.mem_append_left _ (List.mem_of_getElem? (i := 235) rfl)))) rfl
theorem tw_652 : Cond.selects RX6 yX6_strengthen yX6_strengthen ∈ aw := aw_t (List.mem_append_right _ (List.mem_append_right _ (List.mem_append_left _ (List.mem_of_getElem? (i := 236) rfl)))) rfl
theorem tw_653 : Cond.code yX6_strengthen cX6_strengthen 5 (some .int) ∈ aw := aw_t (List.mem_append_right _ (List.mem_append_right _ (List.mem_append_left _ (List.mem_of_getElem? (i := 237) rfl)))) rfl
theorem tw_654 : Cond.methodLink RX6 122 yX6_leastByPhases ∈ aw := aw_t (List.mem_append_right _ (List.mem_append_right _ (List.mem_append_left _ (List.mem_of_getElem? (i := 238) rfl)))) rfl
theorem tw_656 : Cond.instanceMethod yX6_leastByPhases ∈ aw := aw_t (List.mem_append_right _ (List.mem_append_right _ (List.mem_append_right _ (List.mem_of_getElem? (i := 0) rfl)))) rfl
theorem tw_657 : Cond.code yX6_leastByPhases cX6_leastByPhases 1 (some .int) ∈ aw := aw_t (List.mem_append_right _ (List.mem_append_right _ (List.mem_append_right _ (List.mem_of_getElem? (i := 1) rfl)))) rfl
theorem tw_658 : Cond.methodLink RX6 102 yX6_leastPhase ∈ aw := aw_t (List.mem_append_right _ (List.mem_append_right _ (List.mem_append_right _ (List.mem_of_getElem? (i := 2) rfl)))) rfl
theorem tw_660 : Cond.instanceMethod yX6_leastPhase ∈ aw := aw_t (List.mem_append_right _ (List.mem_append_right _ (List.mem_append_right _ (List.mem_of_getElem? (i := 4) rfl)))) rfl
theorem tw_661 : Cond.code yX6_leastPhase cX6_leastPhase 4 (some .int) ∈ aw := aw_t (List.mem_append_right _ (List.mem_append_right _ (List.mem_append_right _ (List.mem_of_getElem? (i := 5) rfl)))) rfl
theorem tw_662 : Cond.methodLink RX6 98 yX6_laysPhase ∈ aw := aw_t (List.mem_append_right _ (List.mem_append_right _ (List.mem_append_right _ (List.mem_of_getElem? (i := 6) rfl)))) rfl
theorem tw_664 : Cond.instanceMethod yX6_laysPhase ∈ aw := aw_t (List.mem_append_right _ (List.mem_append_right _ (List.mem_append_right _ (List.mem_of_getElem? (i := 8) rfl)))) rfl
theorem tw_665 : Cond.code yX6_laysPhase cX6_laysPhase 3 none ∈ aw := aw_t (List.mem_append_right _ (List.mem_append_right _ (List.mem_append_right _ (List.mem_of_getElem? (i := 9) rfl)))) rfl
theorem tw_666 : Cond.methodLink RX6 92 yX6_swallows ∈ aw := aw_t (List.mem_append_right _ (List.mem_append_right _ (List.mem_append_right _ (List.mem_of_getElem? (i := 10) rfl)))) rfl
theorem tw_668 : Cond.instanceMethod yX6_swallows ∈ aw := aw_t (List.mem_append_right _ (List.mem_append_right _ (List.mem_append_right _ (List.mem_of_getElem? (i := 12) rfl)))) rfl
theorem tw_669 : Cond.code yX6_swallows cX6_swallows 4 none ∈ aw := aw_t (List.mem_append_right _ (List.mem_append_right _ (List.mem_append_right _ (List.mem_of_getElem? (i := 13) rfl)))) rfl
theorem tw_670 : Cond.methodLink RX6 83 yX6_nearest ∈ aw := aw_t (List.mem_append_right _ (List.mem_append_right _ (List.mem_append_right _ (List.mem_of_getElem? (i := 14) rfl)))) rfl
theorem tw_672 : Cond.instanceMethod yX6_nearest ∈ aw := aw_t (List.mem_append_right _ (List.mem_append_right _ (List.mem_append_right _ (List.mem_of_getElem? (i := 16) rfl)))) rfl
theorem tw_673 : Cond.code yX6_nearest cX6_nearest 7 (some .int) ∈ aw := aw_t (List.mem_append_right _ (List.mem_append_right _ (List.mem_append_right _ (List.mem_of_getElem? (i := 17) rfl)))) rfl
theorem tw_674 : Cond.methodLink RX6 53 yX6_weightBetween ∈ aw := aw_t (List.mem_append_right _ (List.mem_append_right _ (List.mem_append_right _ (List.mem_of_getElem? (i := 18) rfl)))) rfl
theorem tw_676 : Cond.instanceMethod yX6_weightBetween ∈ aw := aw_t (List.mem_append_right _ (List.mem_append_right _ (List.mem_append_right _ (List.mem_of_getElem? (i := 20) rfl)))) rfl
theorem tw_677 : Cond.code yX6_weightBetween cX6_weightBetween 6 (some .int) ∈ aw := aw_t (List.mem_append_right _ (List.mem_append_right _ (List.mem_append_right _ (List.mem_of_getElem? (i := 21) rfl)))) rfl
theorem tw_678 : Cond.methodLink RX6 80 yX6_nameOf ∈ aw := aw_t (List.mem_append_right _ (List.mem_append_right _ (List.mem_append_right _ (List.mem_of_getElem? (i := 22) rfl)))) rfl
theorem tw_679 : Cond.static yX6_nameOf ∈ aw := aw_t (List.mem_append_right _ (List.mem_append_right _ (List.mem_append_right _ (List.mem_of_getElem? (i := 23) rfl)))) rfl
theorem tw_680 : Cond.code yX6_nameOf cX6_nameOf 2 (some .int) ∈ aw := aw_t (List.mem_append_right _ (List.mem_append_right _ (List.mem_append_right _ (List.mem_of_getElem? (i := 24) rfl)))) rfl
theorem tw_681 : Cond.methodLink RX6 49 yX6_all ∈ aw := aw_t (List.mem_append_right _ (List.mem_append_right _ (List.mem_append_right _ (List.mem_of_getElem? (i := 25) rfl)))) rfl
theorem tw_683 : Cond.instanceMethod yX6_all ∈ aw := aw_t (List.mem_append_right _ (List.mem_append_right _ (List.mem_append_right _ (List.mem_of_getElem? (i := 27) rfl)))) rfl
theorem tw_684 : Cond.code yX6_all cX6_all 1 (some .int) ∈ aw := aw_t (List.mem_append_right _ (List.mem_append_right _ (List.mem_append_right _ (List.mem_of_getElem? (i := 28) rfl)))) rfl
theorem tw_685 : Cond.methodLink RX6 95 yX6_joinsLast ∈ aw := aw_t (List.mem_append_right _ (List.mem_append_right _ (List.mem_append_right _ (List.mem_of_getElem? (i := 29) rfl)))) rfl
theorem tw_687 : Cond.instanceMethod yX6_joinsLast ∈ aw := aw_t (List.mem_append_right _ (List.mem_append_right _ (List.mem_append_right _ (List.mem_of_getElem? (i := 31) rfl)))) rfl
theorem tw_688 : Cond.code yX6_joinsLast cX6_joinsLast 5 none ∈ aw := aw_t (List.mem_append_right _ (List.mem_append_right _ (List.mem_append_right _ (List.mem_of_getElem? (i := 32) rfl)))) rfl
theorem tw_689 : Cond.methodLink RL 36 yX6_tieAll ∈ aw := aw_t (List.mem_append_right _ (List.mem_append_right _ (List.mem_append_right _ (List.mem_of_getElem? (i := 33) rfl)))) rfl
theorem tw_690 : Cond.instanceMethod yX6_tieAll ∈ aw := aw_t (List.mem_append_right _ (List.mem_append_right _ (List.mem_append_right _ (List.mem_of_getElem? (i := 34) rfl)))) rfl
theorem tw_691 : Cond.selects RX6 yX6_tieAll yX6_tieAll ∈ aw := aw_t (List.mem_append_right _ (List.mem_append_right _ (List.mem_append_right _ (List.mem_of_getElem? (i := 35) rfl)))) rfl
theorem tw_692 : Cond.code yX6_tieAll cX6_tieAll 3 (some .int) ∈ aw := aw_t (List.mem_append_right _ (List.mem_append_right _ (List.mem_append_right _ (List.mem_of_getElem? (i := 36) rfl)))) rfl
theorem tw_693 : Cond.methodLink RX6 147 yX6_reads ∈ aw := aw_t (List.mem_append_right _ (List.mem_append_right _ (List.mem_append_right _ (List.mem_of_getElem? (i := 37) rfl)))) rfl
theorem tw_695 : Cond.instanceMethod yX6_reads ∈ aw := aw_t (List.mem_append_right _ (List.mem_append_right _ (List.mem_append_right _ (List.mem_of_getElem? (i := 39) rfl)))) rfl
theorem tw_696 : Cond.code yX6_reads cX6_reads 1 (some .int) ∈ aw := aw_t (List.mem_append_right _ (List.mem_append_right _ (List.mem_append_right _ (List.mem_of_getElem? (i := 40) rfl)))) rfl
theorem tw_697 : Cond.methodLink RX6 144 yX6_readsTie ∈ aw := aw_t (List.mem_append_right _ (List.mem_append_right _ (List.mem_append_right _ (List.mem_of_getElem? (i := 41) rfl)))) rfl
theorem tw_699 : Cond.instanceMethod yX6_readsTie ∈ aw := aw_t (List.mem_append_right _ (List.mem_append_right _ (List.mem_append_right _ (List.mem_of_getElem? (i := 43) rfl)))) rfl
theorem tw_700 : Cond.code yX6_readsTie cX6_readsTie 4 none ∈ aw := aw_t (List.mem_append_right _ (List.mem_append_right _ (List.mem_append_right _ (List.mem_of_getElem? (i := 44) rfl)))) rfl
theorem tw_701 : Cond.methodLink RX6 138 yX6_wants ∈ aw := aw_t (List.mem_append_right _ (List.mem_append_right _ (List.mem_append_right _ (List.mem_of_getElem? (i := 45) rfl)))) rfl
theorem tw_703 : Cond.instanceMethod yX6_wants ∈ aw := aw_t (List.mem_append_right _ (List.mem_append_right _ (List.mem_append_right _ (List.mem_of_getElem? (i := 47) rfl)))) rfl
theorem tw_704 : Cond.code yX6_wants cX6_wants 4 (some .int) ∈ aw := aw_t (List.mem_append_right _ (List.mem_append_right _ (List.mem_append_right _ (List.mem_of_getElem? (i := 48) rfl)))) rfl
theorem tw_705 : Cond.methodLink RX6 135 yX6_letter ∈ aw := aw_t (List.mem_append_right _ (List.mem_append_right _ (List.mem_append_right _ (List.mem_of_getElem? (i := 49) rfl)))) rfl
theorem tw_707 : Cond.instanceMethod yX6_letter ∈ aw := aw_t (List.mem_append_right _ (List.mem_append_right _ (List.mem_append_right _ (List.mem_of_getElem? (i := 51) rfl)))) rfl
theorem tw_708 : Cond.code yX6_letter cX6_letter 1 (some .int) ∈ aw := aw_t (List.mem_append_right _ (List.mem_append_right _ (List.mem_append_right _ (List.mem_of_getElem? (i := 52) rfl)))) rfl
theorem tw_709 : Cond.methodLink RL 49 yX6_type ∈ aw := aw_t (List.mem_append_right _ (List.mem_append_right _ (List.mem_append_right _ (List.mem_of_getElem? (i := 53) rfl)))) rfl
theorem tw_710 : Cond.instanceMethod yX6_type ∈ aw := aw_t (List.mem_append_right _ (List.mem_append_right _ (List.mem_append_right _ (List.mem_of_getElem? (i := 54) rfl)))) rfl
theorem tw_711 : Cond.selects RX6 yX6_type yX6_type ∈ aw := aw_t (List.mem_append_right _ (List.mem_append_right _ (List.mem_append_right _ (List.mem_of_getElem? (i := 55) rfl)))) rfl
theorem tw_712 : Cond.code yX6_type cX6_type 2 (some .int) ∈ aw := aw_t (List.mem_append_right _ (List.mem_append_right _ (List.mem_append_right _ (List.mem_of_getElem? (i := 56) rfl)))) rfl
theorem tw_713 : Cond.methodLink RL 53 yX6_clearText ∈ aw := aw_t (List.mem_append_right _ (List.mem_append_right _ (List.mem_append_right _ (List.mem_of_getElem? (i := 57) rfl)))) rfl
theorem tw_714 : Cond.instanceMethod yX6_clearText ∈ aw := aw_t (List.mem_append_right _ (List.mem_append_right _ (List.mem_append_right _ (List.mem_of_getElem? (i := 58) rfl)))) rfl
theorem tw_715 : Cond.selects RX6 yX6_clearText yX6_clearText ∈ aw := aw_t (List.mem_append_right _ (List.mem_append_right _ (List.mem_append_right _ (List.mem_of_getElem? (i := 59) rfl)))) rfl
theorem tw_716 : Cond.code yX6_clearText cX6_clearText 2 (some .int) ∈ aw := aw_t (List.mem_append_right _ (List.mem_append_right _ (List.mem_append_right _ (List.mem_of_getElem? (i := 60) rfl)))) rfl
theorem tw_717 : Cond.methodLink RL 57 yX6_undo ∈ aw := aw_t (List.mem_append_right _ (List.mem_append_right _ (List.mem_append_right _ (List.mem_of_getElem? (i := 61) rfl)))) rfl
theorem tw_718 : Cond.instanceMethod yX6_undo ∈ aw := aw_t (List.mem_append_right _ (List.mem_append_right _ (List.mem_append_right _ (List.mem_of_getElem? (i := 62) rfl)))) rfl
theorem tw_719 : Cond.selects RX6 yX6_undo yX6_undo ∈ aw := aw_t (List.mem_append_right _ (List.mem_append_right _ (List.mem_append_right _ (List.mem_of_getElem? (i := 63) rfl)))) rfl
theorem tw_720 : Cond.code yX6_undo cX6_undo 2 (some .int) ∈ aw := aw_t (List.mem_append_right _ (List.mem_append_right _ (List.mem_append_right _ (List.mem_of_getElem? (i := 64) rfl)))) rfl
theorem tw_721 : Cond.methodLink RL 61 yX6_keep ∈ aw := aw_t (List.mem_append_right _ (List.mem_append_right _ (List.mem_append_right _ (List.mem_of_getElem? (i := 65) rfl)))) rfl
theorem tw_722 : Cond.instanceMethod yX6_keep ∈ aw := aw_t (List.mem_append_right _ (List.mem_append_right _ (List.mem_append_right _ (List.mem_of_getElem? (i := 66) rfl)))) rfl
theorem tw_723 : Cond.selects RX6 yX6_keep yX6_keep ∈ aw := aw_t (List.mem_append_right _ (List.mem_append_right _ (List.mem_append_right _ (List.mem_of_getElem? (i := 67) rfl)))) rfl
theorem tw_724 : Cond.code yX6_keep cX6_keep 2 (some .int) ∈ aw := aw_t (List.mem_append_right _ (List.mem_append_right _ (List.mem_append_right _ (List.mem_of_getElem? (i := 68) rfl)))) rfl
theorem tw_725 : Cond.methodLink RL 65 yX6_restore ∈ aw := aw_t (List.mem_append_right _ (List.mem_append_right _ (List.mem_append_right _ (List.mem_of_getElem? (i := 69) rfl)))) rfl
theorem tw_726 : Cond.instanceMethod yX6_restore ∈ aw := aw_t (List.mem_append_right _ (List.mem_append_right _ (List.mem_append_right _ (List.mem_of_getElem? (i := 70) rfl)))) rfl
theorem tw_727 : Cond.selects RX6 yX6_restore yX6_restore ∈ aw := aw_t (List.mem_append_right _ (List.mem_append_right _ (List.mem_append_right _ (List.mem_of_getElem? (i := 71) rfl)))) rfl
theorem tw_728 : Cond.code yX6_restore cX6_restore 2 (some .int) ∈ aw := aw_t (List.mem_append_right _ (List.mem_append_right _ (List.mem_append_right _ (List.mem_of_getElem? (i := 72) rfl)))) rfl
theorem tw_729 : Cond.methodLink RL 69 yX6_weight ∈ aw := aw_t (List.mem_append_right _ (List.mem_append_right _ (List.mem_append_right _ (List.mem_of_getElem? (i := 73) rfl)))) rfl
theorem tw_730 : Cond.instanceMethod yX6_weight ∈ aw := aw_t (List.mem_append_right _ (List.mem_append_right _ (List.mem_append_right _ (List.mem_of_getElem? (i := 74) rfl)))) rfl
theorem tw_731 : Cond.selects RX6 yX6_weight yX6_weight ∈ aw := aw_t (List.mem_append_right _ (List.mem_append_right _ (List.mem_append_right _ (List.mem_of_getElem? (i := 75) rfl)))) rfl
theorem tw_732 : Cond.code yX6_weight cX6_weight 4 (some .int) ∈ aw := aw_t (List.mem_append_right _ (List.mem_append_right _ (List.mem_append_right _ (List.mem_of_getElem? (i := 76) rfl)))) rfl
theorem tw_733 : Cond.methodLink RL 73 yX6_place ∈ aw := aw_t (List.mem_append_right _ (List.mem_append_right _ (List.mem_append_right _ (List.mem_of_getElem? (i := 77) rfl)))) rfl
theorem tw_734 : Cond.instanceMethod yX6_place ∈ aw := aw_t (List.mem_append_right _ (List.mem_append_right _ (List.mem_append_right _ (List.mem_of_getElem? (i := 78) rfl)))) rfl
theorem tw_735 : Cond.selects RX6 yX6_place yX6_place ∈ aw := aw_t (List.mem_append_right _ (List.mem_append_right _ (List.mem_append_right _ (List.mem_of_getElem? (i := 79) rfl)))) rfl
theorem tw_736 : Cond.code yX6_place cX6_place 3 (some .int) ∈ aw := aw_t (List.mem_append_right _ (List.mem_append_right _ (List.mem_append_right _ (List.mem_of_getElem? (i := 80) rfl)))) rfl
theorem tw_737 : Cond.methodLink RX6 60 yX6_weightOf ∈ aw := aw_t (List.mem_append_right _ (List.mem_append_right _ (List.mem_append_right _ (List.mem_of_getElem? (i := 81) rfl)))) rfl
theorem tw_739 : Cond.instanceMethod yX6_weightOf ∈ aw := aw_t (List.mem_append_right _ (List.mem_append_right _ (List.mem_append_right _ (List.mem_of_getElem? (i := 83) rfl)))) rfl
theorem tw_740 : Cond.code yX6_weightOf cX6_weightOf 2 (some .int) ∈ aw := aw_t (List.mem_append_right _ (List.mem_append_right _ (List.mem_append_right _ (List.mem_of_getElem? (i := 84) rfl)))) rfl
theorem tw_741 : Cond.methodLink RX6 153 yX6_tiedTo ∈ aw := aw_t (List.mem_append_right _ (List.mem_append_right _ (List.mem_append_right _ (List.mem_of_getElem? (i := 85) rfl)))) rfl
theorem tw_743 : Cond.instanceMethod yX6_tiedTo ∈ aw := aw_t (List.mem_append_right _ (List.mem_append_right _ (List.mem_append_right _ (List.mem_of_getElem? (i := 87) rfl)))) rfl
theorem tw_744 : Cond.code yX6_tiedTo cX6_tiedTo 4 (some .int) ∈ aw := aw_t (List.mem_append_right _ (List.mem_append_right _ (List.mem_append_right _ (List.mem_of_getElem? (i := 88) rfl)))) rfl
theorem tw_745 : Cond.methodLink RX6 156 yX6_reached ∈ aw := aw_t (List.mem_append_right _ (List.mem_append_right _ (List.mem_append_right _ (List.mem_of_getElem? (i := 89) rfl)))) rfl
theorem tw_747 : Cond.instanceMethod yX6_reached ∈ aw := aw_t (List.mem_append_right _ (List.mem_append_right _ (List.mem_append_right _ (List.mem_of_getElem? (i := 91) rfl)))) rfl
theorem tw_748 : Cond.code yX6_reached cX6_reached 5 (some .int) ∈ aw := aw_t (List.mem_append_right _ (List.mem_append_right _ (List.mem_append_right _ (List.mem_of_getElem? (i := 92) rfl)))) rfl
theorem tw_749 : Cond.methodLink RX6 159 yX6_tightMany ∈ aw := aw_t (List.mem_append_right _ (List.mem_append_right _ (List.mem_append_right _ (List.mem_of_getElem? (i := 93) rfl)))) rfl
theorem tw_751 : Cond.instanceMethod yX6_tightMany ∈ aw := aw_t (List.mem_append_right _ (List.mem_append_right _ (List.mem_append_right _ (List.mem_of_getElem? (i := 95) rfl)))) rfl
theorem tw_752 : Cond.code yX6_tightMany cX6_tightMany 5 (some .int) ∈ aw := aw_t (List.mem_append_right _ (List.mem_append_right _ (List.mem_append_right _ (List.mem_of_getElem? (i := 96) rfl)))) rfl
theorem tw_753 : Cond.methodLink RX6 73 yX6_isTight ∈ aw := aw_t (List.mem_append_right _ (List.mem_append_right _ (List.mem_append_right _ (List.mem_of_getElem? (i := 97) rfl)))) rfl
theorem tw_755 : Cond.instanceMethod yX6_isTight ∈ aw := aw_t (List.mem_append_right _ (List.mem_append_right _ (List.mem_append_right _ (List.mem_of_getElem? (i := 99) rfl)))) rfl
theorem tw_756 : Cond.code yX6_isTight cX6_isTight 6 (some .boolean) ∈ aw := aw_t (List.mem_append_right _ (List.mem_append_right _ (List.mem_append_right _ (List.mem_of_getElem? (i := 100) rfl)))) rfl
theorem tw_757 : Cond.methodLink RX6 66 yX6_leastWeight ∈ aw := aw_t (List.mem_append_right _ (List.mem_append_right _ (List.mem_append_right _ (List.mem_of_getElem? (i := 101) rfl)))) rfl
theorem tw_759 : Cond.instanceMethod yX6_leastWeight ∈ aw := aw_t (List.mem_append_right _ (List.mem_append_right _ (List.mem_append_right _ (List.mem_of_getElem? (i := 103) rfl)))) rfl
theorem tw_760 : Cond.code yX6_leastWeight cX6_leastWeight 1 (some .int) ∈ aw := aw_t (List.mem_append_right _ (List.mem_append_right _ (List.mem_append_right _ (List.mem_of_getElem? (i := 104) rfl)))) rfl
theorem tw_761 : Cond.methodLink RX6 63 yX6_firstLeast ∈ aw := aw_t (List.mem_append_right _ (List.mem_append_right _ (List.mem_append_right _ (List.mem_of_getElem? (i := 105) rfl)))) rfl
theorem tw_763 : Cond.instanceMethod yX6_firstLeast ∈ aw := aw_t (List.mem_append_right _ (List.mem_append_right _ (List.mem_append_right _ (List.mem_of_getElem? (i := 107) rfl)))) rfl
theorem tw_764 : Cond.code yX6_firstLeast cX6_firstLeast 5 (some .int) ∈ aw := aw_t (List.mem_append_right _ (List.mem_append_right _ (List.mem_append_right _ (List.mem_of_getElem? (i := 108) rfl)))) rfl
theorem tw_765 : Cond.methodLink RX6 162 yX6_rankOf ∈ aw := aw_t (List.mem_append_right _ (List.mem_append_right _ (List.mem_append_right _ (List.mem_of_getElem? (i := 109) rfl)))) rfl
theorem tw_767 : Cond.instanceMethod yX6_rankOf ∈ aw := aw_t (List.mem_append_right _ (List.mem_append_right _ (List.mem_append_right _ (List.mem_of_getElem? (i := 111) rfl)))) rfl
theorem tw_768 : Cond.code yX6_rankOf cX6_rankOf 3 (some .int) ∈ aw := aw_t (List.mem_append_right _ (List.mem_append_right _ (List.mem_append_right _ (List.mem_of_getElem? (i := 112) rfl)))) rfl
theorem tw_769 : Cond.methodLink RL 77 yX6_phase ∈ aw := aw_t (List.mem_append_right _ (List.mem_append_right _ (List.mem_append_right _ (List.mem_of_getElem? (i := 113) rfl)))) rfl
theorem tw_770 : Cond.instanceMethod yX6_phase ∈ aw := aw_t (List.mem_append_right _ (List.mem_append_right _ (List.mem_append_right _ (List.mem_of_getElem? (i := 114) rfl)))) rfl
theorem tw_771 : Cond.selects RX6 yX6_phase yX6_phase ∈ aw := aw_t (List.mem_append_right _ (List.mem_append_right _ (List.mem_append_right _ (List.mem_of_getElem? (i := 115) rfl)))) rfl
theorem tw_772 : Cond.code yX6_phase cX6_phase 5 (some .int) ∈ aw := aw_t (List.mem_append_right _ (List.mem_append_right _ (List.mem_append_right _ (List.mem_of_getElem? (i := 116) rfl)))) rfl
theorem tw_773 : Cond.methodLink RX6 165 yX6_isPhase ∈ aw := aw_t (List.mem_append_right _ (List.mem_append_right _ (List.mem_append_right _ (List.mem_of_getElem? (i := 117) rfl)))) rfl
theorem tw_775 : Cond.instanceMethod yX6_isPhase ∈ aw := aw_t (List.mem_append_right _ (List.mem_append_right _ (List.mem_append_right _ (List.mem_of_getElem? (i := 119) rfl)))) rfl
theorem tw_776 : Cond.code yX6_isPhase cX6_isPhase 2 (some .boolean) ∈ aw := aw_t (List.mem_append_right _ (List.mem_append_right _ (List.mem_append_right _ (List.mem_of_getElem? (i := 120) rfl)))) rfl
theorem tw_777 : Cond.methodLink RL 82 yX6_swallowed ∈ aw := aw_t (List.mem_append_right _ (List.mem_append_right _ (List.mem_append_right _ (List.mem_of_getElem? (i := 121) rfl)))) rfl
theorem tw_778 : Cond.instanceMethod yX6_swallowed ∈ aw := aw_t (List.mem_append_right _ (List.mem_append_right _ (List.mem_append_right _ (List.mem_of_getElem? (i := 122) rfl)))) rfl
theorem tw_779 : Cond.selects RX6 yX6_swallowed yX6_swallowed ∈ aw := aw_t (List.mem_append_right _ (List.mem_append_right _ (List.mem_append_right _ (List.mem_of_getElem? (i := 123) rfl)))) rfl
theorem tw_780 : Cond.code yX6_swallowed cX6_swallowed 4 (some .int) ∈ aw := aw_t (List.mem_append_right _ (List.mem_append_right _ (List.mem_append_right _ (List.mem_of_getElem? (i := 124) rfl)))) rfl
theorem tw_781 : Cond.methodLink RL 86 yX6_least ∈ aw := aw_t (List.mem_append_right _ (List.mem_append_right _ (List.mem_append_right _ (List.mem_of_getElem? (i := 125) rfl)))) rfl
theorem tw_782 : Cond.instanceMethod yX6_least ∈ aw := aw_t (List.mem_append_right _ (List.mem_append_right _ (List.mem_append_right _ (List.mem_of_getElem? (i := 126) rfl)))) rfl
theorem tw_783 : Cond.selects RX6 yX6_least yX6_least ∈ aw := aw_t (List.mem_append_right _ (List.mem_append_right _ (List.mem_append_right _ (List.mem_of_getElem? (i := 127) rfl)))) rfl
theorem tw_784 : Cond.code yX6_least cX6_least 2 (some .int) ∈ aw := aw_t (List.mem_append_right _ (List.mem_append_right _ (List.mem_append_right _ (List.mem_of_getElem? (i := 128) rfl)))) rfl
theorem tw_785 : Cond.methodLink RX6 168 yX6_leastFair ∈ aw := aw_t (List.mem_append_right _ (List.mem_append_right _ (List.mem_append_right _ (List.mem_of_getElem? (i := 129) rfl)))) rfl
theorem tw_787 : Cond.instanceMethod yX6_leastFair ∈ aw := aw_t (List.mem_append_right _ (List.mem_append_right _ (List.mem_append_right _ (List.mem_of_getElem? (i := 131) rfl)))) rfl
theorem tw_788 : Cond.code yX6_leastFair cX6_leastFair 4 (some .int) ∈ aw := aw_t (List.mem_append_right _ (List.mem_append_right _ (List.mem_append_right _ (List.mem_of_getElem? (i := 132) rfl)))) rfl
theorem tw_789 : Cond.methodLink RX6 69 yX6_isFair ∈ aw := aw_t (List.mem_append_right _ (List.mem_append_right _ (List.mem_append_right _ (List.mem_of_getElem? (i := 133) rfl)))) rfl
theorem tw_791 : Cond.instanceMethod yX6_isFair ∈ aw := aw_t (List.mem_append_right _ (List.mem_append_right _ (List.mem_append_right _ (List.mem_of_getElem? (i := 135) rfl)))) rfl
theorem tw_792 : Cond.code yX6_isFair cX6_isFair 3 (some .boolean) ∈ aw := aw_t (List.mem_append_right _ (List.mem_append_right _ (List.mem_append_right _ (List.mem_of_getElem? (i := 136) rfl)))) rfl
theorem tw_793 : Cond.methodLink RX6 56 yX6_ones ∈ aw := aw_t (List.mem_append_right _ (List.mem_append_right _ (List.mem_append_right _ (List.mem_of_getElem? (i := 137) rfl)))) rfl
theorem tw_794 : Cond.static yX6_ones ∈ aw := aw_t (List.mem_append_right _ (List.mem_append_right _ (List.mem_append_right _ (List.mem_of_getElem? (i := 138) rfl)))) rfl
theorem tw_795 : Cond.code yX6_ones cX6_ones 3 (some .int) ∈ aw := aw_t (List.mem_append_right _ (List.mem_append_right _ (List.mem_append_right _ (List.mem_of_getElem? (i := 139) rfl)))) rfl
theorem tw_796 : Cond.methodLink RL 90 yX6_leastOf ∈ aw := aw_t (List.mem_append_right _ (List.mem_append_right _ (List.mem_append_right _ (List.mem_of_getElem? (i := 140) rfl)))) rfl
theorem tw_797 : Cond.instanceMethod yX6_leastOf ∈ aw := aw_t (List.mem_append_right _ (List.mem_append_right _ (List.mem_append_right _ (List.mem_of_getElem? (i := 141) rfl)))) rfl
theorem tw_798 : Cond.selects RX6 yX6_leastOf yX6_leastOf ∈ aw := aw_t (List.mem_append_right _ (List.mem_append_right _ (List.mem_append_right _ (List.mem_of_getElem? (i := 142) rfl)))) rfl
theorem tw_799 : Cond.code yX6_leastOf cX6_leastOf 2 (some .int) ∈ aw := aw_t (List.mem_append_right _ (List.mem_append_right _ (List.mem_append_right _ (List.mem_of_getElem? (i := 143) rfl)))) rfl
theorem tw_800 : Cond.methodLink RX6 171 yX6_leastAt ∈ aw := aw_t (List.mem_append_right _ (List.mem_append_right _ (List.mem_append_right _ (List.mem_of_getElem? (i := 144) rfl)))) rfl
theorem tw_802 : Cond.instanceMethod yX6_leastAt ∈ aw := aw_t (List.mem_append_right _ (List.mem_append_right _ (List.mem_append_right _ (List.mem_of_getElem? (i := 146) rfl)))) rfl
theorem tw_803 : Cond.code yX6_leastAt cX6_leastAt 5 (some .int) ∈ aw := aw_t (List.mem_append_right _ (List.mem_append_right _ (List.mem_append_right _ (List.mem_of_getElem? (i := 147) rfl)))) rfl
theorem tw_804 : Cond.methodLink RL 94 yX6_between ∈ aw := aw_t (List.mem_append_right _ (List.mem_append_right _ (List.mem_append_right _ (List.mem_of_getElem? (i := 148) rfl)))) rfl
theorem tw_805 : Cond.instanceMethod yX6_between ∈ aw := aw_t (List.mem_append_right _ (List.mem_append_right _ (List.mem_append_right _ (List.mem_of_getElem? (i := 149) rfl)))) rfl
theorem tw_806 : Cond.selects RX6 yX6_between yX6_between ∈ aw := aw_t (List.mem_append_right _ (List.mem_append_right _ (List.mem_append_right _ (List.mem_of_getElem? (i := 150) rfl)))) rfl
theorem tw_807 : Cond.code yX6_between cX6_between 6 (some .int) ∈ aw := aw_t (List.mem_append_right _ (List.mem_append_right _ (List.mem_append_right _ (List.mem_of_getElem? (i := 151) rfl)))) rfl
theorem tw_808 : Cond.methodLink RX6 174 yX6_leastBetween ∈ aw := aw_t (List.mem_append_right _ (List.mem_append_right _ (List.mem_append_right _ (List.mem_of_getElem? (i := 152) rfl)))) rfl
theorem tw_810 : Cond.instanceMethod yX6_leastBetween ∈ aw := aw_t (List.mem_append_right _ (List.mem_append_right _ (List.mem_append_right _ (List.mem_of_getElem? (i := 154) rfl)))) rfl
theorem tw_811 : Cond.code yX6_leastBetween cX6_leastBetween 7 (some .int) ∈ aw := aw_t (List.mem_append_right _ (List.mem_append_right _ (List.mem_append_right _ (List.mem_of_getElem? (i := 155) rfl)))) rfl
theorem tw_812 : Cond.methodLink RL 98 yX6_parting ∈ aw := aw_t (List.mem_append_right _ (List.mem_append_right _ (List.mem_append_right _ (List.mem_of_getElem? (i := 156) rfl)))) rfl
theorem tw_813 : Cond.instanceMethod yX6_parting ∈ aw := aw_t (List.mem_append_right _ (List.mem_append_right _ (List.mem_append_right _ (List.mem_of_getElem? (i := 157) rfl)))) rfl
theorem tw_814 : Cond.selects RX6 yX6_parting yX6_parting ∈ aw := aw_t (List.mem_append_right _ (List.mem_append_right _ (List.mem_append_right _ (List.mem_of_getElem? (i := 158) rfl)))) rfl
theorem tw_815 : Cond.code yX6_parting cX6_parting 2 (some .int) ∈ aw := aw_t (List.mem_append_right _ (List.mem_append_right _ (List.mem_append_right _ (List.mem_of_getElem? (i := 159) rfl)))) rfl
theorem tw_816 : Cond.methodLink RX6 177 yX6_isParting ∈ aw := aw_t (List.mem_append_right _ (List.mem_append_right _ (List.mem_append_right _ (List.mem_of_getElem? (i := 160) rfl)))) rfl
theorem tw_818 : Cond.instanceMethod yX6_isParting ∈ aw := aw_t (List.mem_append_right _ (List.mem_append_right _ (List.mem_append_right _ (List.mem_of_getElem? (i := 162) rfl)))) rfl
theorem tw_819 : Cond.code yX6_isParting cX6_isParting 2 (some .boolean) ∈ aw := aw_t (List.mem_append_right _ (List.mem_append_right _ (List.mem_append_right _ (List.mem_of_getElem? (i := 163) rfl)))) rfl
theorem tw_820 : Cond.methodLink RL 102 yX6_wouldBe ∈ aw := aw_t (List.mem_append_right _ (List.mem_append_right _ (List.mem_append_right _ (List.mem_of_getElem? (i := 164) rfl)))) rfl
theorem tw_821 : Cond.instanceMethod yX6_wouldBe ∈ aw := aw_t (List.mem_append_right _ (List.mem_append_right _ (List.mem_append_right _ (List.mem_of_getElem? (i := 165) rfl)))) rfl
theorem tw_822 : Cond.selects RX6 yX6_wouldBe yX6_wouldBe ∈ aw := aw_t (List.mem_append_right _ (List.mem_append_right _ (List.mem_append_right _ (List.mem_of_getElem? (i := 166) rfl)))) rfl
theorem tw_823 : Cond.code yX6_wouldBe cX6_wouldBe 7 (some .int) ∈ aw := aw_t (List.mem_append_right _ (List.mem_append_right _ (List.mem_append_right _ (List.mem_of_getElem? (i := 167) rfl)))) rfl
theorem tw_824 : Cond.methodLink RL 106 yX6_tight ∈ aw := aw_t (List.mem_append_right _ (List.mem_append_right _ (List.mem_append_right _ (List.mem_of_getElem? (i := 168) rfl)))) rfl
theorem tw_825 : Cond.instanceMethod yX6_tight ∈ aw := aw_t (List.mem_append_right _ (List.mem_append_right _ (List.mem_append_right _ (List.mem_of_getElem? (i := 169) rfl)))) rfl
theorem tw_826 : Cond.selects RX6 yX6_tight yX6_tight ∈ aw := aw_t (List.mem_append_right _ (List.mem_append_right _ (List.mem_append_right _ (List.mem_of_getElem? (i := 170) rfl)))) rfl
theorem tw_827 : Cond.code yX6_tight cX6_tight 2 (some .int) ∈ aw := aw_t (List.mem_append_right _ (List.mem_append_right _ (List.mem_append_right _ (List.mem_of_getElem? (i := 171) rfl)))) rfl
theorem tw_828 : Cond.methodLink RX6 180 yX6_tightAt ∈ aw := aw_t (List.mem_append_right _ (List.mem_append_right _ (List.mem_append_right _ (List.mem_of_getElem? (i := 172) rfl)))) rfl
theorem tw_830 : Cond.instanceMethod yX6_tightAt ∈ aw := aw_t (List.mem_append_right _ (List.mem_append_right _ (List.mem_append_right _ (List.mem_of_getElem? (i := 174) rfl)))) rfl
theorem tw_831 : Cond.code yX6_tightAt cX6_tightAt 5 (some .int) ∈ aw := aw_t (List.mem_append_right _ (List.mem_append_right _ (List.mem_append_right _ (List.mem_of_getElem? (i := 175) rfl)))) rfl
theorem tw_832 : Cond.methodLink RL 110 yX6_count ∈ aw := aw_t (List.mem_append_right _ (List.mem_append_right _ (List.mem_append_right _ (List.mem_of_getElem? (i := 176) rfl)))) rfl
theorem tw_833 : Cond.instanceMethod yX6_count ∈ aw := aw_t (List.mem_append_right _ (List.mem_append_right _ (List.mem_append_right _ (List.mem_of_getElem? (i := 177) rfl)))) rfl
theorem tw_834 : Cond.selects RX6 yX6_count yX6_count ∈ aw := aw_t (List.mem_append_right _ (List.mem_append_right _ (List.mem_append_right _ (List.mem_of_getElem? (i := 178) rfl)))) rfl
theorem tw_835 : Cond.code yX6_count cX6_count 2 (some .int) ∈ aw := aw_t (List.mem_append_right _ (List.mem_append_right _ (List.mem_append_right _ (List.mem_of_getElem? (i := 179) rfl)))) rfl
theorem tw_836 : Cond.methodLink RX6 183 yX6_overPairs ∈ aw := aw_t (List.mem_append_right _ (List.mem_append_right _ (List.mem_append_right _ (List.mem_of_getElem? (i := 180) rfl)))) rfl
theorem tw_838 : Cond.instanceMethod yX6_overPairs ∈ aw := aw_t (List.mem_append_right _ (List.mem_append_right _ (List.mem_append_right _ (List.mem_of_getElem? (i := 182) rfl)))) rfl
theorem tw_839 : Cond.code yX6_overPairs cX6_overPairs 5 (some .int) ∈ aw := aw_t (List.mem_append_right _ (List.mem_append_right _ (List.mem_append_right _ (List.mem_of_getElem? (i := 183) rfl)))) rfl
theorem tw_840 : Cond.methodLink RX6 187 yX6_leastMany ∈ aw := aw_t (List.mem_append_right _ (List.mem_append_right _ (List.mem_append_right _ (List.mem_of_getElem? (i := 184) rfl)))) rfl
theorem tw_842 : Cond.instanceMethod yX6_leastMany ∈ aw := aw_t (List.mem_append_right _ (List.mem_append_right _ (List.mem_append_right _ (List.mem_of_getElem? (i := 186) rfl)))) rfl
theorem tw_843 : Cond.code yX6_leastMany cX6_leastMany 4 (some .int) ∈ aw := aw_t (List.mem_append_right _ (List.mem_append_right _ (List.mem_append_right _ (List.mem_of_getElem? (i := 187) rfl)))) rfl
theorem tw_844 : Cond.methodLink RX6 190 yX6_parts ∈ aw := aw_t (List.mem_append_right _ (List.mem_append_right _ (List.mem_append_right _ (List.mem_of_getElem? (i := 188) rfl)))) rfl
theorem tw_846 : Cond.instanceMethod yX6_parts ∈ aw := aw_t (List.mem_append_right _ (List.mem_append_right _ (List.mem_append_right _ (List.mem_of_getElem? (i := 190) rfl)))) rfl
theorem tw_847 : Cond.code yX6_parts cX6_parts 3 (some .int) ∈ aw := aw_t (List.mem_append_right _ (List.mem_append_right _ (List.mem_append_right _ (List.mem_of_getElem? (i := 191) rfl)))) rfl
theorem tw_848 : Cond.methodLink RX6 193 yX6_fairMany ∈ aw := aw_t (List.mem_append_right _ (List.mem_append_right _ (List.mem_append_right _ (List.mem_of_getElem? (i := 192) rfl)))) rfl
theorem tw_850 : Cond.instanceMethod yX6_fairMany ∈ aw := aw_t (List.mem_append_right _ (List.mem_append_right _ (List.mem_append_right _ (List.mem_of_getElem? (i := 194) rfl)))) rfl
theorem tw_851 : Cond.code yX6_fairMany cX6_fairMany 3 (some .int) ∈ aw := aw_t (List.mem_append_right _ (List.mem_append_right _ (List.mem_append_right _ (List.mem_of_getElem? (i := 195) rfl)))) rfl
theorem sw_yX0_dropOldest : Cond.selects RX0 yX0_dropOldest yX0_dropOldest ∈ aw := aw_s (List.mem_of_getElem? (i := 0) rfl) rfl
theorem sw_yX5_pairError : Cond.selects RX5 yX5_pairError yX5_pairError ∈ aw := aw_s (List.mem_of_getElem? (i := 1) rfl) rfl
theorem sw_yX5_tieError : Cond.selects RX5 yX5_tieError yX5_tieError ∈ aw := aw_s (List.mem_of_getElem? (i := 2) rfl) rfl
theorem sw_yX3_takes : Cond.selects RX3 yX3_takes yX3_takes ∈ aw := aw_s (List.mem_of_getElem? (i := 3) rfl) rfl
theorem sw_yX3_takesFirstLetter : Cond.selects RX3 yX3_takesFirstLetter yX3_takesFirstLetter ∈ aw := aw_s (List.mem_of_getElem? (i := 4) rfl) rfl
theorem sw_yX3_takesSecondLetter : Cond.selects RX3 yX3_takesSecondLetter yX3_takesSecondLetter ∈ aw := aw_s (List.mem_of_getElem? (i := 5) rfl) rfl
theorem sw_yX3_takesFirstDigit : Cond.selects RX3 yX3_takesFirstDigit yX3_takesFirstDigit ∈ aw := aw_s (List.mem_of_getElem? (i := 6) rfl) rfl
theorem sw_yX3_takesSecondDigit : Cond.selects RX3 yX3_takesSecondDigit yX3_takesSecondDigit ∈ aw := aw_s (List.mem_of_getElem? (i := 7) rfl) rfl
theorem sw_yX3_takesComma : Cond.selects RX3 yX3_takesComma yX3_takesComma ∈ aw := aw_s (List.mem_of_getElem? (i := 8) rfl) rfl
theorem sw_yX5_setStart : Cond.selects RX5 yX5_setStart yX5_setStart ∈ aw := aw_s (List.mem_of_getElem? (i := 9) rfl) rfl
theorem sw_yX5_setFairPlaces : Cond.selects RX5 yX5_setFairPlaces yX5_setFairPlaces ∈ aw := aw_s (List.mem_of_getElem? (i := 10) rfl) rfl
theorem sw_yX2_begin : Cond.selects RX2 yX2_begin yX2_begin ∈ aw := aw_s (List.mem_of_getElem? (i := 11) rfl) rfl
theorem sw_yX2_nameOfLumpWith : Cond.selects RX2 yX2_nameOfLumpWith yX2_nameOfLumpWith ∈ aw := aw_s (List.mem_of_getElem? (i := 12) rfl) rfl
theorem sw_yX2_swallowAll : Cond.selects RX2 yX2_swallowAll yX2_swallowAll ∈ aw := aw_s (List.mem_of_getElem? (i := 13) rfl) rfl
theorem sw_yX2_drawNearer : Cond.selects RX2 yX2_drawNearer yX2_drawNearer ∈ aw := aw_s (List.mem_of_getElem? (i := 14) rfl) rfl
theorem sw_yX2_nearestOf : Cond.selects RX2 yX2_nearestOf yX2_nearestOf ∈ aw := aw_s (List.mem_of_getElem? (i := 15) rfl) rfl
theorem sw_yX2_endPhase : Cond.selects RX2 yX2_endPhase yX2_endPhase ∈ aw := aw_s (List.mem_of_getElem? (i := 16) rfl) rfl
theorem sw_yX2_isRank : Cond.selects RX2 yX2_isRank yX2_isRank ∈ aw := aw_s (List.mem_of_getElem? (i := 17) rfl) rfl
theorem sw_yX2_isPhase : Cond.selects RX2 yX2_isPhase yX2_isPhase ∈ aw := aw_s (List.mem_of_getElem? (i := 18) rfl) rfl
theorem sw_yX2_unite : Cond.selects RX2 yX2_unite yX2_unite ∈ aw := aw_s (List.mem_of_getElem? (i := 19) rfl) rfl
theorem sw_yX1_measurePulls : Cond.selects RX1 yX1_measurePulls yX1_measurePulls ∈ aw := aw_s (List.mem_of_getElem? (i := 20) rfl) rfl
theorem sw_yX1_measureWith : Cond.selects RX1 yX1_measureWith yX1_measureWith ∈ aw := aw_s (List.mem_of_getElem? (i := 21) rfl) rfl
theorem sw_yX1_findLeast : Cond.selects RX1 yX1_findLeast yX1_findLeast ∈ aw := aw_s (List.mem_of_getElem? (i := 22) rfl) rfl
theorem sw_yX1_findTight : Cond.selects RX1 yX1_findTight yX1_findTight ∈ aw := aw_s (List.mem_of_getElem? (i := 23) rfl) rfl
theorem sw_yX1_partedByAllLeast : Cond.selects RX1 yX1_partedByAllLeast yX1_partedByAllLeast ∈ aw := aw_s (List.mem_of_getElem? (i := 24) rfl) rfl
theorem sw_yX5_isPhase : Cond.selects RX5 yX5_isPhase yX5_isPhase ∈ aw := aw_s (List.mem_of_getElem? (i := 25) rfl) rfl
theorem sw_yX5_leastByPhases : Cond.selects RX5 yX5_leastByPhases yX5_leastByPhases ∈ aw := aw_s (List.mem_of_getElem? (i := 26) rfl) rfl
theorem sw_yX5_leastFair : Cond.selects RX5 yX5_leastFair yX5_leastFair ∈ aw := aw_s (List.mem_of_getElem? (i := 27) rfl) rfl
theorem sw_yX1_isFair : Cond.selects RX1 yX1_isFair yX1_isFair ∈ aw := aw_s (List.mem_of_getElem? (i := 28) rfl) rfl
theorem sw_yX5_countPartings : Cond.selects RX5 yX5_countPartings yX5_countPartings ∈ aw := aw_s (List.mem_of_getElem? (i := 29) rfl) rfl
theorem sw_yX6_records : Cond.selects RX6 yX6_records yX6_records ∈ aw := aw_s (List.mem_of_getElem? (i := 30) rfl) rfl
theorem sw_yX6_isPlace : Cond.selects RX6 yX6_isPlace yX6_isPlace ∈ aw := aw_s (List.mem_of_getElem? (i := 31) rfl) rfl
theorem sw_yX6_drops : Cond.selects RX6 yX6_drops yX6_drops ∈ aw := aw_s (List.mem_of_getElem? (i := 32) rfl) rfl
theorem sw_yX6_tied : Cond.selects RX6 yX6_tied yX6_tied ∈ aw := aw_s (List.mem_of_getElem? (i := 33) rfl) rfl
theorem sw_yX6_ties : Cond.selects RX6 yX6_ties yX6_ties ∈ aw := aw_s (List.mem_of_getElem? (i := 34) rfl) rfl
theorem sw_yX6_refusesPair : Cond.selects RX6 yX6_refusesPair yX6_refusesPair ∈ aw := aw_s (List.mem_of_getElem? (i := 35) rfl) rfl
theorem sw_yX6_leastByPhases : Cond.selects RX6 yX6_leastByPhases yX6_leastByPhases ∈ aw := aw_s (List.mem_of_getElem? (i := 36) rfl) rfl
theorem sw_yX6_leastPhase : Cond.selects RX6 yX6_leastPhase yX6_leastPhase ∈ aw := aw_s (List.mem_of_getElem? (i := 37) rfl) rfl
theorem sw_yX6_laysPhase : Cond.selects RX6 yX6_laysPhase yX6_laysPhase ∈ aw := aw_s (List.mem_of_getElem? (i := 38) rfl) rfl
theorem sw_yX6_swallows : Cond.selects RX6 yX6_swallows yX6_swallows ∈ aw := aw_s (List.mem_of_getElem? (i := 39) rfl) rfl
theorem sw_yX6_nearest : Cond.selects RX6 yX6_nearest yX6_nearest ∈ aw := aw_s (List.mem_of_getElem? (i := 40) rfl) rfl
theorem sw_yX6_weightBetween : Cond.selects RX6 yX6_weightBetween yX6_weightBetween ∈ aw := aw_s (List.mem_of_getElem? (i := 41) rfl) rfl
theorem sw_yX6_all : Cond.selects RX6 yX6_all yX6_all ∈ aw := aw_s (List.mem_of_getElem? (i := 42) rfl) rfl
theorem sw_yX6_joinsLast : Cond.selects RX6 yX6_joinsLast yX6_joinsLast ∈ aw := aw_s (List.mem_of_getElem? (i := 43) rfl) rfl
theorem sw_yX6_reads : Cond.selects RX6 yX6_reads yX6_reads ∈ aw := aw_s (List.mem_of_getElem? (i := 44) rfl) rfl
theorem sw_yX6_readsTie : Cond.selects RX6 yX6_readsTie yX6_readsTie ∈ aw := aw_s (List.mem_of_getElem? (i := 45) rfl) rfl
theorem sw_yX6_wants : Cond.selects RX6 yX6_wants yX6_wants ∈ aw := aw_s (List.mem_of_getElem? (i := 46) rfl) rfl
theorem sw_yX6_letter : Cond.selects RX6 yX6_letter yX6_letter ∈ aw := aw_s (List.mem_of_getElem? (i := 47) rfl) rfl
theorem sw_yX6_weightOf : Cond.selects RX6 yX6_weightOf yX6_weightOf ∈ aw := aw_s (List.mem_of_getElem? (i := 48) rfl) rfl
theorem sw_yX6_tiedTo : Cond.selects RX6 yX6_tiedTo yX6_tiedTo ∈ aw := aw_s (List.mem_of_getElem? (i := 49) rfl) rfl
theorem sw_yX6_reached : Cond.selects RX6 yX6_reached yX6_reached ∈ aw := aw_s (List.mem_of_getElem? (i := 50) rfl) rfl
theorem sw_yX6_tightMany : Cond.selects RX6 yX6_tightMany yX6_tightMany ∈ aw := aw_s (List.mem_of_getElem? (i := 51) rfl) rfl
theorem sw_yX6_isTight : Cond.selects RX6 yX6_isTight yX6_isTight ∈ aw := aw_s (List.mem_of_getElem? (i := 52) rfl) rfl
theorem sw_yX6_leastWeight : Cond.selects RX6 yX6_leastWeight yX6_leastWeight ∈ aw := aw_s (List.mem_of_getElem? (i := 53) rfl) rfl
theorem sw_yX6_firstLeast : Cond.selects RX6 yX6_firstLeast yX6_firstLeast ∈ aw := aw_s (List.mem_of_getElem? (i := 54) rfl) rfl
theorem sw_yX6_rankOf : Cond.selects RX6 yX6_rankOf yX6_rankOf ∈ aw := aw_s (List.mem_of_getElem? (i := 55) rfl) rfl
theorem sw_yX6_isPhase : Cond.selects RX6 yX6_isPhase yX6_isPhase ∈ aw := aw_s (List.mem_of_getElem? (i := 56) rfl) rfl
theorem sw_yX6_leastFair : Cond.selects RX6 yX6_leastFair yX6_leastFair ∈ aw := aw_s (List.mem_of_getElem? (i := 57) rfl) rfl
theorem sw_yX6_isFair : Cond.selects RX6 yX6_isFair yX6_isFair ∈ aw := aw_s (List.mem_of_getElem? (i := 58) rfl) rfl
theorem sw_yX6_leastAt : Cond.selects RX6 yX6_leastAt yX6_leastAt ∈ aw := aw_s (List.mem_of_getElem? (i := 59) rfl) rfl
theorem sw_yX6_leastBetween : Cond.selects RX6 yX6_leastBetween yX6_leastBetween ∈ aw := aw_s (List.mem_of_getElem? (i := 60) rfl) rfl
theorem sw_yX6_isParting : Cond.selects RX6 yX6_isParting yX6_isParting ∈ aw := aw_s (List.mem_of_getElem? (i := 61) rfl) rfl
theorem sw_yX6_tightAt : Cond.selects RX6 yX6_tightAt yX6_tightAt ∈ aw := aw_s (List.mem_of_getElem? (i := 62) rfl) rfl
theorem sw_yX6_overPairs : Cond.selects RX6 yX6_overPairs yX6_overPairs ∈ aw := aw_s (List.mem_of_getElem? (i := 63) rfl) rfl
theorem sw_yX6_leastMany : Cond.selects RX6 yX6_leastMany yX6_leastMany ∈ aw := aw_s (List.mem_of_getElem? (i := 64) rfl) rfl
theorem sw_yX6_parts : Cond.selects RX6 yX6_parts yX6_parts ∈ aw := aw_s (List.mem_of_getElem? (i := 65) rfl) rfl
theorem sw_yX6_fairMany : Cond.selects RX6 yX6_fairMany yX6_fairMany ∈ aw := aw_s (List.mem_of_getElem? (i := 66) rfl) rfl
theorem inX0 : ∀ w ∈ u_ws RX0 TX0 2, w ∈ aw := by
  intro w hw
  obtain ⟨k, hk, rfl⟩ := List.mem_map.mp hw
  have hk := List.mem_range.mp hk
  match k, hk with
  | 0, _ => exact tw_52
  | 1, _ => exact tw_53
  | k + 2, h => exact absurd h (by omega)
theorem inX1 : ∀ w ∈ u_ws RX1 TX1 9, w ∈ aw := by
  intro w hw
  obtain ⟨k, hk, rfl⟩ := List.mem_map.mp hw
  have hk := List.mem_range.mp hk
  match k, hk with
  | 0, _ => exact tw_120
  | 1, _ => exact tw_121
  | 2, _ => exact tw_122
  | 3, _ => exact tw_123
  | 4, _ => exact tw_124
  | 5, _ => exact tw_125
  | 6, _ => exact tw_126
  | 7, _ => exact tw_127
  | 8, _ => exact tw_128
  | k + 9, h => exact absurd h (by omega)
theorem inX2 : ∀ w ∈ u_ws RX2 TX2 8, w ∈ aw := by
  intro w hw
  obtain ⟨k, hk, rfl⟩ := List.mem_map.mp hw
  have hk := List.mem_range.mp hk
  match k, hk with
  | 0, _ => exact tw_95
  | 1, _ => exact tw_96
  | 2, _ => exact tw_97
  | 3, _ => exact tw_98
  | 4, _ => exact tw_99
  | 5, _ => exact tw_100
  | 6, _ => exact tw_101
  | 7, _ => exact tw_102
  | k + 8, h => exact absurd h (by omega)
theorem inX3 : ∀ w ∈ u_ws RX3 TX3 9, w ∈ aw := by
  intro w hw
  obtain ⟨k, hk, rfl⟩ := List.mem_map.mp hw
  have hk := List.mem_range.mp hk
  match k, hk with
  | 0, _ => exact tw_71
  | 1, _ => exact tw_72
  | 2, _ => exact tw_73
  | 3, _ => exact tw_74
  | 4, _ => exact tw_75
  | 5, _ => exact tw_76
  | 6, _ => exact tw_77
  | 7, _ => exact tw_78
  | 8, _ => exact tw_79
  | k + 9, h => exact absurd h (by omega)
theorem inX4 : ∀ w ∈ u_ws RX4 TX4 4, w ∈ aw := by
  intro w hw
  obtain ⟨k, hk, rfl⟩ := List.mem_map.mp hw
  have hk := List.mem_range.mp hk
  match k, hk with
  | 0, _ => exact tw_35
  | 1, _ => exact tw_36
  | 2, _ => exact tw_37
  | 3, _ => exact tw_38
  | k + 4, h => exact absurd h (by omega)
theorem inX5 : ∀ w ∈ u_ws RX5 TX5 7, w ∈ aw := by
  intro w hw
  obtain ⟨k, hk, rfl⟩ := List.mem_map.mp hw
  have hk := List.mem_range.mp hk
  match k, hk with
  | 0, _ => exact tw_136
  | 1, _ => exact tw_137
  | 2, _ => exact tw_138
  | 3, _ => exact tw_139
  | 4, _ => exact tw_140
  | 5, _ => exact tw_141
  | 6, _ => exact tw_142
  | k + 7, h => exact absurd h (by omega)
theorem inX6 : ∀ w ∈ u_ws RX6 TX6 18, w ∈ aw := by
  intro w hw
  obtain ⟨k, hk, rfl⟩ := List.mem_map.mp hw
  have hk := List.mem_range.mp hk
  match k, hk with
  | 0, _ => exact tw_585
  | 1, _ => exact tw_586
  | 2, _ => exact tw_587
  | 3, _ => exact tw_588
  | 4, _ => exact tw_589
  | 5, _ => exact tw_590
  | 6, _ => exact tw_591
  | 7, _ => exact tw_592
  | 8, _ => exact tw_593
  | 9, _ => exact tw_594
  | 10, _ => exact tw_595
  | 11, _ => exact tw_596
  | 12, _ => exact tw_597
  | 13, _ => exact tw_598
  | 14, _ => exact tw_599
  | 15, _ => exact tw_600
  | 16, _ => exact tw_601
  | 17, _ => exact tw_602
  | k + 18, h => exact absurd h (by omega)
abbrev classes : List vw_C := [(RX0, TX0, 2), (RX1, TX1, 9), (RX2, TX2, 8), (RX3, TX3, 9), (RX4, TX4, 4), (RX5, TX5, 7), (RX6, TX6, 18)]
def NW (U : State) : Prop := va_Nw (Cond.fieldLinkNest RX1 40 "PartedWebs$Web" "places" "I" RX5) U ∧ va_Nw (Cond.fieldLinkNest RX5 51 "PartedWebs$Web" "places" "I" RX5) U ∧ va_Nw (Cond.fieldLinkNest RX2 58 "PartedWebs$Web" "places" "I" RX5) U ∧ va_Nw (Cond.fieldLinkNest RX2 41 "PartedWebs$Web" "start" "I" RX5) U ∧ va_Nw (Cond.fieldLinkNest RX5 118 "PartedWebs$Web" "start" "I" RX5) U ∧ va_Nw (Cond.fieldLinkNest RX5 121 "PartedWebs$Web" "fairPlaces" "I" RX5) U ∧ va_Nw (Cond.fieldLinkNest RX5 147 "PartedWebs$History" "size" "I" RX5) U ∧ va_Nw (Cond.fieldLinkNest RX5 140 "PartedWebs$TieText" "length" "I" RX5) U ∧ va_Nw (Cond.fieldLinkNest RX5 108 "PartedWebs$TieText" "ties" "I" RX5) U ∧ va_Nw (Cond.fieldLinkNest RX5 207 "PartedWebs$Partings" "leastCount" "I" RX5) U ∧ va_Nw (Cond.fieldLinkNest RX5 219 "PartedWebs$Partings" "tightCount" "I" RX5) U ∧ va_Nw (Cond.methodLinkNest RX2 63 yX5_holds RX5) U ∧ va_Nw (Cond.methodLinkNest RX4 52 yX5_holds RX5) U ∧ va_Nw (Cond.methodLinkNest RX1 72 yX5_parts RX5) U ∧ va_Nw (Cond.methodLinkNest RX1 69 yX5_pairNumber RX5) U ∧ va_Nw (Cond.methodLinkNest RX1 76 yX5_holds RX5) U
theorem NW.warm {s U : State} (hW : s.WarmedH U.vm) (h : NW s) : NW U := by
  obtain ⟨n0, n1, n2, n3, n4, n5, n6, n7, n8, n9, n10, n11, n12, n13, n14, n15⟩ := h
  exact ⟨va_Nw.warmF hW n0, va_Nw.warmF hW n1, va_Nw.warmF hW n2, va_Nw.warmF hW n3, va_Nw.warmF hW n4, va_Nw.warmF hW n5, va_Nw.warmF hW n6, va_Nw.warmF hW n7, va_Nw.warmF hW n8, va_Nw.warmF hW n9, va_Nw.warmF hW n10, va_Nw.warmM hW n11, va_Nw.warmM hW n12, va_Nw.warmM hW n13, va_Nw.warmM hW n14, va_Nw.warmM hW n15⟩
theorem NW.same {u U : State} (hv : u.vm = U.vm) (h : NW u) : NW U := by
  obtain ⟨n0, n1, n2, n3, n4, n5, n6, n7, n8, n9, n10, n11, n12, n13, n14, n15⟩ := h
  exact ⟨va_Nw.same rfl hv n0, va_Nw.same rfl hv n1, va_Nw.same rfl hv n2, va_Nw.same rfl hv n3, va_Nw.same rfl hv n4, va_Nw.same rfl hv n5, va_Nw.same rfl hv n6, va_Nw.same rfl hv n7, va_Nw.same rfl hv n8, va_Nw.same rfl hv n9, va_Nw.same rfl hv n10, va_Nw.same rfl hv n11, va_Nw.same rfl hv n12, va_Nw.same rfl hv n13, va_Nw.same rfl hv n14, va_Nw.same rfl hv n15⟩
theorem NW.of {args : Array Value} {s : State} (h : ∀ w ∈ lw_tbl, w.before args s = true) : NW s := ⟨va_Nw.of rfl (h _ tw_26), va_Nw.of rfl (h _ tw_27), va_Nw.of rfl (h _ tw_28), va_Nw.of rfl (h _ tw_30), va_Nw.of rfl (h _ tw_31), va_Nw.of rfl (h _ tw_33), va_Nw.of rfl (h _ tw_51), va_Nw.of rfl (h _ tw_62), va_Nw.of rfl (h _ tw_67), va_Nw.of rfl (h _ tw_115), va_Nw.of rfl (h _ tw_118), va_Nw.of rfl (h _ tw_291), va_Nw.of rfl (h _ tw_404), va_Nw.of rfl (h _ tw_432), va_Nw.of rfl (h _ tw_433), va_Nw.of rfl (h _ tw_492)⟩
theorem NW.g0 {s : State} (h : NW s) : va_Nw (Cond.fieldLinkNest RX1 40 "PartedWebs$Web" "places" "I" RX5) s := h.1
theorem NW.g1 {s : State} (h : NW s) : va_Nw (Cond.fieldLinkNest RX5 51 "PartedWebs$Web" "places" "I" RX5) s := h.2.1
theorem NW.g2 {s : State} (h : NW s) : va_Nw (Cond.fieldLinkNest RX2 58 "PartedWebs$Web" "places" "I" RX5) s := h.2.2.1
theorem NW.g3 {s : State} (h : NW s) : va_Nw (Cond.fieldLinkNest RX2 41 "PartedWebs$Web" "start" "I" RX5) s := h.2.2.2.1
theorem NW.g4 {s : State} (h : NW s) : va_Nw (Cond.fieldLinkNest RX5 118 "PartedWebs$Web" "start" "I" RX5) s := h.2.2.2.2.1
theorem NW.g5 {s : State} (h : NW s) : va_Nw (Cond.fieldLinkNest RX5 121 "PartedWebs$Web" "fairPlaces" "I" RX5) s := h.2.2.2.2.2.1
theorem NW.g6 {s : State} (h : NW s) : va_Nw (Cond.fieldLinkNest RX5 147 "PartedWebs$History" "size" "I" RX5) s := h.2.2.2.2.2.2.1
theorem NW.g7 {s : State} (h : NW s) : va_Nw (Cond.fieldLinkNest RX5 140 "PartedWebs$TieText" "length" "I" RX5) s := h.2.2.2.2.2.2.2.1
theorem NW.g8 {s : State} (h : NW s) : va_Nw (Cond.fieldLinkNest RX5 108 "PartedWebs$TieText" "ties" "I" RX5) s := h.2.2.2.2.2.2.2.2.1
theorem NW.g9 {s : State} (h : NW s) : va_Nw (Cond.fieldLinkNest RX5 207 "PartedWebs$Partings" "leastCount" "I" RX5) s := h.2.2.2.2.2.2.2.2.2.1
theorem NW.g10 {s : State} (h : NW s) : va_Nw (Cond.fieldLinkNest RX5 219 "PartedWebs$Partings" "tightCount" "I" RX5) s := h.2.2.2.2.2.2.2.2.2.2.1
theorem NW.g11 {s : State} (h : NW s) : va_Nw (Cond.methodLinkNest RX2 63 yX5_holds RX5) s := h.2.2.2.2.2.2.2.2.2.2.2.1
theorem NW.g12 {s : State} (h : NW s) : va_Nw (Cond.methodLinkNest RX4 52 yX5_holds RX5) s := h.2.2.2.2.2.2.2.2.2.2.2.2.1
theorem NW.g13 {s : State} (h : NW s) : va_Nw (Cond.methodLinkNest RX1 72 yX5_parts RX5) s := h.2.2.2.2.2.2.2.2.2.2.2.2.2.1
theorem NW.g14 {s : State} (h : NW s) : va_Nw (Cond.methodLinkNest RX1 69 yX5_pairNumber RX5) s := h.2.2.2.2.2.2.2.2.2.2.2.2.2.2.1
theorem NW.g15 {s : State} (h : NW s) : va_Nw (Cond.methodLinkNest RX1 76 yX5_holds RX5) s := h.2.2.2.2.2.2.2.2.2.2.2.2.2.2.2
