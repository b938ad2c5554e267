/-! the tables' words that a callee may take over: one list for all methods -/
def gL : List Cond := lw_tbl.filter goodWord
theorem gd_all {ws : List Cond} (h : ∀ w ∈ ws, w ∈ gL) : GoodIn gL ws := fun w hw => ⟨h w hw, good_of_word (List.mem_filter.mp (h w hw)).2⟩
theorem gd_V {own C : String} {idx : Nat} {y : MethodName} {cw : Cond} (h1 : Cond.methodLink own idx y ∈ gL) (h2 : Cond.instanceMethod y ∈ gL) (h3 : Cond.selects C y y ∈ gL) (h4 : Cond.initialized C ∈ gL) (h5 : cw ∈ gL) : GoodIn gL (wsV own idx C y (cw :: gL)) := gd_all fun w hw => by
  simp only [wsV, List.cons_append, List.nil_append, List.mem_cons] at hw
  rcases hw with rfl | rfl | rfl | rfl | rfl | hw <;> assumption
theorem gd_S {own : String} {idx : Nat} {y : MethodName} {cw : Cond} (h1 : Cond.methodLink own idx y ∈ gL) (h2 : Cond.static y ∈ gL) (h4 : Cond.initialized y.cls ∈ gL) (h5 : cw ∈ gL) : GoodIn gL (va_wsS own idx y (cw :: gL)) := gd_all fun w hw => by
  simp only [va_wsS, List.cons_append, List.nil_append, List.mem_cons] at hw
  rcases hw with rfl | rfl | rfl | rfl | hw <;> assumption
theorem gd_U {own C owner : String} {idx : Nat} {x y : MethodName} {cw : Cond} (h1 : Cond.methodLink own idx x ∈ gL) (h2 : Cond.sameMethod x.cls owner x.name x.desc ∈ gL) (h3 : Cond.selects C x y ∈ gL) (h4 : Cond.instanceMethod y ∈ gL) (h6 : Cond.initialized y.cls ∈ gL) (h5 : cw ∈ gL) : GoodIn gL (va_wsU own idx C owner x y (cw :: gL)) := gd_all fun w hw => by
  simp only [va_wsU, List.cons_append, List.nil_append, List.mem_cons] at hw
  rcases hw with rfl | rfl | rfl | rfl | rfl | rfl | hw <;> assumption
theorem gd_O {own C owner : String} {idx : Nat} {x y : MethodName} {cw : Cond} (h1 : Cond.methodLink own idx x ∈ gL) (h2 : Cond.sameMethod x.cls owner x.name x.desc ∈ gL) (h7 : Cond.instanceMethod ⟨owner, x.name, x.desc⟩ ∈ gL) (h3 : Cond.selects C x y ∈ gL) (h4 : Cond.instanceMethod y ∈ gL) (h6 : Cond.initialized y.cls ∈ gL) (h5 : cw ∈ gL) : GoodIn gL (va_wsO own idx C owner x y (cw :: gL)) := gd_all fun w hw => by
  simp only [va_wsO, List.cons_append, List.nil_append, List.mem_cons] at hw
  rcases hw with rfl | rfl | rfl | rfl | rfl | rfl | rfl | hw <;> assumption
theorem gd_N {cw : Cond} (h5 : cw ∈ gL) : GoodIn gL (cw :: gL) := gd_all fun w hw => by
  simp only [List.mem_cons] at hw
  rcases hw with rfl | hw <;> assumption
theorem gm_1 {w : Cond} (h : w ∈ tables_1_1) (g : goodWord w = true) : w ∈ gL := List.mem_filter.mpr ⟨List.mem_append_right _ (List.mem_append_left _ h), g⟩
theorem gm_2 {w : Cond} (h : w ∈ tables_1_2) (g : goodWord w = true) : w ∈ gL := List.mem_filter.mpr ⟨List.mem_append_right _ (List.mem_append_right _ (List.mem_append_left _ h)), g⟩
theorem gm_3 {w : Cond} (h : w ∈ tables_1_3) (g : goodWord w = true) : w ∈ gL := List.mem_filter.mpr ⟨List.mem_append_right _ (List.mem_append_right _ (List.mem_append_right _ (h))), g⟩
theorem gm_0 {w : Cond} (h : w ∈ k2_sels lw_privs) (g : goodWord w = true) : w ∈ gL := List.mem_filter.mpr ⟨List.mem_append_left _ h, g⟩
theorem wt_0 : Cond.initialized "TwoOnACableLaw" ∈ gL := gm_1 (List.mem_of_getElem? (i := 0) (by decide +kernel)) rfl
theorem wt_1 : Cond.initialized "TwoOnACable" ∈ gL := gm_1 (List.mem_of_getElem? (i := 1) (by decide +kernel)) rfl
theorem wt_2 : Cond.initialized "TwoOnACable$Page" ∈ gL := gm_1 (List.mem_of_getElem? (i := 2) (by decide +kernel)) rfl
theorem wt_3 : Cond.initialized "TwoOnACable$Cable" ∈ gL := gm_1 (List.mem_of_getElem? (i := 3) (by decide +kernel)) rfl
theorem wt_4 : Cond.initialized "TwoOnACable$Load" ∈ gL := gm_1 (List.mem_of_getElem? (i := 4) (by decide +kernel)) rfl
theorem wt_5 : Cond.initialized "TwoOnACable$Told" ∈ gL := gm_1 (List.mem_of_getElem? (i := 5) (by decide +kernel)) rfl
theorem wt_6 : Cond.initialized "TwoOnACable$Evening" ∈ gL := gm_1 (List.mem_of_getElem? (i := 6) (by decide +kernel)) rfl
theorem wt_7 : Cond.initialized "TwoOnACable$Search" ∈ gL := gm_1 (List.mem_of_getElem? (i := 7) (by decide +kernel)) rfl
theorem wt_8 : Cond.initialized "java/lang/Math" ∈ gL := gm_1 (List.mem_of_getElem? (i := 8) (by decide +kernel)) rfl
theorem wt_9 : Cond.initialized "TwoOnACable$Thing" ∈ gL := gm_1 (List.mem_of_getElem? (i := 9) (by decide +kernel)) rfl
theorem wt_10 : Cond.initialized "TwoOnACable$Cook" ∈ gL := gm_1 (List.mem_of_getElem? (i := 10) (by decide +kernel)) rfl
theorem wt_11 : Cond.initialized "TwoOnACable$Guest" ∈ gL := gm_1 (List.mem_of_getElem? (i := 11) (by decide +kernel)) rfl
theorem wt_12 : Cond.initialized "TwoOnACable$Live" ∈ gL := gm_1 (List.mem_of_getElem? (i := 12) (by decide +kernel)) rfl
theorem wt_13 : Cond.initialized "TwoOnACable$Hens" ∈ gL := gm_1 (List.mem_of_getElem? (i := 13) (by decide +kernel)) rfl
theorem wt_14 : Cond.classLink "TwoOnACableLaw" 9 "TwoOnACable" ∈ gL := gm_1 (List.mem_of_getElem? (i := 14) (by decide +kernel)) rfl
theorem wt_15 : Cond.instantiable "TwoOnACable" 10 ∈ gL := gm_1 (List.mem_of_getElem? (i := 15) (by decide +kernel)) rfl
theorem wt_16 : Cond.methodLink "TwoOnACableLaw" 64 yX11_init ∈ gL := gm_1 (List.mem_of_getElem? (i := 16) (by decide +kernel)) rfl
theorem wt_17 : Cond.instanceMethod yX11_init ∈ gL := gm_1 (List.mem_of_getElem? (i := 17) (by decide +kernel)) rfl
theorem wt_18 : Cond.code yX11_init prog_1_method_1_code 1 (none : Option FieldType) ∈ gL := gm_1 (List.mem_of_getElem? (i := 18) (by decide +kernel)) rfl
theorem wt_19 : Cond.methodLink "TwoOnACable" 1 objectInit ∈ gL := gm_1 (List.mem_of_getElem? (i := 19) (by decide +kernel)) rfl
theorem wt_20 : Cond.instanceMethod objectInit ∈ gL := gm_1 (List.mem_of_getElem? (i := 20) (by decide +kernel)) rfl
theorem wt_21 : Cond.code objectInit object_method_1_code 1 (none : Option FieldType) ∈ gL := gm_1 (List.mem_of_getElem? (i := 21) (by decide +kernel)) rfl
theorem wt_22 : Cond.classLink "TwoOnACable" 7 "TwoOnACable$Page" ∈ gL := gm_1 (List.mem_of_getElem? (i := 22) (by decide +kernel)) rfl
theorem wt_23 : Cond.instantiable "TwoOnACable$Page" 2 ∈ gL := gm_1 (List.mem_of_getElem? (i := 23) (by decide +kernel)) rfl
theorem wt_24 : Cond.instanceMethod yX7_init ∈ gL := gm_1 (List.mem_of_getElem? (i := 25) (by decide +kernel)) rfl
theorem wt_25 : Cond.code yX7_init prog_9_method_1_code 1 (none : Option FieldType) ∈ gL := gm_1 (List.mem_of_getElem? (i := 26) (by decide +kernel)) rfl
theorem wt_26 : Cond.methodLink "TwoOnACable$Page" 3 objectInit ∈ gL := gm_1 (List.mem_of_getElem? (i := 27) (by decide +kernel)) rfl
theorem wt_27 : Cond.fieldLink "TwoOnACable$Page" 9 "TwoOnACable$Page" "row" "[C" ∈ gL := gm_1 (List.mem_of_getElem? (i := 28) (by decide +kernel)) rfl
theorem wt_28 : Cond.fieldLink "TwoOnACable$Page" 15 "TwoOnACable$Page" "size" "I" ∈ gL := gm_1 (List.mem_of_getElem? (i := 29) (by decide +kernel)) rfl
theorem wt_29 : Cond.fieldLink "TwoOnACable" 73 "TwoOnACable$Page" "size" "I" ∈ gL := gm_1 (List.mem_of_getElem? (i := 30) (by decide +kernel)) rfl
theorem wt_30 : Cond.fieldLink "TwoOnACable$Cable" 27 "TwoOnACable$Page" "size" "I" ∈ gL := gm_1 (List.mem_of_getElem? (i := 31) (by decide +kernel)) rfl
theorem wt_31 : Cond.arrayClass FieldType.char ∈ gL := gm_1 (List.mem_of_getElem? (i := 37) (by decide +kernel)) rfl
theorem wt_32 : Cond.classLink "TwoOnACable" 16 "TwoOnACable$Cable" ∈ gL := gm_1 (List.mem_of_getElem? (i := 38) (by decide +kernel)) rfl
theorem wt_33 : Cond.instantiable "TwoOnACable$Cable" 7 ∈ gL := gm_1 (List.mem_of_getElem? (i := 39) (by decide +kernel)) rfl
theorem wt_34 : Cond.instanceMethod yX0_init ∈ gL := gm_1 (List.mem_of_getElem? (i := 41) (by decide +kernel)) rfl
theorem wt_35 : Cond.code yX0_init prog_2_method_1_code 1 (none : Option FieldType) ∈ gL := gm_1 (List.mem_of_getElem? (i := 42) (by decide +kernel)) rfl
theorem wt_36 : Cond.methodLink "TwoOnACable$Cable" 3 objectInit ∈ gL := gm_1 (List.mem_of_getElem? (i := 43) (by decide +kernel)) rfl
theorem wt_37 : Cond.fieldLink "TwoOnACable$Cable" 15 "TwoOnACable$Cable" "length" "I" ∈ gL := gm_1 (List.mem_of_getElem? (i := 44) (by decide +kernel)) rfl
theorem wt_38 : Cond.fieldLink "TwoOnACable" 178 "TwoOnACable$Cable" "length" "I" ∈ gL := gm_1 (List.mem_of_getElem? (i := 45) (by decide +kernel)) rfl
theorem wt_39 : Cond.fieldLink "TwoOnACable$Cable" 21 "TwoOnACable$Cable" "spin" "I" ∈ gL := gm_1 (List.mem_of_getElem? (i := 46) (by decide +kernel)) rfl
theorem wt_40 : Cond.fieldLink "TwoOnACable" 104 "TwoOnACable$Cable" "spin" "I" ∈ gL := gm_1 (List.mem_of_getElem? (i := 47) (by decide +kernel)) rfl
theorem wt_41 : Cond.fieldLink "TwoOnACable$Cable" 24 "TwoOnACable$Cable" "bears" "I" ∈ gL := gm_1 (List.mem_of_getElem? (i := 48) (by decide +kernel)) rfl
theorem wt_42 : Cond.fieldLink "TwoOnACable" 260 "TwoOnACable$Cable" "bears" "I" ∈ gL := gm_1 (List.mem_of_getElem? (i := 49) (by decide +kernel)) rfl
theorem wt_43 : Cond.fieldLink "TwoOnACable$Cable" 34 "TwoOnACable$Cable" "place" "I" ∈ gL := gm_1 (List.mem_of_getElem? (i := 50) (by decide +kernel)) rfl
theorem wt_44 : Cond.fieldLink "TwoOnACable" 249 "TwoOnACable$Cable" "place" "I" ∈ gL := gm_1 (List.mem_of_getElem? (i := 51) (by decide +kernel)) rfl
theorem wt_45 : Cond.fieldLink "TwoOnACable$Cable" 37 "TwoOnACable$Cable" "hours" "I" ∈ gL := gm_1 (List.mem_of_getElem? (i := 52) (by decide +kernel)) rfl
theorem wt_46 : Cond.fieldLink "TwoOnACable" 113 "TwoOnACable$Cable" "hours" "I" ∈ gL := gm_1 (List.mem_of_getElem? (i := 53) (by decide +kernel)) rfl
theorem wt_47 : Cond.fieldLink "TwoOnACable$Cable" 30 "TwoOnACable$Cable" "old" "Z" ∈ gL := gm_1 (List.mem_of_getElem? (i := 54) (by decide +kernel)) rfl
theorem wt_48 : Cond.fieldLink "TwoOnACable" 263 "TwoOnACable$Cable" "old" "Z" ∈ gL := gm_1 (List.mem_of_getElem? (i := 55) (by decide +kernel)) rfl
theorem wt_49 : Cond.fieldLink "TwoOnACable$Cable" 40 "TwoOnACable$Cable" "broken" "Z" ∈ gL := gm_1 (List.mem_of_getElem? (i := 56) (by decide +kernel)) rfl
theorem wt_50 : Cond.fieldLink "TwoOnACable" 188 "TwoOnACable$Cable" "broken" "Z" ∈ gL := gm_1 (List.mem_of_getElem? (i := 57) (by decide +kernel)) rfl
theorem wt_51 : Cond.classLink "TwoOnACable" 23 "TwoOnACable$Load" ∈ gL := gm_1 (List.mem_of_getElem? (i := 73) (by decide +kernel)) rfl
theorem wt_52 : Cond.instantiable "TwoOnACable$Load" 4 ∈ gL := gm_1 (List.mem_of_getElem? (i := 74) (by decide +kernel)) rfl
theorem wt_53 : Cond.instanceMethod yX6_init ∈ gL := gm_1 (List.mem_of_getElem? (i := 76) (by decide +kernel)) rfl
theorem wt_54 : Cond.code yX6_init prog_8_method_1_code 1 (none : Option FieldType) ∈ gL := gm_1 (List.mem_of_getElem? (i := 77) (by decide +kernel)) rfl
theorem wt_55 : Cond.methodLink "TwoOnACable$Load" 3 objectInit ∈ gL := gm_1 (List.mem_of_getElem? (i := 78) (by decide +kernel)) rfl
theorem wt_56 : Cond.classLink "TwoOnACable$Load" 9 "TwoOnACable$Thing" ∈ gL := gm_1 (List.mem_of_getElem? (i := 79) (by decide +kernel)) rfl
theorem wt_57 : Cond.fieldLink "TwoOnACable$Load" 11 "TwoOnACable$Load" "things" "[LTwoOnACable$Thing;" ∈ gL := gm_1 (List.mem_of_getElem? (i := 81) (by decide +kernel)) rfl
theorem wt_58 : Cond.fieldLink "TwoOnACable$Load" 17 "TwoOnACable$Load" "keptPlaces" "[I" ∈ gL := gm_1 (List.mem_of_getElem? (i := 82) (by decide +kernel)) rfl
theorem wt_59 : Cond.fieldLink "TwoOnACable$Load" 21 "TwoOnACable$Load" "size" "I" ∈ gL := gm_1 (List.mem_of_getElem? (i := 83) (by decide +kernel)) rfl
theorem wt_60 : Cond.fieldLink "TwoOnACable" 266 "TwoOnACable$Load" "size" "I" ∈ gL := gm_1 (List.mem_of_getElem? (i := 84) (by decide +kernel)) rfl
theorem wt_61 : Cond.arrayClass FieldType.int ∈ gL := gm_1 (List.mem_of_getElem? (i := 94) (by decide +kernel)) rfl
theorem wt_62 : Cond.classLink "TwoOnACable" 30 "TwoOnACable$Told" ∈ gL := gm_1 (List.mem_of_getElem? (i := 95) (by decide +kernel)) rfl
theorem wt_63 : Cond.instantiable "TwoOnACable$Told" 3 ∈ gL := gm_1 (List.mem_of_getElem? (i := 96) (by decide +kernel)) rfl
theorem wt_64 : Cond.instanceMethod yX10_init ∈ gL := gm_1 (List.mem_of_getElem? (i := 98) (by decide +kernel)) rfl
theorem wt_65 : Cond.code yX10_init prog_12_method_1_code 1 (none : Option FieldType) ∈ gL := gm_1 (List.mem_of_getElem? (i := 99) (by decide +kernel)) rfl
theorem wt_66 : Cond.methodLink "TwoOnACable$Told" 3 objectInit ∈ gL := gm_1 (List.mem_of_getElem? (i := 100) (by decide +kernel)) rfl
theorem wt_67 : Cond.fieldLink "TwoOnACable$Told" 9 "TwoOnACable$Told" "lengths" "[I" ∈ gL := gm_1 (List.mem_of_getElem? (i := 101) (by decide +kernel)) rfl
theorem wt_68 : Cond.fieldLink "TwoOnACable$Told" 15 "TwoOnACable$Told" "turns" "[I" ∈ gL := gm_1 (List.mem_of_getElem? (i := 102) (by decide +kernel)) rfl
theorem wt_69 : Cond.fieldLink "TwoOnACable$Told" 18 "TwoOnACable$Told" "size" "I" ∈ gL := gm_1 (List.mem_of_getElem? (i := 103) (by decide +kernel)) rfl
theorem wt_70 : Cond.fieldLink "TwoOnACable" 267 "TwoOnACable$Told" "size" "I" ∈ gL := gm_1 (List.mem_of_getElem? (i := 104) (by decide +kernel)) rfl
theorem wt_71 : Cond.classLink "TwoOnACable" 37 "TwoOnACable$Evening" ∈ gL := gm_1 (List.mem_of_getElem? (i := 112) (by decide +kernel)) rfl
theorem wt_72 : Cond.instantiable "TwoOnACable$Evening" 7 ∈ gL := gm_1 (List.mem_of_getElem? (i := 113) (by decide +kernel)) rfl
theorem wt_73 : Cond.instanceMethod yX2_init ∈ gL := gm_1 (List.mem_of_getElem? (i := 115) (by decide +kernel)) rfl
theorem wt_74 : Cond.code yX2_init prog_4_method_1_code 1 (none : Option FieldType) ∈ gL := gm_1 (List.mem_of_getElem? (i := 116) (by decide +kernel)) rfl
theorem wt_75 : Cond.methodLink "TwoOnACable$Evening" 3 objectInit ∈ gL := gm_1 (List.mem_of_getElem? (i := 117) (by decide +kernel)) rfl
theorem wt_76 : Cond.fieldLink "TwoOnACable$Evening" 9 "TwoOnACable$Evening" "weighs" "[I" ∈ gL := gm_1 (List.mem_of_getElem? (i := 118) (by decide +kernel)) rfl
theorem wt_77 : Cond.fieldLink "TwoOnACable$Evening" 15 "TwoOnACable$Evening" "gains" "[I" ∈ gL := gm_1 (List.mem_of_getElem? (i := 119) (by decide +kernel)) rfl
theorem wt_78 : Cond.classLink "TwoOnACable" 44 "TwoOnACable$Search" ∈ gL := gm_1 (List.mem_of_getElem? (i := 135) (by decide +kernel)) rfl
theorem wt_79 : Cond.instantiable "TwoOnACable$Search" 4 ∈ gL := gm_1 (List.mem_of_getElem? (i := 136) (by decide +kernel)) rfl
theorem wt_80 : Cond.instanceMethod yX8_init ∈ gL := gm_1 (List.mem_of_getElem? (i := 138) (by decide +kernel)) rfl
theorem wt_81 : Cond.code yX8_init prog_10_method_1_code 1 (none : Option FieldType) ∈ gL := gm_1 (List.mem_of_getElem? (i := 139) (by decide +kernel)) rfl
theorem wt_82 : Cond.methodLink "TwoOnACable$Search" 3 objectInit ∈ gL := gm_1 (List.mem_of_getElem? (i := 140) (by decide +kernel)) rfl
theorem wt_83 : Cond.fieldLink "TwoOnACable$Search" 9 "TwoOnACable$Search" "now" "[I" ∈ gL := gm_1 (List.mem_of_getElem? (i := 141) (by decide +kernel)) rfl
theorem wt_84 : Cond.fieldLink "TwoOnACable$Search" 15 "TwoOnACable$Search" "next" "[I" ∈ gL := gm_1 (List.mem_of_getElem? (i := 142) (by decide +kernel)) rfl
theorem wt_85 : Cond.fieldLink "TwoOnACable" 10 "TwoOnACable" "page" "LTwoOnACable$Page;" ∈ gL := gm_1 (List.mem_of_getElem? (i := 152) (by decide +kernel)) rfl
theorem wt_86 : Cond.fieldLink "TwoOnACable" 19 "TwoOnACable" "cable" "LTwoOnACable$Cable;" ∈ gL := gm_1 (List.mem_of_getElem? (i := 153) (by decide +kernel)) rfl
theorem wt_87 : Cond.fieldLink "TwoOnACable" 26 "TwoOnACable" "load" "LTwoOnACable$Load;" ∈ gL := gm_1 (List.mem_of_getElem? (i := 154) (by decide +kernel)) rfl
theorem wt_88 : Cond.fieldLink "TwoOnACable" 33 "TwoOnACable" "told" "LTwoOnACable$Told;" ∈ gL := gm_1 (List.mem_of_getElem? (i := 155) (by decide +kernel)) rfl
theorem wt_89 : Cond.fieldLink "TwoOnACable" 40 "TwoOnACable" "evening" "LTwoOnACable$Evening;" ∈ gL := gm_1 (List.mem_of_getElem? (i := 156) (by decide +kernel)) rfl
theorem wt_90 : Cond.fieldLink "TwoOnACable" 47 "TwoOnACable" "search" "LTwoOnACable$Search;" ∈ gL := gm_1 (List.mem_of_getElem? (i := 157) (by decide +kernel)) rfl
theorem wt_91 : Cond.fieldLink "TwoOnACable" 51 "TwoOnACable" "trial" "LTwoOnACable$Cable;" ∈ gL := gm_1 (List.mem_of_getElem? (i := 158) (by decide +kernel)) rfl
theorem wt_92 : Cond.fieldLink "TwoOnACable" 54 "TwoOnACable" "keptCable" "LTwoOnACable$Cable;" ∈ gL := gm_1 (List.mem_of_getElem? (i := 159) (by decide +kernel)) rfl
theorem wt_93 : Cond.fieldLink "TwoOnACable" 97 "TwoOnACable" "isKept" "Z" ∈ gL := gm_1 (List.mem_of_getElem? (i := 160) (by decide +kernel)) rfl
theorem wt_94 : Cond.fieldLink "TwoOnACable" 101 "TwoOnACable" "reads" "I" ∈ gL := gm_1 (List.mem_of_getElem? (i := 161) (by decide +kernel)) rfl
theorem wt_95 : Cond.methodLink "TwoOnACableLaw" 62 yX11_cabin ∈ gL := gm_1 (List.mem_of_getElem? (i := 183) (by decide +kernel)) rfl
theorem wt_96 : Cond.instanceMethod yX11_cabin ∈ gL := gm_1 (List.mem_of_getElem? (i := 184) (by decide +kernel)) rfl
theorem wt_97 : Cond.selects "TwoOnACable" yX11_cabin yX11_cabin ∈ gL := gm_1 (List.mem_of_getElem? (i := 185) (by decide +kernel)) rfl
theorem wt_98 : Cond.code yX11_cabin prog_1_method_6_code 3 (some FieldType.int) ∈ gL := gm_1 (List.mem_of_getElem? (i := 186) (by decide +kernel)) rfl
theorem wt_99 : Cond.methodLink "TwoOnACable" 107 yX11_isCabin ∈ gL := gm_1 (List.mem_of_getElem? (i := 187) (by decide +kernel)) rfl
theorem wt_100 : Cond.static yX11_isCabin ∈ gL := gm_1 (List.mem_of_getElem? (i := 188) (by decide +kernel)) rfl
theorem wt_101 : Cond.code yX11_isCabin prog_1_method_32_code 1 (some FieldType.boolean) ∈ gL := gm_1 (List.mem_of_getElem? (i := 189) (by decide +kernel)) rfl
theorem wt_102 : Cond.methodLink "TwoOnACable" 110 yX0_isThere ∈ gL := gm_1 (List.mem_of_getElem? (i := 190) (by decide +kernel)) rfl
theorem wt_103 : Cond.instanceMethod yX0_isThere ∈ gL := gm_1 (List.mem_of_getElem? (i := 191) (by decide +kernel)) rfl
theorem wt_104 : Cond.selects "TwoOnACable$Cable" yX0_isThere yX0_isThere ∈ gL := gm_1 (List.mem_of_getElem? (i := 192) (by decide +kernel)) rfl
theorem wt_105 : Cond.code yX0_isThere prog_2_method_4_code 1 (some FieldType.boolean) ∈ gL := gm_1 (List.mem_of_getElem? (i := 193) (by decide +kernel)) rfl
theorem wt_106 : Cond.methodLink "TwoOnACable" 116 yX6_weighsIn ∈ gL := gm_1 (List.mem_of_getElem? (i := 194) (by decide +kernel)) rfl
theorem wt_107 : Cond.instanceMethod yX6_weighsIn ∈ gL := gm_1 (List.mem_of_getElem? (i := 195) (by decide +kernel)) rfl
theorem wt_108 : Cond.selects "TwoOnACable$Load" yX6_weighsIn yX6_weighsIn ∈ gL := gm_1 (List.mem_of_getElem? (i := 196) (by decide +kernel)) rfl
theorem wt_109 : Cond.code yX6_weighsIn prog_8_method_8_code 6 (some FieldType.int) ∈ gL := gm_1 (List.mem_of_getElem? (i := 197) (by decide +kernel)) rfl
theorem wt_110 : Cond.methodLink "TwoOnACable$Load" 34 yX6_at ∈ gL := gm_1 (List.mem_of_getElem? (i := 198) (by decide +kernel)) rfl
theorem wt_111 : Cond.instanceMethod yX6_at ∈ gL := gm_1 (List.mem_of_getElem? (i := 199) (by decide +kernel)) rfl
theorem wt_112 : Cond.selects "TwoOnACable$Load" yX6_at yX6_at ∈ gL := gm_1 (List.mem_of_getElem? (i := 200) (by decide +kernel)) rfl
theorem wt_113 : Cond.code yX6_at prog_8_method_4_code 2 (some (FieldType.object "TwoOnACable$Thing")) ∈ gL := gm_1 (List.mem_of_getElem? (i := 201) (by decide +kernel)) rfl
theorem wt_114 : Cond.methodLink "TwoOnACable$Load" 45 yX9_weighs ∈ gL := gm_1 (List.mem_of_getElem? (i := 202) (by decide +kernel)) rfl
theorem wt_115 : Cond.instanceMethod yX9_weighs ∈ gL := gm_1 (List.mem_of_getElem? (i := 203) (by decide +kernel)) rfl
theorem wt_116 : Cond.selects "TwoOnACable$Thing" yX9_weighs yX9_weighs ∈ gL := gm_1 (List.mem_of_getElem? (i := 204) (by decide +kernel)) rfl
theorem wt_117 : Cond.sameMethod "TwoOnACable$Thing" "TwoOnACable$Thing" "weighs" "(I)I" ∈ gL := gm_1 (List.mem_of_getElem? (i := 205) (by decide +kernel)) rfl
theorem wt_118 : Cond.selects "TwoOnACable$Cook" yX9_weighs yX1_weighs ∈ gL := gm_1 (List.mem_of_getElem? (i := 206) (by decide +kernel)) rfl
theorem wt_119 : Cond.instanceMethod yX1_weighs ∈ gL := gm_1 (List.mem_of_getElem? (i := 207) (by decide +kernel)) rfl
theorem wt_120 : Cond.code yX1_weighs prog_3_method_3_code 2 (some FieldType.int) ∈ gL := gm_1 (List.mem_of_getElem? (i := 208) (by decide +kernel)) rfl
theorem wt_121 : Cond.selects "TwoOnACable$Guest" yX9_weighs yX9_weighs ∈ gL := gm_1 (List.mem_of_getElem? (i := 209) (by decide +kernel)) rfl
theorem wt_122 : Cond.selects "TwoOnACable$Hens" yX9_weighs yX4_weighs ∈ gL := gm_1 (List.mem_of_getElem? (i := 210) (by decide +kernel)) rfl
theorem wt_123 : Cond.instanceMethod yX4_weighs ∈ gL := gm_1 (List.mem_of_getElem? (i := 211) (by decide +kernel)) rfl
theorem wt_124 : Cond.code yX4_weighs prog_6_method_3_code 2 (some FieldType.int) ∈ gL := gm_1 (List.mem_of_getElem? (i := 212) (by decide +kernel)) rfl
theorem wt_125 : Cond.selects "TwoOnACable$Live" yX9_weighs yX5_weighs ∈ gL := gm_1 (List.mem_of_getElem? (i := 213) (by decide +kernel)) rfl
theorem wt_126 : Cond.instanceMethod yX5_weighs ∈ gL := gm_1 (List.mem_of_getElem? (i := 214) (by decide +kernel)) rfl
theorem wt_127 : Cond.code yX5_weighs prog_7_method_3_code 2 (some FieldType.int) ∈ gL := gm_1 (List.mem_of_getElem? (i := 215) (by decide +kernel)) rfl
theorem wt_128 : Cond.code yX9_weighs prog_11_method_3_code 2 (some FieldType.int) ∈ gL := gm_1 (List.mem_of_getElem? (i := 216) (by decide +kernel)) rfl
theorem wt_129 : Cond.methodLink "TwoOnACable" 120 yX0_armNow ∈ gL := gm_1 (List.mem_of_getElem? (i := 217) (by decide +kernel)) rfl
theorem wt_130 : Cond.instanceMethod yX0_armNow ∈ gL := gm_1 (List.mem_of_getElem? (i := 218) (by decide +kernel)) rfl
theorem wt_131 : Cond.selects "TwoOnACable$Cable" yX0_armNow yX0_armNow ∈ gL := gm_1 (List.mem_of_getElem? (i := 219) (by decide +kernel)) rfl
theorem wt_132 : Cond.code yX0_armNow prog_2_method_11_code 3 (some FieldType.int) ∈ gL := gm_1 (List.mem_of_getElem? (i := 220) (by decide +kernel)) rfl
theorem wt_133 : Cond.methodLink "TwoOnACable$Cable" 50 yX6_weighsIn ∈ gL := gm_1 (List.mem_of_getElem? (i := 221) (by decide +kernel)) rfl
theorem wt_134 : Cond.methodLink "TwoOnACable$Cable" 46 yX0_armAt ∈ gL := gm_1 (List.mem_of_getElem? (i := 222) (by decide +kernel)) rfl
theorem wt_135 : Cond.instanceMethod yX0_armAt ∈ gL := gm_1 (List.mem_of_getElem? (i := 223) (by decide +kernel)) rfl
theorem wt_136 : Cond.selects "TwoOnACable$Cable" yX0_armAt yX0_armAt ∈ gL := gm_1 (List.mem_of_getElem? (i := 224) (by decide +kernel)) rfl
theorem wt_137 : Cond.code yX0_armAt prog_2_method_8_code 7 (some FieldType.int) ∈ gL := gm_1 (List.mem_of_getElem? (i := 225) (by decide +kernel)) rfl
theorem wt_138 : Cond.methodLink "TwoOnACable" 124 yX0_floorNow ∈ gL := gm_1 (List.mem_of_getElem? (i := 226) (by decide +kernel)) rfl
theorem wt_139 : Cond.instanceMethod yX0_floorNow ∈ gL := gm_1 (List.mem_of_getElem? (i := 227) (by decide +kernel)) rfl
theorem wt_140 : Cond.selects "TwoOnACable$Cable" yX0_floorNow yX0_floorNow ∈ gL := gm_1 (List.mem_of_getElem? (i := 228) (by decide +kernel)) rfl
theorem wt_141 : Cond.code yX0_floorNow prog_2_method_12_code 3 (some FieldType.int) ∈ gL := gm_1 (List.mem_of_getElem? (i := 229) (by decide +kernel)) rfl
theorem wt_142 : Cond.methodLink "TwoOnACable$Cable" 56 yX0_floorAt ∈ gL := gm_1 (List.mem_of_getElem? (i := 230) (by decide +kernel)) rfl
theorem wt_143 : Cond.instanceMethod yX0_floorAt ∈ gL := gm_1 (List.mem_of_getElem? (i := 231) (by decide +kernel)) rfl
theorem wt_144 : Cond.selects "TwoOnACable$Cable" yX0_floorAt yX0_floorAt ∈ gL := gm_1 (List.mem_of_getElem? (i := 232) (by decide +kernel)) rfl
theorem wt_145 : Cond.code yX0_floorAt prog_2_method_9_code 6 (some FieldType.int) ∈ gL := gm_1 (List.mem_of_getElem? (i := 233) (by decide +kernel)) rfl
theorem wt_146 : Cond.methodLink "TwoOnACable$Cable" 43 yX0_turnsAt ∈ gL := gm_1 (List.mem_of_getElem? (i := 234) (by decide +kernel)) rfl
theorem wt_147 : Cond.instanceMethod yX0_turnsAt ∈ gL := gm_1 (List.mem_of_getElem? (i := 235) (by decide +kernel)) rfl
theorem wt_148 : Cond.selects "TwoOnACable$Cable" yX0_turnsAt yX0_turnsAt ∈ gL := gm_1 (List.mem_of_getElem? (i := 236) (by decide +kernel)) rfl
theorem wt_149 : Cond.code yX0_turnsAt prog_2_method_6_code 2 (some FieldType.int) ∈ gL := gm_1 (List.mem_of_getElem? (i := 237) (by decide +kernel)) rfl
theorem wt_150 : Cond.methodLink "TwoOnACable" 127 yX6_sizeIn ∈ gL := gm_1 (List.mem_of_getElem? (i := 238) (by decide +kernel)) rfl
theorem wt_151 : Cond.instanceMethod yX6_sizeIn ∈ gL := gm_1 (List.mem_of_getElem? (i := 239) (by decide +kernel)) rfl
theorem wt_152 : Cond.selects "TwoOnACable$Load" yX6_sizeIn yX6_sizeIn ∈ gL := gm_2 (List.mem_of_getElem? (i := 0) (by decide +kernel)) rfl
theorem wt_153 : Cond.code yX6_sizeIn prog_8_method_9_code 5 (some FieldType.int) ∈ gL := gm_2 (List.mem_of_getElem? (i := 1) (by decide +kernel)) rfl
theorem wt_154 : Cond.methodLink "TwoOnACableLaw" 58 yX11_about ∈ gL := gm_2 (List.mem_of_getElem? (i := 2) (by decide +kernel)) rfl
theorem wt_155 : Cond.instanceMethod yX11_about ∈ gL := gm_2 (List.mem_of_getElem? (i := 3) (by decide +kernel)) rfl
theorem wt_156 : Cond.selects "TwoOnACable" yX11_about yX11_about ∈ gL := gm_2 (List.mem_of_getElem? (i := 4) (by decide +kernel)) rfl
theorem wt_157 : Cond.code yX11_about prog_1_method_8_code 4 (some FieldType.int) ∈ gL := gm_2 (List.mem_of_getElem? (i := 5) (by decide +kernel)) rfl
theorem wt_158 : Cond.methodLink "TwoOnACable" 144 yX6_at ∈ gL := gm_2 (List.mem_of_getElem? (i := 6) (by decide +kernel)) rfl
theorem wt_159 : Cond.methodLink "TwoOnACable" 148 yX9_kind ∈ gL := gm_2 (List.mem_of_getElem? (i := 7) (by decide +kernel)) rfl
theorem wt_160 : Cond.instanceMethod yX9_kind ∈ gL := gm_2 (List.mem_of_getElem? (i := 8) (by decide +kernel)) rfl
theorem wt_161 : Cond.selects "TwoOnACable$Thing" yX9_kind yX9_kind ∈ gL := gm_2 (List.mem_of_getElem? (i := 9) (by decide +kernel)) rfl
theorem wt_162 : Cond.sameMethod "TwoOnACable$Thing" "TwoOnACable$Thing" "kind" "()I" ∈ gL := gm_2 (List.mem_of_getElem? (i := 10) (by decide +kernel)) rfl
theorem wt_163 : Cond.selects "TwoOnACable$Cook" yX9_kind yX1_kind ∈ gL := gm_2 (List.mem_of_getElem? (i := 11) (by decide +kernel)) rfl
theorem wt_164 : Cond.instanceMethod yX1_kind ∈ gL := gm_2 (List.mem_of_getElem? (i := 12) (by decide +kernel)) rfl
theorem wt_165 : Cond.code yX1_kind prog_3_method_2_code 1 (some FieldType.int) ∈ gL := gm_2 (List.mem_of_getElem? (i := 13) (by decide +kernel)) rfl
theorem wt_166 : Cond.selects "TwoOnACable$Guest" yX9_kind yX3_kind ∈ gL := gm_2 (List.mem_of_getElem? (i := 14) (by decide +kernel)) rfl
theorem wt_167 : Cond.instanceMethod yX3_kind ∈ gL := gm_2 (List.mem_of_getElem? (i := 15) (by decide +kernel)) rfl
theorem wt_168 : Cond.code yX3_kind prog_5_method_2_code 1 (some FieldType.int) ∈ gL := gm_2 (List.mem_of_getElem? (i := 16) (by decide +kernel)) rfl
theorem wt_169 : Cond.selects "TwoOnACable$Hens" yX9_kind yX4_kind ∈ gL := gm_2 (List.mem_of_getElem? (i := 17) (by decide +kernel)) rfl
theorem wt_170 : Cond.instanceMethod yX4_kind ∈ gL := gm_2 (List.mem_of_getElem? (i := 18) (by decide +kernel)) rfl
theorem wt_171 : Cond.code yX4_kind prog_6_method_2_code 1 (some FieldType.int) ∈ gL := gm_2 (List.mem_of_getElem? (i := 19) (by decide +kernel)) rfl
theorem wt_172 : Cond.selects "TwoOnACable$Live" yX9_kind yX5_kind ∈ gL := gm_2 (List.mem_of_getElem? (i := 20) (by decide +kernel)) rfl
theorem wt_173 : Cond.instanceMethod yX5_kind ∈ gL := gm_2 (List.mem_of_getElem? (i := 21) (by decide +kernel)) rfl
theorem wt_174 : Cond.code yX5_kind prog_7_method_2_code 1 (some FieldType.int) ∈ gL := gm_2 (List.mem_of_getElem? (i := 22) (by decide +kernel)) rfl
theorem wt_175 : Cond.code yX9_kind prog_11_method_2_code 1 (some FieldType.int) ∈ gL := gm_2 (List.mem_of_getElem? (i := 23) (by decide +kernel)) rfl
theorem wt_176 : Cond.methodLink "TwoOnACable" 159 yX9_weighs ∈ gL := gm_2 (List.mem_of_getElem? (i := 24) (by decide +kernel)) rfl
theorem wt_177 : Cond.methodLink "TwoOnACable" 162 yX9_hoursHere ∈ gL := gm_2 (List.mem_of_getElem? (i := 25) (by decide +kernel)) rfl
theorem wt_178 : Cond.instanceMethod yX9_hoursHere ∈ gL := gm_2 (List.mem_of_getElem? (i := 26) (by decide +kernel)) rfl
theorem wt_179 : Cond.selects "TwoOnACable$Thing" yX9_hoursHere yX9_hoursHere ∈ gL := gm_2 (List.mem_of_getElem? (i := 27) (by decide +kernel)) rfl
theorem wt_180 : Cond.sameMethod "TwoOnACable$Thing" "TwoOnACable$Thing" "hoursHere" "(I)I" ∈ gL := gm_2 (List.mem_of_getElem? (i := 28) (by decide +kernel)) rfl
theorem wt_181 : Cond.selects "TwoOnACable$Cook" yX9_hoursHere yX9_hoursHere ∈ gL := gm_2 (List.mem_of_getElem? (i := 29) (by decide +kernel)) rfl
theorem wt_182 : Cond.selects "TwoOnACable$Guest" yX9_hoursHere yX9_hoursHere ∈ gL := gm_2 (List.mem_of_getElem? (i := 30) (by decide +kernel)) rfl
theorem wt_183 : Cond.selects "TwoOnACable$Hens" yX9_hoursHere yX9_hoursHere ∈ gL := gm_2 (List.mem_of_getElem? (i := 31) (by decide +kernel)) rfl
theorem wt_184 : Cond.selects "TwoOnACable$Live" yX9_hoursHere yX9_hoursHere ∈ gL := gm_2 (List.mem_of_getElem? (i := 32) (by decide +kernel)) rfl
theorem wt_185 : Cond.code yX9_hoursHere prog_11_method_5_code 2 (some FieldType.int) ∈ gL := gm_2 (List.mem_of_getElem? (i := 33) (by decide +kernel)) rfl
theorem wt_186 : Cond.methodLink "TwoOnACableLaw" 85 yX11_as ∈ gL := gm_2 (List.mem_of_getElem? (i := 34) (by decide +kernel)) rfl
theorem wt_187 : Cond.instanceMethod yX11_as ∈ gL := gm_2 (List.mem_of_getElem? (i := 35) (by decide +kernel)) rfl
theorem wt_188 : Cond.selects "TwoOnACable" yX11_as yX11_as ∈ gL := gm_2 (List.mem_of_getElem? (i := 36) (by decide +kernel)) rfl
theorem wt_189 : Cond.code yX11_as prog_1_method_9_code 4 (some FieldType.int) ∈ gL := gm_2 (List.mem_of_getElem? (i := 37) (by decide +kernel)) rfl
theorem wt_190 : Cond.methodLink "TwoOnACable" 131 yX11_isKind ∈ gL := gm_2 (List.mem_of_getElem? (i := 38) (by decide +kernel)) rfl
theorem wt_191 : Cond.static yX11_isKind ∈ gL := gm_2 (List.mem_of_getElem? (i := 39) (by decide +kernel)) rfl
theorem wt_192 : Cond.code yX11_isKind prog_1_method_33_code 1 (some FieldType.boolean) ∈ gL := gm_2 (List.mem_of_getElem? (i := 40) (by decide +kernel)) rfl
theorem wt_193 : Cond.methodLink "TwoOnACable" 165 yX11_isOfKind ∈ gL := gm_2 (List.mem_of_getElem? (i := 41) (by decide +kernel)) rfl
theorem wt_194 : Cond.static yX11_isOfKind ∈ gL := gm_2 (List.mem_of_getElem? (i := 42) (by decide +kernel)) rfl
theorem wt_195 : Cond.code yX11_isOfKind prog_1_method_40_code 2 (some FieldType.boolean) ∈ gL := gm_2 (List.mem_of_getElem? (i := 43) (by decide +kernel)) rfl
theorem wt_196 : Cond.classLink "TwoOnACable" 325 "TwoOnACable$Cook" ∈ gL := gm_2 (List.mem_of_getElem? (i := 44) (by decide +kernel)) rfl
theorem wt_197 : Cond.classLink "TwoOnACable" 330 "TwoOnACable$Guest" ∈ gL := gm_2 (List.mem_of_getElem? (i := 45) (by decide +kernel)) rfl
theorem wt_198 : Cond.classLink "TwoOnACable" 333 "TwoOnACable$Live" ∈ gL := gm_2 (List.mem_of_getElem? (i := 46) (by decide +kernel)) rfl
theorem wt_199 : Cond.classLink "TwoOnACable" 336 "TwoOnACable$Hens" ∈ gL := gm_2 (List.mem_of_getElem? (i := 47) (by decide +kernel)) rfl
theorem wt_200 : Cond.methodLink "TwoOnACableLaw" 78 yX11_carry ∈ gL := gm_2 (List.mem_of_getElem? (i := 48) (by decide +kernel)) rfl
theorem wt_201 : Cond.instanceMethod yX11_carry ∈ gL := gm_2 (List.mem_of_getElem? (i := 49) (by decide +kernel)) rfl
theorem wt_202 : Cond.selects "TwoOnACable" yX11_carry yX11_carry ∈ gL := gm_2 (List.mem_of_getElem? (i := 50) (by decide +kernel)) rfl
theorem wt_203 : Cond.code yX11_carry prog_1_method_10_code 3 (some FieldType.int) ∈ gL := gm_2 (List.mem_of_getElem? (i := 51) (by decide +kernel)) rfl
theorem wt_204 : Cond.methodLink "TwoOnACable" 169 yX0_isWhole ∈ gL := gm_2 (List.mem_of_getElem? (i := 52) (by decide +kernel)) rfl
theorem wt_205 : Cond.instanceMethod yX0_isWhole ∈ gL := gm_2 (List.mem_of_getElem? (i := 53) (by decide +kernel)) rfl
theorem wt_206 : Cond.selects "TwoOnACable$Cable" yX0_isWhole yX0_isWhole ∈ gL := gm_2 (List.mem_of_getElem? (i := 54) (by decide +kernel)) rfl
theorem wt_207 : Cond.code yX0_isWhole prog_2_method_5_code 1 (some FieldType.boolean) ∈ gL := gm_2 (List.mem_of_getElem? (i := 55) (by decide +kernel)) rfl
theorem wt_208 : Cond.methodLink "TwoOnACable" 172 yX0_turnsNow ∈ gL := gm_2 (List.mem_of_getElem? (i := 56) (by decide +kernel)) rfl
theorem wt_209 : Cond.instanceMethod yX0_turnsNow ∈ gL := gm_2 (List.mem_of_getElem? (i := 57) (by decide +kernel)) rfl
theorem wt_210 : Cond.selects "TwoOnACable$Cable" yX0_turnsNow yX0_turnsNow ∈ gL := gm_2 (List.mem_of_getElem? (i := 58) (by decide +kernel)) rfl
theorem wt_211 : Cond.code yX0_turnsNow prog_2_method_7_code 1 (some FieldType.int) ∈ gL := gm_2 (List.mem_of_getElem? (i := 59) (by decide +kernel)) rfl
theorem wt_212 : Cond.methodLink "TwoOnACable" 175 yX9_goesAcross ∈ gL := gm_2 (List.mem_of_getElem? (i := 60) (by decide +kernel)) rfl
theorem wt_213 : Cond.instanceMethod yX9_goesAcross ∈ gL := gm_2 (List.mem_of_getElem? (i := 61) (by decide +kernel)) rfl
theorem wt_214 : Cond.selects "TwoOnACable$Thing" yX9_goesAcross yX9_goesAcross ∈ gL := gm_2 (List.mem_of_getElem? (i := 62) (by decide +kernel)) rfl
theorem wt_215 : Cond.sameMethod "TwoOnACable$Thing" "TwoOnACable$Thing" "goesAcross" "(I)Z" ∈ gL := gm_2 (List.mem_of_getElem? (i := 63) (by decide +kernel)) rfl
theorem wt_216 : Cond.selects "TwoOnACable$Cook" yX9_goesAcross yX9_goesAcross ∈ gL := gm_2 (List.mem_of_getElem? (i := 64) (by decide +kernel)) rfl
theorem wt_217 : Cond.selects "TwoOnACable$Guest" yX9_goesAcross yX3_goesAcross ∈ gL := gm_2 (List.mem_of_getElem? (i := 65) (by decide +kernel)) rfl
theorem wt_218 : Cond.instanceMethod yX3_goesAcross ∈ gL := gm_2 (List.mem_of_getElem? (i := 66) (by decide +kernel)) rfl
theorem wt_219 : Cond.code yX3_goesAcross prog_5_method_3_code 2 (some FieldType.boolean) ∈ gL := gm_2 (List.mem_of_getElem? (i := 67) (by decide +kernel)) rfl
theorem wt_220 : Cond.selects "TwoOnACable$Hens" yX9_goesAcross yX9_goesAcross ∈ gL := gm_2 (List.mem_of_getElem? (i := 68) (by decide +kernel)) rfl
theorem wt_221 : Cond.selects "TwoOnACable$Live" yX9_goesAcross yX9_goesAcross ∈ gL := gm_2 (List.mem_of_getElem? (i := 69) (by decide +kernel)) rfl
theorem wt_222 : Cond.code yX9_goesAcross prog_11_method_4_code 2 (some FieldType.boolean) ∈ gL := gm_2 (List.mem_of_getElem? (i := 70) (by decide +kernel)) rfl
theorem wt_223 : Cond.methodLink "TwoOnACableLaw" 73 yX11_hour ∈ gL := gm_2 (List.mem_of_getElem? (i := 71) (by decide +kernel)) rfl
theorem wt_224 : Cond.instanceMethod yX11_hour ∈ gL := gm_2 (List.mem_of_getElem? (i := 72) (by decide +kernel)) rfl
theorem wt_225 : Cond.selects "TwoOnACable" yX11_hour yX11_hour ∈ gL := gm_2 (List.mem_of_getElem? (i := 73) (by decide +kernel)) rfl
theorem wt_226 : Cond.code yX11_hour prog_1_method_11_code 2 (some FieldType.int) ∈ gL := gm_2 (List.mem_of_getElem? (i := 74) (by decide +kernel)) rfl
theorem wt_227 : Cond.methodLink "TwoOnACable" 181 yX11_isLength ∈ gL := gm_2 (List.mem_of_getElem? (i := 75) (by decide +kernel)) rfl
theorem wt_228 : Cond.static yX11_isLength ∈ gL := gm_2 (List.mem_of_getElem? (i := 76) (by decide +kernel)) rfl
theorem wt_229 : Cond.code yX11_isLength prog_1_method_34_code 1 (some FieldType.boolean) ∈ gL := gm_2 (List.mem_of_getElem? (i := 77) (by decide +kernel)) rfl
theorem wt_230 : Cond.methodLink "TwoOnACable" 184 yX0_goHour ∈ gL := gm_2 (List.mem_of_getElem? (i := 78) (by decide +kernel)) rfl
theorem wt_231 : Cond.instanceMethod yX0_goHour ∈ gL := gm_2 (List.mem_of_getElem? (i := 79) (by decide +kernel)) rfl
theorem wt_232 : Cond.selects "TwoOnACable$Cable" yX0_goHour yX0_goHour ∈ gL := gm_2 (List.mem_of_getElem? (i := 80) (by decide +kernel)) rfl
theorem wt_233 : Cond.code yX0_goHour prog_2_method_15_code 3 (none : Option FieldType) ∈ gL := gm_2 (List.mem_of_getElem? (i := 81) (by decide +kernel)) rfl
theorem wt_234 : Cond.methodLink "TwoOnACable$Cable" 71 yX0_placeAfter ∈ gL := gm_2 (List.mem_of_getElem? (i := 82) (by decide +kernel)) rfl
theorem wt_235 : Cond.instanceMethod yX0_placeAfter ∈ gL := gm_2 (List.mem_of_getElem? (i := 83) (by decide +kernel)) rfl
theorem wt_236 : Cond.selects "TwoOnACable$Cable" yX0_placeAfter yX0_placeAfter ∈ gL := gm_2 (List.mem_of_getElem? (i := 84) (by decide +kernel)) rfl
theorem wt_237 : Cond.code yX0_placeAfter prog_2_method_14_code 2 (some FieldType.int) ∈ gL := gm_2 (List.mem_of_getElem? (i := 85) (by decide +kernel)) rfl
theorem wt_238 : Cond.methodLink "TwoOnACable$Cable" 62 yX0_turnsNow ∈ gL := gm_2 (List.mem_of_getElem? (i := 86) (by decide +kernel)) rfl
theorem wt_239 : Cond.methodLink "TwoOnACable$Cable" 66 yJ9_floorMod_7cf53 ∈ gL := gm_2 (List.mem_of_getElem? (i := 87) (by decide +kernel)) rfl
theorem wt_240 : Cond.static yJ9_floorMod_7cf53 ∈ gL := gm_2 (List.mem_of_getElem? (i := 88) (by decide +kernel)) rfl
theorem wt_241 : Cond.code yJ9_floorMod_7cf53 prog_15_method_50_code 3 (some FieldType.int) ∈ gL := gm_2 (List.mem_of_getElem? (i := 89) (by decide +kernel)) rfl
theorem wt_242 : Cond.methodLink "TwoOnACable$Cable" 74 yX0_strainNow ∈ gL := gm_2 (List.mem_of_getElem? (i := 90) (by decide +kernel)) rfl
theorem wt_243 : Cond.instanceMethod yX0_strainNow ∈ gL := gm_2 (List.mem_of_getElem? (i := 91) (by decide +kernel)) rfl
theorem wt_244 : Cond.selects "TwoOnACable$Cable" yX0_strainNow yX0_strainNow ∈ gL := gm_2 (List.mem_of_getElem? (i := 92) (by decide +kernel)) rfl
theorem wt_245 : Cond.code yX0_strainNow prog_2_method_13_code 3 (some FieldType.int) ∈ gL := gm_2 (List.mem_of_getElem? (i := 93) (by decide +kernel)) rfl
theorem wt_246 : Cond.methodLink "TwoOnACable$Cable" 59 yX0_strainBy ∈ gL := gm_2 (List.mem_of_getElem? (i := 94) (by decide +kernel)) rfl
theorem wt_247 : Cond.instanceMethod yX0_strainBy ∈ gL := gm_2 (List.mem_of_getElem? (i := 95) (by decide +kernel)) rfl
theorem wt_248 : Cond.selects "TwoOnACable$Cable" yX0_strainBy yX0_strainBy ∈ gL := gm_2 (List.mem_of_getElem? (i := 96) (by decide +kernel)) rfl
theorem wt_249 : Cond.code yX0_strainBy prog_2_method_10_code 3 (some FieldType.int) ∈ gL := gm_2 (List.mem_of_getElem? (i := 97) (by decide +kernel)) rfl
theorem wt_250 : Cond.methodLink "TwoOnACableLaw" 88 yX11_caught ∈ gL := gm_2 (List.mem_of_getElem? (i := 98) (by decide +kernel)) rfl
theorem wt_251 : Cond.instanceMethod yX11_caught ∈ gL := gm_2 (List.mem_of_getElem? (i := 99) (by decide +kernel)) rfl
theorem wt_252 : Cond.selects "TwoOnACable" yX11_caught yX11_caught ∈ gL := gm_2 (List.mem_of_getElem? (i := 100) (by decide +kernel)) rfl
theorem wt_253 : Cond.code yX11_caught prog_1_method_14_code 5 (some FieldType.int) ∈ gL := gm_2 (List.mem_of_getElem? (i := 101) (by decide +kernel)) rfl
theorem wt_254 : Cond.methodLink "TwoOnACable" 208 yJ9_floorMod_7cf53 ∈ gL := gm_2 (List.mem_of_getElem? (i := 102) (by decide +kernel)) rfl
theorem wt_255 : Cond.methodLink "TwoOnACable" 213 yX0_placeAfter ∈ gL := gm_2 (List.mem_of_getElem? (i := 103) (by decide +kernel)) rfl
theorem wt_256 : Cond.methodLink "TwoOnACable" 216 yX11_apartOnCircle ∈ gL := gm_2 (List.mem_of_getElem? (i := 104) (by decide +kernel)) rfl
theorem wt_257 : Cond.static yX11_apartOnCircle ∈ gL := gm_2 (List.mem_of_getElem? (i := 105) (by decide +kernel)) rfl
theorem wt_258 : Cond.code yX11_apartOnCircle prog_1_method_35_code 3 (some FieldType.int) ∈ gL := gm_2 (List.mem_of_getElem? (i := 106) (by decide +kernel)) rfl
theorem wt_259 : Cond.methodLink "TwoOnACable" 322 yJ9_min_7cf53 ∈ gL := gm_2 (List.mem_of_getElem? (i := 107) (by decide +kernel)) rfl
theorem wt_260 : Cond.static yJ9_min_7cf53 ∈ gL := gm_2 (List.mem_of_getElem? (i := 108) (by decide +kernel)) rfl
theorem wt_261 : Cond.code yJ9_min_7cf53 prog_15_method_69_code 2 (some FieldType.int) ∈ gL := gm_2 (List.mem_of_getElem? (i := 109) (by decide +kernel)) rfl
theorem wt_262 : Cond.methodLink "TwoOnACableLaw" 101 yX11_whirls ∈ gL := gm_2 (List.mem_of_getElem? (i := 110) (by decide +kernel)) rfl
theorem wt_263 : Cond.instanceMethod yX11_whirls ∈ gL := gm_2 (List.mem_of_getElem? (i := 111) (by decide +kernel)) rfl
theorem wt_264 : Cond.selects "TwoOnACable" yX11_whirls yX11_whirls ∈ gL := gm_2 (List.mem_of_getElem? (i := 112) (by decide +kernel)) rfl
theorem wt_265 : Cond.code yX11_whirls prog_1_method_19_code 5 (some FieldType.int) ∈ gL := gm_2 (List.mem_of_getElem? (i := 113) (by decide +kernel)) rfl
theorem wt_266 : Cond.methodLink "TwoOnACable" 246 yX11_tryHours ∈ gL := gm_2 (List.mem_of_getElem? (i := 114) (by decide +kernel)) rfl
theorem wt_267 : Cond.instanceMethod yX11_tryHours ∈ gL := gm_2 (List.mem_of_getElem? (i := 116) (by decide +kernel)) rfl
theorem wt_268 : Cond.code yX11_tryHours prog_1_method_27_code 6 (some FieldType.int) ∈ gL := gm_2 (List.mem_of_getElem? (i := 117) (by decide +kernel)) rfl
theorem wt_269 : Cond.methodLink "TwoOnACable" 250 yX0_becomeLike ∈ gL := gm_2 (List.mem_of_getElem? (i := 118) (by decide +kernel)) rfl
theorem wt_270 : Cond.instanceMethod yX0_becomeLike ∈ gL := gm_2 (List.mem_of_getElem? (i := 119) (by decide +kernel)) rfl
theorem wt_271 : Cond.selects "TwoOnACable$Cable" yX0_becomeLike yX0_becomeLike ∈ gL := gm_2 (List.mem_of_getElem? (i := 120) (by decide +kernel)) rfl
theorem wt_272 : Cond.code yX0_becomeLike prog_2_method_3_code 2 (none : Option FieldType) ∈ gL := gm_2 (List.mem_of_getElem? (i := 121) (by decide +kernel)) rfl
theorem wt_273 : Cond.methodLink "TwoOnACable" 307 yX11_nextSeed ∈ gL := gm_2 (List.mem_of_getElem? (i := 122) (by decide +kernel)) rfl
theorem wt_274 : Cond.static yX11_nextSeed ∈ gL := gm_2 (List.mem_of_getElem? (i := 123) (by decide +kernel)) rfl
theorem wt_275 : Cond.code yX11_nextSeed prog_1_method_28_code 1 (some FieldType.int) ∈ gL := gm_2 (List.mem_of_getElem? (i := 124) (by decide +kernel)) rfl
theorem wt_276 : Cond.constantLong "TwoOnACable" 314 (1103515245 : Int64) ∈ gL := gm_2 (List.mem_of_getElem? (i := 125) (by decide +kernel)) rfl
theorem wt_277 : Cond.constantLong "TwoOnACable" 316 (12345 : Int64) ∈ gL := gm_2 (List.mem_of_getElem? (i := 126) (by decide +kernel)) rfl
theorem wt_278 : Cond.constantLong "TwoOnACable" 318 (2147483648 : Int64) ∈ gL := gm_2 (List.mem_of_getElem? (i := 127) (by decide +kernel)) rfl
theorem wt_279 : Cond.constant "TwoOnACable" 310 (65536 : Int32) ∈ gL := gm_2 (List.mem_of_getElem? (i := 128) (by decide +kernel)) rfl
theorem wt_280 : Cond.methodLink "TwoOnACable" 311 yX11_windingOf ∈ gL := gm_2 (List.mem_of_getElem? (i := 129) (by decide +kernel)) rfl
theorem wt_281 : Cond.static yX11_windingOf ∈ gL := gm_2 (List.mem_of_getElem? (i := 130) (by decide +kernel)) rfl
theorem wt_282 : Cond.code yX11_windingOf prog_1_method_36_code 1 (some FieldType.int) ∈ gL := gm_2 (List.mem_of_getElem? (i := 131) (by decide +kernel)) rfl
theorem wt_283 : Cond.methodLink "TwoOnACableLaw" 65 yL_cell ∈ gL := gm_2 (List.mem_of_getElem? (i := 132) (by decide +kernel)) rfl
theorem wt_284 : Cond.static yL_cell ∈ gL := gm_2 (List.mem_of_getElem? (i := 133) (by decide +kernel)) rfl
theorem wt_285 : Cond.code yL_cell method_2_code 2 (some FieldType.int) ∈ gL := gm_2 (List.mem_of_getElem? (i := 134) (by decide +kernel)) rfl
theorem wt_286 : Cond.constant "TwoOnACableLaw" 7 (2147483647 : Int32) ∈ gL := gm_2 (List.mem_of_getElem? (i := 135) (by decide +kernel)) rfl
theorem wt_287 : Cond.methodLink "TwoOnACableLaw" 68 yL_wire ∈ gL := gm_2 (List.mem_of_getElem? (i := 136) (by decide +kernel)) rfl
theorem wt_288 : Cond.static yL_wire ∈ gL := gm_2 (List.mem_of_getElem? (i := 137) (by decide +kernel)) rfl
theorem wt_289 : Cond.code yL_wire method_4_code 7 (some FieldType.boolean) ∈ gL := gm_2 (List.mem_of_getElem? (i := 138) (by decide +kernel)) rfl
theorem wt_290 : Cond.constant "TwoOnACableLaw" 14 (524288 : Int32) ∈ gL := gm_2 (List.mem_of_getElem? (i := 139) (by decide +kernel)) rfl
theorem wt_291 : Cond.methodLink "TwoOnACableLaw" 15 yL_put ∈ gL := gm_2 (List.mem_of_getElem? (i := 140) (by decide +kernel)) rfl
theorem wt_292 : Cond.static yL_put ∈ gL := gm_2 (List.mem_of_getElem? (i := 141) (by decide +kernel)) rfl
theorem wt_293 : Cond.code yL_put method_3_code 2 (some FieldType.boolean) ∈ gL := gm_2 (List.mem_of_getElem? (i := 142) (by decide +kernel)) rfl
theorem wt_294 : Cond.methodLink "TwoOnACableLaw" 8 yX11_letters ∈ gL := gm_2 (List.mem_of_getElem? (i := 143) (by decide +kernel)) rfl
theorem wt_295 : Cond.instanceMethod yX11_letters ∈ gL := gm_2 (List.mem_of_getElem? (i := 144) (by decide +kernel)) rfl
theorem wt_296 : Cond.selects "TwoOnACable" yX11_letters yX11_letters ∈ gL := gm_2 (List.mem_of_getElem? (i := 145) (by decide +kernel)) rfl
theorem wt_297 : Cond.code yX11_letters prog_1_method_2_code 5 (some FieldType.int) ∈ gL := gm_2 (List.mem_of_getElem? (i := 146) (by decide +kernel)) rfl
theorem wt_298 : Cond.methodLink "TwoOnACable" 57 yX11_lettersIn ∈ gL := gm_2 (List.mem_of_getElem? (i := 147) (by decide +kernel)) rfl
theorem wt_299 : Cond.static yX11_lettersIn ∈ gL := gm_2 (List.mem_of_getElem? (i := 148) (by decide +kernel)) rfl
theorem wt_300 : Cond.code yX11_lettersIn prog_1_method_31_code 6 (some FieldType.int) ∈ gL := gm_2 (List.mem_of_getElem? (i := 149) (by decide +kernel)) rfl
theorem wt_301 : Cond.methodLink "TwoOnACable" 65 yX11_byteOf ∈ gL := gm_2 (List.mem_of_getElem? (i := 150) (by decide +kernel)) rfl
theorem wt_302 : Cond.static yX11_byteOf ∈ gL := gm_2 (List.mem_of_getElem? (i := 151) (by decide +kernel)) rfl
theorem wt_303 : Cond.code yX11_byteOf prog_1_method_30_code 3 (some FieldType.int) ∈ gL := gm_2 (List.mem_of_getElem? (i := 152) (by decide +kernel)) rfl
theorem wt_304 : Cond.methodLink "TwoOnACable" 61 yX7_hasRoomFor ∈ gL := gm_2 (List.mem_of_getElem? (i := 153) (by decide +kernel)) rfl
theorem wt_305 : Cond.instanceMethod yX7_hasRoomFor ∈ gL := gm_2 (List.mem_of_getElem? (i := 154) (by decide +kernel)) rfl
theorem wt_306 : Cond.selects "TwoOnACable$Page" yX7_hasRoomFor yX7_hasRoomFor ∈ gL := gm_2 (List.mem_of_getElem? (i := 155) (by decide +kernel)) rfl
theorem wt_307 : Cond.code yX7_hasRoomFor prog_9_method_2_code 2 (some FieldType.boolean) ∈ gL := gm_2 (List.mem_of_getElem? (i := 156) (by decide +kernel)) rfl
theorem wt_308 : Cond.methodLink "TwoOnACable" 69 yX7_put ∈ gL := gm_2 (List.mem_of_getElem? (i := 157) (by decide +kernel)) rfl
theorem wt_309 : Cond.instanceMethod yX7_put ∈ gL := gm_2 (List.mem_of_getElem? (i := 158) (by decide +kernel)) rfl
theorem wt_310 : Cond.selects "TwoOnACable$Page" yX7_put yX7_put ∈ gL := gm_2 (List.mem_of_getElem? (i := 159) (by decide +kernel)) rfl
theorem wt_311 : Cond.code yX7_put prog_9_method_3_code 2 (none : Option FieldType) ∈ gL := gm_2 (List.mem_of_getElem? (i := 160) (by decide +kernel)) rfl
theorem wt_312 : Cond.methodLink "TwoOnACableLaw" 21 yX11_fault ∈ gL := gm_2 (List.mem_of_getElem? (i := 161) (by decide +kernel)) rfl
theorem wt_313 : Cond.instanceMethod yX11_fault ∈ gL := gm_2 (List.mem_of_getElem? (i := 162) (by decide +kernel)) rfl
theorem wt_314 : Cond.selects "TwoOnACable" yX11_fault yX11_fault ∈ gL := gm_2 (List.mem_of_getElem? (i := 163) (by decide +kernel)) rfl
theorem wt_315 : Cond.code yX11_fault prog_1_method_4_code 1 (some FieldType.int) ∈ gL := gm_2 (List.mem_of_getElem? (i := 164) (by decide +kernel)) rfl
theorem wt_316 : Cond.methodLink "TwoOnACable" 81 yX7_firstWrong ∈ gL := gm_2 (List.mem_of_getElem? (i := 165) (by decide +kernel)) rfl
theorem wt_317 : Cond.instanceMethod yX7_firstWrong ∈ gL := gm_2 (List.mem_of_getElem? (i := 166) (by decide +kernel)) rfl
theorem wt_318 : Cond.selects "TwoOnACable$Page" yX7_firstWrong yX7_firstWrong ∈ gL := gm_2 (List.mem_of_getElem? (i := 167) (by decide +kernel)) rfl
theorem wt_319 : Cond.code yX7_firstWrong prog_9_method_6_code 2 (some FieldType.int) ∈ gL := gm_2 (List.mem_of_getElem? (i := 168) (by decide +kernel)) rfl
theorem wt_320 : Cond.methodLink "TwoOnACable$Page" 19 yX7_isWireLetter ∈ gL := gm_2 (List.mem_of_getElem? (i := 169) (by decide +kernel)) rfl
theorem wt_321 : Cond.instanceMethod yX7_isWireLetter ∈ gL := gm_2 (List.mem_of_getElem? (i := 171) (by decide +kernel)) rfl
theorem wt_322 : Cond.code yX7_isWireLetter prog_9_method_9_code 2 (some FieldType.boolean) ∈ gL := gm_2 (List.mem_of_getElem? (i := 172) (by decide +kernel)) rfl
theorem wt_323 : Cond.methodLink "TwoOnACable$Page" 31 yX7_isBetween ∈ gL := gm_2 (List.mem_of_getElem? (i := 173) (by decide +kernel)) rfl
theorem wt_324 : Cond.instanceMethod yX7_isBetween ∈ gL := gm_2 (List.mem_of_getElem? (i := 175) (by decide +kernel)) rfl
theorem wt_325 : Cond.code yX7_isBetween prog_9_method_10_code 4 (some FieldType.boolean) ∈ gL := gm_2 (List.mem_of_getElem? (i := 176) (by decide +kernel)) rfl
theorem wt_326 : Cond.methodLink "TwoOnACable$Page" 27 yX7_at ∈ gL := gm_2 (List.mem_of_getElem? (i := 177) (by decide +kernel)) rfl
theorem wt_327 : Cond.instanceMethod yX7_at ∈ gL := gm_2 (List.mem_of_getElem? (i := 178) (by decide +kernel)) rfl
theorem wt_328 : Cond.selects "TwoOnACable$Page" yX7_at yX7_at ∈ gL := gm_2 (List.mem_of_getElem? (i := 179) (by decide +kernel)) rfl
theorem wt_329 : Cond.code yX7_at prog_9_method_4_code 2 (some FieldType.int) ∈ gL := gm_2 (List.mem_of_getElem? (i := 180) (by decide +kernel)) rfl
theorem wt_330 : Cond.methodLink "TwoOnACableLaw" 25 yX11_wire ∈ gL := gm_2 (List.mem_of_getElem? (i := 181) (by decide +kernel)) rfl
theorem wt_331 : Cond.instanceMethod yX11_wire ∈ gL := gm_2 (List.mem_of_getElem? (i := 182) (by decide +kernel)) rfl
theorem wt_332 : Cond.selects "TwoOnACable" yX11_wire yX11_wire ∈ gL := gm_2 (List.mem_of_getElem? (i := 183) (by decide +kernel)) rfl
theorem wt_333 : Cond.code yX11_wire prog_1_method_5_code 1 (some FieldType.int) ∈ gL := gm_2 (List.mem_of_getElem? (i := 184) (by decide +kernel)) rfl
theorem wt_334 : Cond.methodLink "TwoOnACable" 84 yX7_isWire ∈ gL := gm_2 (List.mem_of_getElem? (i := 185) (by decide +kernel)) rfl
theorem wt_335 : Cond.instanceMethod yX7_isWire ∈ gL := gm_2 (List.mem_of_getElem? (i := 186) (by decide +kernel)) rfl
theorem wt_336 : Cond.selects "TwoOnACable$Page" yX7_isWire yX7_isWire ∈ gL := gm_2 (List.mem_of_getElem? (i := 187) (by decide +kernel)) rfl
theorem wt_337 : Cond.code yX7_isWire prog_9_method_7_code 1 (some FieldType.boolean) ∈ gL := gm_2 (List.mem_of_getElem? (i := 188) (by decide +kernel)) rfl
theorem wt_338 : Cond.methodLink "TwoOnACable$Page" 23 yX7_firstWrong ∈ gL := gm_2 (List.mem_of_getElem? (i := 189) (by decide +kernel)) rfl
theorem wt_339 : Cond.methodLink "TwoOnACable" 88 yX0_hang ∈ gL := gm_2 (List.mem_of_getElem? (i := 190) (by decide +kernel)) rfl
theorem wt_340 : Cond.instanceMethod yX0_hang ∈ gL := gm_2 (List.mem_of_getElem? (i := 191) (by decide +kernel)) rfl
theorem wt_341 : Cond.selects "TwoOnACable$Cable" yX0_hang yX0_hang ∈ gL := gm_2 (List.mem_of_getElem? (i := 192) (by decide +kernel)) rfl
theorem wt_342 : Cond.code yX0_hang prog_2_method_2_code 2 (none : Option FieldType) ∈ gL := gm_2 (List.mem_of_getElem? (i := 193) (by decide +kernel)) rfl
theorem wt_343 : Cond.methodLink "TwoOnACable$Cable" 9 yX7_digitAt ∈ gL := gm_2 (List.mem_of_getElem? (i := 194) (by decide +kernel)) rfl
theorem wt_344 : Cond.instanceMethod yX7_digitAt ∈ gL := gm_2 (List.mem_of_getElem? (i := 195) (by decide +kernel)) rfl
theorem wt_345 : Cond.selects "TwoOnACable$Page" yX7_digitAt yX7_digitAt ∈ gL := gm_2 (List.mem_of_getElem? (i := 196) (by decide +kernel)) rfl
theorem wt_346 : Cond.code yX7_digitAt prog_9_method_8_code 2 (some FieldType.int) ∈ gL := gm_2 (List.mem_of_getElem? (i := 197) (by decide +kernel)) rfl
theorem wt_347 : Cond.methodLink "TwoOnACable" 77 yX7_emptied ∈ gL := gm_2 (List.mem_of_getElem? (i := 198) (by decide +kernel)) rfl
theorem wt_348 : Cond.instanceMethod yX7_emptied ∈ gL := gm_2 (List.mem_of_getElem? (i := 199) (by decide +kernel)) rfl
theorem wt_349 : Cond.selects "TwoOnACable$Page" yX7_emptied yX7_emptied ∈ gL := gm_2 (List.mem_of_getElem? (i := 200) (by decide +kernel)) rfl
theorem wt_350 : Cond.code yX7_emptied prog_9_method_5_code 2 (some FieldType.int) ∈ gL := gm_2 (List.mem_of_getElem? (i := 201) (by decide +kernel)) rfl
theorem wt_351 : Cond.methodLink "TwoOnACable" 92 yX6_cutTo ∈ gL := gm_2 (List.mem_of_getElem? (i := 202) (by decide +kernel)) rfl
theorem wt_352 : Cond.instanceMethod yX6_cutTo ∈ gL := gm_2 (List.mem_of_getElem? (i := 203) (by decide +kernel)) rfl
theorem wt_353 : Cond.selects "TwoOnACable$Load" yX6_cutTo yX6_cutTo ∈ gL := gm_2 (List.mem_of_getElem? (i := 204) (by decide +kernel)) rfl
theorem wt_354 : Cond.code yX6_cutTo prog_8_method_5_code 3 (none : Option FieldType) ∈ gL := gm_2 (List.mem_of_getElem? (i := 205) (by decide +kernel)) rfl
theorem wt_355 : Cond.methodLink "TwoOnACable$Load" 25 yJ9_min_7cf53 ∈ gL := gm_2 (List.mem_of_getElem? (i := 206) (by decide +kernel)) rfl
theorem wt_356 : Cond.methodLink "TwoOnACable" 96 yX10_emptied ∈ gL := gm_2 (List.mem_of_getElem? (i := 207) (by decide +kernel)) rfl
theorem wt_357 : Cond.instanceMethod yX10_emptied ∈ gL := gm_2 (List.mem_of_getElem? (i := 208) (by decide +kernel)) rfl
theorem wt_358 : Cond.selects "TwoOnACable$Told" yX10_emptied yX10_emptied ∈ gL := gm_2 (List.mem_of_getElem? (i := 209) (by decide +kernel)) rfl
theorem wt_359 : Cond.code yX10_emptied prog_12_method_4_code 2 (some FieldType.int) ∈ gL := gm_2 (List.mem_of_getElem? (i := 210) (by decide +kernel)) rfl
theorem wt_360 : Cond.methodLink "TwoOnACableLaw" 71 yL_thing ∈ gL := gm_2 (List.mem_of_getElem? (i := 211) (by decide +kernel)) rfl
theorem wt_361 : Cond.static yL_thing ∈ gL := gm_2 (List.mem_of_getElem? (i := 212) (by decide +kernel)) rfl
theorem wt_362 : Cond.code yL_thing method_5_code 4 (some FieldType.boolean) ∈ gL := gm_2 (List.mem_of_getElem? (i := 213) (by decide +kernel)) rfl
theorem wt_363 : Cond.methodLink "TwoOnACableLaw" 28 yX11_thing ∈ gL := gm_2 (List.mem_of_getElem? (i := 214) (by decide +kernel)) rfl
theorem wt_364 : Cond.instanceMethod yX11_thing ∈ gL := gm_2 (List.mem_of_getElem? (i := 215) (by decide +kernel)) rfl
theorem wt_365 : Cond.selects "TwoOnACable" yX11_thing yX11_thing ∈ gL := gm_2 (List.mem_of_getElem? (i := 216) (by decide +kernel)) rfl
theorem wt_366 : Cond.code yX11_thing prog_1_method_7_code 4 (some FieldType.int) ∈ gL := gm_2 (List.mem_of_getElem? (i := 217) (by decide +kernel)) rfl
theorem wt_367 : Cond.methodLink "TwoOnACable" 134 yX6_isFull ∈ gL := gm_2 (List.mem_of_getElem? (i := 218) (by decide +kernel)) rfl
theorem wt_368 : Cond.instanceMethod yX6_isFull ∈ gL := gm_2 (List.mem_of_getElem? (i := 219) (by decide +kernel)) rfl
theorem wt_369 : Cond.selects "TwoOnACable$Load" yX6_isFull yX6_isFull ∈ gL := gm_2 (List.mem_of_getElem? (i := 220) (by decide +kernel)) rfl
theorem wt_370 : Cond.code yX6_isFull prog_8_method_2_code 1 (some FieldType.boolean) ∈ gL := gm_2 (List.mem_of_getElem? (i := 221) (by decide +kernel)) rfl
theorem wt_371 : Cond.methodLink "TwoOnACable" 137 yX11_newThing ∈ gL := gm_2 (List.mem_of_getElem? (i := 222) (by decide +kernel)) rfl
theorem wt_372 : Cond.static yX11_newThing ∈ gL := gm_2 (List.mem_of_getElem? (i := 223) (by decide +kernel)) rfl
theorem wt_373 : Cond.code yX11_newThing prog_1_method_39_code 4 (some (FieldType.object "TwoOnACable$Thing")) ∈ gL := gm_2 (List.mem_of_getElem? (i := 224) (by decide +kernel)) rfl
theorem wt_374 : Cond.instantiable "TwoOnACable$Cook" 3 ∈ gL := gm_2 (List.mem_of_getElem? (i := 225) (by decide +kernel)) rfl
theorem wt_375 : Cond.methodLink "TwoOnACable" 327 yX1_init ∈ gL := gm_2 (List.mem_of_getElem? (i := 226) (by decide +kernel)) rfl
theorem wt_376 : Cond.instanceMethod yX1_init ∈ gL := gm_2 (List.mem_of_getElem? (i := 227) (by decide +kernel)) rfl
theorem wt_377 : Cond.code yX1_init prog_3_method_1_code 4 (none : Option FieldType) ∈ gL := gm_2 (List.mem_of_getElem? (i := 228) (by decide +kernel)) rfl
theorem wt_378 : Cond.methodLink "TwoOnACable$Cook" 3 yX9_init ∈ gL := gm_2 (List.mem_of_getElem? (i := 229) (by decide +kernel)) rfl
theorem wt_379 : Cond.instanceMethod yX9_init ∈ gL := gm_2 (List.mem_of_getElem? (i := 230) (by decide +kernel)) rfl
theorem wt_380 : Cond.code yX9_init prog_11_method_1_code 4 (none : Option FieldType) ∈ gL := gm_2 (List.mem_of_getElem? (i := 231) (by decide +kernel)) rfl
theorem wt_381 : Cond.methodLink "TwoOnACable$Thing" 3 objectInit ∈ gL := gm_2 (List.mem_of_getElem? (i := 232) (by decide +kernel)) rfl
theorem wt_382 : Cond.fieldLink "TwoOnACable$Thing" 9 "TwoOnACable$Thing" "weight" "I" ∈ gL := gm_2 (List.mem_of_getElem? (i := 233) (by decide +kernel)) rfl
theorem wt_383 : Cond.fieldLink "TwoOnACable$Cook" 9 "TwoOnACable$Cook" "weight" "I" ∈ gL := gm_2 (List.mem_of_getElem? (i := 234) (by decide +kernel)) rfl
theorem wt_384 : Cond.sameField "TwoOnACable$Cook" "TwoOnACable$Thing" "weight" "I" ∈ gL := gm_2 (List.mem_of_getElem? (i := 235) (by decide +kernel)) rfl
theorem wt_385 : Cond.fieldLink "TwoOnACable$Hens" 9 "TwoOnACable$Hens" "weight" "I" ∈ gL := gm_2 (List.mem_of_getElem? (i := 236) (by decide +kernel)) rfl
theorem wt_386 : Cond.sameField "TwoOnACable$Hens" "TwoOnACable$Thing" "weight" "I" ∈ gL := gm_2 (List.mem_of_getElem? (i := 237) (by decide +kernel)) rfl
theorem wt_387 : Cond.fieldLink "TwoOnACable$Live" 9 "TwoOnACable$Live" "weight" "I" ∈ gL := gm_2 (List.mem_of_getElem? (i := 238) (by decide +kernel)) rfl
theorem wt_388 : Cond.sameField "TwoOnACable$Live" "TwoOnACable$Thing" "weight" "I" ∈ gL := gm_2 (List.mem_of_getElem? (i := 239) (by decide +kernel)) rfl
theorem wt_389 : Cond.fieldLink "TwoOnACable" 153 "TwoOnACable$Thing" "weight" "I" ∈ gL := gm_3 (List.mem_of_getElem? (i := 0) (by decide +kernel)) rfl
theorem wt_390 : Cond.fieldLink "TwoOnACable$Thing" 18 "TwoOnACable$Thing" "came" "I" ∈ gL := gm_3 (List.mem_of_getElem? (i := 1) (by decide +kernel)) rfl
theorem wt_391 : Cond.fieldLink "TwoOnACable$Live" 15 "TwoOnACable$Live" "came" "I" ∈ gL := gm_3 (List.mem_of_getElem? (i := 2) (by decide +kernel)) rfl
theorem wt_392 : Cond.sameField "TwoOnACable$Live" "TwoOnACable$Thing" "came" "I" ∈ gL := gm_3 (List.mem_of_getElem? (i := 3) (by decide +kernel)) rfl
theorem wt_393 : Cond.fieldLink "TwoOnACable$Hens" 15 "TwoOnACable$Hens" "came" "I" ∈ gL := gm_3 (List.mem_of_getElem? (i := 4) (by decide +kernel)) rfl
theorem wt_394 : Cond.sameField "TwoOnACable$Hens" "TwoOnACable$Thing" "came" "I" ∈ gL := gm_3 (List.mem_of_getElem? (i := 5) (by decide +kernel)) rfl
theorem wt_395 : Cond.fieldLink "TwoOnACable$Thing" 15 "TwoOnACable$Thing" "place" "I" ∈ gL := gm_3 (List.mem_of_getElem? (i := 6) (by decide +kernel)) rfl
theorem wt_396 : Cond.fieldLink "TwoOnACable$Load" 38 "TwoOnACable$Thing" "place" "I" ∈ gL := gm_3 (List.mem_of_getElem? (i := 7) (by decide +kernel)) rfl
theorem wt_397 : Cond.fieldLink "TwoOnACable" 156 "TwoOnACable$Thing" "place" "I" ∈ gL := gm_3 (List.mem_of_getElem? (i := 8) (by decide +kernel)) rfl
theorem wt_398 : Cond.instantiable "TwoOnACable$Guest" 3 ∈ gL := gm_3 (List.mem_of_getElem? (i := 16) (by decide +kernel)) rfl
theorem wt_399 : Cond.methodLink "TwoOnACable" 332 yX3_init ∈ gL := gm_3 (List.mem_of_getElem? (i := 17) (by decide +kernel)) rfl
theorem wt_400 : Cond.instanceMethod yX3_init ∈ gL := gm_3 (List.mem_of_getElem? (i := 18) (by decide +kernel)) rfl
theorem wt_401 : Cond.code yX3_init prog_5_method_1_code 4 (none : Option FieldType) ∈ gL := gm_3 (List.mem_of_getElem? (i := 19) (by decide +kernel)) rfl
theorem wt_402 : Cond.methodLink "TwoOnACable$Guest" 3 yX9_init ∈ gL := gm_3 (List.mem_of_getElem? (i := 20) (by decide +kernel)) rfl
theorem wt_403 : Cond.instantiable "TwoOnACable$Live" 3 ∈ gL := gm_3 (List.mem_of_getElem? (i := 25) (by decide +kernel)) rfl
theorem wt_404 : Cond.methodLink "TwoOnACable" 335 yX5_init ∈ gL := gm_3 (List.mem_of_getElem? (i := 26) (by decide +kernel)) rfl
theorem wt_405 : Cond.instanceMethod yX5_init ∈ gL := gm_3 (List.mem_of_getElem? (i := 27) (by decide +kernel)) rfl
theorem wt_406 : Cond.code yX5_init prog_7_method_1_code 4 (none : Option FieldType) ∈ gL := gm_3 (List.mem_of_getElem? (i := 28) (by decide +kernel)) rfl
theorem wt_407 : Cond.methodLink "TwoOnACable$Live" 3 yX9_init ∈ gL := gm_3 (List.mem_of_getElem? (i := 29) (by decide +kernel)) rfl
theorem wt_408 : Cond.instantiable "TwoOnACable$Hens" 3 ∈ gL := gm_3 (List.mem_of_getElem? (i := 34) (by decide +kernel)) rfl
theorem wt_409 : Cond.methodLink "TwoOnACable" 338 yX4_init ∈ gL := gm_3 (List.mem_of_getElem? (i := 35) (by decide +kernel)) rfl
theorem wt_410 : Cond.instanceMethod yX4_init ∈ gL := gm_3 (List.mem_of_getElem? (i := 36) (by decide +kernel)) rfl
theorem wt_411 : Cond.code yX4_init prog_6_method_1_code 4 (none : Option FieldType) ∈ gL := gm_3 (List.mem_of_getElem? (i := 37) (by decide +kernel)) rfl
theorem wt_412 : Cond.methodLink "TwoOnACable$Hens" 3 yX5_init ∈ gL := gm_3 (List.mem_of_getElem? (i := 38) (by decide +kernel)) rfl
theorem wt_413 : Cond.classLink "TwoOnACable" 149 "TwoOnACable$Thing" ∈ gL := gm_3 (List.mem_of_getElem? (i := 43) (by decide +kernel)) rfl
theorem wt_414 : Cond.instantiable "TwoOnACable$Thing" 3 ∈ gL := gm_3 (List.mem_of_getElem? (i := 44) (by decide +kernel)) rfl
theorem wt_415 : Cond.methodLink "TwoOnACable" 339 yX9_init ∈ gL := gm_3 (List.mem_of_getElem? (i := 45) (by decide +kernel)) rfl
theorem wt_416 : Cond.methodLink "TwoOnACable" 141 yX6_put ∈ gL := gm_3 (List.mem_of_getElem? (i := 50) (by decide +kernel)) rfl
theorem wt_417 : Cond.instanceMethod yX6_put ∈ gL := gm_3 (List.mem_of_getElem? (i := 51) (by decide +kernel)) rfl
theorem wt_418 : Cond.selects "TwoOnACable$Load" yX6_put yX6_put ∈ gL := gm_3 (List.mem_of_getElem? (i := 52) (by decide +kernel)) rfl
theorem wt_419 : Cond.code yX6_put prog_8_method_3_code 2 (some FieldType.int) ∈ gL := gm_3 (List.mem_of_getElem? (i := 53) (by decide +kernel)) rfl
theorem wt_420 : Cond.methodLink "TwoOnACableLaw" 40 yL_turns ∈ gL := gm_3 (List.mem_of_getElem? (i := 54) (by decide +kernel)) rfl
theorem wt_421 : Cond.static yL_turns ∈ gL := gm_3 (List.mem_of_getElem? (i := 55) (by decide +kernel)) rfl
theorem wt_422 : Cond.code yL_turns method_8_code 2 (some FieldType.int) ∈ gL := gm_3 (List.mem_of_getElem? (i := 56) (by decide +kernel)) rfl
theorem wt_423 : Cond.methodLink "TwoOnACableLaw" 76 yL_hour ∈ gL := gm_3 (List.mem_of_getElem? (i := 57) (by decide +kernel)) rfl
theorem wt_424 : Cond.static yL_hour ∈ gL := gm_3 (List.mem_of_getElem? (i := 58) (by decide +kernel)) rfl
theorem wt_425 : Cond.code yL_hour method_12_code 2 (some FieldType.int) ∈ gL := gm_3 (List.mem_of_getElem? (i := 59) (by decide +kernel)) rfl
theorem wt_426 : Cond.methodLink "TwoOnACableLaw" 51 yL_strain ∈ gL := gm_3 (List.mem_of_getElem? (i := 60) (by decide +kernel)) rfl
theorem wt_427 : Cond.static yL_strain ∈ gL := gm_3 (List.mem_of_getElem? (i := 61) (by decide +kernel)) rfl
theorem wt_428 : Cond.code yL_strain method_11_code 3 (some FieldType.int) ∈ gL := gm_3 (List.mem_of_getElem? (i := 62) (by decide +kernel)) rfl
theorem wt_429 : Cond.methodLink "TwoOnACableLaw" 48 yL_floor ∈ gL := gm_3 (List.mem_of_getElem? (i := 63) (by decide +kernel)) rfl
theorem wt_430 : Cond.static yL_floor ∈ gL := gm_3 (List.mem_of_getElem? (i := 64) (by decide +kernel)) rfl
theorem wt_431 : Cond.code yL_floor method_10_code 6 (some FieldType.int) ∈ gL := gm_3 (List.mem_of_getElem? (i := 65) (by decide +kernel)) rfl
theorem wt_432 : Cond.methodLink "TwoOnACableLaw" 44 yL_arm ∈ gL := gm_3 (List.mem_of_getElem? (i := 66) (by decide +kernel)) rfl
theorem wt_433 : Cond.static yL_arm ∈ gL := gm_3 (List.mem_of_getElem? (i := 67) (by decide +kernel)) rfl
theorem wt_434 : Cond.code yL_arm method_9_code 8 (some FieldType.int) ∈ gL := gm_3 (List.mem_of_getElem? (i := 68) (by decide +kernel)) rfl
theorem wt_435 : Cond.methodLink "TwoOnACableLaw" 36 yL_cabin ∈ gL := gm_3 (List.mem_of_getElem? (i := 69) (by decide +kernel)) rfl
theorem wt_436 : Cond.static yL_cabin ∈ gL := gm_3 (List.mem_of_getElem? (i := 70) (by decide +kernel)) rfl
theorem wt_437 : Cond.code yL_cabin method_7_code 7 (some FieldType.int) ∈ gL := gm_3 (List.mem_of_getElem? (i := 71) (by decide +kernel)) rfl
theorem wt_438 : Cond.methodLink "TwoOnACableLaw" 32 yL_weighs ∈ gL := gm_3 (List.mem_of_getElem? (i := 72) (by decide +kernel)) rfl
theorem wt_439 : Cond.static yL_weighs ∈ gL := gm_3 (List.mem_of_getElem? (i := 73) (by decide +kernel)) rfl
theorem wt_440 : Cond.code yL_weighs method_6_code 5 (some FieldType.int) ∈ gL := gm_3 (List.mem_of_getElem? (i := 74) (by decide +kernel)) rfl
theorem wt_441 : Cond.methodLink "TwoOnACableLaw" 81 yL_told ∈ gL := gm_3 (List.mem_of_getElem? (i := 75) (by decide +kernel)) rfl
theorem wt_442 : Cond.static yL_told ∈ gL := gm_3 (List.mem_of_getElem? (i := 76) (by decide +kernel)) rfl
theorem wt_443 : Cond.code yL_told method_13_code 5 (some FieldType.boolean) ∈ gL := gm_3 (List.mem_of_getElem? (i := 77) (by decide +kernel)) rfl
theorem wt_444 : Cond.methodLink "TwoOnACableLaw" 54 yX11_count ∈ gL := gm_3 (List.mem_of_getElem? (i := 78) (by decide +kernel)) rfl
theorem wt_445 : Cond.instanceMethod yX11_count ∈ gL := gm_3 (List.mem_of_getElem? (i := 79) (by decide +kernel)) rfl
theorem wt_446 : Cond.selects "TwoOnACable" yX11_count yX11_count ∈ gL := gm_3 (List.mem_of_getElem? (i := 80) (by decide +kernel)) rfl
theorem wt_447 : Cond.code yX11_count prog_1_method_22_code 2 (some FieldType.int) ∈ gL := gm_3 (List.mem_of_getElem? (i := 81) (by decide +kernel)) rfl
theorem wt_448 : Cond.methodLink "TwoOnACable" 232 yX0_strainNow ∈ gL := gm_3 (List.mem_of_getElem? (i := 82) (by decide +kernel)) rfl
theorem wt_449 : Cond.constantLong "TwoOnACableLaw" 91 (1103515245 : Int64) ∈ gL := gm_3 (List.mem_of_getElem? (i := 83) (by decide +kernel)) rfl
theorem wt_450 : Cond.constantLong "TwoOnACableLaw" 93 (12345 : Int64) ∈ gL := gm_3 (List.mem_of_getElem? (i := 84) (by decide +kernel)) rfl
theorem wt_451 : Cond.constantLong "TwoOnACableLaw" 95 (2147483648 : Int64) ∈ gL := gm_3 (List.mem_of_getElem? (i := 85) (by decide +kernel)) rfl
theorem wt_452 : Cond.constantLong "TwoOnACableLaw" 97 (65536 : Int64) ∈ gL := gm_3 (List.mem_of_getElem? (i := 86) (by decide +kernel)) rfl
theorem wt_453 : Cond.constantLong "TwoOnACableLaw" 99 (7 : Int64) ∈ gL := gm_3 (List.mem_of_getElem? (i := 87) (by decide +kernel)) rfl
theorem wt_454 : Cond.constantLong "TwoOnACableLaw" 104 (-103 : Int64) ∈ gL := gm_3 (List.mem_of_getElem? (i := 88) (by decide +kernel)) rfl
theorem wt_455 : Cond.selects RX11 yX11_tryHours yX11_tryHours ∈ gL := gm_0 (by decide +kernel) rfl
theorem wt_456 : Cond.selects RX7 yX7_isWireLetter yX7_isWireLetter ∈ gL := gm_0 (by decide +kernel) rfl
theorem wt_457 : Cond.selects RX7 yX7_isBetween yX7_isBetween ∈ gL := gm_0 (by decide +kernel) rfl
theorem inX0 : ∀ w ∈ u_ws RX0 TX0 7, w ∈ gL := by decide +kernel
theorem inX1 : ∀ w ∈ u_ws RX1 TX1 3, w ∈ gL := by decide +kernel
theorem inX2 : ∀ w ∈ u_ws RX2 TX2 7, w ∈ gL := by decide +kernel
theorem inX3 : ∀ w ∈ u_ws RX3 TX3 3, w ∈ gL := by decide +kernel
theorem inX4 : ∀ w ∈ u_ws RX4 TX4 3, w ∈ gL := by decide +kernel
theorem inX5 : ∀ w ∈ u_ws RX5 TX5 3, w ∈ gL := by decide +kernel
theorem inX6 : ∀ w ∈ u_ws RX6 TX6 4, w ∈ gL := by decide +kernel
theorem inX7 : ∀ w ∈ u_ws RX7 TX7 2, w ∈ gL := by decide +kernel
theorem inX8 : ∀ w ∈ u_ws RX8 TX8 4, w ∈ gL := by decide +kernel
theorem inX9 : ∀ w ∈ u_ws RX9 TX9 3, w ∈ gL := by decide +kernel
theorem inX10 : ∀ w ∈ u_ws RX10 TX10 3, w ∈ gL := by decide +kernel
theorem inX11 : ∀ w ∈ u_ws RX11 TX11 10, w ∈ gL := by decide +kernel
theorem inX12 : ∀ w ∈ u_ws RX12 TX12 0, w ∈ gL := by decide +kernel
theorem inJ9 : ∀ w ∈ u_ws RJ9 TJ9 0, w ∈ gL := by decide +kernel
