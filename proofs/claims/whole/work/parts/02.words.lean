/-! the tables' words that a callee may take over: one list for all methods -/
def gL : List Cond := lw_tbl.filter goodWord
theorem gd_all {ws : List Cond} (h : ∀ w ∈ ws, w ∈ gL) : GoodIn gL ws := fun w hw => ⟨h w hw, good_of_word (List.mem_filter.mp (h w hw)).2⟩
theorem gd_V {own C : String} {idx : Nat} {y : MethodName} {cw : Cond} (h1 : Cond.methodLink own idx y ∈ gL) (h2 : Cond.instanceMethod y ∈ gL) (h3 : Cond.selects C y y ∈ gL) (h4 : Cond.initialized C ∈ gL) (h5 : cw ∈ gL) : GoodIn gL (wsV own idx C y (cw :: gL)) := gd_all fun w hw => by
  simp only [wsV, List.cons_append, List.nil_append, List.mem_cons] at hw
  rcases hw with rfl | rfl | rfl | rfl | rfl | hw <;> assumption
theorem gd_S {own : String} {idx : Nat} {y : MethodName} {cw : Cond} (h1 : Cond.methodLink own idx y ∈ gL) (h2 : Cond.static y ∈ gL) (h4 : Cond.initialized y.cls ∈ gL) (h5 : cw ∈ gL) : GoodIn gL (va_wsS own idx y (cw :: gL)) := gd_all fun w hw => by
  simp only [va_wsS, List.cons_append, List.nil_append, List.mem_cons] at hw
  rcases hw with rfl | rfl | rfl | rfl | hw <;> assumption
theorem gd_U {own C owner : String} {idx : Nat} {x y : MethodName} {cw : Cond} (h1 : Cond.methodLink own idx x ∈ gL) (h2 : Cond.sameMethod x.cls owner x.name x.desc ∈ gL) (h3 : Cond.selects C x y ∈ gL) (h4 : Cond.instanceMethod y ∈ gL) (h6 : Cond.initialized y.cls ∈ gL) (h5 : cw ∈ gL) : GoodIn gL (va_wsU own idx C owner x y (cw :: gL)) := gd_all fun w hw => by
  simp only [va_wsU, List.cons_append, List.nil_append, List.mem_cons] at hw
  rcases hw with rfl | rfl | rfl | rfl | rfl | rfl | hw <;> assumption
theorem gd_O {own C owner : String} {idx : Nat} {x y : MethodName} {cw : Cond} (h1 : Cond.methodLink own idx x ∈ gL) (h2 : Cond.sameMethod x.cls owner x.name x.desc ∈ gL) (h7 : Cond.instanceMethod ⟨owner, x.name, x.desc⟩ ∈ gL) (h3 : Cond.selects C x y ∈ gL) (h4 : Cond.instanceMethod y ∈ gL) (h6 : Cond.initialized y.cls ∈ gL) (h5 : cw ∈ gL) : GoodIn gL (va_wsO own idx C owner x y (cw :: gL)) := gd_all fun w hw => by
  simp only [va_wsO, List.cons_append, List.nil_append, List.mem_cons] at hw
  rcases hw with rfl | rfl | rfl | rfl | rfl | rfl | rfl | hw <;> assumption
theorem gd_N {cw : Cond} (h5 : cw ∈ gL) : GoodIn gL (cw :: gL) := gd_all fun w hw => by
  simp only [List.mem_cons] at hw
  rcases hw with rfl | hw <;> assumption
theorem gm_1 {w : Cond} (h : w ∈ tables_1_1) (g : goodWord w = true) : w ∈ gL := List.mem_filter.mpr ⟨List.mem_append_right _ (List.mem_append_left _ h), g⟩
theorem gm_2 {w : Cond} (h : w ∈ tables_1_2) (g : goodWord w = true) : w ∈ gL := List.mem_filter.mpr ⟨List.mem_append_right _ (List.mem_append_right _ (List.mem_append_left _ h)), g⟩
theorem gm_3 {w : Cond} (h : w ∈ tables_1_3) (g : goodWord w = true) : w ∈ gL := List.mem_filter.mpr ⟨List.mem_append_right _ (List.mem_append_right _ (List.mem_append_right _ (List.mem_append_left _ h))), g⟩
theorem gm_4 {w : Cond} (h : w ∈ tables_1_4) (g : goodWord w = true) : w ∈ gL := List.mem_filter.mpr ⟨List.mem_append_right _ (List.mem_append_right _ (List.mem_append_right _ (List.mem_append_right _ (List.mem_append_left _ h)))), g⟩
theorem gm_5 {w : Cond} (h : w ∈ tables_1_5) (g : goodWord w = true) : w ∈ gL := List.mem_filter.mpr ⟨List.mem_append_right _ (List.mem_append_right _ (List.mem_append_right _ (List.mem_append_right _ (List.mem_append_right _ (h))))), g⟩
theorem gm_0 {w : Cond} (h : w ∈ k2_sels lw_privs) (g : goodWord w = true) : w ∈ gL := List.mem_filter.mpr ⟨List.mem_append_left _ h, g⟩
theorem wt_0 : Cond.initialized "TwoOnACableLaw" ∈ gL := gm_1 (List.mem_of_getElem? (i := 0) (by decide +kernel)) rfl
theorem wt_1 : Cond.initialized "TwoOnACable" ∈ gL := gm_1 (List.mem_of_getElem? (i := 1) (by decide +kernel)) rfl
theorem wt_2 : Cond.initialized "TwoOnACable$Page" ∈ gL := gm_1 (List.mem_of_getElem? (i := 2) (by decide +kernel)) rfl
theorem wt_3 : Cond.initialized "TwoOnACable$Cable" ∈ gL := gm_1 (List.mem_of_getElem? (i := 3) (by decide +kernel)) rfl
theorem wt_4 : Cond.initialized "TwoOnACable$Load" ∈ gL := gm_1 (List.mem_of_getElem? (i := 4) (by decide +kernel)) rfl
theorem wt_5 : Cond.initialized "TwoOnACable$Told" ∈ gL := gm_1 (List.mem_of_getElem? (i := 5) (by decide +kernel)) rfl
theorem wt_6 : Cond.initialized "TwoOnACable$Evening" ∈ gL := gm_1 (List.mem_of_getElem? (i := 6) (by decide +kernel)) rfl
theorem wt_7 : Cond.initialized "TwoOnACable$Search" ∈ gL := gm_1 (List.mem_of_getElem? (i := 7) (by decide +kernel)) rfl
theorem wt_8 : Cond.initialized "TwoOnACableModel" ∈ gL := gm_1 (List.mem_of_getElem? (i := 8) (by decide +kernel)) rfl
theorem wt_9 : Cond.initialized "java/lang/Math" ∈ gL := gm_1 (List.mem_of_getElem? (i := 9) (by decide +kernel)) rfl
theorem wt_10 : Cond.initialized "TwoOnACable$Thing" ∈ gL := gm_1 (List.mem_of_getElem? (i := 10) (by decide +kernel)) rfl
theorem wt_11 : Cond.initialized "TwoOnACable$Cook" ∈ gL := gm_1 (List.mem_of_getElem? (i := 11) (by decide +kernel)) rfl
theorem wt_12 : Cond.initialized "TwoOnACable$Guest" ∈ gL := gm_1 (List.mem_of_getElem? (i := 12) (by decide +kernel)) rfl
theorem wt_13 : Cond.initialized "TwoOnACable$Live" ∈ gL := gm_1 (List.mem_of_getElem? (i := 13) (by decide +kernel)) rfl
theorem wt_14 : Cond.initialized "TwoOnACable$Hens" ∈ gL := gm_1 (List.mem_of_getElem? (i := 14) (by decide +kernel)) rfl
theorem wt_15 : Cond.classLink "TwoOnACableLaw" 7 "TwoOnACable" ∈ gL := gm_1 (List.mem_of_getElem? (i := 15) (by decide +kernel)) rfl
theorem wt_16 : Cond.instantiable "TwoOnACable" 10 ∈ gL := gm_1 (List.mem_of_getElem? (i := 16) (by decide +kernel)) rfl
theorem wt_17 : Cond.methodLink "TwoOnACableLaw" 9 yX11_init ∈ gL := gm_1 (List.mem_of_getElem? (i := 17) (by decide +kernel)) rfl
theorem wt_18 : Cond.instanceMethod yX11_init ∈ gL := gm_1 (List.mem_of_getElem? (i := 18) (by decide +kernel)) rfl
theorem wt_19 : Cond.code yX11_init prog_1_method_1_code 1 (none : Option FieldType) ∈ gL := gm_1 (List.mem_of_getElem? (i := 19) (by decide +kernel)) rfl
theorem wt_20 : Cond.methodLink "TwoOnACable" 1 objectInit ∈ gL := gm_1 (List.mem_of_getElem? (i := 20) (by decide +kernel)) rfl
theorem wt_21 : Cond.instanceMethod objectInit ∈ gL := gm_1 (List.mem_of_getElem? (i := 21) (by decide +kernel)) rfl
theorem wt_22 : Cond.code objectInit object_method_1_code 1 (none : Option FieldType) ∈ gL := gm_1 (List.mem_of_getElem? (i := 22) (by decide +kernel)) rfl
theorem wt_23 : Cond.classLink "TwoOnACable" 7 "TwoOnACable$Page" ∈ gL := gm_1 (List.mem_of_getElem? (i := 23) (by decide +kernel)) rfl
theorem wt_24 : Cond.instantiable "TwoOnACable$Page" 2 ∈ gL := gm_1 (List.mem_of_getElem? (i := 24) (by decide +kernel)) rfl
theorem wt_25 : Cond.instanceMethod yX7_init ∈ gL := gm_1 (List.mem_of_getElem? (i := 26) (by decide +kernel)) rfl
theorem wt_26 : Cond.code yX7_init prog_9_method_1_code 1 (none : Option FieldType) ∈ gL := gm_1 (List.mem_of_getElem? (i := 27) (by decide +kernel)) rfl
theorem wt_27 : Cond.methodLink "TwoOnACable$Page" 3 objectInit ∈ gL := gm_1 (List.mem_of_getElem? (i := 28) (by decide +kernel)) rfl
theorem wt_28 : Cond.fieldLink "TwoOnACable$Page" 9 "TwoOnACable$Page" "row" "[C" ∈ gL := gm_1 (List.mem_of_getElem? (i := 29) (by decide +kernel)) rfl
theorem wt_29 : Cond.fieldLink "TwoOnACable$Page" 15 "TwoOnACable$Page" "size" "I" ∈ gL := gm_1 (List.mem_of_getElem? (i := 30) (by decide +kernel)) rfl
theorem wt_30 : Cond.fieldLink "TwoOnACable" 73 "TwoOnACable$Page" "size" "I" ∈ gL := gm_1 (List.mem_of_getElem? (i := 31) (by decide +kernel)) rfl
theorem wt_31 : Cond.fieldLink "TwoOnACable$Cable" 27 "TwoOnACable$Page" "size" "I" ∈ gL := gm_1 (List.mem_of_getElem? (i := 32) (by decide +kernel)) rfl
theorem wt_32 : Cond.arrayClass FieldType.char ∈ gL := gm_1 (List.mem_of_getElem? (i := 38) (by decide +kernel)) rfl
theorem wt_33 : Cond.classLink "TwoOnACable" 16 "TwoOnACable$Cable" ∈ gL := gm_1 (List.mem_of_getElem? (i := 39) (by decide +kernel)) rfl
theorem wt_34 : Cond.instantiable "TwoOnACable$Cable" 7 ∈ gL := gm_1 (List.mem_of_getElem? (i := 40) (by decide +kernel)) rfl
theorem wt_35 : Cond.instanceMethod yX0_init ∈ gL := gm_1 (List.mem_of_getElem? (i := 42) (by decide +kernel)) rfl
theorem wt_36 : Cond.code yX0_init prog_2_method_1_code 1 (none : Option FieldType) ∈ gL := gm_1 (List.mem_of_getElem? (i := 43) (by decide +kernel)) rfl
theorem wt_37 : Cond.methodLink "TwoOnACable$Cable" 3 objectInit ∈ gL := gm_1 (List.mem_of_getElem? (i := 44) (by decide +kernel)) rfl
theorem wt_38 : Cond.fieldLink "TwoOnACable$Search" 18 "TwoOnACable$Cable" "length" "I" ∈ gL := gm_1 (List.mem_of_getElem? (i := 45) (by decide +kernel)) rfl
theorem wt_39 : Cond.fieldLink "TwoOnACable$Cable" 15 "TwoOnACable$Cable" "length" "I" ∈ gL := gm_1 (List.mem_of_getElem? (i := 46) (by decide +kernel)) rfl
theorem wt_40 : Cond.fieldLink "TwoOnACable$Evening" 77 "TwoOnACable$Cable" "length" "I" ∈ gL := gm_1 (List.mem_of_getElem? (i := 47) (by decide +kernel)) rfl
theorem wt_41 : Cond.fieldLink "TwoOnACable" 178 "TwoOnACable$Cable" "length" "I" ∈ gL := gm_1 (List.mem_of_getElem? (i := 48) (by decide +kernel)) rfl
theorem wt_42 : Cond.fieldLink "TwoOnACable$Cable" 21 "TwoOnACable$Cable" "spin" "I" ∈ gL := gm_1 (List.mem_of_getElem? (i := 49) (by decide +kernel)) rfl
theorem wt_43 : Cond.fieldLink "TwoOnACable" 104 "TwoOnACable$Cable" "spin" "I" ∈ gL := gm_1 (List.mem_of_getElem? (i := 50) (by decide +kernel)) rfl
theorem wt_44 : Cond.fieldLink "TwoOnACable$Cable" 24 "TwoOnACable$Cable" "bears" "I" ∈ gL := gm_1 (List.mem_of_getElem? (i := 51) (by decide +kernel)) rfl
theorem wt_45 : Cond.fieldLink "TwoOnACable$Search" 77 "TwoOnACable$Cable" "bears" "I" ∈ gL := gm_1 (List.mem_of_getElem? (i := 52) (by decide +kernel)) rfl
theorem wt_46 : Cond.fieldLink "TwoOnACable" 260 "TwoOnACable$Cable" "bears" "I" ∈ gL := gm_1 (List.mem_of_getElem? (i := 53) (by decide +kernel)) rfl
theorem wt_47 : Cond.fieldLink "TwoOnACable$Cable" 34 "TwoOnACable$Cable" "place" "I" ∈ gL := gm_1 (List.mem_of_getElem? (i := 54) (by decide +kernel)) rfl
theorem wt_48 : Cond.fieldLink "TwoOnACable" 249 "TwoOnACable$Cable" "place" "I" ∈ gL := gm_1 (List.mem_of_getElem? (i := 55) (by decide +kernel)) rfl
theorem wt_49 : Cond.fieldLink "TwoOnACable$Search" 34 "TwoOnACable$Cable" "hours" "I" ∈ gL := gm_1 (List.mem_of_getElem? (i := 56) (by decide +kernel)) rfl
theorem wt_50 : Cond.fieldLink "TwoOnACable$Cable" 37 "TwoOnACable$Cable" "hours" "I" ∈ gL := gm_1 (List.mem_of_getElem? (i := 57) (by decide +kernel)) rfl
theorem wt_51 : Cond.fieldLink "TwoOnACable$Evening" 46 "TwoOnACable$Cable" "hours" "I" ∈ gL := gm_1 (List.mem_of_getElem? (i := 58) (by decide +kernel)) rfl
theorem wt_52 : Cond.fieldLink "TwoOnACable" 113 "TwoOnACable$Cable" "hours" "I" ∈ gL := gm_1 (List.mem_of_getElem? (i := 59) (by decide +kernel)) rfl
theorem wt_53 : Cond.fieldLink "TwoOnACable$Cable" 30 "TwoOnACable$Cable" "old" "Z" ∈ gL := gm_1 (List.mem_of_getElem? (i := 60) (by decide +kernel)) rfl
theorem wt_54 : Cond.fieldLink "TwoOnACable" 263 "TwoOnACable$Cable" "old" "Z" ∈ gL := gm_1 (List.mem_of_getElem? (i := 61) (by decide +kernel)) rfl
theorem wt_55 : Cond.fieldLink "TwoOnACable$Cable" 40 "TwoOnACable$Cable" "broken" "Z" ∈ gL := gm_1 (List.mem_of_getElem? (i := 62) (by decide +kernel)) rfl
theorem wt_56 : Cond.fieldLink "TwoOnACable" 188 "TwoOnACable$Cable" "broken" "Z" ∈ gL := gm_1 (List.mem_of_getElem? (i := 63) (by decide +kernel)) rfl
theorem wt_57 : Cond.classLink "TwoOnACable" 23 "TwoOnACable$Load" ∈ gL := gm_1 (List.mem_of_getElem? (i := 79) (by decide +kernel)) rfl
theorem wt_58 : Cond.instantiable "TwoOnACable$Load" 4 ∈ gL := gm_1 (List.mem_of_getElem? (i := 80) (by decide +kernel)) rfl
theorem wt_59 : Cond.instanceMethod yX6_init ∈ gL := gm_1 (List.mem_of_getElem? (i := 82) (by decide +kernel)) rfl
theorem wt_60 : Cond.code yX6_init prog_8_method_1_code 1 (none : Option FieldType) ∈ gL := gm_1 (List.mem_of_getElem? (i := 83) (by decide +kernel)) rfl
theorem wt_61 : Cond.methodLink "TwoOnACable$Load" 3 objectInit ∈ gL := gm_1 (List.mem_of_getElem? (i := 84) (by decide +kernel)) rfl
theorem wt_62 : Cond.classLink "TwoOnACable$Load" 9 "TwoOnACable$Thing" ∈ gL := gm_1 (List.mem_of_getElem? (i := 85) (by decide +kernel)) rfl
theorem wt_63 : Cond.fieldLink "TwoOnACable$Load" 11 "TwoOnACable$Load" "things" "[LTwoOnACable$Thing;" ∈ gL := gm_1 (List.mem_of_getElem? (i := 87) (by decide +kernel)) rfl
theorem wt_64 : Cond.fieldLink "TwoOnACable$Load" 17 "TwoOnACable$Load" "keptPlaces" "[I" ∈ gL := gm_1 (List.mem_of_getElem? (i := 88) (by decide +kernel)) rfl
theorem wt_65 : Cond.fieldLink "TwoOnACable$Load" 21 "TwoOnACable$Load" "size" "I" ∈ gL := gm_1 (List.mem_of_getElem? (i := 89) (by decide +kernel)) rfl
theorem wt_66 : Cond.fieldLink "TwoOnACable" 266 "TwoOnACable$Load" "size" "I" ∈ gL := gm_1 (List.mem_of_getElem? (i := 90) (by decide +kernel)) rfl
theorem wt_67 : Cond.fieldLink "TwoOnACable$Load" 31 "TwoOnACable$Load" "keptSize" "I" ∈ gL := gm_1 (List.mem_of_getElem? (i := 91) (by decide +kernel)) rfl
theorem wt_68 : Cond.arrayClass FieldType.int ∈ gL := gm_1 (List.mem_of_getElem? (i := 101) (by decide +kernel)) rfl
theorem wt_69 : Cond.classLink "TwoOnACable" 30 "TwoOnACable$Told" ∈ gL := gm_1 (List.mem_of_getElem? (i := 102) (by decide +kernel)) rfl
theorem wt_70 : Cond.instantiable "TwoOnACable$Told" 3 ∈ gL := gm_1 (List.mem_of_getElem? (i := 103) (by decide +kernel)) rfl
theorem wt_71 : Cond.instanceMethod yX10_init ∈ gL := gm_1 (List.mem_of_getElem? (i := 105) (by decide +kernel)) rfl
theorem wt_72 : Cond.code yX10_init prog_12_method_1_code 1 (none : Option FieldType) ∈ gL := gm_1 (List.mem_of_getElem? (i := 106) (by decide +kernel)) rfl
theorem wt_73 : Cond.methodLink "TwoOnACable$Told" 3 objectInit ∈ gL := gm_1 (List.mem_of_getElem? (i := 107) (by decide +kernel)) rfl
theorem wt_74 : Cond.fieldLink "TwoOnACable$Told" 9 "TwoOnACable$Told" "lengths" "[I" ∈ gL := gm_1 (List.mem_of_getElem? (i := 108) (by decide +kernel)) rfl
theorem wt_75 : Cond.fieldLink "TwoOnACable$Told" 15 "TwoOnACable$Told" "turns" "[I" ∈ gL := gm_1 (List.mem_of_getElem? (i := 109) (by decide +kernel)) rfl
theorem wt_76 : Cond.fieldLink "TwoOnACable$Told" 18 "TwoOnACable$Told" "size" "I" ∈ gL := gm_1 (List.mem_of_getElem? (i := 110) (by decide +kernel)) rfl
theorem wt_77 : Cond.fieldLink "TwoOnACable" 267 "TwoOnACable$Told" "size" "I" ∈ gL := gm_1 (List.mem_of_getElem? (i := 111) (by decide +kernel)) rfl
theorem wt_78 : Cond.classLink "TwoOnACable" 37 "TwoOnACable$Evening" ∈ gL := gm_1 (List.mem_of_getElem? (i := 119) (by decide +kernel)) rfl
theorem wt_79 : Cond.instantiable "TwoOnACable$Evening" 7 ∈ gL := gm_1 (List.mem_of_getElem? (i := 120) (by decide +kernel)) rfl
theorem wt_80 : Cond.instanceMethod yX2_init ∈ gL := gm_1 (List.mem_of_getElem? (i := 122) (by decide +kernel)) rfl
theorem wt_81 : Cond.code yX2_init prog_4_method_1_code 1 (none : Option FieldType) ∈ gL := gm_1 (List.mem_of_getElem? (i := 123) (by decide +kernel)) rfl
theorem wt_82 : Cond.methodLink "TwoOnACable$Evening" 3 objectInit ∈ gL := gm_1 (List.mem_of_getElem? (i := 124) (by decide +kernel)) rfl
theorem wt_83 : Cond.fieldLink "TwoOnACable$Evening" 9 "TwoOnACable$Evening" "weighs" "[I" ∈ gL := gm_1 (List.mem_of_getElem? (i := 125) (by decide +kernel)) rfl
theorem wt_84 : Cond.fieldLink "TwoOnACable$Evening" 15 "TwoOnACable$Evening" "gains" "[I" ∈ gL := gm_1 (List.mem_of_getElem? (i := 126) (by decide +kernel)) rfl
theorem wt_85 : Cond.fieldLink "TwoOnACable$Evening" 34 "TwoOnACable$Evening" "apart" "I" ∈ gL := gm_1 (List.mem_of_getElem? (i := 127) (by decide +kernel)) rfl
theorem wt_86 : Cond.fieldLink "TwoOnACable" 195 "TwoOnACable$Evening" "apart" "I" ∈ gL := gm_1 (List.mem_of_getElem? (i := 128) (by decide +kernel)) rfl
theorem wt_87 : Cond.fieldLink "TwoOnACable$Evening" 37 "TwoOnACable$Evening" "bits" "I" ∈ gL := gm_1 (List.mem_of_getElem? (i := 129) (by decide +kernel)) rfl
theorem wt_88 : Cond.fieldLink "TwoOnACable" 198 "TwoOnACable$Evening" "bits" "I" ∈ gL := gm_1 (List.mem_of_getElem? (i := 130) (by decide +kernel)) rfl
theorem wt_89 : Cond.fieldLink "TwoOnACable$Evening" 22 "TwoOnACable$Evening" "staying" "I" ∈ gL := gm_1 (List.mem_of_getElem? (i := 131) (by decide +kernel)) rfl
theorem wt_90 : Cond.fieldLink "TwoOnACable$Evening" 55 "TwoOnACable$Evening" "first" "I" ∈ gL := gm_1 (List.mem_of_getElem? (i := 132) (by decide +kernel)) rfl
theorem wt_91 : Cond.fieldLink "TwoOnACable$Evening" 58 "TwoOnACable$Evening" "both" "I" ∈ gL := gm_1 (List.mem_of_getElem? (i := 133) (by decide +kernel)) rfl
theorem wt_92 : Cond.classLink "TwoOnACable" 44 "TwoOnACable$Search" ∈ gL := gm_1 (List.mem_of_getElem? (i := 149) (by decide +kernel)) rfl
theorem wt_93 : Cond.instantiable "TwoOnACable$Search" 4 ∈ gL := gm_1 (List.mem_of_getElem? (i := 150) (by decide +kernel)) rfl
theorem wt_94 : Cond.instanceMethod yX8_init ∈ gL := gm_1 (List.mem_of_getElem? (i := 152) (by decide +kernel)) rfl
theorem wt_95 : Cond.code yX8_init prog_10_method_1_code 1 (none : Option FieldType) ∈ gL := gm_1 (List.mem_of_getElem? (i := 153) (by decide +kernel)) rfl
theorem wt_96 : Cond.methodLink "TwoOnACable$Search" 3 objectInit ∈ gL := gm_1 (List.mem_of_getElem? (i := 154) (by decide +kernel)) rfl
theorem wt_97 : Cond.fieldLink "TwoOnACable$Search" 9 "TwoOnACable$Search" "now" "[I" ∈ gL := gm_1 (List.mem_of_getElem? (i := 155) (by decide +kernel)) rfl
theorem wt_98 : Cond.fieldLink "TwoOnACable$Search" 15 "TwoOnACable$Search" "next" "[I" ∈ gL := gm_1 (List.mem_of_getElem? (i := 156) (by decide +kernel)) rfl
theorem wt_99 : Cond.fieldLink "TwoOnACable$Search" 28 "TwoOnACable$Search" "hours" "I" ∈ gL := gm_1 (List.mem_of_getElem? (i := 157) (by decide +kernel)) rfl
theorem wt_100 : Cond.fieldLink "TwoOnACable" 204 "TwoOnACable$Search" "hours" "I" ∈ gL := gm_1 (List.mem_of_getElem? (i := 158) (by decide +kernel)) rfl
theorem wt_101 : Cond.fieldLink "TwoOnACable$Search" 31 "TwoOnACable$Search" "first" "I" ∈ gL := gm_1 (List.mem_of_getElem? (i := 159) (by decide +kernel)) rfl
theorem wt_102 : Cond.fieldLink "TwoOnACable" 205 "TwoOnACable$Search" "first" "I" ∈ gL := gm_1 (List.mem_of_getElem? (i := 160) (by decide +kernel)) rfl
theorem wt_103 : Cond.fieldLink "TwoOnACable" 10 "TwoOnACable" "page" "LTwoOnACable$Page;" ∈ gL := gm_1 (List.mem_of_getElem? (i := 170) (by decide +kernel)) rfl
theorem wt_104 : Cond.fieldLink "TwoOnACable" 19 "TwoOnACable" "cable" "LTwoOnACable$Cable;" ∈ gL := gm_1 (List.mem_of_getElem? (i := 171) (by decide +kernel)) rfl
theorem wt_105 : Cond.fieldLink "TwoOnACable" 26 "TwoOnACable" "load" "LTwoOnACable$Load;" ∈ gL := gm_1 (List.mem_of_getElem? (i := 172) (by decide +kernel)) rfl
theorem wt_106 : Cond.fieldLink "TwoOnACable" 33 "TwoOnACable" "told" "LTwoOnACable$Told;" ∈ gL := gm_1 (List.mem_of_getElem? (i := 173) (by decide +kernel)) rfl
theorem wt_107 : Cond.fieldLink "TwoOnACable" 40 "TwoOnACable" "evening" "LTwoOnACable$Evening;" ∈ gL := gm_1 (List.mem_of_getElem? (i := 174) (by decide +kernel)) rfl
theorem wt_108 : Cond.fieldLink "TwoOnACable" 47 "TwoOnACable" "search" "LTwoOnACable$Search;" ∈ gL := gm_1 (List.mem_of_getElem? (i := 175) (by decide +kernel)) rfl
theorem wt_109 : Cond.fieldLink "TwoOnACable" 51 "TwoOnACable" "trial" "LTwoOnACable$Cable;" ∈ gL := gm_1 (List.mem_of_getElem? (i := 176) (by decide +kernel)) rfl
theorem wt_110 : Cond.fieldLink "TwoOnACable" 54 "TwoOnACable" "keptCable" "LTwoOnACable$Cable;" ∈ gL := gm_1 (List.mem_of_getElem? (i := 177) (by decide +kernel)) rfl
theorem wt_111 : Cond.fieldLink "TwoOnACable" 97 "TwoOnACable" "isKept" "Z" ∈ gL := gm_1 (List.mem_of_getElem? (i := 178) (by decide +kernel)) rfl
theorem wt_112 : Cond.fieldLink "TwoOnACable" 101 "TwoOnACable" "reads" "I" ∈ gL := gm_1 (List.mem_of_getElem? (i := 179) (by decide +kernel)) rfl
theorem wt_113 : Cond.methodLink "TwoOnACableLaw" 15 yX11_letters ∈ gL := gm_1 (List.mem_of_getElem? (i := 201) (by decide +kernel)) rfl
theorem wt_114 : Cond.instanceMethod yX11_letters ∈ gL := gm_1 (List.mem_of_getElem? (i := 202) (by decide +kernel)) rfl
theorem wt_115 : Cond.selects "TwoOnACable" yX11_letters yX11_letters ∈ gL := gm_1 (List.mem_of_getElem? (i := 203) (by decide +kernel)) rfl
theorem wt_116 : Cond.code yX11_letters prog_1_method_2_code 5 (some FieldType.int) ∈ gL := gm_1 (List.mem_of_getElem? (i := 204) (by decide +kernel)) rfl
theorem wt_117 : Cond.methodLink "TwoOnACable" 57 yX11_lettersIn ∈ gL := gm_1 (List.mem_of_getElem? (i := 205) (by decide +kernel)) rfl
theorem wt_118 : Cond.static yX11_lettersIn ∈ gL := gm_1 (List.mem_of_getElem? (i := 206) (by decide +kernel)) rfl
theorem wt_119 : Cond.code yX11_lettersIn prog_1_method_31_code 6 (some FieldType.int) ∈ gL := gm_1 (List.mem_of_getElem? (i := 207) (by decide +kernel)) rfl
theorem wt_120 : Cond.methodLink "TwoOnACable" 65 yX11_byteOf ∈ gL := gm_1 (List.mem_of_getElem? (i := 208) (by decide +kernel)) rfl
theorem wt_121 : Cond.static yX11_byteOf ∈ gL := gm_1 (List.mem_of_getElem? (i := 209) (by decide +kernel)) rfl
theorem wt_122 : Cond.code yX11_byteOf prog_1_method_30_code 3 (some FieldType.int) ∈ gL := gm_1 (List.mem_of_getElem? (i := 210) (by decide +kernel)) rfl
theorem wt_123 : Cond.methodLink "TwoOnACable" 61 yX7_hasRoomFor ∈ gL := gm_1 (List.mem_of_getElem? (i := 211) (by decide +kernel)) rfl
theorem wt_124 : Cond.instanceMethod yX7_hasRoomFor ∈ gL := gm_1 (List.mem_of_getElem? (i := 212) (by decide +kernel)) rfl
theorem wt_125 : Cond.selects "TwoOnACable$Page" yX7_hasRoomFor yX7_hasRoomFor ∈ gL := gm_1 (List.mem_of_getElem? (i := 213) (by decide +kernel)) rfl
theorem wt_126 : Cond.code yX7_hasRoomFor prog_9_method_2_code 2 (some FieldType.boolean) ∈ gL := gm_1 (List.mem_of_getElem? (i := 214) (by decide +kernel)) rfl
theorem wt_127 : Cond.methodLink "TwoOnACable" 69 yX7_put ∈ gL := gm_1 (List.mem_of_getElem? (i := 215) (by decide +kernel)) rfl
theorem wt_128 : Cond.instanceMethod yX7_put ∈ gL := gm_1 (List.mem_of_getElem? (i := 216) (by decide +kernel)) rfl
theorem wt_129 : Cond.selects "TwoOnACable$Page" yX7_put yX7_put ∈ gL := gm_1 (List.mem_of_getElem? (i := 217) (by decide +kernel)) rfl
theorem wt_130 : Cond.code yX7_put prog_9_method_3_code 2 (none : Option FieldType) ∈ gL := gm_1 (List.mem_of_getElem? (i := 218) (by decide +kernel)) rfl
theorem wt_131 : Cond.methodLink "TwoOnACableLaw" 20 yX11_blank ∈ gL := gm_1 (List.mem_of_getElem? (i := 219) (by decide +kernel)) rfl
theorem wt_132 : Cond.instanceMethod yX11_blank ∈ gL := gm_1 (List.mem_of_getElem? (i := 220) (by decide +kernel)) rfl
theorem wt_133 : Cond.selects "TwoOnACable" yX11_blank yX11_blank ∈ gL := gm_1 (List.mem_of_getElem? (i := 221) (by decide +kernel)) rfl
theorem wt_134 : Cond.code yX11_blank prog_1_method_3_code 1 (some FieldType.int) ∈ gL := gm_1 (List.mem_of_getElem? (i := 222) (by decide +kernel)) rfl
theorem wt_135 : Cond.methodLink "TwoOnACable" 77 yX7_emptied ∈ gL := gm_1 (List.mem_of_getElem? (i := 223) (by decide +kernel)) rfl
theorem wt_136 : Cond.instanceMethod yX7_emptied ∈ gL := gm_1 (List.mem_of_getElem? (i := 224) (by decide +kernel)) rfl
theorem wt_137 : Cond.selects "TwoOnACable$Page" yX7_emptied yX7_emptied ∈ gL := gm_1 (List.mem_of_getElem? (i := 225) (by decide +kernel)) rfl
theorem wt_138 : Cond.code yX7_emptied prog_9_method_5_code 2 (some FieldType.int) ∈ gL := gm_1 (List.mem_of_getElem? (i := 226) (by decide +kernel)) rfl
theorem wt_139 : Cond.methodLink "TwoOnACableLaw" 25 yX11_fault ∈ gL := gm_1 (List.mem_of_getElem? (i := 227) (by decide +kernel)) rfl
theorem wt_140 : Cond.instanceMethod yX11_fault ∈ gL := gm_1 (List.mem_of_getElem? (i := 228) (by decide +kernel)) rfl
theorem wt_141 : Cond.selects "TwoOnACable" yX11_fault yX11_fault ∈ gL := gm_1 (List.mem_of_getElem? (i := 229) (by decide +kernel)) rfl
theorem wt_142 : Cond.code yX11_fault prog_1_method_4_code 1 (some FieldType.int) ∈ gL := gm_1 (List.mem_of_getElem? (i := 230) (by decide +kernel)) rfl
theorem wt_143 : Cond.methodLink "TwoOnACable" 81 yX7_firstWrong ∈ gL := gm_1 (List.mem_of_getElem? (i := 231) (by decide +kernel)) rfl
theorem wt_144 : Cond.instanceMethod yX7_firstWrong ∈ gL := gm_1 (List.mem_of_getElem? (i := 232) (by decide +kernel)) rfl
theorem wt_145 : Cond.selects "TwoOnACable$Page" yX7_firstWrong yX7_firstWrong ∈ gL := gm_1 (List.mem_of_getElem? (i := 233) (by decide +kernel)) rfl
theorem wt_146 : Cond.code yX7_firstWrong prog_9_method_6_code 2 (some FieldType.int) ∈ gL := gm_1 (List.mem_of_getElem? (i := 234) (by decide +kernel)) rfl
theorem wt_147 : Cond.methodLink "TwoOnACable$Page" 19 yX7_isWireLetter ∈ gL := gm_1 (List.mem_of_getElem? (i := 235) (by decide +kernel)) rfl
theorem wt_148 : Cond.instanceMethod yX7_isWireLetter ∈ gL := gm_1 (List.mem_of_getElem? (i := 237) (by decide +kernel)) rfl
theorem wt_149 : Cond.code yX7_isWireLetter prog_9_method_9_code 2 (some FieldType.boolean) ∈ gL := gm_1 (List.mem_of_getElem? (i := 238) (by decide +kernel)) rfl
theorem wt_150 : Cond.methodLink "TwoOnACable$Page" 31 yX7_isBetween ∈ gL := gm_1 (List.mem_of_getElem? (i := 239) (by decide +kernel)) rfl
theorem wt_151 : Cond.instanceMethod yX7_isBetween ∈ gL := gm_2 (List.mem_of_getElem? (i := 1) (by decide +kernel)) rfl
theorem wt_152 : Cond.code yX7_isBetween prog_9_method_10_code 4 (some FieldType.boolean) ∈ gL := gm_2 (List.mem_of_getElem? (i := 2) (by decide +kernel)) rfl
theorem wt_153 : Cond.methodLink "TwoOnACable$Page" 27 yX7_at ∈ gL := gm_2 (List.mem_of_getElem? (i := 3) (by decide +kernel)) rfl
theorem wt_154 : Cond.instanceMethod yX7_at ∈ gL := gm_2 (List.mem_of_getElem? (i := 4) (by decide +kernel)) rfl
theorem wt_155 : Cond.selects "TwoOnACable$Page" yX7_at yX7_at ∈ gL := gm_2 (List.mem_of_getElem? (i := 5) (by decide +kernel)) rfl
theorem wt_156 : Cond.code yX7_at prog_9_method_4_code 2 (some FieldType.int) ∈ gL := gm_2 (List.mem_of_getElem? (i := 6) (by decide +kernel)) rfl
theorem wt_157 : Cond.methodLink "TwoOnACableLaw" 29 yX11_wire ∈ gL := gm_2 (List.mem_of_getElem? (i := 7) (by decide +kernel)) rfl
theorem wt_158 : Cond.instanceMethod yX11_wire ∈ gL := gm_2 (List.mem_of_getElem? (i := 8) (by decide +kernel)) rfl
theorem wt_159 : Cond.selects "TwoOnACable" yX11_wire yX11_wire ∈ gL := gm_2 (List.mem_of_getElem? (i := 9) (by decide +kernel)) rfl
theorem wt_160 : Cond.code yX11_wire prog_1_method_5_code 1 (some FieldType.int) ∈ gL := gm_2 (List.mem_of_getElem? (i := 10) (by decide +kernel)) rfl
theorem wt_161 : Cond.methodLink "TwoOnACable" 84 yX7_isWire ∈ gL := gm_2 (List.mem_of_getElem? (i := 11) (by decide +kernel)) rfl
theorem wt_162 : Cond.instanceMethod yX7_isWire ∈ gL := gm_2 (List.mem_of_getElem? (i := 12) (by decide +kernel)) rfl
theorem wt_163 : Cond.selects "TwoOnACable$Page" yX7_isWire yX7_isWire ∈ gL := gm_2 (List.mem_of_getElem? (i := 13) (by decide +kernel)) rfl
theorem wt_164 : Cond.code yX7_isWire prog_9_method_7_code 1 (some FieldType.boolean) ∈ gL := gm_2 (List.mem_of_getElem? (i := 14) (by decide +kernel)) rfl
theorem wt_165 : Cond.methodLink "TwoOnACable$Page" 23 yX7_firstWrong ∈ gL := gm_2 (List.mem_of_getElem? (i := 15) (by decide +kernel)) rfl
theorem wt_166 : Cond.methodLink "TwoOnACable" 88 yX0_hang ∈ gL := gm_2 (List.mem_of_getElem? (i := 16) (by decide +kernel)) rfl
theorem wt_167 : Cond.instanceMethod yX0_hang ∈ gL := gm_2 (List.mem_of_getElem? (i := 17) (by decide +kernel)) rfl
theorem wt_168 : Cond.selects "TwoOnACable$Cable" yX0_hang yX0_hang ∈ gL := gm_2 (List.mem_of_getElem? (i := 18) (by decide +kernel)) rfl
theorem wt_169 : Cond.code yX0_hang prog_2_method_2_code 2 (none : Option FieldType) ∈ gL := gm_2 (List.mem_of_getElem? (i := 19) (by decide +kernel)) rfl
theorem wt_170 : Cond.methodLink "TwoOnACable$Cable" 9 yX7_digitAt ∈ gL := gm_2 (List.mem_of_getElem? (i := 20) (by decide +kernel)) rfl
theorem wt_171 : Cond.instanceMethod yX7_digitAt ∈ gL := gm_2 (List.mem_of_getElem? (i := 21) (by decide +kernel)) rfl
theorem wt_172 : Cond.selects "TwoOnACable$Page" yX7_digitAt yX7_digitAt ∈ gL := gm_2 (List.mem_of_getElem? (i := 22) (by decide +kernel)) rfl
theorem wt_173 : Cond.code yX7_digitAt prog_9_method_8_code 2 (some FieldType.int) ∈ gL := gm_2 (List.mem_of_getElem? (i := 23) (by decide +kernel)) rfl
theorem wt_174 : Cond.methodLink "TwoOnACable" 92 yX6_cutTo ∈ gL := gm_2 (List.mem_of_getElem? (i := 24) (by decide +kernel)) rfl
theorem wt_175 : Cond.instanceMethod yX6_cutTo ∈ gL := gm_2 (List.mem_of_getElem? (i := 25) (by decide +kernel)) rfl
theorem wt_176 : Cond.selects "TwoOnACable$Load" yX6_cutTo yX6_cutTo ∈ gL := gm_2 (List.mem_of_getElem? (i := 26) (by decide +kernel)) rfl
theorem wt_177 : Cond.code yX6_cutTo prog_8_method_5_code 3 (none : Option FieldType) ∈ gL := gm_2 (List.mem_of_getElem? (i := 27) (by decide +kernel)) rfl
theorem wt_178 : Cond.methodLink "TwoOnACable$Load" 25 yJ9_min_7cf53 ∈ gL := gm_2 (List.mem_of_getElem? (i := 28) (by decide +kernel)) rfl
theorem wt_179 : Cond.static yJ9_min_7cf53 ∈ gL := gm_2 (List.mem_of_getElem? (i := 29) (by decide +kernel)) rfl
theorem wt_180 : Cond.code yJ9_min_7cf53 prog_15_method_69_code 2 (some FieldType.int) ∈ gL := gm_2 (List.mem_of_getElem? (i := 30) (by decide +kernel)) rfl
theorem wt_181 : Cond.methodLink "TwoOnACable" 96 yX10_emptied ∈ gL := gm_2 (List.mem_of_getElem? (i := 31) (by decide +kernel)) rfl
theorem wt_182 : Cond.instanceMethod yX10_emptied ∈ gL := gm_2 (List.mem_of_getElem? (i := 32) (by decide +kernel)) rfl
theorem wt_183 : Cond.selects "TwoOnACable$Told" yX10_emptied yX10_emptied ∈ gL := gm_2 (List.mem_of_getElem? (i := 33) (by decide +kernel)) rfl
theorem wt_184 : Cond.code yX10_emptied prog_12_method_4_code 2 (some FieldType.int) ∈ gL := gm_2 (List.mem_of_getElem? (i := 34) (by decide +kernel)) rfl
theorem wt_185 : Cond.methodLink "TwoOnACableLaw" 33 yX11_cabin ∈ gL := gm_2 (List.mem_of_getElem? (i := 35) (by decide +kernel)) rfl
theorem wt_186 : Cond.instanceMethod yX11_cabin ∈ gL := gm_2 (List.mem_of_getElem? (i := 36) (by decide +kernel)) rfl
theorem wt_187 : Cond.selects "TwoOnACable" yX11_cabin yX11_cabin ∈ gL := gm_2 (List.mem_of_getElem? (i := 37) (by decide +kernel)) rfl
theorem wt_188 : Cond.code yX11_cabin prog_1_method_6_code 3 (some FieldType.int) ∈ gL := gm_2 (List.mem_of_getElem? (i := 38) (by decide +kernel)) rfl
theorem wt_189 : Cond.methodLink "TwoOnACable" 107 yX11_isCabin ∈ gL := gm_2 (List.mem_of_getElem? (i := 39) (by decide +kernel)) rfl
theorem wt_190 : Cond.static yX11_isCabin ∈ gL := gm_2 (List.mem_of_getElem? (i := 40) (by decide +kernel)) rfl
theorem wt_191 : Cond.code yX11_isCabin prog_1_method_32_code 1 (some FieldType.boolean) ∈ gL := gm_2 (List.mem_of_getElem? (i := 41) (by decide +kernel)) rfl
theorem wt_192 : Cond.methodLink "TwoOnACable" 110 yX0_isThere ∈ gL := gm_2 (List.mem_of_getElem? (i := 42) (by decide +kernel)) rfl
theorem wt_193 : Cond.instanceMethod yX0_isThere ∈ gL := gm_2 (List.mem_of_getElem? (i := 43) (by decide +kernel)) rfl
theorem wt_194 : Cond.selects "TwoOnACable$Cable" yX0_isThere yX0_isThere ∈ gL := gm_2 (List.mem_of_getElem? (i := 44) (by decide +kernel)) rfl
theorem wt_195 : Cond.code yX0_isThere prog_2_method_4_code 1 (some FieldType.boolean) ∈ gL := gm_2 (List.mem_of_getElem? (i := 45) (by decide +kernel)) rfl
theorem wt_196 : Cond.methodLink "TwoOnACable" 116 yX6_weighsIn ∈ gL := gm_2 (List.mem_of_getElem? (i := 46) (by decide +kernel)) rfl
theorem wt_197 : Cond.instanceMethod yX6_weighsIn ∈ gL := gm_2 (List.mem_of_getElem? (i := 47) (by decide +kernel)) rfl
theorem wt_198 : Cond.selects "TwoOnACable$Load" yX6_weighsIn yX6_weighsIn ∈ gL := gm_2 (List.mem_of_getElem? (i := 48) (by decide +kernel)) rfl
theorem wt_199 : Cond.code yX6_weighsIn prog_8_method_8_code 6 (some FieldType.int) ∈ gL := gm_2 (List.mem_of_getElem? (i := 49) (by decide +kernel)) rfl
theorem wt_200 : Cond.methodLink "TwoOnACable$Load" 34 yX6_at ∈ gL := gm_2 (List.mem_of_getElem? (i := 50) (by decide +kernel)) rfl
theorem wt_201 : Cond.instanceMethod yX6_at ∈ gL := gm_2 (List.mem_of_getElem? (i := 51) (by decide +kernel)) rfl
theorem wt_202 : Cond.selects "TwoOnACable$Load" yX6_at yX6_at ∈ gL := gm_2 (List.mem_of_getElem? (i := 52) (by decide +kernel)) rfl
theorem wt_203 : Cond.code yX6_at prog_8_method_4_code 2 (some (FieldType.object "TwoOnACable$Thing")) ∈ gL := gm_2 (List.mem_of_getElem? (i := 53) (by decide +kernel)) rfl
theorem wt_204 : Cond.methodLink "TwoOnACable$Load" 45 yX9_weighs ∈ gL := gm_2 (List.mem_of_getElem? (i := 54) (by decide +kernel)) rfl
theorem wt_205 : Cond.instanceMethod yX9_weighs ∈ gL := gm_2 (List.mem_of_getElem? (i := 55) (by decide +kernel)) rfl
theorem wt_206 : Cond.selects "TwoOnACable$Thing" yX9_weighs yX9_weighs ∈ gL := gm_2 (List.mem_of_getElem? (i := 56) (by decide +kernel)) rfl
theorem wt_207 : Cond.sameMethod "TwoOnACable$Thing" "TwoOnACable$Thing" "weighs" "(I)I" ∈ gL := gm_2 (List.mem_of_getElem? (i := 57) (by decide +kernel)) rfl
theorem wt_208 : Cond.selects "TwoOnACable$Cook" yX9_weighs yX1_weighs ∈ gL := gm_2 (List.mem_of_getElem? (i := 58) (by decide +kernel)) rfl
theorem wt_209 : Cond.instanceMethod yX1_weighs ∈ gL := gm_2 (List.mem_of_getElem? (i := 59) (by decide +kernel)) rfl
theorem wt_210 : Cond.code yX1_weighs prog_3_method_3_code 2 (some FieldType.int) ∈ gL := gm_2 (List.mem_of_getElem? (i := 60) (by decide +kernel)) rfl
theorem wt_211 : Cond.selects "TwoOnACable$Guest" yX9_weighs yX9_weighs ∈ gL := gm_2 (List.mem_of_getElem? (i := 61) (by decide +kernel)) rfl
theorem wt_212 : Cond.selects "TwoOnACable$Hens" yX9_weighs yX4_weighs ∈ gL := gm_2 (List.mem_of_getElem? (i := 62) (by decide +kernel)) rfl
theorem wt_213 : Cond.instanceMethod yX4_weighs ∈ gL := gm_2 (List.mem_of_getElem? (i := 63) (by decide +kernel)) rfl
theorem wt_214 : Cond.code yX4_weighs prog_6_method_3_code 2 (some FieldType.int) ∈ gL := gm_2 (List.mem_of_getElem? (i := 64) (by decide +kernel)) rfl
theorem wt_215 : Cond.selects "TwoOnACable$Live" yX9_weighs yX5_weighs ∈ gL := gm_2 (List.mem_of_getElem? (i := 65) (by decide +kernel)) rfl
theorem wt_216 : Cond.instanceMethod yX5_weighs ∈ gL := gm_2 (List.mem_of_getElem? (i := 66) (by decide +kernel)) rfl
theorem wt_217 : Cond.code yX5_weighs prog_7_method_3_code 2 (some FieldType.int) ∈ gL := gm_2 (List.mem_of_getElem? (i := 67) (by decide +kernel)) rfl
theorem wt_218 : Cond.code yX9_weighs prog_11_method_3_code 2 (some FieldType.int) ∈ gL := gm_2 (List.mem_of_getElem? (i := 68) (by decide +kernel)) rfl
theorem wt_219 : Cond.methodLink "TwoOnACable" 120 yX0_armNow ∈ gL := gm_2 (List.mem_of_getElem? (i := 69) (by decide +kernel)) rfl
theorem wt_220 : Cond.instanceMethod yX0_armNow ∈ gL := gm_2 (List.mem_of_getElem? (i := 70) (by decide +kernel)) rfl
theorem wt_221 : Cond.selects "TwoOnACable$Cable" yX0_armNow yX0_armNow ∈ gL := gm_2 (List.mem_of_getElem? (i := 71) (by decide +kernel)) rfl
theorem wt_222 : Cond.code yX0_armNow prog_2_method_11_code 3 (some FieldType.int) ∈ gL := gm_2 (List.mem_of_getElem? (i := 72) (by decide +kernel)) rfl
theorem wt_223 : Cond.methodLink "TwoOnACable$Cable" 50 yX6_weighsIn ∈ gL := gm_2 (List.mem_of_getElem? (i := 73) (by decide +kernel)) rfl
theorem wt_224 : Cond.methodLink "TwoOnACable$Cable" 46 yX0_armAt ∈ gL := gm_2 (List.mem_of_getElem? (i := 74) (by decide +kernel)) rfl
theorem wt_225 : Cond.instanceMethod yX0_armAt ∈ gL := gm_2 (List.mem_of_getElem? (i := 75) (by decide +kernel)) rfl
theorem wt_226 : Cond.selects "TwoOnACable$Cable" yX0_armAt yX0_armAt ∈ gL := gm_2 (List.mem_of_getElem? (i := 76) (by decide +kernel)) rfl
theorem wt_227 : Cond.code yX0_armAt prog_2_method_8_code 7 (some FieldType.int) ∈ gL := gm_2 (List.mem_of_getElem? (i := 77) (by decide +kernel)) rfl
theorem wt_228 : Cond.methodLink "TwoOnACable" 124 yX0_floorNow ∈ gL := gm_2 (List.mem_of_getElem? (i := 78) (by decide +kernel)) rfl
theorem wt_229 : Cond.instanceMethod yX0_floorNow ∈ gL := gm_2 (List.mem_of_getElem? (i := 79) (by decide +kernel)) rfl
theorem wt_230 : Cond.selects "TwoOnACable$Cable" yX0_floorNow yX0_floorNow ∈ gL := gm_2 (List.mem_of_getElem? (i := 80) (by decide +kernel)) rfl
theorem wt_231 : Cond.code yX0_floorNow prog_2_method_12_code 3 (some FieldType.int) ∈ gL := gm_2 (List.mem_of_getElem? (i := 81) (by decide +kernel)) rfl
theorem wt_232 : Cond.methodLink "TwoOnACable$Cable" 56 yX0_floorAt ∈ gL := gm_2 (List.mem_of_getElem? (i := 82) (by decide +kernel)) rfl
theorem wt_233 : Cond.instanceMethod yX0_floorAt ∈ gL := gm_2 (List.mem_of_getElem? (i := 83) (by decide +kernel)) rfl
theorem wt_234 : Cond.selects "TwoOnACable$Cable" yX0_floorAt yX0_floorAt ∈ gL := gm_2 (List.mem_of_getElem? (i := 84) (by decide +kernel)) rfl
theorem wt_235 : Cond.code yX0_floorAt prog_2_method_9_code 6 (some FieldType.int) ∈ gL := gm_2 (List.mem_of_getElem? (i := 85) (by decide +kernel)) rfl
theorem wt_236 : Cond.methodLink "TwoOnACable$Cable" 43 yX0_turnsAt ∈ gL := gm_2 (List.mem_of_getElem? (i := 86) (by decide +kernel)) rfl
theorem wt_237 : Cond.instanceMethod yX0_turnsAt ∈ gL := gm_2 (List.mem_of_getElem? (i := 87) (by decide +kernel)) rfl
theorem wt_238 : Cond.selects "TwoOnACable$Cable" yX0_turnsAt yX0_turnsAt ∈ gL := gm_2 (List.mem_of_getElem? (i := 88) (by decide +kernel)) rfl
theorem wt_239 : Cond.code yX0_turnsAt prog_2_method_6_code 2 (some FieldType.int) ∈ gL := gm_2 (List.mem_of_getElem? (i := 89) (by decide +kernel)) rfl
theorem wt_240 : Cond.methodLink "TwoOnACable" 127 yX6_sizeIn ∈ gL := gm_2 (List.mem_of_getElem? (i := 90) (by decide +kernel)) rfl
theorem wt_241 : Cond.instanceMethod yX6_sizeIn ∈ gL := gm_2 (List.mem_of_getElem? (i := 91) (by decide +kernel)) rfl
theorem wt_242 : Cond.selects "TwoOnACable$Load" yX6_sizeIn yX6_sizeIn ∈ gL := gm_2 (List.mem_of_getElem? (i := 92) (by decide +kernel)) rfl
theorem wt_243 : Cond.code yX6_sizeIn prog_8_method_9_code 5 (some FieldType.int) ∈ gL := gm_2 (List.mem_of_getElem? (i := 93) (by decide +kernel)) rfl
theorem wt_244 : Cond.methodLink "TwoOnACableLaw" 38 yX11_thing ∈ gL := gm_2 (List.mem_of_getElem? (i := 94) (by decide +kernel)) rfl
theorem wt_245 : Cond.instanceMethod yX11_thing ∈ gL := gm_2 (List.mem_of_getElem? (i := 95) (by decide +kernel)) rfl
theorem wt_246 : Cond.selects "TwoOnACable" yX11_thing yX11_thing ∈ gL := gm_2 (List.mem_of_getElem? (i := 96) (by decide +kernel)) rfl
theorem wt_247 : Cond.code yX11_thing prog_1_method_7_code 4 (some FieldType.int) ∈ gL := gm_2 (List.mem_of_getElem? (i := 97) (by decide +kernel)) rfl
theorem wt_248 : Cond.methodLink "TwoOnACable" 131 yX11_isKind ∈ gL := gm_2 (List.mem_of_getElem? (i := 98) (by decide +kernel)) rfl
theorem wt_249 : Cond.static yX11_isKind ∈ gL := gm_2 (List.mem_of_getElem? (i := 99) (by decide +kernel)) rfl
theorem wt_250 : Cond.code yX11_isKind prog_1_method_33_code 1 (some FieldType.boolean) ∈ gL := gm_2 (List.mem_of_getElem? (i := 100) (by decide +kernel)) rfl
theorem wt_251 : Cond.methodLink "TwoOnACable" 134 yX6_isFull ∈ gL := gm_2 (List.mem_of_getElem? (i := 101) (by decide +kernel)) rfl
theorem wt_252 : Cond.instanceMethod yX6_isFull ∈ gL := gm_2 (List.mem_of_getElem? (i := 102) (by decide +kernel)) rfl
theorem wt_253 : Cond.selects "TwoOnACable$Load" yX6_isFull yX6_isFull ∈ gL := gm_2 (List.mem_of_getElem? (i := 103) (by decide +kernel)) rfl
theorem wt_254 : Cond.code yX6_isFull prog_8_method_2_code 1 (some FieldType.boolean) ∈ gL := gm_2 (List.mem_of_getElem? (i := 104) (by decide +kernel)) rfl
theorem wt_255 : Cond.methodLink "TwoOnACable" 137 yX11_newThing ∈ gL := gm_2 (List.mem_of_getElem? (i := 105) (by decide +kernel)) rfl
theorem wt_256 : Cond.static yX11_newThing ∈ gL := gm_2 (List.mem_of_getElem? (i := 106) (by decide +kernel)) rfl
theorem wt_257 : Cond.code yX11_newThing prog_1_method_39_code 4 (some (FieldType.object "TwoOnACable$Thing")) ∈ gL := gm_2 (List.mem_of_getElem? (i := 107) (by decide +kernel)) rfl
theorem wt_258 : Cond.classLink "TwoOnACable" 325 "TwoOnACable$Cook" ∈ gL := gm_2 (List.mem_of_getElem? (i := 108) (by decide +kernel)) rfl
theorem wt_259 : Cond.instantiable "TwoOnACable$Cook" 3 ∈ gL := gm_2 (List.mem_of_getElem? (i := 109) (by decide +kernel)) rfl
theorem wt_260 : Cond.methodLink "TwoOnACable" 327 yX1_init ∈ gL := gm_2 (List.mem_of_getElem? (i := 110) (by decide +kernel)) rfl
theorem wt_261 : Cond.instanceMethod yX1_init ∈ gL := gm_2 (List.mem_of_getElem? (i := 111) (by decide +kernel)) rfl
theorem wt_262 : Cond.code yX1_init prog_3_method_1_code 4 (none : Option FieldType) ∈ gL := gm_2 (List.mem_of_getElem? (i := 112) (by decide +kernel)) rfl
theorem wt_263 : Cond.methodLink "TwoOnACable$Cook" 3 yX9_init ∈ gL := gm_2 (List.mem_of_getElem? (i := 113) (by decide +kernel)) rfl
theorem wt_264 : Cond.instanceMethod yX9_init ∈ gL := gm_2 (List.mem_of_getElem? (i := 114) (by decide +kernel)) rfl
theorem wt_265 : Cond.code yX9_init prog_11_method_1_code 4 (none : Option FieldType) ∈ gL := gm_2 (List.mem_of_getElem? (i := 115) (by decide +kernel)) rfl
theorem wt_266 : Cond.methodLink "TwoOnACable$Thing" 3 objectInit ∈ gL := gm_2 (List.mem_of_getElem? (i := 116) (by decide +kernel)) rfl
theorem wt_267 : Cond.fieldLink "TwoOnACable$Thing" 9 "TwoOnACable$Thing" "weight" "I" ∈ gL := gm_2 (List.mem_of_getElem? (i := 117) (by decide +kernel)) rfl
theorem wt_268 : Cond.fieldLink "TwoOnACable$Cook" 9 "TwoOnACable$Cook" "weight" "I" ∈ gL := gm_2 (List.mem_of_getElem? (i := 118) (by decide +kernel)) rfl
theorem wt_269 : Cond.sameField "TwoOnACable$Cook" "TwoOnACable$Thing" "weight" "I" ∈ gL := gm_2 (List.mem_of_getElem? (i := 119) (by decide +kernel)) rfl
theorem wt_270 : Cond.fieldLink "TwoOnACable$Hens" 9 "TwoOnACable$Hens" "weight" "I" ∈ gL := gm_2 (List.mem_of_getElem? (i := 120) (by decide +kernel)) rfl
theorem wt_271 : Cond.sameField "TwoOnACable$Hens" "TwoOnACable$Thing" "weight" "I" ∈ gL := gm_2 (List.mem_of_getElem? (i := 121) (by decide +kernel)) rfl
theorem wt_272 : Cond.fieldLink "TwoOnACable$Live" 9 "TwoOnACable$Live" "weight" "I" ∈ gL := gm_2 (List.mem_of_getElem? (i := 122) (by decide +kernel)) rfl
theorem wt_273 : Cond.sameField "TwoOnACable$Live" "TwoOnACable$Thing" "weight" "I" ∈ gL := gm_2 (List.mem_of_getElem? (i := 123) (by decide +kernel)) rfl
theorem wt_274 : Cond.fieldLink "TwoOnACable" 153 "TwoOnACable$Thing" "weight" "I" ∈ gL := gm_2 (List.mem_of_getElem? (i := 124) (by decide +kernel)) rfl
theorem wt_275 : Cond.fieldLink "TwoOnACable$Thing" 18 "TwoOnACable$Thing" "came" "I" ∈ gL := gm_2 (List.mem_of_getElem? (i := 125) (by decide +kernel)) rfl
theorem wt_276 : Cond.fieldLink "TwoOnACable$Live" 15 "TwoOnACable$Live" "came" "I" ∈ gL := gm_2 (List.mem_of_getElem? (i := 126) (by decide +kernel)) rfl
theorem wt_277 : Cond.sameField "TwoOnACable$Live" "TwoOnACable$Thing" "came" "I" ∈ gL := gm_2 (List.mem_of_getElem? (i := 127) (by decide +kernel)) rfl
theorem wt_278 : Cond.fieldLink "TwoOnACable$Hens" 15 "TwoOnACable$Hens" "came" "I" ∈ gL := gm_2 (List.mem_of_getElem? (i := 128) (by decide +kernel)) rfl
theorem wt_279 : Cond.sameField "TwoOnACable$Hens" "TwoOnACable$Thing" "came" "I" ∈ gL := gm_2 (List.mem_of_getElem? (i := 129) (by decide +kernel)) rfl
theorem wt_280 : Cond.fieldLink "TwoOnACable$Thing" 15 "TwoOnACable$Thing" "place" "I" ∈ gL := gm_2 (List.mem_of_getElem? (i := 130) (by decide +kernel)) rfl
theorem wt_281 : Cond.fieldLink "TwoOnACable$Evening" 74 "TwoOnACable$Thing" "place" "I" ∈ gL := gm_2 (List.mem_of_getElem? (i := 131) (by decide +kernel)) rfl
theorem wt_282 : Cond.fieldLink "TwoOnACable$Load" 38 "TwoOnACable$Thing" "place" "I" ∈ gL := gm_2 (List.mem_of_getElem? (i := 132) (by decide +kernel)) rfl
theorem wt_283 : Cond.fieldLink "TwoOnACable" 156 "TwoOnACable$Thing" "place" "I" ∈ gL := gm_2 (List.mem_of_getElem? (i := 133) (by decide +kernel)) rfl
theorem wt_284 : Cond.classLink "TwoOnACable" 330 "TwoOnACable$Guest" ∈ gL := gm_2 (List.mem_of_getElem? (i := 141) (by decide +kernel)) rfl
theorem wt_285 : Cond.instantiable "TwoOnACable$Guest" 3 ∈ gL := gm_2 (List.mem_of_getElem? (i := 142) (by decide +kernel)) rfl
theorem wt_286 : Cond.methodLink "TwoOnACable" 332 yX3_init ∈ gL := gm_2 (List.mem_of_getElem? (i := 143) (by decide +kernel)) rfl
theorem wt_287 : Cond.instanceMethod yX3_init ∈ gL := gm_2 (List.mem_of_getElem? (i := 144) (by decide +kernel)) rfl
theorem wt_288 : Cond.code yX3_init prog_5_method_1_code 4 (none : Option FieldType) ∈ gL := gm_2 (List.mem_of_getElem? (i := 145) (by decide +kernel)) rfl
theorem wt_289 : Cond.methodLink "TwoOnACable$Guest" 3 yX9_init ∈ gL := gm_2 (List.mem_of_getElem? (i := 146) (by decide +kernel)) rfl
theorem wt_290 : Cond.classLink "TwoOnACable" 333 "TwoOnACable$Live" ∈ gL := gm_2 (List.mem_of_getElem? (i := 151) (by decide +kernel)) rfl
theorem wt_291 : Cond.instantiable "TwoOnACable$Live" 3 ∈ gL := gm_2 (List.mem_of_getElem? (i := 152) (by decide +kernel)) rfl
theorem wt_292 : Cond.methodLink "TwoOnACable" 335 yX5_init ∈ gL := gm_2 (List.mem_of_getElem? (i := 153) (by decide +kernel)) rfl
theorem wt_293 : Cond.instanceMethod yX5_init ∈ gL := gm_2 (List.mem_of_getElem? (i := 154) (by decide +kernel)) rfl
theorem wt_294 : Cond.code yX5_init prog_7_method_1_code 4 (none : Option FieldType) ∈ gL := gm_2 (List.mem_of_getElem? (i := 155) (by decide +kernel)) rfl
theorem wt_295 : Cond.methodLink "TwoOnACable$Live" 3 yX9_init ∈ gL := gm_2 (List.mem_of_getElem? (i := 156) (by decide +kernel)) rfl
theorem wt_296 : Cond.classLink "TwoOnACable" 336 "TwoOnACable$Hens" ∈ gL := gm_2 (List.mem_of_getElem? (i := 161) (by decide +kernel)) rfl
theorem wt_297 : Cond.instantiable "TwoOnACable$Hens" 3 ∈ gL := gm_2 (List.mem_of_getElem? (i := 162) (by decide +kernel)) rfl
theorem wt_298 : Cond.methodLink "TwoOnACable" 338 yX4_init ∈ gL := gm_2 (List.mem_of_getElem? (i := 163) (by decide +kernel)) rfl
theorem wt_299 : Cond.instanceMethod yX4_init ∈ gL := gm_2 (List.mem_of_getElem? (i := 164) (by decide +kernel)) rfl
theorem wt_300 : Cond.code yX4_init prog_6_method_1_code 4 (none : Option FieldType) ∈ gL := gm_2 (List.mem_of_getElem? (i := 165) (by decide +kernel)) rfl
theorem wt_301 : Cond.methodLink "TwoOnACable$Hens" 3 yX5_init ∈ gL := gm_2 (List.mem_of_getElem? (i := 166) (by decide +kernel)) rfl
theorem wt_302 : Cond.classLink "TwoOnACable" 149 "TwoOnACable$Thing" ∈ gL := gm_2 (List.mem_of_getElem? (i := 171) (by decide +kernel)) rfl
theorem wt_303 : Cond.instantiable "TwoOnACable$Thing" 3 ∈ gL := gm_2 (List.mem_of_getElem? (i := 172) (by decide +kernel)) rfl
theorem wt_304 : Cond.methodLink "TwoOnACable" 339 yX9_init ∈ gL := gm_2 (List.mem_of_getElem? (i := 173) (by decide +kernel)) rfl
theorem wt_305 : Cond.methodLink "TwoOnACable" 141 yX6_put ∈ gL := gm_2 (List.mem_of_getElem? (i := 178) (by decide +kernel)) rfl
theorem wt_306 : Cond.instanceMethod yX6_put ∈ gL := gm_2 (List.mem_of_getElem? (i := 179) (by decide +kernel)) rfl
theorem wt_307 : Cond.selects "TwoOnACable$Load" yX6_put yX6_put ∈ gL := gm_2 (List.mem_of_getElem? (i := 180) (by decide +kernel)) rfl
theorem wt_308 : Cond.code yX6_put prog_8_method_3_code 2 (some FieldType.int) ∈ gL := gm_2 (List.mem_of_getElem? (i := 181) (by decide +kernel)) rfl
theorem wt_309 : Cond.methodLink "TwoOnACableLaw" 43 yX11_about ∈ gL := gm_2 (List.mem_of_getElem? (i := 182) (by decide +kernel)) rfl
theorem wt_310 : Cond.instanceMethod yX11_about ∈ gL := gm_2 (List.mem_of_getElem? (i := 183) (by decide +kernel)) rfl
theorem wt_311 : Cond.selects "TwoOnACable" yX11_about yX11_about ∈ gL := gm_2 (List.mem_of_getElem? (i := 184) (by decide +kernel)) rfl
theorem wt_312 : Cond.code yX11_about prog_1_method_8_code 4 (some FieldType.int) ∈ gL := gm_2 (List.mem_of_getElem? (i := 185) (by decide +kernel)) rfl
theorem wt_313 : Cond.methodLink "TwoOnACable" 144 yX6_at ∈ gL := gm_2 (List.mem_of_getElem? (i := 186) (by decide +kernel)) rfl
theorem wt_314 : Cond.methodLink "TwoOnACable" 148 yX9_kind ∈ gL := gm_2 (List.mem_of_getElem? (i := 187) (by decide +kernel)) rfl
theorem wt_315 : Cond.instanceMethod yX9_kind ∈ gL := gm_2 (List.mem_of_getElem? (i := 188) (by decide +kernel)) rfl
theorem wt_316 : Cond.selects "TwoOnACable$Thing" yX9_kind yX9_kind ∈ gL := gm_2 (List.mem_of_getElem? (i := 189) (by decide +kernel)) rfl
theorem wt_317 : Cond.sameMethod "TwoOnACable$Thing" "TwoOnACable$Thing" "kind" "()I" ∈ gL := gm_2 (List.mem_of_getElem? (i := 190) (by decide +kernel)) rfl
theorem wt_318 : Cond.selects "TwoOnACable$Cook" yX9_kind yX1_kind ∈ gL := gm_2 (List.mem_of_getElem? (i := 191) (by decide +kernel)) rfl
theorem wt_319 : Cond.instanceMethod yX1_kind ∈ gL := gm_2 (List.mem_of_getElem? (i := 192) (by decide +kernel)) rfl
theorem wt_320 : Cond.code yX1_kind prog_3_method_2_code 1 (some FieldType.int) ∈ gL := gm_2 (List.mem_of_getElem? (i := 193) (by decide +kernel)) rfl
theorem wt_321 : Cond.selects "TwoOnACable$Guest" yX9_kind yX3_kind ∈ gL := gm_2 (List.mem_of_getElem? (i := 194) (by decide +kernel)) rfl
theorem wt_322 : Cond.instanceMethod yX3_kind ∈ gL := gm_2 (List.mem_of_getElem? (i := 195) (by decide +kernel)) rfl
theorem wt_323 : Cond.code yX3_kind prog_5_method_2_code 1 (some FieldType.int) ∈ gL := gm_2 (List.mem_of_getElem? (i := 196) (by decide +kernel)) rfl
theorem wt_324 : Cond.selects "TwoOnACable$Hens" yX9_kind yX4_kind ∈ gL := gm_2 (List.mem_of_getElem? (i := 197) (by decide +kernel)) rfl
theorem wt_325 : Cond.instanceMethod yX4_kind ∈ gL := gm_2 (List.mem_of_getElem? (i := 198) (by decide +kernel)) rfl
theorem wt_326 : Cond.code yX4_kind prog_6_method_2_code 1 (some FieldType.int) ∈ gL := gm_2 (List.mem_of_getElem? (i := 199) (by decide +kernel)) rfl
theorem wt_327 : Cond.selects "TwoOnACable$Live" yX9_kind yX5_kind ∈ gL := gm_2 (List.mem_of_getElem? (i := 200) (by decide +kernel)) rfl
theorem wt_328 : Cond.instanceMethod yX5_kind ∈ gL := gm_2 (List.mem_of_getElem? (i := 201) (by decide +kernel)) rfl
theorem wt_329 : Cond.code yX5_kind prog_7_method_2_code 1 (some FieldType.int) ∈ gL := gm_2 (List.mem_of_getElem? (i := 202) (by decide +kernel)) rfl
theorem wt_330 : Cond.code yX9_kind prog_11_method_2_code 1 (some FieldType.int) ∈ gL := gm_2 (List.mem_of_getElem? (i := 203) (by decide +kernel)) rfl
theorem wt_331 : Cond.methodLink "TwoOnACable" 159 yX9_weighs ∈ gL := gm_2 (List.mem_of_getElem? (i := 204) (by decide +kernel)) rfl
theorem wt_332 : Cond.methodLink "TwoOnACable" 162 yX9_hoursHere ∈ gL := gm_2 (List.mem_of_getElem? (i := 205) (by decide +kernel)) rfl
theorem wt_333 : Cond.instanceMethod yX9_hoursHere ∈ gL := gm_2 (List.mem_of_getElem? (i := 206) (by decide +kernel)) rfl
theorem wt_334 : Cond.selects "TwoOnACable$Thing" yX9_hoursHere yX9_hoursHere ∈ gL := gm_2 (List.mem_of_getElem? (i := 207) (by decide +kernel)) rfl
theorem wt_335 : Cond.sameMethod "TwoOnACable$Thing" "TwoOnACable$Thing" "hoursHere" "(I)I" ∈ gL := gm_2 (List.mem_of_getElem? (i := 208) (by decide +kernel)) rfl
theorem wt_336 : Cond.selects "TwoOnACable$Cook" yX9_hoursHere yX9_hoursHere ∈ gL := gm_2 (List.mem_of_getElem? (i := 209) (by decide +kernel)) rfl
theorem wt_337 : Cond.selects "TwoOnACable$Guest" yX9_hoursHere yX9_hoursHere ∈ gL := gm_2 (List.mem_of_getElem? (i := 210) (by decide +kernel)) rfl
theorem wt_338 : Cond.selects "TwoOnACable$Hens" yX9_hoursHere yX9_hoursHere ∈ gL := gm_2 (List.mem_of_getElem? (i := 211) (by decide +kernel)) rfl
theorem wt_339 : Cond.selects "TwoOnACable$Live" yX9_hoursHere yX9_hoursHere ∈ gL := gm_2 (List.mem_of_getElem? (i := 212) (by decide +kernel)) rfl
theorem wt_340 : Cond.code yX9_hoursHere prog_11_method_5_code 2 (some FieldType.int) ∈ gL := gm_2 (List.mem_of_getElem? (i := 213) (by decide +kernel)) rfl
theorem wt_341 : Cond.methodLink "TwoOnACableLaw" 47 yX11_as ∈ gL := gm_2 (List.mem_of_getElem? (i := 214) (by decide +kernel)) rfl
theorem wt_342 : Cond.instanceMethod yX11_as ∈ gL := gm_2 (List.mem_of_getElem? (i := 215) (by decide +kernel)) rfl
theorem wt_343 : Cond.selects "TwoOnACable" yX11_as yX11_as ∈ gL := gm_2 (List.mem_of_getElem? (i := 216) (by decide +kernel)) rfl
theorem wt_344 : Cond.code yX11_as prog_1_method_9_code 4 (some FieldType.int) ∈ gL := gm_2 (List.mem_of_getElem? (i := 217) (by decide +kernel)) rfl
theorem wt_345 : Cond.methodLink "TwoOnACable" 165 yX11_isOfKind ∈ gL := gm_2 (List.mem_of_getElem? (i := 218) (by decide +kernel)) rfl
theorem wt_346 : Cond.static yX11_isOfKind ∈ gL := gm_2 (List.mem_of_getElem? (i := 219) (by decide +kernel)) rfl
theorem wt_347 : Cond.code yX11_isOfKind prog_1_method_40_code 2 (some FieldType.boolean) ∈ gL := gm_2 (List.mem_of_getElem? (i := 220) (by decide +kernel)) rfl
theorem wt_348 : Cond.methodLink "TwoOnACableLaw" 51 yX11_carry ∈ gL := gm_2 (List.mem_of_getElem? (i := 221) (by decide +kernel)) rfl
theorem wt_349 : Cond.instanceMethod yX11_carry ∈ gL := gm_2 (List.mem_of_getElem? (i := 222) (by decide +kernel)) rfl
theorem wt_350 : Cond.selects "TwoOnACable" yX11_carry yX11_carry ∈ gL := gm_2 (List.mem_of_getElem? (i := 223) (by decide +kernel)) rfl
theorem wt_351 : Cond.code yX11_carry prog_1_method_10_code 3 (some FieldType.int) ∈ gL := gm_2 (List.mem_of_getElem? (i := 224) (by decide +kernel)) rfl
theorem wt_352 : Cond.methodLink "TwoOnACable" 169 yX0_isWhole ∈ gL := gm_2 (List.mem_of_getElem? (i := 225) (by decide +kernel)) rfl
theorem wt_353 : Cond.instanceMethod yX0_isWhole ∈ gL := gm_2 (List.mem_of_getElem? (i := 226) (by decide +kernel)) rfl
theorem wt_354 : Cond.selects "TwoOnACable$Cable" yX0_isWhole yX0_isWhole ∈ gL := gm_2 (List.mem_of_getElem? (i := 227) (by decide +kernel)) rfl
theorem wt_355 : Cond.code yX0_isWhole prog_2_method_5_code 1 (some FieldType.boolean) ∈ gL := gm_2 (List.mem_of_getElem? (i := 228) (by decide +kernel)) rfl
theorem wt_356 : Cond.methodLink "TwoOnACable" 172 yX0_turnsNow ∈ gL := gm_2 (List.mem_of_getElem? (i := 229) (by decide +kernel)) rfl
theorem wt_357 : Cond.instanceMethod yX0_turnsNow ∈ gL := gm_2 (List.mem_of_getElem? (i := 230) (by decide +kernel)) rfl
theorem wt_358 : Cond.selects "TwoOnACable$Cable" yX0_turnsNow yX0_turnsNow ∈ gL := gm_2 (List.mem_of_getElem? (i := 231) (by decide +kernel)) rfl
theorem wt_359 : Cond.code yX0_turnsNow prog_2_method_7_code 1 (some FieldType.int) ∈ gL := gm_2 (List.mem_of_getElem? (i := 232) (by decide +kernel)) rfl
theorem wt_360 : Cond.methodLink "TwoOnACable" 175 yX9_goesAcross ∈ gL := gm_2 (List.mem_of_getElem? (i := 233) (by decide +kernel)) rfl
theorem wt_361 : Cond.instanceMethod yX9_goesAcross ∈ gL := gm_2 (List.mem_of_getElem? (i := 234) (by decide +kernel)) rfl
theorem wt_362 : Cond.selects "TwoOnACable$Thing" yX9_goesAcross yX9_goesAcross ∈ gL := gm_2 (List.mem_of_getElem? (i := 235) (by decide +kernel)) rfl
theorem wt_363 : Cond.sameMethod "TwoOnACable$Thing" "TwoOnACable$Thing" "goesAcross" "(I)Z" ∈ gL := gm_2 (List.mem_of_getElem? (i := 236) (by decide +kernel)) rfl
theorem wt_364 : Cond.selects "TwoOnACable$Cook" yX9_goesAcross yX9_goesAcross ∈ gL := gm_2 (List.mem_of_getElem? (i := 237) (by decide +kernel)) rfl
theorem wt_365 : Cond.selects "TwoOnACable$Guest" yX9_goesAcross yX3_goesAcross ∈ gL := gm_2 (List.mem_of_getElem? (i := 238) (by decide +kernel)) rfl
theorem wt_366 : Cond.instanceMethod yX3_goesAcross ∈ gL := gm_2 (List.mem_of_getElem? (i := 239) (by decide +kernel)) rfl
theorem wt_367 : Cond.code yX3_goesAcross prog_5_method_3_code 2 (some FieldType.boolean) ∈ gL := gm_3 (List.mem_of_getElem? (i := 0) (by decide +kernel)) rfl
theorem wt_368 : Cond.selects "TwoOnACable$Hens" yX9_goesAcross yX9_goesAcross ∈ gL := gm_3 (List.mem_of_getElem? (i := 1) (by decide +kernel)) rfl
theorem wt_369 : Cond.selects "TwoOnACable$Live" yX9_goesAcross yX9_goesAcross ∈ gL := gm_3 (List.mem_of_getElem? (i := 2) (by decide +kernel)) rfl
theorem wt_370 : Cond.code yX9_goesAcross prog_11_method_4_code 2 (some FieldType.boolean) ∈ gL := gm_3 (List.mem_of_getElem? (i := 3) (by decide +kernel)) rfl
theorem wt_371 : Cond.methodLink "TwoOnACableLaw" 56 yX11_hour ∈ gL := gm_3 (List.mem_of_getElem? (i := 4) (by decide +kernel)) rfl
theorem wt_372 : Cond.instanceMethod yX11_hour ∈ gL := gm_3 (List.mem_of_getElem? (i := 5) (by decide +kernel)) rfl
theorem wt_373 : Cond.selects "TwoOnACable" yX11_hour yX11_hour ∈ gL := gm_3 (List.mem_of_getElem? (i := 6) (by decide +kernel)) rfl
theorem wt_374 : Cond.code yX11_hour prog_1_method_11_code 2 (some FieldType.int) ∈ gL := gm_3 (List.mem_of_getElem? (i := 7) (by decide +kernel)) rfl
theorem wt_375 : Cond.methodLink "TwoOnACable" 181 yX11_isLength ∈ gL := gm_3 (List.mem_of_getElem? (i := 8) (by decide +kernel)) rfl
theorem wt_376 : Cond.static yX11_isLength ∈ gL := gm_3 (List.mem_of_getElem? (i := 9) (by decide +kernel)) rfl
theorem wt_377 : Cond.code yX11_isLength prog_1_method_34_code 1 (some FieldType.boolean) ∈ gL := gm_3 (List.mem_of_getElem? (i := 10) (by decide +kernel)) rfl
theorem wt_378 : Cond.methodLink "TwoOnACable" 184 yX0_goHour ∈ gL := gm_3 (List.mem_of_getElem? (i := 11) (by decide +kernel)) rfl
theorem wt_379 : Cond.instanceMethod yX0_goHour ∈ gL := gm_3 (List.mem_of_getElem? (i := 12) (by decide +kernel)) rfl
theorem wt_380 : Cond.selects "TwoOnACable$Cable" yX0_goHour yX0_goHour ∈ gL := gm_3 (List.mem_of_getElem? (i := 13) (by decide +kernel)) rfl
theorem wt_381 : Cond.code yX0_goHour prog_2_method_15_code 3 (none : Option FieldType) ∈ gL := gm_3 (List.mem_of_getElem? (i := 14) (by decide +kernel)) rfl
theorem wt_382 : Cond.methodLink "TwoOnACable$Cable" 71 yX0_placeAfter ∈ gL := gm_3 (List.mem_of_getElem? (i := 15) (by decide +kernel)) rfl
theorem wt_383 : Cond.instanceMethod yX0_placeAfter ∈ gL := gm_3 (List.mem_of_getElem? (i := 16) (by decide +kernel)) rfl
theorem wt_384 : Cond.selects "TwoOnACable$Cable" yX0_placeAfter yX0_placeAfter ∈ gL := gm_3 (List.mem_of_getElem? (i := 17) (by decide +kernel)) rfl
theorem wt_385 : Cond.code yX0_placeAfter prog_2_method_14_code 2 (some FieldType.int) ∈ gL := gm_3 (List.mem_of_getElem? (i := 18) (by decide +kernel)) rfl
theorem wt_386 : Cond.methodLink "TwoOnACable$Cable" 62 yX0_turnsNow ∈ gL := gm_3 (List.mem_of_getElem? (i := 19) (by decide +kernel)) rfl
theorem wt_387 : Cond.methodLink "TwoOnACable$Cable" 66 yJ9_floorMod_7cf53 ∈ gL := gm_3 (List.mem_of_getElem? (i := 20) (by decide +kernel)) rfl
theorem wt_388 : Cond.static yJ9_floorMod_7cf53 ∈ gL := gm_3 (List.mem_of_getElem? (i := 21) (by decide +kernel)) rfl
theorem wt_389 : Cond.code yJ9_floorMod_7cf53 prog_15_method_50_code 3 (some FieldType.int) ∈ gL := gm_3 (List.mem_of_getElem? (i := 22) (by decide +kernel)) rfl
theorem wt_390 : Cond.methodLink "TwoOnACable$Cable" 74 yX0_strainNow ∈ gL := gm_3 (List.mem_of_getElem? (i := 23) (by decide +kernel)) rfl
theorem wt_391 : Cond.instanceMethod yX0_strainNow ∈ gL := gm_3 (List.mem_of_getElem? (i := 24) (by decide +kernel)) rfl
theorem wt_392 : Cond.selects "TwoOnACable$Cable" yX0_strainNow yX0_strainNow ∈ gL := gm_3 (List.mem_of_getElem? (i := 25) (by decide +kernel)) rfl
theorem wt_393 : Cond.code yX0_strainNow prog_2_method_13_code 3 (some FieldType.int) ∈ gL := gm_3 (List.mem_of_getElem? (i := 26) (by decide +kernel)) rfl
theorem wt_394 : Cond.methodLink "TwoOnACable$Cable" 59 yX0_strainBy ∈ gL := gm_3 (List.mem_of_getElem? (i := 27) (by decide +kernel)) rfl
theorem wt_395 : Cond.instanceMethod yX0_strainBy ∈ gL := gm_3 (List.mem_of_getElem? (i := 28) (by decide +kernel)) rfl
theorem wt_396 : Cond.selects "TwoOnACable$Cable" yX0_strainBy yX0_strainBy ∈ gL := gm_3 (List.mem_of_getElem? (i := 29) (by decide +kernel)) rfl
theorem wt_397 : Cond.code yX0_strainBy prog_2_method_10_code 3 (some FieldType.int) ∈ gL := gm_3 (List.mem_of_getElem? (i := 30) (by decide +kernel)) rfl
theorem wt_398 : Cond.methodLink "TwoOnACableLaw" 60 yX11_even ∈ gL := gm_3 (List.mem_of_getElem? (i := 31) (by decide +kernel)) rfl
theorem wt_399 : Cond.instanceMethod yX11_even ∈ gL := gm_3 (List.mem_of_getElem? (i := 32) (by decide +kernel)) rfl
theorem wt_400 : Cond.selects "TwoOnACable" yX11_even yX11_even ∈ gL := gm_3 (List.mem_of_getElem? (i := 33) (by decide +kernel)) rfl
theorem wt_401 : Cond.code yX11_even prog_1_method_12_code 2 (some FieldType.int) ∈ gL := gm_3 (List.mem_of_getElem? (i := 34) (by decide +kernel)) rfl
theorem wt_402 : Cond.methodLink "TwoOnACable" 191 yX2_find ∈ gL := gm_3 (List.mem_of_getElem? (i := 35) (by decide +kernel)) rfl
theorem wt_403 : Cond.instanceMethod yX2_find ∈ gL := gm_3 (List.mem_of_getElem? (i := 36) (by decide +kernel)) rfl
theorem wt_404 : Cond.selects "TwoOnACable$Evening" yX2_find yX2_find ∈ gL := gm_3 (List.mem_of_getElem? (i := 37) (by decide +kernel)) rfl
theorem wt_405 : Cond.code yX2_find prog_4_method_2_code 7 (none : Option FieldType) ∈ gL := gm_3 (List.mem_of_getElem? (i := 38) (by decide +kernel)) rfl
theorem wt_406 : Cond.methodLink "TwoOnACable$Evening" 18 yX2_setUp ∈ gL := gm_3 (List.mem_of_getElem? (i := 39) (by decide +kernel)) rfl
theorem wt_407 : Cond.instanceMethod yX2_setUp ∈ gL := gm_3 (List.mem_of_getElem? (i := 41) (by decide +kernel)) rfl
theorem wt_408 : Cond.code yX2_setUp prog_4_method_3_code 6 (none : Option FieldType) ∈ gL := gm_3 (List.mem_of_getElem? (i := 42) (by decide +kernel)) rfl
theorem wt_409 : Cond.methodLink "TwoOnACable$Evening" 40 yX0_turnsNow ∈ gL := gm_3 (List.mem_of_getElem? (i := 43) (by decide +kernel)) rfl
theorem wt_410 : Cond.methodLink "TwoOnACable$Evening" 49 yX6_weighsIn ∈ gL := gm_3 (List.mem_of_getElem? (i := 44) (by decide +kernel)) rfl
theorem wt_411 : Cond.methodLink "TwoOnACable$Evening" 61 yX6_at ∈ gL := gm_3 (List.mem_of_getElem? (i := 45) (by decide +kernel)) rfl
theorem wt_412 : Cond.methodLink "TwoOnACable$Evening" 65 yX9_goesAcross ∈ gL := gm_3 (List.mem_of_getElem? (i := 46) (by decide +kernel)) rfl
theorem wt_413 : Cond.methodLink "TwoOnACable$Evening" 71 yX9_weighs ∈ gL := gm_3 (List.mem_of_getElem? (i := 47) (by decide +kernel)) rfl
theorem wt_414 : Cond.methodLink "TwoOnACable$Evening" 26 yX2_gapWith ∈ gL := gm_3 (List.mem_of_getElem? (i := 48) (by decide +kernel)) rfl
theorem wt_415 : Cond.instanceMethod yX2_gapWith ∈ gL := gm_3 (List.mem_of_getElem? (i := 50) (by decide +kernel)) rfl
theorem wt_416 : Cond.code yX2_gapWith prog_4_method_4_code 5 (some FieldType.int) ∈ gL := gm_3 (List.mem_of_getElem? (i := 51) (by decide +kernel)) rfl
theorem wt_417 : Cond.methodLink "TwoOnACable$Evening" 30 yX2_summed ∈ gL := gm_3 (List.mem_of_getElem? (i := 52) (by decide +kernel)) rfl
theorem wt_418 : Cond.static yX2_summed ∈ gL := gm_3 (List.mem_of_getElem? (i := 53) (by decide +kernel)) rfl
theorem wt_419 : Cond.code yX2_summed prog_4_method_5_code 4 (some FieldType.int) ∈ gL := gm_3 (List.mem_of_getElem? (i := 54) (by decide +kernel)) rfl
theorem wt_420 : Cond.methodLink "TwoOnACable$Evening" 80 yX0_floorAt ∈ gL := gm_3 (List.mem_of_getElem? (i := 55) (by decide +kernel)) rfl
theorem wt_421 : Cond.methodLink "TwoOnACable$Evening" 84 yJ9_abs_0f7a4 ∈ gL := gm_3 (List.mem_of_getElem? (i := 56) (by decide +kernel)) rfl
theorem wt_422 : Cond.static yJ9_abs_0f7a4 ∈ gL := gm_3 (List.mem_of_getElem? (i := 57) (by decide +kernel)) rfl
theorem wt_423 : Cond.code yJ9_abs_0f7a4 prog_15_method_59_code 1 (some FieldType.int) ∈ gL := gm_3 (List.mem_of_getElem? (i := 58) (by decide +kernel)) rfl
theorem wt_424 : Cond.methodLink "TwoOnACableLaw" 64 yX11_soonest ∈ gL := gm_3 (List.mem_of_getElem? (i := 59) (by decide +kernel)) rfl
theorem wt_425 : Cond.instanceMethod yX11_soonest ∈ gL := gm_3 (List.mem_of_getElem? (i := 60) (by decide +kernel)) rfl
theorem wt_426 : Cond.selects "TwoOnACable" yX11_soonest yX11_soonest ∈ gL := gm_3 (List.mem_of_getElem? (i := 61) (by decide +kernel)) rfl
theorem wt_427 : Cond.code yX11_soonest prog_1_method_13_code 3 (some FieldType.int) ∈ gL := gm_3 (List.mem_of_getElem? (i := 62) (by decide +kernel)) rfl
theorem wt_428 : Cond.methodLink "TwoOnACable" 201 yX8_find ∈ gL := gm_3 (List.mem_of_getElem? (i := 63) (by decide +kernel)) rfl
theorem wt_429 : Cond.instanceMethod yX8_find ∈ gL := gm_3 (List.mem_of_getElem? (i := 64) (by decide +kernel)) rfl
theorem wt_430 : Cond.selects "TwoOnACable$Search" yX8_find yX8_find ∈ gL := gm_3 (List.mem_of_getElem? (i := 65) (by decide +kernel)) rfl
theorem wt_431 : Cond.code yX8_find prog_10_method_2_code 8 (none : Option FieldType) ∈ gL := gm_3 (List.mem_of_getElem? (i := 66) (by decide +kernel)) rfl
theorem wt_432 : Cond.methodLink "TwoOnACable$Search" 24 yX8_begin ∈ gL := gm_3 (List.mem_of_getElem? (i := 67) (by decide +kernel)) rfl
theorem wt_433 : Cond.instanceMethod yX8_begin ∈ gL := gm_3 (List.mem_of_getElem? (i := 69) (by decide +kernel)) rfl
theorem wt_434 : Cond.code yX8_begin prog_10_method_3_code 3 (none : Option FieldType) ∈ gL := gm_3 (List.mem_of_getElem? (i := 70) (by decide +kernel)) rfl
theorem wt_435 : Cond.methodLink "TwoOnACable$Search" 35 yX6_weighsIn ∈ gL := gm_3 (List.mem_of_getElem? (i := 71) (by decide +kernel)) rfl
theorem wt_436 : Cond.methodLink "TwoOnACable$Search" 41 yX8_step ∈ gL := gm_3 (List.mem_of_getElem? (i := 72) (by decide +kernel)) rfl
theorem wt_437 : Cond.instanceMethod yX8_step ∈ gL := gm_3 (List.mem_of_getElem? (i := 74) (by decide +kernel)) rfl
theorem wt_438 : Cond.code yX8_step prog_10_method_4_code 3 (none : Option FieldType) ∈ gL := gm_3 (List.mem_of_getElem? (i := 75) (by decide +kernel)) rfl
theorem wt_439 : Cond.methodLink "TwoOnACable$Search" 53 yX8_stepFrom ∈ gL := gm_3 (List.mem_of_getElem? (i := 76) (by decide +kernel)) rfl
theorem wt_440 : Cond.instanceMethod yX8_stepFrom ∈ gL := gm_3 (List.mem_of_getElem? (i := 78) (by decide +kernel)) rfl
theorem wt_441 : Cond.code yX8_stepFrom prog_10_method_5_code 6 (none : Option FieldType) ∈ gL := gm_3 (List.mem_of_getElem? (i := 79) (by decide +kernel)) rfl
theorem wt_442 : Cond.static yX11_windingOf ∈ gL := gm_3 (List.mem_of_getElem? (i := 81) (by decide +kernel)) rfl
theorem wt_443 : Cond.code yX11_windingOf prog_1_method_36_code 1 (some FieldType.int) ∈ gL := gm_3 (List.mem_of_getElem? (i := 82) (by decide +kernel)) rfl
theorem wt_444 : Cond.methodLink "TwoOnACable$Search" 65 yJ9_min_7cf53 ∈ gL := gm_3 (List.mem_of_getElem? (i := 84) (by decide +kernel)) rfl
theorem wt_445 : Cond.methodLink "TwoOnACable$Search" 45 yX8_dropBroken ∈ gL := gm_3 (List.mem_of_getElem? (i := 85) (by decide +kernel)) rfl
theorem wt_446 : Cond.instanceMethod yX8_dropBroken ∈ gL := gm_3 (List.mem_of_getElem? (i := 87) (by decide +kernel)) rfl
theorem wt_447 : Cond.code yX8_dropBroken prog_10_method_6_code 6 (none : Option FieldType) ∈ gL := gm_3 (List.mem_of_getElem? (i := 88) (by decide +kernel)) rfl
theorem wt_448 : Cond.methodLink "TwoOnACable$Search" 70 yX0_floorAt ∈ gL := gm_3 (List.mem_of_getElem? (i := 89) (by decide +kernel)) rfl
theorem wt_449 : Cond.methodLink "TwoOnACable$Search" 74 yX0_strainBy ∈ gL := gm_3 (List.mem_of_getElem? (i := 90) (by decide +kernel)) rfl
theorem wt_450 : Cond.methodLink "TwoOnACable$Search" 49 yX8_leastWay ∈ gL := gm_3 (List.mem_of_getElem? (i := 91) (by decide +kernel)) rfl
theorem wt_451 : Cond.instanceMethod yX8_leastWay ∈ gL := gm_3 (List.mem_of_getElem? (i := 93) (by decide +kernel)) rfl
theorem wt_452 : Cond.code yX8_leastWay prog_10_method_7_code 8 (some FieldType.int) ∈ gL := gm_3 (List.mem_of_getElem? (i := 94) (by decide +kernel)) rfl
theorem wt_453 : Cond.methodLink "TwoOnACableLaw" 68 yX11_caught ∈ gL := gm_3 (List.mem_of_getElem? (i := 95) (by decide +kernel)) rfl
theorem wt_454 : Cond.instanceMethod yX11_caught ∈ gL := gm_3 (List.mem_of_getElem? (i := 96) (by decide +kernel)) rfl
theorem wt_455 : Cond.selects "TwoOnACable" yX11_caught yX11_caught ∈ gL := gm_3 (List.mem_of_getElem? (i := 97) (by decide +kernel)) rfl
theorem wt_456 : Cond.code yX11_caught prog_1_method_14_code 5 (some FieldType.int) ∈ gL := gm_3 (List.mem_of_getElem? (i := 98) (by decide +kernel)) rfl
theorem wt_457 : Cond.methodLink "TwoOnACable" 208 yJ9_floorMod_7cf53 ∈ gL := gm_3 (List.mem_of_getElem? (i := 99) (by decide +kernel)) rfl
theorem wt_458 : Cond.methodLink "TwoOnACable" 213 yX0_placeAfter ∈ gL := gm_3 (List.mem_of_getElem? (i := 100) (by decide +kernel)) rfl
theorem wt_459 : Cond.methodLink "TwoOnACable" 216 yX11_apartOnCircle ∈ gL := gm_3 (List.mem_of_getElem? (i := 101) (by decide +kernel)) rfl
theorem wt_460 : Cond.static yX11_apartOnCircle ∈ gL := gm_3 (List.mem_of_getElem? (i := 102) (by decide +kernel)) rfl
theorem wt_461 : Cond.code yX11_apartOnCircle prog_1_method_35_code 3 (some FieldType.int) ∈ gL := gm_3 (List.mem_of_getElem? (i := 103) (by decide +kernel)) rfl
theorem wt_462 : Cond.methodLink "TwoOnACable" 322 yJ9_min_7cf53 ∈ gL := gm_3 (List.mem_of_getElem? (i := 104) (by decide +kernel)) rfl
theorem wt_463 : Cond.methodLink "TwoOnACableLaw" 72 yX11_weighed ∈ gL := gm_3 (List.mem_of_getElem? (i := 105) (by decide +kernel)) rfl
theorem wt_464 : Cond.instanceMethod yX11_weighed ∈ gL := gm_3 (List.mem_of_getElem? (i := 106) (by decide +kernel)) rfl
theorem wt_465 : Cond.selects "TwoOnACable" yX11_weighed yX11_weighed ∈ gL := gm_3 (List.mem_of_getElem? (i := 107) (by decide +kernel)) rfl
theorem wt_466 : Cond.code yX11_weighed prog_1_method_15_code 3 (some FieldType.int) ∈ gL := gm_3 (List.mem_of_getElem? (i := 108) (by decide +kernel)) rfl
theorem wt_467 : Cond.methodLink "TwoOnACable" 219 yX10_isFull ∈ gL := gm_3 (List.mem_of_getElem? (i := 109) (by decide +kernel)) rfl
theorem wt_468 : Cond.instanceMethod yX10_isFull ∈ gL := gm_3 (List.mem_of_getElem? (i := 110) (by decide +kernel)) rfl
theorem wt_469 : Cond.selects "TwoOnACable$Told" yX10_isFull yX10_isFull ∈ gL := gm_3 (List.mem_of_getElem? (i := 111) (by decide +kernel)) rfl
theorem wt_470 : Cond.code yX10_isFull prog_12_method_2_code 1 (some FieldType.boolean) ∈ gL := gm_3 (List.mem_of_getElem? (i := 112) (by decide +kernel)) rfl
theorem wt_471 : Cond.methodLink "TwoOnACable" 220 yX10_put ∈ gL := gm_3 (List.mem_of_getElem? (i := 113) (by decide +kernel)) rfl
theorem wt_472 : Cond.instanceMethod yX10_put ∈ gL := gm_3 (List.mem_of_getElem? (i := 114) (by decide +kernel)) rfl
theorem wt_473 : Cond.selects "TwoOnACable$Told" yX10_put yX10_put ∈ gL := gm_3 (List.mem_of_getElem? (i := 115) (by decide +kernel)) rfl
theorem wt_474 : Cond.code yX10_put prog_12_method_3_code 3 (some FieldType.int) ∈ gL := gm_3 (List.mem_of_getElem? (i := 116) (by decide +kernel)) rfl
theorem wt_475 : Cond.methodLink "TwoOnACableLaw" 76 yX11_forget ∈ gL := gm_3 (List.mem_of_getElem? (i := 117) (by decide +kernel)) rfl
theorem wt_476 : Cond.instanceMethod yX11_forget ∈ gL := gm_3 (List.mem_of_getElem? (i := 118) (by decide +kernel)) rfl
theorem wt_477 : Cond.selects "TwoOnACable" yX11_forget yX11_forget ∈ gL := gm_3 (List.mem_of_getElem? (i := 119) (by decide +kernel)) rfl
theorem wt_478 : Cond.code yX11_forget prog_1_method_16_code 1 (some FieldType.int) ∈ gL := gm_3 (List.mem_of_getElem? (i := 120) (by decide +kernel)) rfl
theorem wt_479 : Cond.methodLink "TwoOnACableLaw" 80 yX11_fits ∈ gL := gm_3 (List.mem_of_getElem? (i := 121) (by decide +kernel)) rfl
theorem wt_480 : Cond.instanceMethod yX11_fits ∈ gL := gm_3 (List.mem_of_getElem? (i := 122) (by decide +kernel)) rfl
theorem wt_481 : Cond.selects "TwoOnACable" yX11_fits yX11_fits ∈ gL := gm_3 (List.mem_of_getElem? (i := 123) (by decide +kernel)) rfl
theorem wt_482 : Cond.code yX11_fits prog_1_method_17_code 4 (some FieldType.int) ∈ gL := gm_3 (List.mem_of_getElem? (i := 124) (by decide +kernel)) rfl
theorem wt_483 : Cond.methodLink "TwoOnACable" 222 yX10_leastSpin ∈ gL := gm_3 (List.mem_of_getElem? (i := 125) (by decide +kernel)) rfl
theorem wt_484 : Cond.instanceMethod yX10_leastSpin ∈ gL := gm_3 (List.mem_of_getElem? (i := 126) (by decide +kernel)) rfl
theorem wt_485 : Cond.selects "TwoOnACable$Told" yX10_leastSpin yX10_leastSpin ∈ gL := gm_3 (List.mem_of_getElem? (i := 127) (by decide +kernel)) rfl
theorem wt_486 : Cond.code yX10_leastSpin prog_12_method_5_code 3 (some FieldType.int) ∈ gL := gm_3 (List.mem_of_getElem? (i := 128) (by decide +kernel)) rfl
theorem wt_487 : Cond.methodLink "TwoOnACable$Told" 22 yJ9_max_7cf53 ∈ gL := gm_3 (List.mem_of_getElem? (i := 129) (by decide +kernel)) rfl
theorem wt_488 : Cond.static yJ9_max_7cf53 ∈ gL := gm_3 (List.mem_of_getElem? (i := 130) (by decide +kernel)) rfl
theorem wt_489 : Cond.code yJ9_max_7cf53 prog_15_method_65_code 2 (some FieldType.int) ∈ gL := gm_3 (List.mem_of_getElem? (i := 131) (by decide +kernel)) rfl
theorem wt_490 : Cond.methodLink "TwoOnACable" 225 yX10_greatestSpin ∈ gL := gm_3 (List.mem_of_getElem? (i := 132) (by decide +kernel)) rfl
theorem wt_491 : Cond.instanceMethod yX10_greatestSpin ∈ gL := gm_3 (List.mem_of_getElem? (i := 133) (by decide +kernel)) rfl
theorem wt_492 : Cond.selects "TwoOnACable$Told" yX10_greatestSpin yX10_greatestSpin ∈ gL := gm_3 (List.mem_of_getElem? (i := 134) (by decide +kernel)) rfl
theorem wt_493 : Cond.code yX10_greatestSpin prog_12_method_6_code 3 (some FieldType.int) ∈ gL := gm_3 (List.mem_of_getElem? (i := 135) (by decide +kernel)) rfl
theorem wt_494 : Cond.methodLink "TwoOnACable$Told" 28 yJ9_min_7cf53 ∈ gL := gm_3 (List.mem_of_getElem? (i := 136) (by decide +kernel)) rfl
theorem wt_495 : Cond.methodLink "TwoOnACableLaw" 84 yX11_lasts ∈ gL := gm_3 (List.mem_of_getElem? (i := 137) (by decide +kernel)) rfl
theorem wt_496 : Cond.instanceMethod yX11_lasts ∈ gL := gm_3 (List.mem_of_getElem? (i := 138) (by decide +kernel)) rfl
theorem wt_497 : Cond.selects "TwoOnACable" yX11_lasts yX11_lasts ∈ gL := gm_3 (List.mem_of_getElem? (i := 139) (by decide +kernel)) rfl
theorem wt_498 : Cond.code yX11_lasts prog_1_method_18_code 5 (some FieldType.long) ∈ gL := gm_3 (List.mem_of_getElem? (i := 140) (by decide +kernel)) rfl
theorem wt_499 : Cond.constantLong "TwoOnACable" 228 (-102 : Int64) ∈ gL := gm_3 (List.mem_of_getElem? (i := 141) (by decide +kernel)) rfl
theorem wt_500 : Cond.constantLong "TwoOnACable" 230 (-103 : Int64) ∈ gL := gm_3 (List.mem_of_getElem? (i := 142) (by decide +kernel)) rfl
theorem wt_501 : Cond.methodLink "TwoOnACable" 232 yX0_strainNow ∈ gL := gm_3 (List.mem_of_getElem? (i := 143) (by decide +kernel)) rfl
theorem wt_502 : Cond.methodLink "TwoOnACable" 236 yX0_breakingHundredths ∈ gL := gm_3 (List.mem_of_getElem? (i := 144) (by decide +kernel)) rfl
theorem wt_503 : Cond.instanceMethod yX0_breakingHundredths ∈ gL := gm_3 (List.mem_of_getElem? (i := 145) (by decide +kernel)) rfl
theorem wt_504 : Cond.selects "TwoOnACable$Cable" yX0_breakingHundredths yX0_breakingHundredths ∈ gL := gm_3 (List.mem_of_getElem? (i := 146) (by decide +kernel)) rfl
theorem wt_505 : Cond.code yX0_breakingHundredths prog_2_method_16_code 2 (some FieldType.int) ∈ gL := gm_3 (List.mem_of_getElem? (i := 147) (by decide +kernel)) rfl
theorem wt_506 : Cond.methodLink "TwoOnACable$Cable" 78 yJ9_min_7cf53 ∈ gL := gm_3 (List.mem_of_getElem? (i := 148) (by decide +kernel)) rfl
theorem wt_507 : Cond.methodLink "TwoOnACable" 239 yX11_reduced ∈ gL := gm_3 (List.mem_of_getElem? (i := 149) (by decide +kernel)) rfl
theorem wt_508 : Cond.static yX11_reduced ∈ gL := gm_3 (List.mem_of_getElem? (i := 150) (by decide +kernel)) rfl
theorem wt_509 : Cond.code yX11_reduced prog_1_method_37_code 3 (some FieldType.int) ∈ gL := gm_3 (List.mem_of_getElem? (i := 151) (by decide +kernel)) rfl
theorem wt_510 : Cond.methodLink "TwoOnACable" 242 yX11_power ∈ gL := gm_3 (List.mem_of_getElem? (i := 152) (by decide +kernel)) rfl
theorem wt_511 : Cond.static yX11_power ∈ gL := gm_3 (List.mem_of_getElem? (i := 153) (by decide +kernel)) rfl
theorem wt_512 : Cond.code yX11_power prog_1_method_38_code 5 (some FieldType.long) ∈ gL := gm_3 (List.mem_of_getElem? (i := 154) (by decide +kernel)) rfl
theorem wt_513 : Cond.methodLink "TwoOnACableLaw" 89 yX11_whirls ∈ gL := gm_3 (List.mem_of_getElem? (i := 155) (by decide +kernel)) rfl
theorem wt_514 : Cond.instanceMethod yX11_whirls ∈ gL := gm_3 (List.mem_of_getElem? (i := 156) (by decide +kernel)) rfl
theorem wt_515 : Cond.selects "TwoOnACable" yX11_whirls yX11_whirls ∈ gL := gm_3 (List.mem_of_getElem? (i := 157) (by decide +kernel)) rfl
theorem wt_516 : Cond.code yX11_whirls prog_1_method_19_code 5 (some FieldType.int) ∈ gL := gm_3 (List.mem_of_getElem? (i := 158) (by decide +kernel)) rfl
theorem wt_517 : Cond.methodLink "TwoOnACable" 246 yX11_tryHours ∈ gL := gm_3 (List.mem_of_getElem? (i := 159) (by decide +kernel)) rfl
theorem wt_518 : Cond.instanceMethod yX11_tryHours ∈ gL := gm_3 (List.mem_of_getElem? (i := 161) (by decide +kernel)) rfl
theorem wt_519 : Cond.code yX11_tryHours prog_1_method_27_code 6 (some FieldType.int) ∈ gL := gm_3 (List.mem_of_getElem? (i := 162) (by decide +kernel)) rfl
theorem wt_520 : Cond.methodLink "TwoOnACable" 250 yX0_becomeLike ∈ gL := gm_3 (List.mem_of_getElem? (i := 163) (by decide +kernel)) rfl
theorem wt_521 : Cond.instanceMethod yX0_becomeLike ∈ gL := gm_3 (List.mem_of_getElem? (i := 164) (by decide +kernel)) rfl
theorem wt_522 : Cond.selects "TwoOnACable$Cable" yX0_becomeLike yX0_becomeLike ∈ gL := gm_3 (List.mem_of_getElem? (i := 165) (by decide +kernel)) rfl
theorem wt_523 : Cond.code yX0_becomeLike prog_2_method_3_code 2 (none : Option FieldType) ∈ gL := gm_3 (List.mem_of_getElem? (i := 166) (by decide +kernel)) rfl
theorem wt_524 : Cond.methodLink "TwoOnACable" 307 yX11_nextSeed ∈ gL := gm_3 (List.mem_of_getElem? (i := 167) (by decide +kernel)) rfl
theorem wt_525 : Cond.static yX11_nextSeed ∈ gL := gm_3 (List.mem_of_getElem? (i := 168) (by decide +kernel)) rfl
theorem wt_526 : Cond.code yX11_nextSeed prog_1_method_28_code 1 (some FieldType.int) ∈ gL := gm_3 (List.mem_of_getElem? (i := 169) (by decide +kernel)) rfl
theorem wt_527 : Cond.constantLong "TwoOnACable" 314 (1103515245 : Int64) ∈ gL := gm_3 (List.mem_of_getElem? (i := 170) (by decide +kernel)) rfl
theorem wt_528 : Cond.constantLong "TwoOnACable" 316 (12345 : Int64) ∈ gL := gm_3 (List.mem_of_getElem? (i := 171) (by decide +kernel)) rfl
theorem wt_529 : Cond.constantLong "TwoOnACable" 318 (2147483648 : Int64) ∈ gL := gm_3 (List.mem_of_getElem? (i := 172) (by decide +kernel)) rfl
theorem wt_530 : Cond.constant "TwoOnACable" 310 (65536 : Int32) ∈ gL := gm_3 (List.mem_of_getElem? (i := 173) (by decide +kernel)) rfl
theorem wt_531 : Cond.methodLink "TwoOnACable" 311 yX11_windingOf ∈ gL := gm_3 (List.mem_of_getElem? (i := 174) (by decide +kernel)) rfl
theorem wt_532 : Cond.methodLink "TwoOnACableLaw" 93 yX11_image ∈ gL := gm_3 (List.mem_of_getElem? (i := 175) (by decide +kernel)) rfl
theorem wt_533 : Cond.instanceMethod yX11_image ∈ gL := gm_3 (List.mem_of_getElem? (i := 176) (by decide +kernel)) rfl
theorem wt_534 : Cond.selects "TwoOnACable" yX11_image yX11_image ∈ gL := gm_3 (List.mem_of_getElem? (i := 177) (by decide +kernel)) rfl
theorem wt_535 : Cond.code yX11_image prog_1_method_20_code 1 (some FieldType.int) ∈ gL := gm_3 (List.mem_of_getElem? (i := 178) (by decide +kernel)) rfl
theorem wt_536 : Cond.methodLink "TwoOnACable" 254 yX6_keepPlaces ∈ gL := gm_3 (List.mem_of_getElem? (i := 179) (by decide +kernel)) rfl
theorem wt_537 : Cond.instanceMethod yX6_keepPlaces ∈ gL := gm_3 (List.mem_of_getElem? (i := 180) (by decide +kernel)) rfl
theorem wt_538 : Cond.selects "TwoOnACable$Load" yX6_keepPlaces yX6_keepPlaces ∈ gL := gm_3 (List.mem_of_getElem? (i := 181) (by decide +kernel)) rfl
theorem wt_539 : Cond.code yX6_keepPlaces prog_8_method_6_code 3 (none : Option FieldType) ∈ gL := gm_3 (List.mem_of_getElem? (i := 182) (by decide +kernel)) rfl
theorem wt_540 : Cond.methodLink "TwoOnACableLaw" 97 yX11_restore ∈ gL := gm_3 (List.mem_of_getElem? (i := 183) (by decide +kernel)) rfl
theorem wt_541 : Cond.instanceMethod yX11_restore ∈ gL := gm_3 (List.mem_of_getElem? (i := 184) (by decide +kernel)) rfl
theorem wt_542 : Cond.selects "TwoOnACable" yX11_restore yX11_restore ∈ gL := gm_3 (List.mem_of_getElem? (i := 185) (by decide +kernel)) rfl
theorem wt_543 : Cond.code yX11_restore prog_1_method_21_code 1 (some FieldType.int) ∈ gL := gm_3 (List.mem_of_getElem? (i := 186) (by decide +kernel)) rfl
theorem wt_544 : Cond.methodLink "TwoOnACable" 257 yX6_goBack ∈ gL := gm_3 (List.mem_of_getElem? (i := 187) (by decide +kernel)) rfl
theorem wt_545 : Cond.instanceMethod yX6_goBack ∈ gL := gm_3 (List.mem_of_getElem? (i := 188) (by decide +kernel)) rfl
theorem wt_546 : Cond.selects "TwoOnACable$Load" yX6_goBack yX6_goBack ∈ gL := gm_3 (List.mem_of_getElem? (i := 189) (by decide +kernel)) rfl
theorem wt_547 : Cond.code yX6_goBack prog_8_method_7_code 3 (none : Option FieldType) ∈ gL := gm_3 (List.mem_of_getElem? (i := 190) (by decide +kernel)) rfl
theorem wt_548 : Cond.methodLink "TwoOnACable$Load" 41 yX6_cutTo ∈ gL := gm_3 (List.mem_of_getElem? (i := 191) (by decide +kernel)) rfl
theorem wt_549 : Cond.methodLink "TwoOnACableLaw" 101 yX11_count ∈ gL := gm_3 (List.mem_of_getElem? (i := 192) (by decide +kernel)) rfl
theorem wt_550 : Cond.instanceMethod yX11_count ∈ gL := gm_3 (List.mem_of_getElem? (i := 193) (by decide +kernel)) rfl
theorem wt_551 : Cond.selects "TwoOnACable" yX11_count yX11_count ∈ gL := gm_3 (List.mem_of_getElem? (i := 194) (by decide +kernel)) rfl
theorem wt_552 : Cond.code yX11_count prog_1_method_22_code 2 (some FieldType.int) ∈ gL := gm_3 (List.mem_of_getElem? (i := 195) (by decide +kernel)) rfl
theorem wt_553 : Cond.methodLink "TwoOnACableLaw" 105 yX11_digest ∈ gL := gm_3 (List.mem_of_getElem? (i := 196) (by decide +kernel)) rfl
theorem wt_554 : Cond.instanceMethod yX11_digest ∈ gL := gm_3 (List.mem_of_getElem? (i := 197) (by decide +kernel)) rfl
theorem wt_555 : Cond.selects "TwoOnACable" yX11_digest yX11_digest ∈ gL := gm_3 (List.mem_of_getElem? (i := 198) (by decide +kernel)) rfl
theorem wt_556 : Cond.code yX11_digest prog_1_method_23_code 4 (some FieldType.long) ∈ gL := gm_3 (List.mem_of_getElem? (i := 199) (by decide +kernel)) rfl
theorem wt_557 : Cond.constantLong "TwoOnACable" 268 (683 : Int64) ∈ gL := gm_3 (List.mem_of_getElem? (i := 200) (by decide +kernel)) rfl
theorem wt_558 : Cond.methodLink "TwoOnACable" 270 yX11_withCabins ∈ gL := gm_3 (List.mem_of_getElem? (i := 201) (by decide +kernel)) rfl
theorem wt_559 : Cond.instanceMethod yX11_withCabins ∈ gL := gm_3 (List.mem_of_getElem? (i := 203) (by decide +kernel)) rfl
theorem wt_560 : Cond.code yX11_withCabins prog_1_method_24_code 7 (some FieldType.long) ∈ gL := gm_3 (List.mem_of_getElem? (i := 204) (by decide +kernel)) rfl
theorem wt_561 : Cond.methodLink "TwoOnACable" 292 yX11_cabin ∈ gL := gm_3 (List.mem_of_getElem? (i := 205) (by decide +kernel)) rfl
theorem wt_562 : Cond.methodLink "TwoOnACable" 283 yX11_mixed ∈ gL := gm_3 (List.mem_of_getElem? (i := 206) (by decide +kernel)) rfl
theorem wt_563 : Cond.static yX11_mixed ∈ gL := gm_3 (List.mem_of_getElem? (i := 207) (by decide +kernel)) rfl
theorem wt_564 : Cond.code yX11_mixed prog_1_method_29_code 4 (some FieldType.long) ∈ gL := gm_3 (List.mem_of_getElem? (i := 208) (by decide +kernel)) rfl
theorem wt_565 : Cond.constantLong "TwoOnACable" 320 (31 : Int64) ∈ gL := gm_3 (List.mem_of_getElem? (i := 209) (by decide +kernel)) rfl
theorem wt_566 : Cond.methodLink "TwoOnACable" 274 yX11_withThings ∈ gL := gm_3 (List.mem_of_getElem? (i := 210) (by decide +kernel)) rfl
theorem wt_567 : Cond.instanceMethod yX11_withThings ∈ gL := gm_3 (List.mem_of_getElem? (i := 212) (by decide +kernel)) rfl
theorem wt_568 : Cond.code yX11_withThings prog_1_method_25_code 7 (some FieldType.long) ∈ gL := gm_3 (List.mem_of_getElem? (i := 213) (by decide +kernel)) rfl
theorem wt_569 : Cond.methodLink "TwoOnACable" 295 yX11_about ∈ gL := gm_3 (List.mem_of_getElem? (i := 214) (by decide +kernel)) rfl
theorem wt_570 : Cond.methodLink "TwoOnACable" 277 yX11_withOutlook ∈ gL := gm_3 (List.mem_of_getElem? (i := 215) (by decide +kernel)) rfl
theorem wt_571 : Cond.instanceMethod yX11_withOutlook ∈ gL := gm_3 (List.mem_of_getElem? (i := 217) (by decide +kernel)) rfl
theorem wt_572 : Cond.code yX11_withOutlook prog_1_method_26_code 6 (some FieldType.long) ∈ gL := gm_3 (List.mem_of_getElem? (i := 218) (by decide +kernel)) rfl
theorem wt_573 : Cond.methodLink "TwoOnACable" 298 yX11_even ∈ gL := gm_3 (List.mem_of_getElem? (i := 219) (by decide +kernel)) rfl
theorem wt_574 : Cond.methodLink "TwoOnACable" 301 yX11_soonest ∈ gL := gm_3 (List.mem_of_getElem? (i := 220) (by decide +kernel)) rfl
theorem wt_575 : Cond.methodLink "TwoOnACable" 304 yX11_lasts ∈ gL := gm_3 (List.mem_of_getElem? (i := 221) (by decide +kernel)) rfl
theorem wt_576 : Cond.methodLink "TwoOnACable" 280 yX11_fits ∈ gL := gm_3 (List.mem_of_getElem? (i := 222) (by decide +kernel)) rfl
theorem wt_577 : Cond.methodLink "TwoOnACable" 287 yX7_at ∈ gL := gm_3 (List.mem_of_getElem? (i := 223) (by decide +kernel)) rfl
theorem wt_578 : Cond.methodLink "TwoOnACable" 289 yX11_count ∈ gL := gm_3 (List.mem_of_getElem? (i := 224) (by decide +kernel)) rfl
theorem wt_579 : Cond.classLink "TwoOnACableLaw" 10 "TwoOnACableModel" ∈ gL := gm_3 (List.mem_of_getElem? (i := 225) (by decide +kernel)) rfl
theorem wt_580 : Cond.instantiable "TwoOnACableModel" 40 ∈ gL := gm_3 (List.mem_of_getElem? (i := 226) (by decide +kernel)) rfl
theorem wt_581 : Cond.methodLink "TwoOnACableLaw" 12 yX12_init ∈ gL := gm_3 (List.mem_of_getElem? (i := 227) (by decide +kernel)) rfl
theorem wt_582 : Cond.instanceMethod yX12_init ∈ gL := gm_3 (List.mem_of_getElem? (i := 228) (by decide +kernel)) rfl
theorem wt_583 : Cond.code yX12_init prog_14_method_1_code 1 (none : Option FieldType) ∈ gL := gm_3 (List.mem_of_getElem? (i := 229) (by decide +kernel)) rfl
theorem wt_584 : Cond.methodLink "TwoOnACableModel" 1 objectInit ∈ gL := gm_3 (List.mem_of_getElem? (i := 230) (by decide +kernel)) rfl
theorem wt_585 : Cond.fieldLink "TwoOnACableModel" 95 "TwoOnACableModel" "isWire" "Z" ∈ gL := gm_3 (List.mem_of_getElem? (i := 231) (by decide +kernel)) rfl
theorem wt_586 : Cond.fieldLink "TwoOnACableModel" 98 "TwoOnACableModel" "wires" "I" ∈ gL := gm_3 (List.mem_of_getElem? (i := 232) (by decide +kernel)) rfl
theorem wt_587 : Cond.fieldLink "TwoOnACableModel" 80 "TwoOnACableModel" "length" "I" ∈ gL := gm_3 (List.mem_of_getElem? (i := 233) (by decide +kernel)) rfl
theorem wt_588 : Cond.fieldLink "TwoOnACableModel" 83 "TwoOnACableModel" "spin" "I" ∈ gL := gm_3 (List.mem_of_getElem? (i := 234) (by decide +kernel)) rfl
theorem wt_589 : Cond.fieldLink "TwoOnACableModel" 86 "TwoOnACableModel" "bears" "I" ∈ gL := gm_3 (List.mem_of_getElem? (i := 235) (by decide +kernel)) rfl
theorem wt_590 : Cond.fieldLink "TwoOnACableModel" 89 "TwoOnACableModel" "isOld" "Z" ∈ gL := gm_3 (List.mem_of_getElem? (i := 236) (by decide +kernel)) rfl
theorem wt_591 : Cond.fieldLink "TwoOnACableModel" 92 "TwoOnACableModel" "isBroken" "Z" ∈ gL := gm_3 (List.mem_of_getElem? (i := 237) (by decide +kernel)) rfl
theorem wt_592 : Cond.fieldLink "TwoOnACableModel" 101 "TwoOnACableModel" "place" "I" ∈ gL := gm_3 (List.mem_of_getElem? (i := 238) (by decide +kernel)) rfl
theorem wt_593 : Cond.fieldLink "TwoOnACableModel" 104 "TwoOnACableModel" "hours" "I" ∈ gL := gm_3 (List.mem_of_getElem? (i := 239) (by decide +kernel)) rfl
theorem wt_594 : Cond.fieldLink "TwoOnACableModel" 107 "TwoOnACableModel" "things" "I" ∈ gL := gm_4 (List.mem_of_getElem? (i := 0) (by decide +kernel)) rfl
theorem wt_595 : Cond.fieldLink "TwoOnACableModel" 7 "TwoOnACableModel" "kindOf" "[I" ∈ gL := gm_4 (List.mem_of_getElem? (i := 1) (by decide +kernel)) rfl
theorem wt_596 : Cond.fieldLink "TwoOnACableModel" 13 "TwoOnACableModel" "weightOf" "[I" ∈ gL := gm_4 (List.mem_of_getElem? (i := 2) (by decide +kernel)) rfl
theorem wt_597 : Cond.fieldLink "TwoOnACableModel" 16 "TwoOnACableModel" "cabinOf" "[I" ∈ gL := gm_4 (List.mem_of_getElem? (i := 3) (by decide +kernel)) rfl
theorem wt_598 : Cond.fieldLink "TwoOnACableModel" 19 "TwoOnACableModel" "cameOf" "[I" ∈ gL := gm_4 (List.mem_of_getElem? (i := 4) (by decide +kernel)) rfl
theorem wt_599 : Cond.fieldLink "TwoOnACableModel" 110 "TwoOnACableModel" "told" "I" ∈ gL := gm_4 (List.mem_of_getElem? (i := 5) (by decide +kernel)) rfl
theorem wt_600 : Cond.fieldLink "TwoOnACableModel" 22 "TwoOnACableModel" "toldLength" "[I" ∈ gL := gm_4 (List.mem_of_getElem? (i := 6) (by decide +kernel)) rfl
theorem wt_601 : Cond.fieldLink "TwoOnACableModel" 25 "TwoOnACableModel" "toldTurns" "[I" ∈ gL := gm_4 (List.mem_of_getElem? (i := 7) (by decide +kernel)) rfl
theorem wt_602 : Cond.fieldLink "TwoOnACableModel" 46 "TwoOnACableModel" "pageLength" "I" ∈ gL := gm_4 (List.mem_of_getElem? (i := 8) (by decide +kernel)) rfl
theorem wt_603 : Cond.fieldLink "TwoOnACableModel" 28 "TwoOnACableModel" "page" "[B" ∈ gL := gm_4 (List.mem_of_getElem? (i := 9) (by decide +kernel)) rfl
theorem wt_604 : Cond.fieldLink "TwoOnACableModel" 71 "TwoOnACableModel" "faultAt" "I" ∈ gL := gm_4 (List.mem_of_getElem? (i := 10) (by decide +kernel)) rfl
theorem wt_605 : Cond.fieldLink "TwoOnACableModel" 74 "TwoOnACableModel" "isWhole" "Z" ∈ gL := gm_4 (List.mem_of_getElem? (i := 11) (by decide +kernel)) rfl
theorem wt_606 : Cond.fieldLink "TwoOnACableModel" 50 "TwoOnACableModel" "newLength" "I" ∈ gL := gm_4 (List.mem_of_getElem? (i := 12) (by decide +kernel)) rfl
theorem wt_607 : Cond.fieldLink "TwoOnACableModel" 57 "TwoOnACableModel" "newTurns" "I" ∈ gL := gm_4 (List.mem_of_getElem? (i := 13) (by decide +kernel)) rfl
theorem wt_608 : Cond.fieldLink "TwoOnACableModel" 60 "TwoOnACableModel" "newBears" "I" ∈ gL := gm_4 (List.mem_of_getElem? (i := 14) (by decide +kernel)) rfl
theorem wt_609 : Cond.fieldLink "TwoOnACableModel" 63 "TwoOnACableModel" "newOld" "Z" ∈ gL := gm_4 (List.mem_of_getElem? (i := 15) (by decide +kernel)) rfl
theorem wt_610 : Cond.fieldLink "TwoOnACableModel" 161 "TwoOnACableModel" "evenApart" "I" ∈ gL := gm_4 (List.mem_of_getElem? (i := 16) (by decide +kernel)) rfl
theorem wt_611 : Cond.fieldLink "TwoOnACableModel" 164 "TwoOnACableModel" "evenSet" "I" ∈ gL := gm_4 (List.mem_of_getElem? (i := 17) (by decide +kernel)) rfl
theorem wt_612 : Cond.fieldLink "TwoOnACableModel" 32 "TwoOnACableModel" "firstTo" "[I" ∈ gL := gm_4 (List.mem_of_getElem? (i := 18) (by decide +kernel)) rfl
theorem wt_613 : Cond.fieldLink "TwoOnACableModel" 35 "TwoOnACableModel" "firstThen" "[I" ∈ gL := gm_4 (List.mem_of_getElem? (i := 19) (by decide +kernel)) rfl
theorem wt_614 : Cond.fieldLink "TwoOnACableModel" 218 "TwoOnACableModel" "seedNow" "J" ∈ gL := gm_4 (List.mem_of_getElem? (i := 20) (by decide +kernel)) rfl
theorem wt_615 : Cond.fieldLink "TwoOnACableModel" 234 "TwoOnACableModel" "isKept" "Z" ∈ gL := gm_4 (List.mem_of_getElem? (i := 21) (by decide +kernel)) rfl
theorem wt_616 : Cond.fieldLink "TwoOnACableModel" 237 "TwoOnACableModel" "keptWire" "I" ∈ gL := gm_4 (List.mem_of_getElem? (i := 22) (by decide +kernel)) rfl
theorem wt_617 : Cond.fieldLink "TwoOnACableModel" 240 "TwoOnACableModel" "keptLength" "I" ∈ gL := gm_4 (List.mem_of_getElem? (i := 23) (by decide +kernel)) rfl
theorem wt_618 : Cond.fieldLink "TwoOnACableModel" 243 "TwoOnACableModel" "keptPlace" "I" ∈ gL := gm_4 (List.mem_of_getElem? (i := 24) (by decide +kernel)) rfl
theorem wt_619 : Cond.fieldLink "TwoOnACableModel" 246 "TwoOnACableModel" "keptHours" "I" ∈ gL := gm_4 (List.mem_of_getElem? (i := 25) (by decide +kernel)) rfl
theorem wt_620 : Cond.fieldLink "TwoOnACableModel" 249 "TwoOnACableModel" "keptBroken" "Z" ∈ gL := gm_4 (List.mem_of_getElem? (i := 26) (by decide +kernel)) rfl
theorem wt_621 : Cond.fieldLink "TwoOnACableModel" 252 "TwoOnACableModel" "keptThings" "I" ∈ gL := gm_4 (List.mem_of_getElem? (i := 27) (by decide +kernel)) rfl
theorem wt_622 : Cond.fieldLink "TwoOnACableModel" 38 "TwoOnACableModel" "keptCabin" "[I" ∈ gL := gm_4 (List.mem_of_getElem? (i := 28) (by decide +kernel)) rfl
theorem wt_623 : Cond.fieldLink "TwoOnACableModel" 41 "TwoOnACableModel" "keptCame" "[I" ∈ gL := gm_4 (List.mem_of_getElem? (i := 29) (by decide +kernel)) rfl
theorem wt_624 : Cond.fieldLink "TwoOnACableModel" 264 "TwoOnACableModel" "h" "J" ∈ gL := gm_4 (List.mem_of_getElem? (i := 30) (by decide +kernel)) rfl
theorem wt_625 : Cond.arrayClass FieldType.byte ∈ gL := gm_4 (List.mem_of_getElem? (i := 112) (by decide +kernel)) rfl
theorem wt_626 : Cond.methodLink "TwoOnACableLaw" 19 yX12_letters ∈ gL := gm_4 (List.mem_of_getElem? (i := 113) (by decide +kernel)) rfl
theorem wt_627 : Cond.instanceMethod yX12_letters ∈ gL := gm_4 (List.mem_of_getElem? (i := 114) (by decide +kernel)) rfl
theorem wt_628 : Cond.selects "TwoOnACableModel" yX12_letters yX12_letters ∈ gL := gm_4 (List.mem_of_getElem? (i := 115) (by decide +kernel)) rfl
theorem wt_629 : Cond.code yX12_letters prog_14_method_5_code 7 (some FieldType.int) ∈ gL := gm_4 (List.mem_of_getElem? (i := 116) (by decide +kernel)) rfl
theorem wt_630 : Cond.constantLong "TwoOnACableModel" 44 (255 : Int64) ∈ gL := gm_4 (List.mem_of_getElem? (i := 117) (by decide +kernel)) rfl
theorem wt_631 : Cond.methodLink "TwoOnACableLaw" 24 yX12_blank ∈ gL := gm_4 (List.mem_of_getElem? (i := 118) (by decide +kernel)) rfl
theorem wt_632 : Cond.instanceMethod yX12_blank ∈ gL := gm_4 (List.mem_of_getElem? (i := 119) (by decide +kernel)) rfl
theorem wt_633 : Cond.selects "TwoOnACableModel" yX12_blank yX12_blank ∈ gL := gm_4 (List.mem_of_getElem? (i := 120) (by decide +kernel)) rfl
theorem wt_634 : Cond.code yX12_blank prog_14_method_6_code 2 (some FieldType.int) ∈ gL := gm_4 (List.mem_of_getElem? (i := 121) (by decide +kernel)) rfl
theorem wt_635 : Cond.methodLink "TwoOnACableLaw" 28 yX12_fault ∈ gL := gm_4 (List.mem_of_getElem? (i := 122) (by decide +kernel)) rfl
theorem wt_636 : Cond.instanceMethod yX12_fault ∈ gL := gm_4 (List.mem_of_getElem? (i := 123) (by decide +kernel)) rfl
theorem wt_637 : Cond.selects "TwoOnACableModel" yX12_fault yX12_fault ∈ gL := gm_4 (List.mem_of_getElem? (i := 124) (by decide +kernel)) rfl
theorem wt_638 : Cond.code yX12_fault prog_14_method_9_code 1 (some FieldType.int) ∈ gL := gm_4 (List.mem_of_getElem? (i := 125) (by decide +kernel)) rfl
theorem wt_639 : Cond.methodLink "TwoOnACableModel" 77 yX12_readWire ∈ gL := gm_4 (List.mem_of_getElem? (i := 126) (by decide +kernel)) rfl
theorem wt_640 : Cond.instanceMethod yX12_readWire ∈ gL := gm_4 (List.mem_of_getElem? (i := 128) (by decide +kernel)) rfl
theorem wt_641 : Cond.code yX12_readWire prog_14_method_8_code 2 (none : Option FieldType) ∈ gL := gm_4 (List.mem_of_getElem? (i := 129) (by decide +kernel)) rfl
theorem wt_642 : Cond.methodLink "TwoOnACableModel" 67 yX12_takes ∈ gL := gm_4 (List.mem_of_getElem? (i := 130) (by decide +kernel)) rfl
theorem wt_643 : Cond.instanceMethod yX12_takes ∈ gL := gm_4 (List.mem_of_getElem? (i := 132) (by decide +kernel)) rfl
theorem wt_644 : Cond.code yX12_takes prog_14_method_7_code 4 (some FieldType.boolean) ∈ gL := gm_4 (List.mem_of_getElem? (i := 133) (by decide +kernel)) rfl
theorem wt_645 : Cond.methodLink "TwoOnACableModel" 53 yX12_within ∈ gL := gm_4 (List.mem_of_getElem? (i := 134) (by decide +kernel)) rfl
theorem wt_646 : Cond.static yX12_within ∈ gL := gm_4 (List.mem_of_getElem? (i := 135) (by decide +kernel)) rfl
theorem wt_647 : Cond.code yX12_within prog_14_method_3_code 3 (some FieldType.boolean) ∈ gL := gm_4 (List.mem_of_getElem? (i := 136) (by decide +kernel)) rfl
theorem wt_648 : Cond.methodLink "TwoOnACableLaw" 32 yX12_wire ∈ gL := gm_4 (List.mem_of_getElem? (i := 137) (by decide +kernel)) rfl
theorem wt_649 : Cond.instanceMethod yX12_wire ∈ gL := gm_4 (List.mem_of_getElem? (i := 138) (by decide +kernel)) rfl
theorem wt_650 : Cond.selects "TwoOnACableModel" yX12_wire yX12_wire ∈ gL := gm_4 (List.mem_of_getElem? (i := 139) (by decide +kernel)) rfl
theorem wt_651 : Cond.code yX12_wire prog_14_method_10_code 1 (some FieldType.int) ∈ gL := gm_4 (List.mem_of_getElem? (i := 140) (by decide +kernel)) rfl
theorem wt_652 : Cond.methodLink "TwoOnACableLaw" 37 yX12_cabin ∈ gL := gm_4 (List.mem_of_getElem? (i := 141) (by decide +kernel)) rfl
theorem wt_653 : Cond.instanceMethod yX12_cabin ∈ gL := gm_4 (List.mem_of_getElem? (i := 142) (by decide +kernel)) rfl
theorem wt_654 : Cond.selects "TwoOnACableModel" yX12_cabin yX12_cabin ∈ gL := gm_4 (List.mem_of_getElem? (i := 143) (by decide +kernel)) rfl
theorem wt_655 : Cond.code yX12_cabin prog_14_method_19_code 3 (some FieldType.int) ∈ gL := gm_4 (List.mem_of_getElem? (i := 144) (by decide +kernel)) rfl
theorem wt_656 : Cond.methodLink "TwoOnACableModel" 138 yX12_cabinNow ∈ gL := gm_4 (List.mem_of_getElem? (i := 145) (by decide +kernel)) rfl
theorem wt_657 : Cond.instanceMethod yX12_cabinNow ∈ gL := gm_4 (List.mem_of_getElem? (i := 147) (by decide +kernel)) rfl
theorem wt_658 : Cond.code yX12_cabinNow prog_14_method_18_code 3 (some FieldType.int) ∈ gL := gm_4 (List.mem_of_getElem? (i := 148) (by decide +kernel)) rfl
theorem wt_659 : Cond.methodLink "TwoOnACableModel" 120 yX12_cabinWeighs ∈ gL := gm_4 (List.mem_of_getElem? (i := 149) (by decide +kernel)) rfl
theorem wt_660 : Cond.instanceMethod yX12_cabinWeighs ∈ gL := gm_4 (List.mem_of_getElem? (i := 151) (by decide +kernel)) rfl
theorem wt_661 : Cond.code yX12_cabinWeighs prog_14_method_12_code 7 (some FieldType.int) ∈ gL := gm_4 (List.mem_of_getElem? (i := 152) (by decide +kernel)) rfl
theorem wt_662 : Cond.methodLink "TwoOnACableModel" 113 yX12_has ∈ gL := gm_4 (List.mem_of_getElem? (i := 153) (by decide +kernel)) rfl
theorem wt_663 : Cond.static yX12_has ∈ gL := gm_4 (List.mem_of_getElem? (i := 154) (by decide +kernel)) rfl
theorem wt_664 : Cond.code yX12_has prog_14_method_4_code 2 (some FieldType.boolean) ∈ gL := gm_4 (List.mem_of_getElem? (i := 155) (by decide +kernel)) rfl
theorem wt_665 : Cond.methodLink "TwoOnACableModel" 116 yX12_weighs ∈ gL := gm_4 (List.mem_of_getElem? (i := 156) (by decide +kernel)) rfl
theorem wt_666 : Cond.instanceMethod yX12_weighs ∈ gL := gm_4 (List.mem_of_getElem? (i := 158) (by decide +kernel)) rfl
theorem wt_667 : Cond.code yX12_weighs prog_14_method_11_code 4 (some FieldType.int) ∈ gL := gm_4 (List.mem_of_getElem? (i := 159) (by decide +kernel)) rfl
theorem wt_668 : Cond.methodLink "TwoOnACableModel" 124 yX12_armBy ∈ gL := gm_4 (List.mem_of_getElem? (i := 160) (by decide +kernel)) rfl
theorem wt_669 : Cond.instanceMethod yX12_armBy ∈ gL := gm_4 (List.mem_of_getElem? (i := 162) (by decide +kernel)) rfl
theorem wt_670 : Cond.code yX12_armBy prog_14_method_14_code 8 (some FieldType.int) ∈ gL := gm_4 (List.mem_of_getElem? (i := 163) (by decide +kernel)) rfl
theorem wt_671 : Cond.methodLink "TwoOnACableModel" 132 yX12_floorBy ∈ gL := gm_4 (List.mem_of_getElem? (i := 164) (by decide +kernel)) rfl
theorem wt_672 : Cond.instanceMethod yX12_floorBy ∈ gL := gm_4 (List.mem_of_getElem? (i := 166) (by decide +kernel)) rfl
theorem wt_673 : Cond.code yX12_floorBy prog_14_method_15_code 5 (some FieldType.int) ∈ gL := gm_4 (List.mem_of_getElem? (i := 167) (by decide +kernel)) rfl
theorem wt_674 : Cond.methodLink "TwoOnACableModel" 128 yX12_turnsAt ∈ gL := gm_4 (List.mem_of_getElem? (i := 168) (by decide +kernel)) rfl
theorem wt_675 : Cond.instanceMethod yX12_turnsAt ∈ gL := gm_4 (List.mem_of_getElem? (i := 170) (by decide +kernel)) rfl
theorem wt_676 : Cond.code yX12_turnsAt prog_14_method_13_code 2 (some FieldType.int) ∈ gL := gm_4 (List.mem_of_getElem? (i := 171) (by decide +kernel)) rfl
theorem wt_677 : Cond.methodLink "TwoOnACableModel" 135 yX12_inCabin ∈ gL := gm_4 (List.mem_of_getElem? (i := 172) (by decide +kernel)) rfl
theorem wt_678 : Cond.instanceMethod yX12_inCabin ∈ gL := gm_4 (List.mem_of_getElem? (i := 174) (by decide +kernel)) rfl
theorem wt_679 : Cond.code yX12_inCabin prog_14_method_17_code 4 (some FieldType.int) ∈ gL := gm_4 (List.mem_of_getElem? (i := 175) (by decide +kernel)) rfl
theorem wt_680 : Cond.methodLink "TwoOnACableLaw" 42 yX12_thing ∈ gL := gm_4 (List.mem_of_getElem? (i := 176) (by decide +kernel)) rfl
theorem wt_681 : Cond.instanceMethod yX12_thing ∈ gL := gm_4 (List.mem_of_getElem? (i := 177) (by decide +kernel)) rfl
theorem wt_682 : Cond.selects "TwoOnACableModel" yX12_thing yX12_thing ∈ gL := gm_4 (List.mem_of_getElem? (i := 178) (by decide +kernel)) rfl
theorem wt_683 : Cond.code yX12_thing prog_14_method_21_code 4 (some FieldType.int) ∈ gL := gm_4 (List.mem_of_getElem? (i := 179) (by decide +kernel)) rfl
theorem wt_684 : Cond.methodLink "TwoOnACableLaw" 46 yX12_about ∈ gL := gm_4 (List.mem_of_getElem? (i := 180) (by decide +kernel)) rfl
theorem wt_685 : Cond.instanceMethod yX12_about ∈ gL := gm_4 (List.mem_of_getElem? (i := 181) (by decide +kernel)) rfl
theorem wt_686 : Cond.selects "TwoOnACableModel" yX12_about yX12_about ∈ gL := gm_4 (List.mem_of_getElem? (i := 182) (by decide +kernel)) rfl
theorem wt_687 : Cond.code yX12_about prog_14_method_23_code 3 (some FieldType.int) ∈ gL := gm_4 (List.mem_of_getElem? (i := 183) (by decide +kernel)) rfl
theorem wt_688 : Cond.methodLink "TwoOnACableModel" 141 yX12_isThing ∈ gL := gm_4 (List.mem_of_getElem? (i := 184) (by decide +kernel)) rfl
theorem wt_689 : Cond.instanceMethod yX12_isThing ∈ gL := gm_4 (List.mem_of_getElem? (i := 186) (by decide +kernel)) rfl
theorem wt_690 : Cond.code yX12_isThing prog_14_method_20_code 2 (some FieldType.boolean) ∈ gL := gm_4 (List.mem_of_getElem? (i := 187) (by decide +kernel)) rfl
theorem wt_691 : Cond.methodLink "TwoOnACableModel" 145 yX12_thingNow ∈ gL := gm_4 (List.mem_of_getElem? (i := 188) (by decide +kernel)) rfl
theorem wt_692 : Cond.instanceMethod yX12_thingNow ∈ gL := gm_4 (List.mem_of_getElem? (i := 190) (by decide +kernel)) rfl
theorem wt_693 : Cond.code yX12_thingNow prog_14_method_22_code 3 (some FieldType.int) ∈ gL := gm_4 (List.mem_of_getElem? (i := 191) (by decide +kernel)) rfl
theorem wt_694 : Cond.methodLink "TwoOnACableLaw" 50 yX12_as ∈ gL := gm_4 (List.mem_of_getElem? (i := 192) (by decide +kernel)) rfl
theorem wt_695 : Cond.instanceMethod yX12_as ∈ gL := gm_4 (List.mem_of_getElem? (i := 193) (by decide +kernel)) rfl
theorem wt_696 : Cond.selects "TwoOnACableModel" yX12_as yX12_as ∈ gL := gm_4 (List.mem_of_getElem? (i := 194) (by decide +kernel)) rfl
theorem wt_697 : Cond.code yX12_as prog_14_method_24_code 4 (some FieldType.int) ∈ gL := gm_4 (List.mem_of_getElem? (i := 195) (by decide +kernel)) rfl
theorem wt_698 : Cond.methodLink "TwoOnACableLaw" 55 yX12_carry ∈ gL := gm_4 (List.mem_of_getElem? (i := 196) (by decide +kernel)) rfl
theorem wt_699 : Cond.instanceMethod yX12_carry ∈ gL := gm_4 (List.mem_of_getElem? (i := 197) (by decide +kernel)) rfl
theorem wt_700 : Cond.selects "TwoOnACableModel" yX12_carry yX12_carry ∈ gL := gm_4 (List.mem_of_getElem? (i := 198) (by decide +kernel)) rfl
theorem wt_701 : Cond.code yX12_carry prog_14_method_26_code 2 (some FieldType.int) ∈ gL := gm_4 (List.mem_of_getElem? (i := 199) (by decide +kernel)) rfl
theorem wt_702 : Cond.methodLink "TwoOnACableModel" 148 yX12_mayCarry ∈ gL := gm_4 (List.mem_of_getElem? (i := 200) (by decide +kernel)) rfl
theorem wt_703 : Cond.instanceMethod yX12_mayCarry ∈ gL := gm_4 (List.mem_of_getElem? (i := 202) (by decide +kernel)) rfl
theorem wt_704 : Cond.code yX12_mayCarry prog_14_method_25_code 2 (some FieldType.boolean) ∈ gL := gm_4 (List.mem_of_getElem? (i := 203) (by decide +kernel)) rfl
theorem wt_705 : Cond.methodLink "TwoOnACableLaw" 59 yX12_hour ∈ gL := gm_4 (List.mem_of_getElem? (i := 204) (by decide +kernel)) rfl
theorem wt_706 : Cond.instanceMethod yX12_hour ∈ gL := gm_4 (List.mem_of_getElem? (i := 205) (by decide +kernel)) rfl
theorem wt_707 : Cond.selects "TwoOnACableModel" yX12_hour yX12_hour ∈ gL := gm_4 (List.mem_of_getElem? (i := 206) (by decide +kernel)) rfl
theorem wt_708 : Cond.code yX12_hour prog_14_method_30_code 2 (some FieldType.int) ∈ gL := gm_4 (List.mem_of_getElem? (i := 207) (by decide +kernel)) rfl
theorem wt_709 : Cond.methodLink "TwoOnACableModel" 154 yX12_mayBe ∈ gL := gm_4 (List.mem_of_getElem? (i := 208) (by decide +kernel)) rfl
theorem wt_710 : Cond.static yX12_mayBe ∈ gL := gm_4 (List.mem_of_getElem? (i := 209) (by decide +kernel)) rfl
theorem wt_711 : Cond.code yX12_mayBe prog_14_method_28_code 1 (some FieldType.boolean) ∈ gL := gm_4 (List.mem_of_getElem? (i := 210) (by decide +kernel)) rfl
theorem wt_712 : Cond.methodLink "TwoOnACableModel" 157 yX12_goHour ∈ gL := gm_4 (List.mem_of_getElem? (i := 211) (by decide +kernel)) rfl
theorem wt_713 : Cond.instanceMethod yX12_goHour ∈ gL := gm_4 (List.mem_of_getElem? (i := 213) (by decide +kernel)) rfl
theorem wt_714 : Cond.code yX12_goHour prog_14_method_29_code 2 (some FieldType.boolean) ∈ gL := gm_4 (List.mem_of_getElem? (i := 214) (by decide +kernel)) rfl
theorem wt_715 : Cond.methodLink "TwoOnACableModel" 151 yX12_strainAt ∈ gL := gm_4 (List.mem_of_getElem? (i := 215) (by decide +kernel)) rfl
theorem wt_716 : Cond.instanceMethod yX12_strainAt ∈ gL := gm_4 (List.mem_of_getElem? (i := 217) (by decide +kernel)) rfl
theorem wt_717 : Cond.code yX12_strainAt prog_14_method_16_code 3 (some FieldType.int) ∈ gL := gm_4 (List.mem_of_getElem? (i := 218) (by decide +kernel)) rfl
theorem wt_718 : Cond.methodLink "TwoOnACableLaw" 63 yX12_even ∈ gL := gm_4 (List.mem_of_getElem? (i := 219) (by decide +kernel)) rfl
theorem wt_719 : Cond.instanceMethod yX12_even ∈ gL := gm_4 (List.mem_of_getElem? (i := 220) (by decide +kernel)) rfl
theorem wt_720 : Cond.selects "TwoOnACableModel" yX12_even yX12_even ∈ gL := gm_4 (List.mem_of_getElem? (i := 221) (by decide +kernel)) rfl
theorem wt_721 : Cond.code yX12_even prog_14_method_34_code 2 (some FieldType.int) ∈ gL := gm_4 (List.mem_of_getElem? (i := 222) (by decide +kernel)) rfl
theorem wt_722 : Cond.methodLink "TwoOnACableModel" 173 yX12_evenNow ∈ gL := gm_4 (List.mem_of_getElem? (i := 223) (by decide +kernel)) rfl
theorem wt_723 : Cond.instanceMethod yX12_evenNow ∈ gL := gm_4 (List.mem_of_getElem? (i := 225) (by decide +kernel)) rfl
theorem wt_724 : Cond.code yX12_evenNow prog_14_method_33_code 2 (some FieldType.int) ∈ gL := gm_4 (List.mem_of_getElem? (i := 226) (by decide +kernel)) rfl
theorem wt_725 : Cond.methodLink "TwoOnACableModel" 170 yX12_layEven ∈ gL := gm_4 (List.mem_of_getElem? (i := 227) (by decide +kernel)) rfl
theorem wt_726 : Cond.instanceMethod yX12_layEven ∈ gL := gm_4 (List.mem_of_getElem? (i := 229) (by decide +kernel)) rfl
theorem wt_727 : Cond.code yX12_layEven prog_14_method_32_code 7 (none : Option FieldType) ∈ gL := gm_4 (List.mem_of_getElem? (i := 230) (by decide +kernel)) rfl
theorem wt_728 : Cond.constant "TwoOnACableModel" 160 (1073741824 : Int32) ∈ gL := gm_4 (List.mem_of_getElem? (i := 231) (by decide +kernel)) rfl
theorem wt_729 : Cond.methodLink "TwoOnACableModel" 167 yX12_sized ∈ gL := gm_4 (List.mem_of_getElem? (i := 232) (by decide +kernel)) rfl
theorem wt_730 : Cond.static yX12_sized ∈ gL := gm_4 (List.mem_of_getElem? (i := 233) (by decide +kernel)) rfl
theorem wt_731 : Cond.code yX12_sized prog_14_method_31_code 1 (some FieldType.int) ∈ gL := gm_4 (List.mem_of_getElem? (i := 234) (by decide +kernel)) rfl
theorem wt_732 : Cond.methodLink "TwoOnACableLaw" 67 yX12_soonest ∈ gL := gm_4 (List.mem_of_getElem? (i := 235) (by decide +kernel)) rfl
theorem wt_733 : Cond.instanceMethod yX12_soonest ∈ gL := gm_4 (List.mem_of_getElem? (i := 236) (by decide +kernel)) rfl
theorem wt_734 : Cond.selects "TwoOnACableModel" yX12_soonest yX12_soonest ∈ gL := gm_4 (List.mem_of_getElem? (i := 237) (by decide +kernel)) rfl
theorem wt_735 : Cond.code yX12_soonest prog_14_method_39_code 3 (some FieldType.int) ∈ gL := gm_4 (List.mem_of_getElem? (i := 238) (by decide +kernel)) rfl
theorem wt_736 : Cond.methodLink "TwoOnACableModel" 186 yX12_soonestNow ∈ gL := gm_4 (List.mem_of_getElem? (i := 239) (by decide +kernel)) rfl
theorem wt_737 : Cond.instanceMethod yX12_soonestNow ∈ gL := gm_5 (List.mem_of_getElem? (i := 1) (by decide +kernel)) rfl
theorem wt_738 : Cond.code yX12_soonestNow prog_14_method_38_code 5 (some FieldType.int) ∈ gL := gm_5 (List.mem_of_getElem? (i := 2) (by decide +kernel)) rfl
theorem wt_739 : Cond.methodLink "TwoOnACableModel" 179 yX12_firstBy ∈ gL := gm_5 (List.mem_of_getElem? (i := 3) (by decide +kernel)) rfl
theorem wt_740 : Cond.instanceMethod yX12_firstBy ∈ gL := gm_5 (List.mem_of_getElem? (i := 5) (by decide +kernel)) rfl
theorem wt_741 : Cond.code yX12_firstBy prog_14_method_37_code 6 (some FieldType.int) ∈ gL := gm_5 (List.mem_of_getElem? (i := 6) (by decide +kernel)) rfl
theorem wt_742 : Cond.methodLink "TwoOnACableModel" 182 yX12_goLengths ∈ gL := gm_5 (List.mem_of_getElem? (i := 7) (by decide +kernel)) rfl
theorem wt_743 : Cond.instanceMethod yX12_goLengths ∈ gL := gm_5 (List.mem_of_getElem? (i := 9) (by decide +kernel)) rfl
theorem wt_744 : Cond.code yX12_goLengths prog_14_method_36_code 6 (none : Option FieldType) ∈ gL := gm_5 (List.mem_of_getElem? (i := 10) (by decide +kernel)) rfl
theorem wt_745 : Cond.methodLink "TwoOnACableModel" 176 yX12_by ∈ gL := gm_5 (List.mem_of_getElem? (i := 11) (by decide +kernel)) rfl
theorem wt_746 : Cond.static yX12_by ∈ gL := gm_5 (List.mem_of_getElem? (i := 12) (by decide +kernel)) rfl
theorem wt_747 : Cond.code yX12_by prog_14_method_35_code 1 (some FieldType.int) ∈ gL := gm_5 (List.mem_of_getElem? (i := 13) (by decide +kernel)) rfl
theorem wt_748 : Cond.methodLink "TwoOnACableLaw" 71 yX12_caught ∈ gL := gm_5 (List.mem_of_getElem? (i := 14) (by decide +kernel)) rfl
theorem wt_749 : Cond.instanceMethod yX12_caught ∈ gL := gm_5 (List.mem_of_getElem? (i := 15) (by decide +kernel)) rfl
theorem wt_750 : Cond.selects "TwoOnACableModel" yX12_caught yX12_caught ∈ gL := gm_5 (List.mem_of_getElem? (i := 16) (by decide +kernel)) rfl
theorem wt_751 : Cond.code yX12_caught prog_14_method_41_code 2 (some FieldType.int) ∈ gL := gm_5 (List.mem_of_getElem? (i := 17) (by decide +kernel)) rfl
theorem wt_752 : Cond.methodLink "TwoOnACableModel" 189 yX12_caughtNow ∈ gL := gm_5 (List.mem_of_getElem? (i := 18) (by decide +kernel)) rfl
theorem wt_753 : Cond.instanceMethod yX12_caughtNow ∈ gL := gm_5 (List.mem_of_getElem? (i := 20) (by decide +kernel)) rfl
theorem wt_754 : Cond.code yX12_caughtNow prog_14_method_40_code 7 (some FieldType.int) ∈ gL := gm_5 (List.mem_of_getElem? (i := 21) (by decide +kernel)) rfl
theorem wt_755 : Cond.methodLink "TwoOnACableLaw" 75 yX12_weighed ∈ gL := gm_5 (List.mem_of_getElem? (i := 22) (by decide +kernel)) rfl
theorem wt_756 : Cond.instanceMethod yX12_weighed ∈ gL := gm_5 (List.mem_of_getElem? (i := 23) (by decide +kernel)) rfl
theorem wt_757 : Cond.selects "TwoOnACableModel" yX12_weighed yX12_weighed ∈ gL := gm_5 (List.mem_of_getElem? (i := 24) (by decide +kernel)) rfl
theorem wt_758 : Cond.code yX12_weighed prog_14_method_42_code 3 (some FieldType.int) ∈ gL := gm_5 (List.mem_of_getElem? (i := 25) (by decide +kernel)) rfl
theorem wt_759 : Cond.methodLink "TwoOnACableModel" 192 yX12_isLength ∈ gL := gm_5 (List.mem_of_getElem? (i := 26) (by decide +kernel)) rfl
theorem wt_760 : Cond.static yX12_isLength ∈ gL := gm_5 (List.mem_of_getElem? (i := 27) (by decide +kernel)) rfl
theorem wt_761 : Cond.code yX12_isLength prog_14_method_27_code 1 (some FieldType.boolean) ∈ gL := gm_5 (List.mem_of_getElem? (i := 28) (by decide +kernel)) rfl
theorem wt_762 : Cond.methodLink "TwoOnACableLaw" 79 yX12_forget ∈ gL := gm_5 (List.mem_of_getElem? (i := 29) (by decide +kernel)) rfl
theorem wt_763 : Cond.instanceMethod yX12_forget ∈ gL := gm_5 (List.mem_of_getElem? (i := 30) (by decide +kernel)) rfl
theorem wt_764 : Cond.selects "TwoOnACableModel" yX12_forget yX12_forget ∈ gL := gm_5 (List.mem_of_getElem? (i := 31) (by decide +kernel)) rfl
theorem wt_765 : Cond.code yX12_forget prog_14_method_43_code 2 (some FieldType.int) ∈ gL := gm_5 (List.mem_of_getElem? (i := 32) (by decide +kernel)) rfl
theorem wt_766 : Cond.methodLink "TwoOnACableLaw" 83 yX12_fits ∈ gL := gm_5 (List.mem_of_getElem? (i := 33) (by decide +kernel)) rfl
theorem wt_767 : Cond.instanceMethod yX12_fits ∈ gL := gm_5 (List.mem_of_getElem? (i := 34) (by decide +kernel)) rfl
theorem wt_768 : Cond.selects "TwoOnACableModel" yX12_fits yX12_fits ∈ gL := gm_5 (List.mem_of_getElem? (i := 35) (by decide +kernel)) rfl
theorem wt_769 : Cond.code yX12_fits prog_14_method_45_code 2 (some FieldType.int) ∈ gL := gm_5 (List.mem_of_getElem? (i := 36) (by decide +kernel)) rfl
theorem wt_770 : Cond.methodLink "TwoOnACableModel" 195 yX12_fitsNow ∈ gL := gm_5 (List.mem_of_getElem? (i := 37) (by decide +kernel)) rfl
theorem wt_771 : Cond.instanceMethod yX12_fitsNow ∈ gL := gm_5 (List.mem_of_getElem? (i := 39) (by decide +kernel)) rfl
theorem wt_772 : Cond.code yX12_fitsNow prog_14_method_44_code 8 (some FieldType.int) ∈ gL := gm_5 (List.mem_of_getElem? (i := 40) (by decide +kernel)) rfl
theorem wt_773 : Cond.methodLink "TwoOnACableLaw" 88 yX12_lasts ∈ gL := gm_5 (List.mem_of_getElem? (i := 41) (by decide +kernel)) rfl
theorem wt_774 : Cond.instanceMethod yX12_lasts ∈ gL := gm_5 (List.mem_of_getElem? (i := 42) (by decide +kernel)) rfl
theorem wt_775 : Cond.selects "TwoOnACableModel" yX12_lasts yX12_lasts ∈ gL := gm_5 (List.mem_of_getElem? (i := 43) (by decide +kernel)) rfl
theorem wt_776 : Cond.code yX12_lasts prog_14_method_49_code 3 (some FieldType.long) ∈ gL := gm_5 (List.mem_of_getElem? (i := 44) (by decide +kernel)) rfl
theorem wt_777 : Cond.constantLong "TwoOnACableModel" 208 (-102 : Int64) ∈ gL := gm_5 (List.mem_of_getElem? (i := 45) (by decide +kernel)) rfl
theorem wt_778 : Cond.methodLink "TwoOnACableModel" 210 yX12_lastsNow ∈ gL := gm_5 (List.mem_of_getElem? (i := 46) (by decide +kernel)) rfl
theorem wt_779 : Cond.instanceMethod yX12_lastsNow ∈ gL := gm_5 (List.mem_of_getElem? (i := 48) (by decide +kernel)) rfl
theorem wt_780 : Cond.code yX12_lastsNow prog_14_method_48_code 8 (some FieldType.long) ∈ gL := gm_5 (List.mem_of_getElem? (i := 49) (by decide +kernel)) rfl
theorem wt_781 : Cond.methodLink "TwoOnACableModel" 200 yX12_breaksBy ∈ gL := gm_5 (List.mem_of_getElem? (i := 50) (by decide +kernel)) rfl
theorem wt_782 : Cond.instanceMethod yX12_breaksBy ∈ gL := gm_5 (List.mem_of_getElem? (i := 52) (by decide +kernel)) rfl
theorem wt_783 : Cond.code yX12_breaksBy prog_14_method_47_code 4 (some FieldType.int) ∈ gL := gm_5 (List.mem_of_getElem? (i := 53) (by decide +kernel)) rfl
theorem wt_784 : Cond.constantLong "TwoOnACableModel" 198 (100 : Int64) ∈ gL := gm_5 (List.mem_of_getElem? (i := 54) (by decide +kernel)) rfl
theorem wt_785 : Cond.methodLink "TwoOnACableModel" 204 yX12_lowest ∈ gL := gm_5 (List.mem_of_getElem? (i := 55) (by decide +kernel)) rfl
theorem wt_786 : Cond.static yX12_lowest ∈ gL := gm_5 (List.mem_of_getElem? (i := 56) (by decide +kernel)) rfl
theorem wt_787 : Cond.code yX12_lowest prog_14_method_46_code 11 (some FieldType.long) ∈ gL := gm_5 (List.mem_of_getElem? (i := 57) (by decide +kernel)) rfl
theorem wt_788 : Cond.constantLong "TwoOnACableModel" 214 (-103 : Int64) ∈ gL := gm_5 (List.mem_of_getElem? (i := 58) (by decide +kernel)) rfl
theorem wt_789 : Cond.methodLink "TwoOnACableLaw" 92 yX12_whirls ∈ gL := gm_5 (List.mem_of_getElem? (i := 59) (by decide +kernel)) rfl
theorem wt_790 : Cond.instanceMethod yX12_whirls ∈ gL := gm_5 (List.mem_of_getElem? (i := 60) (by decide +kernel)) rfl
theorem wt_791 : Cond.selects "TwoOnACableModel" yX12_whirls yX12_whirls ∈ gL := gm_5 (List.mem_of_getElem? (i := 61) (by decide +kernel)) rfl
theorem wt_792 : Cond.code yX12_whirls prog_14_method_52_code 4 (some FieldType.int) ∈ gL := gm_5 (List.mem_of_getElem? (i := 62) (by decide +kernel)) rfl
theorem wt_793 : Cond.methodLink "TwoOnACableModel" 231 yX12_whirlsNow ∈ gL := gm_5 (List.mem_of_getElem? (i := 63) (by decide +kernel)) rfl
theorem wt_794 : Cond.instanceMethod yX12_whirlsNow ∈ gL := gm_5 (List.mem_of_getElem? (i := 65) (by decide +kernel)) rfl
theorem wt_795 : Cond.code yX12_whirlsNow prog_14_method_51_code 10 (some FieldType.int) ∈ gL := gm_5 (List.mem_of_getElem? (i := 66) (by decide +kernel)) rfl
theorem wt_796 : Cond.methodLink "TwoOnACableModel" 228 yX12_draw ∈ gL := gm_5 (List.mem_of_getElem? (i := 67) (by decide +kernel)) rfl
theorem wt_797 : Cond.instanceMethod yX12_draw ∈ gL := gm_5 (List.mem_of_getElem? (i := 69) (by decide +kernel)) rfl
theorem wt_798 : Cond.code yX12_draw prog_14_method_50_code 2 (some FieldType.int) ∈ gL := gm_5 (List.mem_of_getElem? (i := 70) (by decide +kernel)) rfl
theorem wt_799 : Cond.constantLong "TwoOnACableModel" 216 (1103515245 : Int64) ∈ gL := gm_5 (List.mem_of_getElem? (i := 71) (by decide +kernel)) rfl
theorem wt_800 : Cond.constantLong "TwoOnACableModel" 222 (12345 : Int64) ∈ gL := gm_5 (List.mem_of_getElem? (i := 72) (by decide +kernel)) rfl
theorem wt_801 : Cond.constantLong "TwoOnACableModel" 224 (2147483647 : Int64) ∈ gL := gm_5 (List.mem_of_getElem? (i := 73) (by decide +kernel)) rfl
theorem wt_802 : Cond.constantLong "TwoOnACableModel" 226 (65536 : Int64) ∈ gL := gm_5 (List.mem_of_getElem? (i := 74) (by decide +kernel)) rfl
theorem wt_803 : Cond.methodLink "TwoOnACableLaw" 96 yX12_image ∈ gL := gm_5 (List.mem_of_getElem? (i := 75) (by decide +kernel)) rfl
theorem wt_804 : Cond.instanceMethod yX12_image ∈ gL := gm_5 (List.mem_of_getElem? (i := 76) (by decide +kernel)) rfl
theorem wt_805 : Cond.selects "TwoOnACableModel" yX12_image yX12_image ∈ gL := gm_5 (List.mem_of_getElem? (i := 77) (by decide +kernel)) rfl
theorem wt_806 : Cond.code yX12_image prog_14_method_53_code 2 (some FieldType.int) ∈ gL := gm_5 (List.mem_of_getElem? (i := 78) (by decide +kernel)) rfl
theorem wt_807 : Cond.methodLink "TwoOnACableLaw" 100 yX12_restore ∈ gL := gm_5 (List.mem_of_getElem? (i := 79) (by decide +kernel)) rfl
theorem wt_808 : Cond.instanceMethod yX12_restore ∈ gL := gm_5 (List.mem_of_getElem? (i := 80) (by decide +kernel)) rfl
theorem wt_809 : Cond.selects "TwoOnACableModel" yX12_restore yX12_restore ∈ gL := gm_5 (List.mem_of_getElem? (i := 81) (by decide +kernel)) rfl
theorem wt_810 : Cond.code yX12_restore prog_14_method_54_code 2 (some FieldType.int) ∈ gL := gm_5 (List.mem_of_getElem? (i := 82) (by decide +kernel)) rfl
theorem wt_811 : Cond.methodLink "TwoOnACableLaw" 104 yX12_count ∈ gL := gm_5 (List.mem_of_getElem? (i := 83) (by decide +kernel)) rfl
theorem wt_812 : Cond.instanceMethod yX12_count ∈ gL := gm_5 (List.mem_of_getElem? (i := 84) (by decide +kernel)) rfl
theorem wt_813 : Cond.selects "TwoOnACableModel" yX12_count yX12_count ∈ gL := gm_5 (List.mem_of_getElem? (i := 85) (by decide +kernel)) rfl
theorem wt_814 : Cond.code yX12_count prog_14_method_57_code 2 (some FieldType.int) ∈ gL := gm_5 (List.mem_of_getElem? (i := 86) (by decide +kernel)) rfl
theorem wt_815 : Cond.methodLink "TwoOnACableModel" 259 yX12_howMany ∈ gL := gm_5 (List.mem_of_getElem? (i := 87) (by decide +kernel)) rfl
theorem wt_816 : Cond.instanceMethod yX12_howMany ∈ gL := gm_5 (List.mem_of_getElem? (i := 89) (by decide +kernel)) rfl
theorem wt_817 : Cond.code yX12_howMany prog_14_method_56_code 2 (some FieldType.int) ∈ gL := gm_5 (List.mem_of_getElem? (i := 90) (by decide +kernel)) rfl
theorem wt_818 : Cond.methodLink "TwoOnACableModel" 255 yX12_one ∈ gL := gm_5 (List.mem_of_getElem? (i := 91) (by decide +kernel)) rfl
theorem wt_819 : Cond.static yX12_one ∈ gL := gm_5 (List.mem_of_getElem? (i := 92) (by decide +kernel)) rfl
theorem wt_820 : Cond.code yX12_one prog_14_method_55_code 1 (some FieldType.int) ∈ gL := gm_5 (List.mem_of_getElem? (i := 93) (by decide +kernel)) rfl
theorem wt_821 : Cond.methodLink "TwoOnACableLaw" 109 yX12_digest ∈ gL := gm_5 (List.mem_of_getElem? (i := 94) (by decide +kernel)) rfl
theorem wt_822 : Cond.instanceMethod yX12_digest ∈ gL := gm_5 (List.mem_of_getElem? (i := 95) (by decide +kernel)) rfl
theorem wt_823 : Cond.selects "TwoOnACableModel" yX12_digest yX12_digest ∈ gL := gm_5 (List.mem_of_getElem? (i := 96) (by decide +kernel)) rfl
theorem wt_824 : Cond.code yX12_digest prog_14_method_59_code 3 (some FieldType.long) ∈ gL := gm_5 (List.mem_of_getElem? (i := 97) (by decide +kernel)) rfl
theorem wt_825 : Cond.constantLong "TwoOnACableModel" 267 (683 : Int64) ∈ gL := gm_5 (List.mem_of_getElem? (i := 98) (by decide +kernel)) rfl
theorem wt_826 : Cond.methodLink "TwoOnACableModel" 269 yX12_mix ∈ gL := gm_5 (List.mem_of_getElem? (i := 99) (by decide +kernel)) rfl
theorem wt_827 : Cond.instanceMethod yX12_mix ∈ gL := gm_5 (List.mem_of_getElem? (i := 101) (by decide +kernel)) rfl
theorem wt_828 : Cond.code yX12_mix prog_14_method_58_code 3 (none : Option FieldType) ∈ gL := gm_5 (List.mem_of_getElem? (i := 102) (by decide +kernel)) rfl
theorem wt_829 : Cond.constantLong "TwoOnACableModel" 262 (31 : Int64) ∈ gL := gm_5 (List.mem_of_getElem? (i := 103) (by decide +kernel)) rfl
theorem wt_830 : Cond.constantLong "TwoOnACableLaw" 13 (4294967295 : Int64) ∈ gL := gm_5 (List.mem_of_getElem? (i := 104) (by decide +kernel)) rfl
theorem wt_831 : Cond.selects RX7 yX7_isWireLetter yX7_isWireLetter ∈ gL := gm_0 (by decide +kernel) rfl
theorem wt_832 : Cond.selects RX7 yX7_isBetween yX7_isBetween ∈ gL := gm_0 (by decide +kernel) rfl
theorem wt_833 : Cond.selects RX2 yX2_setUp yX2_setUp ∈ gL := gm_0 (by decide +kernel) rfl
theorem wt_834 : Cond.selects RX2 yX2_gapWith yX2_gapWith ∈ gL := gm_0 (by decide +kernel) rfl
theorem wt_835 : Cond.selects RX8 yX8_begin yX8_begin ∈ gL := gm_0 (by decide +kernel) rfl
theorem wt_836 : Cond.selects RX8 yX8_step yX8_step ∈ gL := gm_0 (by decide +kernel) rfl
theorem wt_837 : Cond.selects RX8 yX8_stepFrom yX8_stepFrom ∈ gL := gm_0 (by decide +kernel) rfl
theorem wt_838 : Cond.selects RX8 yX8_dropBroken yX8_dropBroken ∈ gL := gm_0 (by decide +kernel) rfl
theorem wt_839 : Cond.selects RX8 yX8_leastWay yX8_leastWay ∈ gL := gm_0 (by decide +kernel) rfl
theorem wt_840 : Cond.selects RX11 yX11_tryHours yX11_tryHours ∈ gL := gm_0 (by decide +kernel) rfl
theorem wt_841 : Cond.selects RX11 yX11_withCabins yX11_withCabins ∈ gL := gm_0 (by decide +kernel) rfl
theorem wt_842 : Cond.selects RX11 yX11_withThings yX11_withThings ∈ gL := gm_0 (by decide +kernel) rfl
theorem wt_843 : Cond.selects RX11 yX11_withOutlook yX11_withOutlook ∈ gL := gm_0 (by decide +kernel) rfl
theorem wt_844 : Cond.selects RX12 yX12_readWire yX12_readWire ∈ gL := gm_0 (by decide +kernel) rfl
theorem wt_845 : Cond.selects RX12 yX12_takes yX12_takes ∈ gL := gm_0 (by decide +kernel) rfl
theorem wt_846 : Cond.selects RX12 yX12_cabinNow yX12_cabinNow ∈ gL := gm_0 (by decide +kernel) rfl
theorem wt_847 : Cond.selects RX12 yX12_cabinWeighs yX12_cabinWeighs ∈ gL := gm_0 (by decide +kernel) rfl
theorem wt_848 : Cond.selects RX12 yX12_weighs yX12_weighs ∈ gL := gm_0 (by decide +kernel) rfl
theorem wt_849 : Cond.selects RX12 yX12_armBy yX12_armBy ∈ gL := gm_0 (by decide +kernel) rfl
theorem wt_850 : Cond.selects RX12 yX12_floorBy yX12_floorBy ∈ gL := gm_0 (by decide +kernel) rfl
theorem wt_851 : Cond.selects RX12 yX12_turnsAt yX12_turnsAt ∈ gL := gm_0 (by decide +kernel) rfl
theorem wt_852 : Cond.selects RX12 yX12_inCabin yX12_inCabin ∈ gL := gm_0 (by decide +kernel) rfl
theorem wt_853 : Cond.selects RX12 yX12_isThing yX12_isThing ∈ gL := gm_0 (by decide +kernel) rfl
theorem wt_854 : Cond.selects RX12 yX12_thingNow yX12_thingNow ∈ gL := gm_0 (by decide +kernel) rfl
theorem wt_855 : Cond.selects RX12 yX12_mayCarry yX12_mayCarry ∈ gL := gm_0 (by decide +kernel) rfl
theorem wt_856 : Cond.selects RX12 yX12_goHour yX12_goHour ∈ gL := gm_0 (by decide +kernel) rfl
theorem wt_857 : Cond.selects RX12 yX12_strainAt yX12_strainAt ∈ gL := gm_0 (by decide +kernel) rfl
theorem wt_858 : Cond.selects RX12 yX12_evenNow yX12_evenNow ∈ gL := gm_0 (by decide +kernel) rfl
theorem wt_859 : Cond.selects RX12 yX12_layEven yX12_layEven ∈ gL := gm_0 (by decide +kernel) rfl
theorem wt_860 : Cond.selects RX12 yX12_soonestNow yX12_soonestNow ∈ gL := gm_0 (by decide +kernel) rfl
theorem wt_861 : Cond.selects RX12 yX12_firstBy yX12_firstBy ∈ gL := gm_0 (by decide +kernel) rfl
theorem wt_862 : Cond.selects RX12 yX12_goLengths yX12_goLengths ∈ gL := gm_0 (by decide +kernel) rfl
theorem wt_863 : Cond.selects RX12 yX12_caughtNow yX12_caughtNow ∈ gL := gm_0 (by decide +kernel) rfl
theorem wt_864 : Cond.selects RX12 yX12_fitsNow yX12_fitsNow ∈ gL := gm_0 (by decide +kernel) rfl
theorem wt_865 : Cond.selects RX12 yX12_lastsNow yX12_lastsNow ∈ gL := gm_0 (by decide +kernel) rfl
theorem wt_866 : Cond.selects RX12 yX12_breaksBy yX12_breaksBy ∈ gL := gm_0 (by decide +kernel) rfl
theorem wt_867 : Cond.selects RX12 yX12_whirlsNow yX12_whirlsNow ∈ gL := gm_0 (by decide +kernel) rfl
theorem wt_868 : Cond.selects RX12 yX12_draw yX12_draw ∈ gL := gm_0 (by decide +kernel) rfl
theorem wt_869 : Cond.selects RX12 yX12_howMany yX12_howMany ∈ gL := gm_0 (by decide +kernel) rfl
theorem wt_870 : Cond.selects RX12 yX12_mix yX12_mix ∈ gL := gm_0 (by decide +kernel) rfl
theorem inX0 : ∀ w ∈ u_ws RX0 TX0 7, w ∈ gL := by decide +kernel
theorem inX1 : ∀ w ∈ u_ws RX1 TX1 3, w ∈ gL := by decide +kernel
theorem inX2 : ∀ w ∈ u_ws RX2 TX2 7, w ∈ gL := by decide +kernel
theorem inX3 : ∀ w ∈ u_ws RX3 TX3 3, w ∈ gL := by decide +kernel
theorem inX4 : ∀ w ∈ u_ws RX4 TX4 3, w ∈ gL := by decide +kernel
theorem inX5 : ∀ w ∈ u_ws RX5 TX5 3, w ∈ gL := by decide +kernel
theorem inX6 : ∀ w ∈ u_ws RX6 TX6 4, w ∈ gL := by decide +kernel
theorem inX7 : ∀ w ∈ u_ws RX7 TX7 2, w ∈ gL := by decide +kernel
theorem inX8 : ∀ w ∈ u_ws RX8 TX8 4, w ∈ gL := by decide +kernel
theorem inX9 : ∀ w ∈ u_ws RX9 TX9 3, w ∈ gL := by decide +kernel
theorem inX10 : ∀ w ∈ u_ws RX10 TX10 3, w ∈ gL := by decide +kernel
theorem inX11 : ∀ w ∈ u_ws RX11 TX11 10, w ∈ gL := by decide +kernel
theorem inX12 : ∀ w ∈ u_ws RX12 TX12 40, w ∈ gL := by decide +kernel
theorem inJ9 : ∀ w ∈ u_ws RJ9 TJ9 0, w ∈ gL := by decide +kernel
