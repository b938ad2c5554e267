-- ===== PART A: goes FIRST, ahead of the names: the tables' words, and 'selects' of the private methods out of them =====
/-- a private method of a class that the tables say can be made, by its rows of tables_1 -/
def lw_okq (q : MethodName × Nat) : Prop := (q.1.cls ≠ "java/lang/invoke/MethodHandle" ∧ q.1.cls ≠ "java/lang/invoke/VarHandle") ∧ Cond.instantiable q.1.cls q.2 ∈ tables_1 ∧ Cond.privateMethod q.1 ∈ tables_1 ∧ Cond.instanceMethod q.1 ∈ tables_1
theorem lw_p0 : lw_okq (⟨"TwoOnACable", "tryHours", "(II)I"⟩, 10) := ⟨⟨by decide +kernel, by decide +kernel⟩, List.mem_of_getElem? (i := 15) (by decide +kernel), List.mem_of_getElem? (i := 355) (by decide +kernel), List.mem_of_getElem? (i := 356) (by decide +kernel)⟩
theorem lw_p1 : lw_okq (⟨"TwoOnACable$Page", "isWireLetter", "(I)Z"⟩, 2) := ⟨⟨by decide +kernel, by decide +kernel⟩, List.mem_of_getElem? (i := 23) (by decide +kernel), List.mem_of_getElem? (i := 410) (by decide +kernel), List.mem_of_getElem? (i := 411) (by decide +kernel)⟩
theorem lw_p2 : lw_okq (⟨"TwoOnACable$Page", "isBetween", "(ICC)Z"⟩, 2) := ⟨⟨by decide +kernel, by decide +kernel⟩, List.mem_of_getElem? (i := 23) (by decide +kernel), List.mem_of_getElem? (i := 414) (by decide +kernel), List.mem_of_getElem? (i := 415) (by decide +kernel)⟩
def lw_privs_1 : List (MethodName × Nat) := [(⟨"TwoOnACable", "tryHours", "(II)I"⟩, 10), (⟨"TwoOnACable$Page", "isWireLetter", "(I)Z"⟩, 2), (⟨"TwoOnACable$Page", "isBetween", "(ICC)Z"⟩, 2)]
theorem lw_r1 : ∀ q ∈ lw_privs_1, lw_okq q := List.forall_mem_cons.mpr ⟨lw_p0, List.forall_mem_cons.mpr ⟨lw_p1, List.forall_mem_cons.mpr ⟨lw_p2, fun _ h => absurd h List.not_mem_nil⟩⟩⟩
def lw_privs : List (MethodName × Nat) := lw_privs_1
def lw_tbl : List Cond := k2_sels lw_privs ++ tables_1
theorem lw_privs_ok : ∀ q ∈ lw_privs, lw_okq q := lw_r1
def RX0 : String := "TwoOnACable$Cable"
def TX0 : u_T := fun k => match k with
  | 0 => ("TwoOnACable$Cable", "length", "I", false)
  | 1 => ("TwoOnACable$Cable", "spin", "I", false)
  | 2 => ("TwoOnACable$Cable", "bears", "I", false)
  | 3 => ("TwoOnACable$Cable", "place", "I", false)
  | 4 => ("TwoOnACable$Cable", "hours", "I", false)
  | 5 => ("TwoOnACable$Cable", "old", "Z", false)
  | _ => ("TwoOnACable$Cable", "broken", "Z", false)
def tyX0 : Nat → FieldType := fun k => match k with
  | 0 => .int
  | 1 => .int
  | 2 => .int
  | 3 => .int
  | 4 => .int
  | 5 => .boolean
  | _ => .boolean
abbrev wsX00 : List Cond := u_ws RX0 TX0 7
theorem nmX0 : ∀ a, a < 7 → ∀ b, b < 7 → a ≠ b → (TX0 a).2.1 ≠ (TX0 b).2.1 := by decide +kernel
theorem tyX0_ok : ∀ k, k < 7 → parseFieldDescriptor (TX0 k).2.2.1 = some (tyX0 k) := by decide +kernel
abbrev cX0_init : ByteArray := prog_2_method_1_code
def yX0_init : MethodName := ⟨RX0, "<init>", "()V"⟩
abbrev cX0_hang : ByteArray := prog_2_method_2_code
def yX0_hang : MethodName := ⟨RX0, "hang", "(LTwoOnACable$Page;)V"⟩
abbrev cX0_becomeLike : ByteArray := prog_2_method_3_code
def yX0_becomeLike : MethodName := ⟨RX0, "becomeLike", "(LTwoOnACable$Cable;)V"⟩
abbrev cX0_isThere : ByteArray := prog_2_method_4_code
def yX0_isThere : MethodName := ⟨RX0, "isThere", "()Z"⟩
abbrev cX0_isWhole : ByteArray := prog_2_method_5_code
def yX0_isWhole : MethodName := ⟨RX0, "isWhole", "()Z"⟩
abbrev cX0_turnsAt : ByteArray := prog_2_method_6_code
def yX0_turnsAt : MethodName := ⟨RX0, "turnsAt", "(I)I"⟩
abbrev cX0_turnsNow : ByteArray := prog_2_method_7_code
def yX0_turnsNow : MethodName := ⟨RX0, "turnsNow", "()I"⟩
abbrev cX0_armAt : ByteArray := prog_2_method_8_code
def yX0_armAt : MethodName := ⟨RX0, "armAt", "(IIII)I"⟩
abbrev cX0_floorAt : ByteArray := prog_2_method_9_code
def yX0_floorAt : MethodName := ⟨RX0, "floorAt", "(IIII)I"⟩
abbrev cX0_strainBy : ByteArray := prog_2_method_10_code
def yX0_strainBy : MethodName := ⟨RX0, "strainBy", "(II)I"⟩
abbrev cX0_armNow : ByteArray := prog_2_method_11_code
def yX0_armNow : MethodName := ⟨RX0, "armNow", "(ILTwoOnACable$Load;)I"⟩
abbrev cX0_floorNow : ByteArray := prog_2_method_12_code
def yX0_floorNow : MethodName := ⟨RX0, "floorNow", "(ILTwoOnACable$Load;)I"⟩
abbrev cX0_strainNow : ByteArray := prog_2_method_13_code
def yX0_strainNow : MethodName := ⟨RX0, "strainNow", "(LTwoOnACable$Load;)I"⟩
abbrev cX0_placeAfter : ByteArray := prog_2_method_14_code
def yX0_placeAfter : MethodName := ⟨RX0, "placeAfter", "(I)I"⟩
abbrev cX0_goHour : ByteArray := prog_2_method_15_code
def yX0_goHour : MethodName := ⟨RX0, "goHour", "(ILTwoOnACable$Load;)V"⟩
def RX1 : String := "TwoOnACable$Cook"
def TX1 : u_T := fun k => match k with
  | 0 => ("TwoOnACable$Thing", "weight", "I", true)
  | 1 => ("TwoOnACable$Thing", "came", "I", true)
  | _ => ("TwoOnACable$Thing", "place", "I", false)
def tyX1 : Nat → FieldType := fun k => match k with
  | 0 => .int
  | 1 => .int
  | _ => .int
abbrev wsX10 : List Cond := u_ws RX1 TX1 3
theorem nmX1 : ∀ a, a < 3 → ∀ b, b < 3 → a ≠ b → (TX1 a).2.1 ≠ (TX1 b).2.1 := by decide +kernel
theorem tyX1_ok : ∀ k, k < 3 → parseFieldDescriptor (TX1 k).2.2.1 = some (tyX1 k) := by decide +kernel
abbrev cX1_init : ByteArray := prog_3_method_1_code
def yX1_init : MethodName := ⟨RX1, "<init>", "(III)V"⟩
abbrev cX1_kind : ByteArray := prog_3_method_2_code
def yX1_kind : MethodName := ⟨RX1, "kind", "()I"⟩
abbrev cX1_weighs : ByteArray := prog_3_method_3_code
def yX1_weighs : MethodName := ⟨RX1, "weighs", "(I)I"⟩
def RX2 : String := "TwoOnACable$Evening"
def TX2 : u_T := fun k => match k with
  | 0 => ("TwoOnACable$Evening", "weighs", "[I", true)
  | 1 => ("TwoOnACable$Evening", "gains", "[I", true)
  | 2 => ("TwoOnACable$Evening", "apart", "I", false)
  | 3 => ("TwoOnACable$Evening", "bits", "I", false)
  | 4 => ("TwoOnACable$Evening", "staying", "I", false)
  | 5 => ("TwoOnACable$Evening", "first", "I", false)
  | _ => ("TwoOnACable$Evening", "both", "I", false)
def tyX2 : Nat → FieldType := fun k => match k with
  | 0 => .array .int
  | 1 => .array .int
  | 2 => .int
  | 3 => .int
  | 4 => .int
  | 5 => .int
  | _ => .int
abbrev wsX20 : List Cond := u_ws RX2 TX2 7
theorem nmX2 : ∀ a, a < 7 → ∀ b, b < 7 → a ≠ b → (TX2 a).2.1 ≠ (TX2 b).2.1 := by decide +kernel
theorem tyX2_ok : ∀ k, k < 7 → parseFieldDescriptor (TX2 k).2.2.1 = some (tyX2 k) := by decide +kernel
abbrev cX2_init : ByteArray := prog_4_method_1_code
def yX2_init : MethodName := ⟨RX2, "<init>", "()V"⟩
def RX3 : String := "TwoOnACable$Guest"
def TX3 : u_T := fun k => match k with
  | 0 => ("TwoOnACable$Thing", "weight", "I", true)
  | 1 => ("TwoOnACable$Thing", "came", "I", true)
  | _ => ("TwoOnACable$Thing", "place", "I", false)
def tyX3 : Nat → FieldType := fun k => match k with
  | 0 => .int
  | 1 => .int
  | _ => .int
abbrev wsX30 : List Cond := u_ws RX3 TX3 3
theorem nmX3 : ∀ a, a < 3 → ∀ b, b < 3 → a ≠ b → (TX3 a).2.1 ≠ (TX3 b).2.1 := by decide +kernel
theorem tyX3_ok : ∀ k, k < 3 → parseFieldDescriptor (TX3 k).2.2.1 = some (tyX3 k) := by decide +kernel
abbrev cX3_init : ByteArray := prog_5_method_1_code
def yX3_init : MethodName := ⟨RX3, "<init>", "(III)V"⟩
abbrev cX3_kind : ByteArray := prog_5_method_2_code
def yX3_kind : MethodName := ⟨RX3, "kind", "()I"⟩
abbrev cX3_goesAcross : ByteArray := prog_5_method_3_code
def yX3_goesAcross : MethodName := ⟨RX3, "goesAcross", "(I)Z"⟩
def RX4 : String := "TwoOnACable$Hens"
def TX4 : u_T := fun k => match k with
  | 0 => ("TwoOnACable$Thing", "weight", "I", true)
  | 1 => ("TwoOnACable$Thing", "came", "I", true)
  | _ => ("TwoOnACable$Thing", "place", "I", false)
def tyX4 : Nat → FieldType := fun k => match k with
  | 0 => .int
  | 1 => .int
  | _ => .int
abbrev wsX40 : List Cond := u_ws RX4 TX4 3
theorem nmX4 : ∀ a, a < 3 → ∀ b, b < 3 → a ≠ b → (TX4 a).2.1 ≠ (TX4 b).2.1 := by decide +kernel
theorem tyX4_ok : ∀ k, k < 3 → parseFieldDescriptor (TX4 k).2.2.1 = some (tyX4 k) := by decide +kernel
abbrev cX4_init : ByteArray := prog_6_method_1_code
def yX4_init : MethodName := ⟨RX4, "<init>", "(III)V"⟩
abbrev cX4_kind : ByteArray := prog_6_method_2_code
def yX4_kind : MethodName := ⟨RX4, "kind", "()I"⟩
abbrev cX4_weighs : ByteArray := prog_6_method_3_code
def yX4_weighs : MethodName := ⟨RX4, "weighs", "(I)I"⟩
def RX5 : String := "TwoOnACable$Live"
def TX5 : u_T := fun k => match k with
  | 0 => ("TwoOnACable$Thing", "weight", "I", true)
  | 1 => ("TwoOnACable$Thing", "came", "I", true)
  | _ => ("TwoOnACable$Thing", "place", "I", false)
def tyX5 : Nat → FieldType := fun k => match k with
  | 0 => .int
  | 1 => .int
  | _ => .int
abbrev wsX50 : List Cond := u_ws RX5 TX5 3
theorem nmX5 : ∀ a, a < 3 → ∀ b, b < 3 → a ≠ b → (TX5 a).2.1 ≠ (TX5 b).2.1 := by decide +kernel
theorem tyX5_ok : ∀ k, k < 3 → parseFieldDescriptor (TX5 k).2.2.1 = some (tyX5 k) := by decide +kernel
abbrev cX5_init : ByteArray := prog_7_method_1_code
def yX5_init : MethodName := ⟨RX5, "<init>", "(III)V"⟩
abbrev cX5_kind : ByteArray := prog_7_method_2_code
def yX5_kind : MethodName := ⟨RX5, "kind", "()I"⟩
abbrev cX5_weighs : ByteArray := prog_7_method_3_code
def yX5_weighs : MethodName := ⟨RX5, "weighs", "(I)I"⟩
def RX6 : String := "TwoOnACable$Load"
def TX6 : u_T := fun k => match k with
  | 0 => ("TwoOnACable$Load", "things", "[LTwoOnACable$Thing;", true)
  | 1 => ("TwoOnACable$Load", "keptPlaces", "[I", true)
  | 2 => ("TwoOnACable$Load", "size", "I", false)
  | _ => ("TwoOnACable$Load", "keptSize", "I", false)
def tyX6 : Nat → FieldType := fun k => match k with
  | 0 => .array (.object "TwoOnACable$Thing")
  | 1 => .array .int
  | 2 => .int
  | _ => .int
abbrev wsX60 : List Cond := u_ws RX6 TX6 4
theorem nmX6 : ∀ a, a < 4 → ∀ b, b < 4 → a ≠ b → (TX6 a).2.1 ≠ (TX6 b).2.1 := by decide +kernel
theorem tyX6_ok : ∀ k, k < 4 → parseFieldDescriptor (TX6 k).2.2.1 = some (tyX6 k) := by decide +kernel
abbrev cX6_init : ByteArray := prog_8_method_1_code
def yX6_init : MethodName := ⟨RX6, "<init>", "()V"⟩
abbrev cX6_isFull : ByteArray := prog_8_method_2_code
def yX6_isFull : MethodName := ⟨RX6, "isFull", "()Z"⟩
abbrev cX6_put : ByteArray := prog_8_method_3_code
def yX6_put : MethodName := ⟨RX6, "put", "(LTwoOnACable$Thing;)I"⟩
abbrev cX6_at : ByteArray := prog_8_method_4_code
def yX6_at : MethodName := ⟨RX6, "at", "(I)LTwoOnACable$Thing;"⟩
abbrev cX6_cutTo : ByteArray := prog_8_method_5_code
def yX6_cutTo : MethodName := ⟨RX6, "cutTo", "(I)V"⟩
abbrev cX6_weighsIn : ByteArray := prog_8_method_8_code
def yX6_weighsIn : MethodName := ⟨RX6, "weighsIn", "(II)I"⟩
abbrev cX6_sizeIn : ByteArray := prog_8_method_9_code
def yX6_sizeIn : MethodName := ⟨RX6, "sizeIn", "(I)I"⟩
def RX7 : String := "TwoOnACable$Page"
def TX7 : u_T := fun k => match k with
  | 0 => ("TwoOnACable$Page", "row", "[C", true)
  | _ => ("TwoOnACable$Page", "size", "I", false)
def tyX7 : Nat → FieldType := fun k => match k with
  | 0 => .array .char
  | _ => .int
abbrev wsX70 : List Cond := u_ws RX7 TX7 2
theorem nmX7 : ∀ a, a < 2 → ∀ b, b < 2 → a ≠ b → (TX7 a).2.1 ≠ (TX7 b).2.1 := by decide +kernel
theorem tyX7_ok : ∀ k, k < 2 → parseFieldDescriptor (TX7 k).2.2.1 = some (tyX7 k) := by decide +kernel
abbrev cX7_init : ByteArray := prog_9_method_1_code
def yX7_init : MethodName := ⟨RX7, "<init>", "()V"⟩
abbrev cX7_hasRoomFor : ByteArray := prog_9_method_2_code
def yX7_hasRoomFor : MethodName := ⟨RX7, "hasRoomFor", "(I)Z"⟩
abbrev cX7_put : ByteArray := prog_9_method_3_code
def yX7_put : MethodName := ⟨RX7, "put", "(C)V"⟩
abbrev cX7_at : ByteArray := prog_9_method_4_code
def yX7_at : MethodName := ⟨RX7, "at", "(I)I"⟩
abbrev cX7_emptied : ByteArray := prog_9_method_5_code
def yX7_emptied : MethodName := ⟨RX7, "emptied", "()I"⟩
abbrev cX7_firstWrong : ByteArray := prog_9_method_6_code
def yX7_firstWrong : MethodName := ⟨RX7, "firstWrong", "()I"⟩
abbrev cX7_isWire : ByteArray := prog_9_method_7_code
def yX7_isWire : MethodName := ⟨RX7, "isWire", "()Z"⟩
abbrev cX7_digitAt : ByteArray := prog_9_method_8_code
def yX7_digitAt : MethodName := ⟨RX7, "digitAt", "(I)I"⟩
abbrev cX7_isWireLetter : ByteArray := prog_9_method_9_code
def yX7_isWireLetter : MethodName := ⟨RX7, "isWireLetter", "(I)Z"⟩
abbrev cX7_isBetween : ByteArray := prog_9_method_10_code
def yX7_isBetween : MethodName := ⟨RX7, "isBetween", "(ICC)Z"⟩
def RX8 : String := "TwoOnACable$Search"
def TX8 : u_T := fun k => match k with
  | 0 => ("TwoOnACable$Search", "now", "[I", true)
  | 1 => ("TwoOnACable$Search", "next", "[I", true)
  | 2 => ("TwoOnACable$Search", "hours", "I", false)
  | _ => ("TwoOnACable$Search", "first", "I", false)
def tyX8 : Nat → FieldType := fun k => match k with
  | 0 => .array .int
  | 1 => .array .int
  | 2 => .int
  | _ => .int
abbrev wsX80 : List Cond := u_ws RX8 TX8 4
theorem nmX8 : ∀ a, a < 4 → ∀ b, b < 4 → a ≠ b → (TX8 a).2.1 ≠ (TX8 b).2.1 := by decide +kernel
theorem tyX8_ok : ∀ k, k < 4 → parseFieldDescriptor (TX8 k).2.2.1 = some (tyX8 k) := by decide +kernel
abbrev cX8_init : ByteArray := prog_10_method_1_code
def yX8_init : MethodName := ⟨RX8, "<init>", "()V"⟩
def RX9 : String := "TwoOnACable$Thing"
def TX9 : u_T := fun k => match k with
  | 0 => ("TwoOnACable$Thing", "weight", "I", true)
  | 1 => ("TwoOnACable$Thing", "came", "I", true)
  | _ => ("TwoOnACable$Thing", "place", "I", false)
def tyX9 : Nat → FieldType := fun k => match k with
  | 0 => .int
  | 1 => .int
  | _ => .int
abbrev wsX90 : List Cond := u_ws RX9 TX9 3
theorem nmX9 : ∀ a, a < 3 → ∀ b, b < 3 → a ≠ b → (TX9 a).2.1 ≠ (TX9 b).2.1 := by decide +kernel
theorem tyX9_ok : ∀ k, k < 3 → parseFieldDescriptor (TX9 k).2.2.1 = some (tyX9 k) := by decide +kernel
abbrev cX9_init : ByteArray := prog_11_method_1_code
def yX9_init : MethodName := ⟨RX9, "<init>", "(III)V"⟩
abbrev cX9_kind : ByteArray := prog_11_method_2_code
def yX9_kind : MethodName := ⟨RX9, "kind", "()I"⟩
abbrev cX9_weighs : ByteArray := prog_11_method_3_code
def yX9_weighs : MethodName := ⟨RX9, "weighs", "(I)I"⟩
abbrev cX9_goesAcross : ByteArray := prog_11_method_4_code
def yX9_goesAcross : MethodName := ⟨RX9, "goesAcross", "(I)Z"⟩
abbrev cX9_hoursHere : ByteArray := prog_11_method_5_code
def yX9_hoursHere : MethodName := ⟨RX9, "hoursHere", "(I)I"⟩
def RX10 : String := "TwoOnACable$Told"
def TX10 : u_T := fun k => match k with
  | 0 => ("TwoOnACable$Told", "lengths", "[I", true)
  | 1 => ("TwoOnACable$Told", "turns", "[I", true)
  | _ => ("TwoOnACable$Told", "size", "I", false)
def tyX10 : Nat → FieldType := fun k => match k with
  | 0 => .array .int
  | 1 => .array .int
  | _ => .int
abbrev wsX100 : List Cond := u_ws RX10 TX10 3
theorem nmX10 : ∀ a, a < 3 → ∀ b, b < 3 → a ≠ b → (TX10 a).2.1 ≠ (TX10 b).2.1 := by decide +kernel
theorem tyX10_ok : ∀ k, k < 3 → parseFieldDescriptor (TX10 k).2.2.1 = some (tyX10 k) := by decide +kernel
abbrev cX10_init : ByteArray := prog_12_method_1_code
def yX10_init : MethodName := ⟨RX10, "<init>", "()V"⟩
abbrev cX10_emptied : ByteArray := prog_12_method_4_code
def yX10_emptied : MethodName := ⟨RX10, "emptied", "()I"⟩
def RX11 : String := "TwoOnACable"
def TX11 : u_T := fun k => match k with
  | 0 => ("TwoOnACable", "page", "LTwoOnACable$Page;", true)
  | 1 => ("TwoOnACable", "cable", "LTwoOnACable$Cable;", true)
  | 2 => ("TwoOnACable", "load", "LTwoOnACable$Load;", true)
  | 3 => ("TwoOnACable", "told", "LTwoOnACable$Told;", true)
  | 4 => ("TwoOnACable", "evening", "LTwoOnACable$Evening;", true)
  | 5 => ("TwoOnACable", "search", "LTwoOnACable$Search;", true)
  | 6 => ("TwoOnACable", "trial", "LTwoOnACable$Cable;", true)
  | 7 => ("TwoOnACable", "keptCable", "LTwoOnACable$Cable;", true)
  | 8 => ("TwoOnACable", "isKept", "Z", false)
  | _ => ("TwoOnACable", "reads", "I", false)
def tyX11 : Nat → FieldType := fun k => match k with
  | 0 => .object "TwoOnACable$Page"
  | 1 => .object "TwoOnACable$Cable"
  | 2 => .object "TwoOnACable$Load"
  | 3 => .object "TwoOnACable$Told"
  | 4 => .object "TwoOnACable$Evening"
  | 5 => .object "TwoOnACable$Search"
  | 6 => .object "TwoOnACable$Cable"
  | 7 => .object "TwoOnACable$Cable"
  | 8 => .boolean
  | _ => .int
abbrev wsX110 : List Cond := u_ws RX11 TX11 10
theorem nmX11 : ∀ a, a < 10 → ∀ b, b < 10 → a ≠ b → (TX11 a).2.1 ≠ (TX11 b).2.1 := by decide +kernel
theorem tyX11_ok : ∀ k, k < 10 → parseFieldDescriptor (TX11 k).2.2.1 = some (tyX11 k) := by decide +kernel
abbrev cX11_init : ByteArray := prog_1_method_1_code
def yX11_init : MethodName := ⟨RX11, "<init>", "()V"⟩
abbrev cX11_letters : ByteArray := prog_1_method_2_code
def yX11_letters : MethodName := ⟨RX11, "letters", "(J)I"⟩
abbrev cX11_fault : ByteArray := prog_1_method_4_code
def yX11_fault : MethodName := ⟨RX11, "fault", "()I"⟩
abbrev cX11_wire : ByteArray := prog_1_method_5_code
def yX11_wire : MethodName := ⟨RX11, "wire", "()I"⟩
abbrev cX11_cabin : ByteArray := prog_1_method_6_code
def yX11_cabin : MethodName := ⟨RX11, "cabin", "(II)I"⟩
abbrev cX11_thing : ByteArray := prog_1_method_7_code
def yX11_thing : MethodName := ⟨RX11, "thing", "(III)I"⟩
abbrev cX11_about : ByteArray := prog_1_method_8_code
def yX11_about : MethodName := ⟨RX11, "about", "(II)I"⟩
abbrev cX11_as : ByteArray := prog_1_method_9_code
def yX11_as : MethodName := ⟨RX11, "as", "(II)I"⟩
abbrev cX11_carry : ByteArray := prog_1_method_10_code
def yX11_carry : MethodName := ⟨RX11, "carry", "(I)I"⟩
abbrev cX11_hour : ByteArray := prog_1_method_11_code
def yX11_hour : MethodName := ⟨RX11, "hour", "(I)I"⟩
abbrev cX11_caught : ByteArray := prog_1_method_14_code
def yX11_caught : MethodName := ⟨RX11, "caught", "(I)I"⟩
abbrev cX11_whirls : ByteArray := prog_1_method_19_code
def yX11_whirls : MethodName := ⟨RX11, "whirls", "(III)I"⟩
abbrev cX11_count : ByteArray := prog_1_method_22_code
def yX11_count : MethodName := ⟨RX11, "count", "(I)I"⟩
abbrev cX11_tryHours : ByteArray := prog_1_method_27_code
def yX11_tryHours : MethodName := ⟨RX11, "tryHours", "(II)I"⟩
abbrev cX11_nextSeed : ByteArray := prog_1_method_28_code
def yX11_nextSeed : MethodName := ⟨RX11, "nextSeed", "(I)I"⟩
abbrev cX11_byteOf : ByteArray := prog_1_method_30_code
def yX11_byteOf : MethodName := ⟨RX11, "byteOf", "(JI)I"⟩
abbrev cX11_lettersIn : ByteArray := prog_1_method_31_code
def yX11_lettersIn : MethodName := ⟨RX11, "lettersIn", "(J)I"⟩
abbrev cX11_isCabin : ByteArray := prog_1_method_32_code
def yX11_isCabin : MethodName := ⟨RX11, "isCabin", "(I)Z"⟩
abbrev cX11_isKind : ByteArray := prog_1_method_33_code
def yX11_isKind : MethodName := ⟨RX11, "isKind", "(I)Z"⟩
abbrev cX11_isLength : ByteArray := prog_1_method_34_code
def yX11_isLength : MethodName := ⟨RX11, "isLength", "(I)Z"⟩
abbrev cX11_apartOnCircle : ByteArray := prog_1_method_35_code
def yX11_apartOnCircle : MethodName := ⟨RX11, "apartOnCircle", "(II)I"⟩
abbrev cX11_windingOf : ByteArray := prog_1_method_36_code
def yX11_windingOf : MethodName := ⟨RX11, "windingOf", "(I)I"⟩
abbrev cX11_newThing : ByteArray := prog_1_method_39_code
def yX11_newThing : MethodName := ⟨RX11, "newThing", "(IIII)LTwoOnACable$Thing;"⟩
abbrev cX11_isOfKind : ByteArray := prog_1_method_40_code
def yX11_isOfKind : MethodName := ⟨RX11, "isOfKind", "(LTwoOnACable$Thing;I)Z"⟩
def RX12 : String := "TwoOnACableModel"
def TX12 : u_T := fun k => match k with
  | _ => ("", "", "", false)
def tyX12 : Nat → FieldType := fun k => match k with
  | _ => .int
abbrev wsX120 : List Cond := u_ws RX12 TX12 0
theorem nmX12 : ∀ a, a < 0 → ∀ b, b < 0 → a ≠ b → (TX12 a).2.1 ≠ (TX12 b).2.1 := by decide +kernel
theorem tyX12_ok : ∀ k, k < 0 → parseFieldDescriptor (TX12 k).2.2.1 = some (tyX12 k) := by decide +kernel
def RJ9 : String := "java/lang/Math"
def TJ9 : u_T := fun k => match k with
  | _ => ("", "", "", false)
def tyJ9 : Nat → FieldType := fun k => match k with
  | _ => .int
abbrev wsJ90 : List Cond := u_ws RJ9 TJ9 0
theorem nmJ9 : ∀ a, a < 0 → ∀ b, b < 0 → a ≠ b → (TJ9 a).2.1 ≠ (TJ9 b).2.1 := by decide +kernel
theorem tyJ9_ok : ∀ k, k < 0 → parseFieldDescriptor (TJ9 k).2.2.1 = some (tyJ9 k) := by decide +kernel
abbrev cJ9_floorMod_7cf53 : ByteArray := prog_15_method_50_code
def yJ9_floorMod_7cf53 : MethodName := ⟨RJ9, "floorMod", "(II)I"⟩
abbrev cJ9_min_7cf53 : ByteArray := prog_15_method_69_code
def yJ9_min_7cf53 : MethodName := ⟨RJ9, "min", "(II)I"⟩
def RL : String := "TwoOnACableLaw"
abbrev cL_cell : ByteArray := method_2_code
def yL_cell : MethodName := ⟨RL, "cell", "([II)I"⟩
abbrev cL_put : ByteArray := method_3_code
def yL_put : MethodName := ⟨RL, "put", "(LTwoOnACable;I)Z"⟩
abbrev cL_wire : ByteArray := method_4_code
def yL_wire : MethodName := ⟨RL, "wire", "(LTwoOnACable;I[I)Z"⟩
abbrev cL_thing : ByteArray := method_5_code
def yL_thing : MethodName := ⟨RL, "thing", "(LTwoOnACable;I[I)Z"⟩
abbrev cL_weighs : ByteArray := method_6_code
def yL_weighs : MethodName := ⟨RL, "weighs", "([III)I"⟩
abbrev cL_cabin : ByteArray := method_7_code
def yL_cabin : MethodName := ⟨RL, "cabin", "([IIII)I"⟩
abbrev cL_turns : ByteArray := method_8_code
def yL_turns : MethodName := ⟨RL, "turns", "([II)I"⟩
abbrev cL_arm : ByteArray := method_9_code
def yL_arm : MethodName := ⟨RL, "arm", "([IIIII)I"⟩
abbrev cL_floor : ByteArray := method_10_code
def yL_floor : MethodName := ⟨RL, "floor", "([IIIII)I"⟩
abbrev cL_strain : ByteArray := method_11_code
def yL_strain : MethodName := ⟨RL, "strain", "([III)I"⟩
abbrev cL_hour : ByteArray := method_12_code
def yL_hour : MethodName := ⟨RL, "hour", "([II)I"⟩
abbrev cL_told : ByteArray := method_13_code
def yL_told : MethodName := ⟨RL, "told", "(LTwoOnACable;[I)Z"⟩
abbrev cL_law : ByteArray := code
def yL_law : MethodName := ⟨RL, "law", "([I)Z"⟩
abbrev vwCl : List vw_C := [(RX0, TX0, 7), (RX1, TX1, 3), (RX2, TX2, 7), (RX3, TX3, 3), (RX4, TX4, 3), (RX5, TX5, 3), (RX6, TX6, 4), (RX7, TX7, 2), (RX8, TX8, 4), (RX9, TX9, 3), (RX10, TX10, 3), (RX11, TX11, 10)]
