section
-- ===== PART A: goes FIRST, ahead of the names: the tables' words, and 'selects' of the private methods out of them =====
/-- a private method of a class that the tables say can be made, by its rows of tables_1 -/
def lw_okq (q : MethodName × Nat) : Prop := (q.1.cls ≠ "java/lang/invoke/MethodHandle" ∧ q.1.cls ≠ "java/lang/invoke/VarHandle") ∧ Cond.instantiable q.1.cls q.2 ∈ tables_1 ∧ Cond.privateMethod q.1 ∈ tables_1 ∧ Cond.instanceMethod q.1 ∈ tables_1
theorem lw_p0 : lw_okq (⟨"TwoOnACable", "tryHours", "(II)I"⟩, 10) := ⟨⟨by decide +kernel, by decide +kernel⟩, List.mem_of_getElem? (i := 15) (by decide +kernel), List.mem_of_getElem? (i := 355) (by decide +kernel), List.mem_of_getElem? (i := 356) (by decide +kernel)⟩
theorem lw_p1 : lw_okq (⟨"TwoOnACable$Page", "isWireLetter", "(I)Z"⟩, 2) := ⟨⟨by decide +kernel, by decide +kernel⟩, List.mem_of_getElem? (i := 23) (by decide +kernel), List.mem_of_getElem? (i := 410) (by decide +kernel), List.mem_of_getElem? (i := 411) (by decide +kernel)⟩
theorem lw_p2 : lw_okq (⟨"TwoOnACable$Page", "isBetween", "(ICC)Z"⟩, 2) := ⟨⟨by decide +kernel, by decide +kernel⟩, List.mem_of_getElem? (i := 23) (by decide +kernel), List.mem_of_getElem? (i := 414) (by decide +kernel), List.mem_of_getElem? (i := 415) (by decide +kernel)⟩
def lw_privs_1 : List (MethodName × Nat) := [(⟨"TwoOnACable", "tryHours", "(II)I"⟩, 10), (⟨"TwoOnACable$Page", "isWireLetter", "(I)Z"⟩, 2), (⟨"TwoOnACable$Page", "isBetween", "(ICC)Z"⟩, 2)]
theorem lw_r1 : ∀ q ∈ lw_privs_1, lw_okq q := List.forall_mem_cons.mpr ⟨lw_p0, List.forall_mem_cons.mpr ⟨lw_p1, List.forall_mem_cons.mpr ⟨lw_p2, fun _ h => absurd h List.not_mem_nil⟩⟩⟩
def lw_privs : List (MethodName × Nat) := lw_privs_1
def lw_tbl : List Cond := k2_sels lw_privs ++ tables_1
theorem lw_privs_ok : ∀ q ∈ lw_privs, lw_okq q := lw_r1
def RX0 : String := "TwoOnACable$Cable"
def TX0 : u_T := fun k => match k with
  | 0 => ("TwoOnACable$Cable", "length", "I", false)
  | 1 => ("TwoOnACable$Cable", "spin", "I", false)
  | 2 => ("TwoOnACable$Cable", "bears", "I", false)
  | 3 => ("TwoOnACable$Cable", "place", "I", false)
  | 4 => ("TwoOnACable$Cable", "hours", "I", false)
  | 5 => ("TwoOnACable$Cable", "old", "Z", false)
  | _ => ("TwoOnACable$Cable", "broken", "Z", false)
def tyX0 : Nat → FieldType := fun k => match k with
  | 0 => .int
  | 1 => .int
  | 2 => .int
  | 3 => .int
  | 4 => .int
  | 5 => .boolean
  | _ => .boolean
abbrev wsX00 : List Cond := u_ws RX0 TX0 7
theorem nmX0 : ∀ a, a < 7 → ∀ b, b < 7 → a ≠ b → (TX0 a).2.1 ≠ (TX0 b).2.1 := by decide +kernel
theorem tyX0_ok : ∀ k, k < 7 → parseFieldDescriptor (TX0 k).2.2.1 = some (tyX0 k) := by decide +kernel
abbrev cX0_init : ByteArray := prog_2_method_1_code
def yX0_init : MethodName := ⟨RX0, "<init>", "()V"⟩
abbrev cX0_hang : ByteArray := prog_2_method_2_code
def yX0_hang : MethodName := ⟨RX0, "hang", "(LTwoOnACable$Page;)V"⟩
abbrev cX0_becomeLike : ByteArray := prog_2_method_3_code
def yX0_becomeLike : MethodName := ⟨RX0, "becomeLike", "(LTwoOnACable$Cable;)V"⟩
abbrev cX0_isThere : ByteArray := prog_2_method_4_code
def yX0_isThere : MethodName := ⟨RX0, "isThere", "()Z"⟩
abbrev cX0_isWhole : ByteArray := prog_2_method_5_code
def yX0_isWhole : MethodName := ⟨RX0, "isWhole", "()Z"⟩
abbrev cX0_turnsAt : ByteArray := prog_2_method_6_code
def yX0_turnsAt : MethodName := ⟨RX0, "turnsAt", "(I)I"⟩
abbrev cX0_turnsNow : ByteArray := prog_2_method_7_code
def yX0_turnsNow : MethodName := ⟨RX0, "turnsNow", "()I"⟩
abbrev cX0_armAt : ByteArray := prog_2_method_8_code
def yX0_armAt : MethodName := ⟨RX0, "armAt", "(IIII)I"⟩
abbrev cX0_floorAt : ByteArray := prog_2_method_9_code
def yX0_floorAt : MethodName := ⟨RX0, "floorAt", "(IIII)I"⟩
abbrev cX0_strainBy : ByteArray := prog_2_method_10_code
def yX0_strainBy : MethodName := ⟨RX0, "strainBy", "(II)I"⟩
abbrev cX0_armNow : ByteArray := prog_2_method_11_code
def yX0_armNow : MethodName := ⟨RX0, "armNow", "(ILTwoOnACable$Load;)I"⟩
abbrev cX0_floorNow : ByteArray := prog_2_method_12_code
def yX0_floorNow : MethodName := ⟨RX0, "floorNow", "(ILTwoOnACable$Load;)I"⟩
abbrev cX0_strainNow : ByteArray := prog_2_method_13_code
def yX0_strainNow : MethodName := ⟨RX0, "strainNow", "(LTwoOnACable$Load;)I"⟩
abbrev cX0_placeAfter : ByteArray := prog_2_method_14_code
def yX0_placeAfter : MethodName := ⟨RX0, "placeAfter", "(I)I"⟩
abbrev cX0_goHour : ByteArray := prog_2_method_15_code
def yX0_goHour : MethodName := ⟨RX0, "goHour", "(ILTwoOnACable$Load;)V"⟩
def RX1 : String := "TwoOnACable$Cook"
def TX1 : u_T := fun k => match k with
  | 0 => ("TwoOnACable$Thing", "weight", "I", true)
  | 1 => ("TwoOnACable$Thing", "came", "I", true)
  | _ => ("TwoOnACable$Thing", "place", "I", false)
def tyX1 : Nat → FieldType := fun k => match k with
  | 0 => .int
  | 1 => .int
  | _ => .int
abbrev wsX10 : List Cond := u_ws RX1 TX1 3
theorem nmX1 : ∀ a, a < 3 → ∀ b, b < 3 → a ≠ b → (TX1 a).2.1 ≠ (TX1 b).2.1 := by decide +kernel
theorem tyX1_ok : ∀ k, k < 3 → parseFieldDescriptor (TX1 k).2.2.1 = some (tyX1 k) := by decide +kernel
abbrev cX1_init : ByteArray := prog_3_method_1_code
def yX1_init : MethodName := ⟨RX1, "<init>", "(III)V"⟩
abbrev cX1_kind : ByteArray := prog_3_method_2_code
def yX1_kind : MethodName := ⟨RX1, "kind", "()I"⟩
abbrev cX1_weighs : ByteArray := prog_3_method_3_code
def yX1_weighs : MethodName := ⟨RX1, "weighs", "(I)I"⟩
def RX2 : String := "TwoOnACable$Evening"
def TX2 : u_T := fun k => match k with
  | 0 => ("TwoOnACable$Evening", "weighs", "[I", true)
  | 1 => ("TwoOnACable$Evening", "gains", "[I", true)
  | 2 => ("TwoOnACable$Evening", "apart", "I", false)
  | 3 => ("TwoOnACable$Evening", "bits", "I", false)
  | 4 => ("TwoOnACable$Evening", "staying", "I", false)
  | 5 => ("TwoOnACable$Evening", "first", "I", false)
  | _ => ("TwoOnACable$Evening", "both", "I", false)
def tyX2 : Nat → FieldType := fun k => match k with
  | 0 => .array .int
  | 1 => .array .int
  | 2 => .int
  | 3 => .int
  | 4 => .int
  | 5 => .int
  | _ => .int
abbrev wsX20 : List Cond := u_ws RX2 TX2 7
theorem nmX2 : ∀ a, a < 7 → ∀ b, b < 7 → a ≠ b → (TX2 a).2.1 ≠ (TX2 b).2.1 := by decide +kernel
theorem tyX2_ok : ∀ k, k < 7 → parseFieldDescriptor (TX2 k).2.2.1 = some (tyX2 k) := by decide +kernel
abbrev cX2_init : ByteArray := prog_4_method_1_code
def yX2_init : MethodName := ⟨RX2, "<init>", "()V"⟩
def RX3 : String := "TwoOnACable$Guest"
def TX3 : u_T := fun k => match k with
  | 0 => ("TwoOnACable$Thing", "weight", "I", true)
  | 1 => ("TwoOnACable$Thing", "came", "I", true)
  | _ => ("TwoOnACable$Thing", "place", "I", false)
def tyX3 : Nat → FieldType := fun k => match k with
  | 0 => .int
  | 1 => .int
  | _ => .int
abbrev wsX30 : List Cond := u_ws RX3 TX3 3
theorem nmX3 : ∀ a, a < 3 → ∀ b, b < 3 → a ≠ b → (TX3 a).2.1 ≠ (TX3 b).2.1 := by decide +kernel
theorem tyX3_ok : ∀ k, k < 3 → parseFieldDescriptor (TX3 k).2.2.1 = some (tyX3 k) := by decide +kernel
abbrev cX3_init : ByteArray := prog_5_method_1_code
def yX3_init : MethodName := ⟨RX3, "<init>", "(III)V"⟩
abbrev cX3_kind : ByteArray := prog_5_method_2_code
def yX3_kind : MethodName := ⟨RX3, "kind", "()I"⟩
abbrev cX3_goesAcross : ByteArray := prog_5_method_3_code
def yX3_goesAcross : MethodName := ⟨RX3, "goesAcross", "(I)Z"⟩
def RX4 : String := "TwoOnACable$Hens"
def TX4 : u_T := fun k => match k with
  | 0 => ("TwoOnACable$Thing", "weight", "I", true)
  | 1 => ("TwoOnACable$Thing", "came", "I", true)
  | _ => ("TwoOnACable$Thing", "place", "I", false)
def tyX4 : Nat → FieldType := fun k => match k with
  | 0 => .int
  | 1 => .int
  | _ => .int
abbrev wsX40 : List Cond := u_ws RX4 TX4 3
theorem nmX4 : ∀ a, a < 3 → ∀ b, b < 3 → a ≠ b → (TX4 a).2.1 ≠ (TX4 b).2.1 := by decide +kernel
theorem tyX4_ok : ∀ k, k < 3 → parseFieldDescriptor (TX4 k).2.2.1 = some (tyX4 k) := by decide +kernel
abbrev cX4_init : ByteArray := prog_6_method_1_code
def yX4_init : MethodName := ⟨RX4, "<init>", "(III)V"⟩
abbrev cX4_kind : ByteArray := prog_6_method_2_code
def yX4_kind : MethodName := ⟨RX4, "kind", "()I"⟩
abbrev cX4_weighs : ByteArray := prog_6_method_3_code
def yX4_weighs : MethodName := ⟨RX4, "weighs", "(I)I"⟩
def RX5 : String := "TwoOnACable$Live"
def TX5 : u_T := fun k => match k with
  | 0 => ("TwoOnACable$Thing", "weight", "I", true)
  | 1 => ("TwoOnACable$Thing", "came", "I", true)
  | _ => ("TwoOnACable$Thing", "place", "I", false)
def tyX5 : Nat → FieldType := fun k => match k with
  | 0 => .int
  | 1 => .int
  | _ => .int
abbrev wsX50 : List Cond := u_ws RX5 TX5 3
theorem nmX5 : ∀ a, a < 3 → ∀ b, b < 3 → a ≠ b → (TX5 a).2.1 ≠ (TX5 b).2.1 := by decide +kernel
theorem tyX5_ok : ∀ k, k < 3 → parseFieldDescriptor (TX5 k).2.2.1 = some (tyX5 k) := by decide +kernel
abbrev cX5_init : ByteArray := prog_7_method_1_code
def yX5_init : MethodName := ⟨RX5, "<init>", "(III)V"⟩
abbrev cX5_kind : ByteArray := prog_7_method_2_code
def yX5_kind : MethodName := ⟨RX5, "kind", "()I"⟩
abbrev cX5_weighs : ByteArray := prog_7_method_3_code
def yX5_weighs : MethodName := ⟨RX5, "weighs", "(I)I"⟩
def RX6 : String := "TwoOnACable$Load"
def TX6 : u_T := fun k => match k with
  | 0 => ("TwoOnACable$Load", "things", "[LTwoOnACable$Thing;", true)
  | 1 => ("TwoOnACable$Load", "keptPlaces", "[I", true)
  | 2 => ("TwoOnACable$Load", "size", "I", false)
  | _ => ("TwoOnACable$Load", "keptSize", "I", false)
def tyX6 : Nat → FieldType := fun k => match k with
  | 0 => .array (.object "TwoOnACable$Thing")
  | 1 => .array .int
  | 2 => .int
  | _ => .int
abbrev wsX60 : List Cond := u_ws RX6 TX6 4
theorem nmX6 : ∀ a, a < 4 → ∀ b, b < 4 → a ≠ b → (TX6 a).2.1 ≠ (TX6 b).2.1 := by decide +kernel
theorem tyX6_ok : ∀ k, k < 4 → parseFieldDescriptor (TX6 k).2.2.1 = some (tyX6 k) := by decide +kernel
abbrev cX6_init : ByteArray := prog_8_method_1_code
def yX6_init : MethodName := ⟨RX6, "<init>", "()V"⟩
abbrev cX6_isFull : ByteArray := prog_8_method_2_code
def yX6_isFull : MethodName := ⟨RX6, "isFull", "()Z"⟩
abbrev cX6_put : ByteArray := prog_8_method_3_code
def yX6_put : MethodName := ⟨RX6, "put", "(LTwoOnACable$Thing;)I"⟩
abbrev cX6_at : ByteArray := prog_8_method_4_code
def yX6_at : MethodName := ⟨RX6, "at", "(I)LTwoOnACable$Thing;"⟩
abbrev cX6_cutTo : ByteArray := prog_8_method_5_code
def yX6_cutTo : MethodName := ⟨RX6, "cutTo", "(I)V"⟩
abbrev cX6_weighsIn : ByteArray := prog_8_method_8_code
def yX6_weighsIn : MethodName := ⟨RX6, "weighsIn", "(II)I"⟩
abbrev cX6_sizeIn : ByteArray := prog_8_method_9_code
def yX6_sizeIn : MethodName := ⟨RX6, "sizeIn", "(I)I"⟩
def RX7 : String := "TwoOnACable$Page"
def TX7 : u_T := fun k => match k with
  | 0 => ("TwoOnACable$Page", "row", "[C", true)
  | _ => ("TwoOnACable$Page", "size", "I", false)
def tyX7 : Nat → FieldType := fun k => match k with
  | 0 => .array .char
  | _ => .int
abbrev wsX70 : List Cond := u_ws RX7 TX7 2
theorem nmX7 : ∀ a, a < 2 → ∀ b, b < 2 → a ≠ b → (TX7 a).2.1 ≠ (TX7 b).2.1 := by decide +kernel
theorem tyX7_ok : ∀ k, k < 2 → parseFieldDescriptor (TX7 k).2.2.1 = some (tyX7 k) := by decide +kernel
abbrev cX7_init : ByteArray := prog_9_method_1_code
def yX7_init : MethodName := ⟨RX7, "<init>", "()V"⟩
abbrev cX7_hasRoomFor : ByteArray := prog_9_method_2_code
def yX7_hasRoomFor : MethodName := ⟨RX7, "hasRoomFor", "(I)Z"⟩
abbrev cX7_put : ByteArray := prog_9_method_3_code
def yX7_put : MethodName := ⟨RX7, "put", "(C)V"⟩
abbrev cX7_at : ByteArray := prog_9_method_4_code
def yX7_at : MethodName := ⟨RX7, "at", "(I)I"⟩
abbrev cX7_emptied : ByteArray := prog_9_method_5_code
def yX7_emptied : MethodName := ⟨RX7, "emptied", "()I"⟩
abbrev cX7_firstWrong : ByteArray := prog_9_method_6_code
def yX7_firstWrong : MethodName := ⟨RX7, "firstWrong", "()I"⟩
abbrev cX7_isWire : ByteArray := prog_9_method_7_code
def yX7_isWire : MethodName := ⟨RX7, "isWire", "()Z"⟩
abbrev cX7_digitAt : ByteArray := prog_9_method_8_code
def yX7_digitAt : MethodName := ⟨RX7, "digitAt", "(I)I"⟩
abbrev cX7_isWireLetter : ByteArray := prog_9_method_9_code
def yX7_isWireLetter : MethodName := ⟨RX7, "isWireLetter", "(I)Z"⟩
abbrev cX7_isBetween : ByteArray := prog_9_method_10_code
def yX7_isBetween : MethodName := ⟨RX7, "isBetween", "(ICC)Z"⟩
def RX8 : String := "TwoOnACable$Search"
def TX8 : u_T := fun k => match k with
  | 0 => ("TwoOnACable$Search", "now", "[I", true)
  | 1 => ("TwoOnACable$Search", "next", "[I", true)
  | 2 => ("TwoOnACable$Search", "hours", "I", false)
  | _ => ("TwoOnACable$Search", "first", "I", false)
def tyX8 : Nat → FieldType := fun k => match k with
  | 0 => .array .int
  | 1 => .array .int
  | 2 => .int
  | _ => .int
abbrev wsX80 : List Cond := u_ws RX8 TX8 4
theorem nmX8 : ∀ a, a < 4 → ∀ b, b < 4 → a ≠ b → (TX8 a).2.1 ≠ (TX8 b).2.1 := by decide +kernel
theorem tyX8_ok : ∀ k, k < 4 → parseFieldDescriptor (TX8 k).2.2.1 = some (tyX8 k) := by decide +kernel
abbrev cX8_init : ByteArray := prog_10_method_1_code
def yX8_init : MethodName := ⟨RX8, "<init>", "()V"⟩
def RX9 : String := "TwoOnACable$Thing"
def TX9 : u_T := fun k => match k with
  | 0 => ("TwoOnACable$Thing", "weight", "I", true)
  | 1 => ("TwoOnACable$Thing", "came", "I", true)
  | _ => ("TwoOnACable$Thing", "place", "I", false)
def tyX9 : Nat → FieldType := fun k => match k with
  | 0 => .int
  | 1 => .int
  | _ => .int
abbrev wsX90 : List Cond := u_ws RX9 TX9 3
theorem nmX9 : ∀ a, a < 3 → ∀ b, b < 3 → a ≠ b → (TX9 a).2.1 ≠ (TX9 b).2.1 := by decide +kernel
theorem tyX9_ok : ∀ k, k < 3 → parseFieldDescriptor (TX9 k).2.2.1 = some (tyX9 k) := by decide +kernel
abbrev cX9_init : ByteArray := prog_11_method_1_code
def yX9_init : MethodName := ⟨RX9, "<init>", "(III)V"⟩
abbrev cX9_kind : ByteArray := prog_11_method_2_code
def yX9_kind : MethodName := ⟨RX9, "kind", "()I"⟩
abbrev cX9_weighs : ByteArray := prog_11_method_3_code
def yX9_weighs : MethodName := ⟨RX9, "weighs", "(I)I"⟩
abbrev cX9_goesAcross : ByteArray := prog_11_method_4_code
def yX9_goesAcross : MethodName := ⟨RX9, "goesAcross", "(I)Z"⟩
abbrev cX9_hoursHere : ByteArray := prog_11_method_5_code
def yX9_hoursHere : MethodName := ⟨RX9, "hoursHere", "(I)I"⟩
def RX10 : String := "TwoOnACable$Told"
def TX10 : u_T := fun k => match k with
  | 0 => ("TwoOnACable$Told", "lengths", "[I", true)
  | 1 => ("TwoOnACable$Told", "turns", "[I", true)
  | _ => ("TwoOnACable$Told", "size", "I", false)
def tyX10 : Nat → FieldType := fun k => match k with
  | 0 => .array .int
  | 1 => .array .int
  | _ => .int
abbrev wsX100 : List Cond := u_ws RX10 TX10 3
theorem nmX10 : ∀ a, a < 3 → ∀ b, b < 3 → a ≠ b → (TX10 a).2.1 ≠ (TX10 b).2.1 := by decide +kernel
theorem tyX10_ok : ∀ k, k < 3 → parseFieldDescriptor (TX10 k).2.2.1 = some (tyX10 k) := by decide +kernel
abbrev cX10_init : ByteArray := prog_12_method_1_code
def yX10_init : MethodName := ⟨RX10, "<init>", "()V"⟩
abbrev cX10_emptied : ByteArray := prog_12_method_4_code
def yX10_emptied : MethodName := ⟨RX10, "emptied", "()I"⟩
def RX11 : String := "TwoOnACable"
def TX11 : u_T := fun k => match k with
  | 0 => ("TwoOnACable", "page", "LTwoOnACable$Page;", true)
  | 1 => ("TwoOnACable", "cable", "LTwoOnACable$Cable;", true)
  | 2 => ("TwoOnACable", "load", "LTwoOnACable$Load;", true)
  | 3 => ("TwoOnACable", "told", "LTwoOnACable$Told;", true)
  | 4 => ("TwoOnACable", "evening", "LTwoOnACable$Evening;", true)
  | 5 => ("TwoOnACable", "search", "LTwoOnACable$Search;", true)
  | 6 => ("TwoOnACable", "trial", "LTwoOnACable$Cable;", true)
  | 7 => ("TwoOnACable", "keptCable", "LTwoOnACable$Cable;", true)
  | 8 => ("TwoOnACable", "isKept", "Z", false)
  | _ => ("TwoOnACable", "reads", "I", false)
def tyX11 : Nat → FieldType := fun k => match k with
  | 0 => .object "TwoOnACable$Page"
  | 1 => .object "TwoOnACable$Cable"
  | 2 => .object "TwoOnACable$Load"
  | 3 => .object "TwoOnACable$Told"
  | 4 => .object "TwoOnACable$Evening"
  | 5 => .object "TwoOnACable$Search"
  | 6 => .object "TwoOnACable$Cable"
  | 7 => .object "TwoOnACable$Cable"
  | 8 => .boolean
  | _ => .int
abbrev wsX110 : List Cond := u_ws RX11 TX11 10
theorem nmX11 : ∀ a, a < 10 → ∀ b, b < 10 → a ≠ b → (TX11 a).2.1 ≠ (TX11 b).2.1 := by decide +kernel
theorem tyX11_ok : ∀ k, k < 10 → parseFieldDescriptor (TX11 k).2.2.1 = some (tyX11 k) := by decide +kernel
abbrev cX11_init : ByteArray := prog_1_method_1_code
def yX11_init : MethodName := ⟨RX11, "<init>", "()V"⟩
abbrev cX11_letters : ByteArray := prog_1_method_2_code
def yX11_letters : MethodName := ⟨RX11, "letters", "(J)I"⟩
abbrev cX11_fault : ByteArray := prog_1_method_4_code
def yX11_fault : MethodName := ⟨RX11, "fault", "()I"⟩
abbrev cX11_wire : ByteArray := prog_1_method_5_code
def yX11_wire : MethodName := ⟨RX11, "wire", "()I"⟩
abbrev cX11_cabin : ByteArray := prog_1_method_6_code
def yX11_cabin : MethodName := ⟨RX11, "cabin", "(II)I"⟩
abbrev cX11_thing : ByteArray := prog_1_method_7_code
def yX11_thing : MethodName := ⟨RX11, "thing", "(III)I"⟩
abbrev cX11_about : ByteArray := prog_1_method_8_code
def yX11_about : MethodName := ⟨RX11, "about", "(II)I"⟩
abbrev cX11_as : ByteArray := prog_1_method_9_code
def yX11_as : MethodName := ⟨RX11, "as", "(II)I"⟩
abbrev cX11_carry : ByteArray := prog_1_method_10_code
def yX11_carry : MethodName := ⟨RX11, "carry", "(I)I"⟩
abbrev cX11_hour : ByteArray := prog_1_method_11_code
def yX11_hour : MethodName := ⟨RX11, "hour", "(I)I"⟩
abbrev cX11_caught : ByteArray := prog_1_method_14_code
def yX11_caught : MethodName := ⟨RX11, "caught", "(I)I"⟩
abbrev cX11_whirls : ByteArray := prog_1_method_19_code
def yX11_whirls : MethodName := ⟨RX11, "whirls", "(III)I"⟩
abbrev cX11_count : ByteArray := prog_1_method_22_code
def yX11_count : MethodName := ⟨RX11, "count", "(I)I"⟩
abbrev cX11_tryHours : ByteArray := prog_1_method_27_code
def yX11_tryHours : MethodName := ⟨RX11, "tryHours", "(II)I"⟩
abbrev cX11_nextSeed : ByteArray := prog_1_method_28_code
def yX11_nextSeed : MethodName := ⟨RX11, "nextSeed", "(I)I"⟩
abbrev cX11_byteOf : ByteArray := prog_1_method_30_code
def yX11_byteOf : MethodName := ⟨RX11, "byteOf", "(JI)I"⟩
abbrev cX11_lettersIn : ByteArray := prog_1_method_31_code
def yX11_lettersIn : MethodName := ⟨RX11, "lettersIn", "(J)I"⟩
abbrev cX11_isCabin : ByteArray := prog_1_method_32_code
def yX11_isCabin : MethodName := ⟨RX11, "isCabin", "(I)Z"⟩
abbrev cX11_isKind : ByteArray := prog_1_method_33_code
def yX11_isKind : MethodName := ⟨RX11, "isKind", "(I)Z"⟩
abbrev cX11_isLength : ByteArray := prog_1_method_34_code
def yX11_isLength : MethodName := ⟨RX11, "isLength", "(I)Z"⟩
abbrev cX11_apartOnCircle : ByteArray := prog_1_method_35_code
def yX11_apartOnCircle : MethodName := ⟨RX11, "apartOnCircle", "(II)I"⟩
abbrev cX11_windingOf : ByteArray := prog_1_method_36_code
def yX11_windingOf : MethodName := ⟨RX11, "windingOf", "(I)I"⟩
abbrev cX11_newThing : ByteArray := prog_1_method_39_code
def yX11_newThing : MethodName := ⟨RX11, "newThing", "(IIII)LTwoOnACable$Thing;"⟩
abbrev cX11_isOfKind : ByteArray := prog_1_method_40_code
def yX11_isOfKind : MethodName := ⟨RX11, "isOfKind", "(LTwoOnACable$Thing;I)Z"⟩
def RX12 : String := "TwoOnACableModel"
def TX12 : u_T := fun k => match k with
  | _ => ("", "", "", false)
def tyX12 : Nat → FieldType := fun k => match k with
  | _ => .int
abbrev wsX120 : List Cond := u_ws RX12 TX12 0
theorem nmX12 : ∀ a, a < 0 → ∀ b, b < 0 → a ≠ b → (TX12 a).2.1 ≠ (TX12 b).2.1 := by decide +kernel
theorem tyX12_ok : ∀ k, k < 0 → parseFieldDescriptor (TX12 k).2.2.1 = some (tyX12 k) := by decide +kernel
def RJ9 : String := "java/lang/Math"
def TJ9 : u_T := fun k => match k with
  | _ => ("", "", "", false)
def tyJ9 : Nat → FieldType := fun k => match k with
  | _ => .int
abbrev wsJ90 : List Cond := u_ws RJ9 TJ9 0
theorem nmJ9 : ∀ a, a < 0 → ∀ b, b < 0 → a ≠ b → (TJ9 a).2.1 ≠ (TJ9 b).2.1 := by decide +kernel
theorem tyJ9_ok : ∀ k, k < 0 → parseFieldDescriptor (TJ9 k).2.2.1 = some (tyJ9 k) := by decide +kernel
abbrev cJ9_floorMod_7cf53 : ByteArray := prog_15_method_50_code
def yJ9_floorMod_7cf53 : MethodName := ⟨RJ9, "floorMod", "(II)I"⟩
abbrev cJ9_min_7cf53 : ByteArray := prog_15_method_69_code
def yJ9_min_7cf53 : MethodName := ⟨RJ9, "min", "(II)I"⟩
def RL : String := "TwoOnACableLaw"
abbrev cL_cell : ByteArray := method_2_code
def yL_cell : MethodName := ⟨RL, "cell", "([II)I"⟩
abbrev cL_put : ByteArray := method_3_code
def yL_put : MethodName := ⟨RL, "put", "(LTwoOnACable;I)Z"⟩
abbrev cL_wire : ByteArray := method_4_code
def yL_wire : MethodName := ⟨RL, "wire", "(LTwoOnACable;I[I)Z"⟩
abbrev cL_thing : ByteArray := method_5_code
def yL_thing : MethodName := ⟨RL, "thing", "(LTwoOnACable;I[I)Z"⟩
abbrev cL_weighs : ByteArray := method_6_code
def yL_weighs : MethodName := ⟨RL, "weighs", "([III)I"⟩
abbrev cL_cabin : ByteArray := method_7_code
def yL_cabin : MethodName := ⟨RL, "cabin", "([IIII)I"⟩
abbrev cL_turns : ByteArray := method_8_code
def yL_turns : MethodName := ⟨RL, "turns", "([II)I"⟩
abbrev cL_arm : ByteArray := method_9_code
def yL_arm : MethodName := ⟨RL, "arm", "([IIIII)I"⟩
abbrev cL_floor : ByteArray := method_10_code
def yL_floor : MethodName := ⟨RL, "floor", "([IIIII)I"⟩
abbrev cL_strain : ByteArray := method_11_code
def yL_strain : MethodName := ⟨RL, "strain", "([III)I"⟩
abbrev cL_hour : ByteArray := method_12_code
def yL_hour : MethodName := ⟨RL, "hour", "([II)I"⟩
abbrev cL_told : ByteArray := method_13_code
def yL_told : MethodName := ⟨RL, "told", "(LTwoOnACable;[I)Z"⟩
abbrev cL_law : ByteArray := code
def yL_law : MethodName := ⟨RL, "law", "([I)Z"⟩
abbrev vwCl : List vw_C := [(RX0, TX0, 7), (RX1, TX1, 3), (RX2, TX2, 7), (RX3, TX3, 3), (RX4, TX4, 3), (RX5, TX5, 3), (RX6, TX6, 4), (RX7, TX7, 2), (RX8, TX8, 4), (RX9, TX9, 3), (RX10, TX10, 3), (RX11, TX11, 10)]
end
section
/-! the tables' words that a callee may take over: one list for all methods -/
def gL : List Cond := lw_tbl.filter goodWord
theorem gd_all {ws : List Cond} (h : ∀ w ∈ ws, w ∈ gL) : GoodIn gL ws := fun w hw => ⟨h w hw, good_of_word (List.mem_filter.mp (h w hw)).2⟩
theorem gd_V {own C : String} {idx : Nat} {y : MethodName} {cw : Cond} (h1 : Cond.methodLink own idx y ∈ gL) (h2 : Cond.instanceMethod y ∈ gL) (h3 : Cond.selects C y y ∈ gL) (h4 : Cond.initialized C ∈ gL) (h5 : cw ∈ gL) : GoodIn gL (wsV own idx C y (cw :: gL)) := gd_all fun w hw => by
  simp only [wsV, List.cons_append, List.nil_append, List.mem_cons] at hw
  rcases hw with rfl | rfl | rfl | rfl | rfl | hw <;> assumption
theorem gd_S {own : String} {idx : Nat} {y : MethodName} {cw : Cond} (h1 : Cond.methodLink own idx y ∈ gL) (h2 : Cond.static y ∈ gL) (h4 : Cond.initialized y.cls ∈ gL) (h5 : cw ∈ gL) : GoodIn gL (va_wsS own idx y (cw :: gL)) := gd_all fun w hw => by
  simp only [va_wsS, List.cons_append, List.nil_append, List.mem_cons] at hw
  rcases hw with rfl | rfl | rfl | rfl | hw <;> assumption
theorem gd_U {own C owner : String} {idx : Nat} {x y : MethodName} {cw : Cond} (h1 : Cond.methodLink own idx x ∈ gL) (h2 : Cond.sameMethod x.cls owner x.name x.desc ∈ gL) (h3 : Cond.selects C x y ∈ gL) (h4 : Cond.instanceMethod y ∈ gL) (h6 : Cond.initialized y.cls ∈ gL) (h5 : cw ∈ gL) : GoodIn gL (va_wsU own idx C owner x y (cw :: gL)) := gd_all fun w hw => by
  simp only [va_wsU, List.cons_append, List.nil_append, List.mem_cons] at hw
  rcases hw with rfl | rfl | rfl | rfl | rfl | rfl | hw <;> assumption
theorem gd_O {own C owner : String} {idx : Nat} {x y : MethodName} {cw : Cond} (h1 : Cond.methodLink own idx x ∈ gL) (h2 : Cond.sameMethod x.cls owner x.name x.desc ∈ gL) (h7 : Cond.instanceMethod ⟨owner, x.name, x.desc⟩ ∈ gL) (h3 : Cond.selects C x y ∈ gL) (h4 : Cond.instanceMethod y ∈ gL) (h6 : Cond.initialized y.cls ∈ gL) (h5 : cw ∈ gL) : GoodIn gL (va_wsO own idx C owner x y (cw :: gL)) := gd_all fun w hw => by
  simp only [va_wsO, List.cons_append, List.nil_append, List.mem_cons] at hw
  rcases hw with rfl | rfl | rfl | rfl | rfl | rfl | rfl | hw <;> assumption
theorem gd_N {cw : Cond} (h5 : cw ∈ gL) : GoodIn gL (cw :: gL) := gd_all fun w hw => by
  simp only [List.mem_cons] at hw
  rcases hw with rfl | hw <;> assumption
theorem gm_1 {w : Cond} (h : w ∈ tables_1_1) (g : goodWord w = true) : w ∈ gL := List.mem_filter.mpr ⟨List.mem_append_right _ (List.mem_append_left _ h), g⟩
theorem gm_2 {w : Cond} (h : w ∈ tables_1_2) (g : goodWord w = true) : w ∈ gL := List.mem_filter.mpr ⟨List.mem_append_right _ (List.mem_append_right _ (List.mem_append_left _ h)), g⟩
theorem gm_3 {w : Cond} (h : w ∈ tables_1_3) (g : goodWord w = true) : w ∈ gL := List.mem_filter.mpr ⟨List.mem_append_right _ (List.mem_append_right _ (List.mem_append_right _ (h))), g⟩
theorem gm_0 {w : Cond} (h : w ∈ k2_sels lw_privs) (g : goodWord w = true) : w ∈ gL := List.mem_filter.mpr ⟨List.mem_append_left _ h, g⟩
theorem wt_0 : Cond.initialized "TwoOnACableLaw" ∈ gL := gm_1 (List.mem_of_getElem? (i := 0) (by decide +kernel)) rfl
theorem wt_1 : Cond.initialized "TwoOnACable" ∈ gL := gm_1 (List.mem_of_getElem? (i := 1) (by decide +kernel)) rfl
theorem wt_2 : Cond.initialized "TwoOnACable$Page" ∈ gL := gm_1 (List.mem_of_getElem? (i := 2) (by decide +kernel)) rfl
theorem wt_3 : Cond.initialized "TwoOnACable$Cable" ∈ gL := gm_1 (List.mem_of_getElem? (i := 3) (by decide +kernel)) rfl
theorem wt_4 : Cond.initialized "TwoOnACable$Load" ∈ gL := gm_1 (List.mem_of_getElem? (i := 4) (by decide +kernel)) rfl
theorem wt_5 : Cond.initialized "TwoOnACable$Told" ∈ gL := gm_1 (List.mem_of_getElem? (i := 5) (by decide +kernel)) rfl
theorem wt_6 : Cond.initialized "TwoOnACable$Evening" ∈ gL := gm_1 (List.mem_of_getElem? (i := 6) (by decide +kernel)) rfl
theorem wt_7 : Cond.initialized "TwoOnACable$Search" ∈ gL := gm_1 (List.mem_of_getElem? (i := 7) (by decide +kernel)) rfl
theorem wt_8 : Cond.initialized "java/lang/Math" ∈ gL := gm_1 (List.mem_of_getElem? (i := 8) (by decide +kernel)) rfl
theorem wt_9 : Cond.initialized "TwoOnACable$Thing" ∈ gL := gm_1 (List.mem_of_getElem? (i := 9) (by decide +kernel)) rfl
theorem wt_10 : Cond.initialized "TwoOnACable$Cook" ∈ gL := gm_1 (List.mem_of_getElem? (i := 10) (by decide +kernel)) rfl
theorem wt_11 : Cond.initialized "TwoOnACable$Guest" ∈ gL := gm_1 (List.mem_of_getElem? (i := 11) (by decide +kernel)) rfl
theorem wt_12 : Cond.initialized "TwoOnACable$Live" ∈ gL := gm_1 (List.mem_of_getElem? (i := 12) (by decide +kernel)) rfl
theorem wt_13 : Cond.initialized "TwoOnACable$Hens" ∈ gL := gm_1 (List.mem_of_getElem? (i := 13) (by decide +kernel)) rfl
theorem wt_14 : Cond.classLink "TwoOnACableLaw" 9 "TwoOnACable" ∈ gL := gm_1 (List.mem_of_getElem? (i := 14) (by decide +kernel)) rfl
theorem wt_15 : Cond.instantiable "TwoOnACable" 10 ∈ gL := gm_1 (List.mem_of_getElem? (i := 15) (by decide +kernel)) rfl
theorem wt_16 : Cond.methodLink "TwoOnACableLaw" 64 yX11_init ∈ gL := gm_1 (List.mem_of_getElem? (i := 16) (by decide +kernel)) rfl
theorem wt_17 : Cond.instanceMethod yX11_init ∈ gL := gm_1 (List.mem_of_getElem? (i := 17) (by decide +kernel)) rfl
theorem wt_18 : Cond.code yX11_init prog_1_method_1_code 1 (none : Option FieldType) ∈ gL := gm_1 (List.mem_of_getElem? (i := 18) (by decide +kernel)) rfl
theorem wt_19 : Cond.methodLink "TwoOnACable" 1 objectInit ∈ gL := gm_1 (List.mem_of_getElem? (i := 19) (by decide +kernel)) rfl
theorem wt_20 : Cond.instanceMethod objectInit ∈ gL := gm_1 (List.mem_of_getElem? (i := 20) (by decide +kernel)) rfl
theorem wt_21 : Cond.code objectInit object_method_1_code 1 (none : Option FieldType) ∈ gL := gm_1 (List.mem_of_getElem? (i := 21) (by decide +kernel)) rfl
theorem wt_22 : Cond.classLink "TwoOnACable" 7 "TwoOnACable$Page" ∈ gL := gm_1 (List.mem_of_getElem? (i := 22) (by decide +kernel)) rfl
theorem wt_23 : Cond.instantiable "TwoOnACable$Page" 2 ∈ gL := gm_1 (List.mem_of_getElem? (i := 23) (by decide +kernel)) rfl
theorem wt_24 : Cond.instanceMethod yX7_init ∈ gL := gm_1 (List.mem_of_getElem? (i := 25) (by decide +kernel)) rfl
theorem wt_25 : Cond.code yX7_init prog_9_method_1_code 1 (none : Option FieldType) ∈ gL := gm_1 (List.mem_of_getElem? (i := 26) (by decide +kernel)) rfl
theorem wt_26 : Cond.methodLink "TwoOnACable$Page" 3 objectInit ∈ gL := gm_1 (List.mem_of_getElem? (i := 27) (by decide +kernel)) rfl
theorem wt_27 : Cond.fieldLink "TwoOnACable$Page" 9 "TwoOnACable$Page" "row" "[C" ∈ gL := gm_1 (List.mem_of_getElem? (i := 28) (by decide +kernel)) rfl
theorem wt_28 : Cond.fieldLink "TwoOnACable$Page" 15 "TwoOnACable$Page" "size" "I" ∈ gL := gm_1 (List.mem_of_getElem? (i := 29) (by decide +kernel)) rfl
theorem wt_29 : Cond.fieldLink "TwoOnACable" 73 "TwoOnACable$Page" "size" "I" ∈ gL := gm_1 (List.mem_of_getElem? (i := 30) (by decide +kernel)) rfl
theorem wt_30 : Cond.fieldLink "TwoOnACable$Cable" 27 "TwoOnACable$Page" "size" "I" ∈ gL := gm_1 (List.mem_of_getElem? (i := 31) (by decide +kernel)) rfl
theorem wt_31 : Cond.arrayClass FieldType.char ∈ gL := gm_1 (List.mem_of_getElem? (i := 37) (by decide +kernel)) rfl
theorem wt_32 : Cond.classLink "TwoOnACable" 16 "TwoOnACable$Cable" ∈ gL := gm_1 (List.mem_of_getElem? (i := 38) (by decide +kernel)) rfl
theorem wt_33 : Cond.instantiable "TwoOnACable$Cable" 7 ∈ gL := gm_1 (List.mem_of_getElem? (i := 39) (by decide +kernel)) rfl
theorem wt_34 : Cond.instanceMethod yX0_init ∈ gL := gm_1 (List.mem_of_getElem? (i := 41) (by decide +kernel)) rfl
theorem wt_35 : Cond.code yX0_init prog_2_method_1_code 1 (none : Option FieldType) ∈ gL := gm_1 (List.mem_of_getElem? (i := 42) (by decide +kernel)) rfl
theorem wt_36 : Cond.methodLink "TwoOnACable$Cable" 3 objectInit ∈ gL := gm_1 (List.mem_of_getElem? (i := 43) (by decide +kernel)) rfl
theorem wt_37 : Cond.fieldLink "TwoOnACable$Cable" 15 "TwoOnACable$Cable" "length" "I" ∈ gL := gm_1 (List.mem_of_getElem? (i := 44) (by decide +kernel)) rfl
theorem wt_38 : Cond.fieldLink "TwoOnACable" 178 "TwoOnACable$Cable" "length" "I" ∈ gL := gm_1 (List.mem_of_getElem? (i := 45) (by decide +kernel)) rfl
theorem wt_39 : Cond.fieldLink "TwoOnACable$Cable" 21 "TwoOnACable$Cable" "spin" "I" ∈ gL := gm_1 (List.mem_of_getElem? (i := 46) (by decide +kernel)) rfl
theorem wt_40 : Cond.fieldLink "TwoOnACable" 104 "TwoOnACable$Cable" "spin" "I" ∈ gL := gm_1 (List.mem_of_getElem? (i := 47) (by decide +kernel)) rfl
theorem wt_41 : Cond.fieldLink "TwoOnACable$Cable" 24 "TwoOnACable$Cable" "bears" "I" ∈ gL := gm_1 (List.mem_of_getElem? (i := 48) (by decide +kernel)) rfl
theorem wt_42 : Cond.fieldLink "TwoOnACable" 260 "TwoOnACable$Cable" "bears" "I" ∈ gL := gm_1 (List.mem_of_getElem? (i := 49) (by decide +kernel)) rfl
theorem wt_43 : Cond.fieldLink "TwoOnACable$Cable" 34 "TwoOnACable$Cable" "place" "I" ∈ gL := gm_1 (List.mem_of_getElem? (i := 50) (by decide +kernel)) rfl
theorem wt_44 : Cond.fieldLink "TwoOnACable" 249 "TwoOnACable$Cable" "place" "I" ∈ gL := gm_1 (List.mem_of_getElem? (i := 51) (by decide +kernel)) rfl
theorem wt_45 : Cond.fieldLink "TwoOnACable$Cable" 37 "TwoOnACable$Cable" "hours" "I" ∈ gL := gm_1 (List.mem_of_getElem? (i := 52) (by decide +kernel)) rfl
theorem wt_46 : Cond.fieldLink "TwoOnACable" 113 "TwoOnACable$Cable" "hours" "I" ∈ gL := gm_1 (List.mem_of_getElem? (i := 53) (by decide +kernel)) rfl
theorem wt_47 : Cond.fieldLink "TwoOnACable$Cable" 30 "TwoOnACable$Cable" "old" "Z" ∈ gL := gm_1 (List.mem_of_getElem? (i := 54) (by decide +kernel)) rfl
theorem wt_48 : Cond.fieldLink "TwoOnACable" 263 "TwoOnACable$Cable" "old" "Z" ∈ gL := gm_1 (List.mem_of_getElem? (i := 55) (by decide +kernel)) rfl
theorem wt_49 : Cond.fieldLink "TwoOnACable$Cable" 40 "TwoOnACable$Cable" "broken" "Z" ∈ gL := gm_1 (List.mem_of_getElem? (i := 56) (by decide +kernel)) rfl
theorem wt_50 : Cond.fieldLink "TwoOnACable" 188 "TwoOnACable$Cable" "broken" "Z" ∈ gL := gm_1 (List.mem_of_getElem? (i := 57) (by decide +kernel)) rfl
theorem wt_51 : Cond.classLink "TwoOnACable" 23 "TwoOnACable$Load" ∈ gL := gm_1 (List.mem_of_getElem? (i := 73) (by decide +kernel)) rfl
theorem wt_52 : Cond.instantiable "TwoOnACable$Load" 4 ∈ gL := gm_1 (List.mem_of_getElem? (i := 74) (by decide +kernel)) rfl
theorem wt_53 : Cond.instanceMethod yX6_init ∈ gL := gm_1 (List.mem_of_getElem? (i := 76) (by decide +kernel)) rfl
theorem wt_54 : Cond.code yX6_init prog_8_method_1_code 1 (none : Option FieldType) ∈ gL := gm_1 (List.mem_of_getElem? (i := 77) (by decide +kernel)) rfl
theorem wt_55 : Cond.methodLink "TwoOnACable$Load" 3 objectInit ∈ gL := gm_1 (List.mem_of_getElem? (i := 78) (by decide +kernel)) rfl
theorem wt_56 : Cond.classLink "TwoOnACable$Load" 9 "TwoOnACable$Thing" ∈ gL := gm_1 (List.mem_of_getElem? (i := 79) (by decide +kernel)) rfl
theorem wt_57 : Cond.fieldLink "TwoOnACable$Load" 11 "TwoOnACable$Load" "things" "[LTwoOnACable$Thing;" ∈ gL := gm_1 (List.mem_of_getElem? (i := 81) (by decide +kernel)) rfl
theorem wt_58 : Cond.fieldLink "TwoOnACable$Load" 17 "TwoOnACable$Load" "keptPlaces" "[I" ∈ gL := gm_1 (List.mem_of_getElem? (i := 82) (by decide +kernel)) rfl
theorem wt_59 : Cond.fieldLink "TwoOnACable$Load" 21 "TwoOnACable$Load" "size" "I" ∈ gL := gm_1 (List.mem_of_getElem? (i := 83) (by decide +kernel)) rfl
theorem wt_60 : Cond.fieldLink "TwoOnACable" 266 "TwoOnACable$Load" "size" "I" ∈ gL := gm_1 (List.mem_of_getElem? (i := 84) (by decide +kernel)) rfl
theorem wt_61 : Cond.arrayClass FieldType.int ∈ gL := gm_1 (List.mem_of_getElem? (i := 94) (by decide +kernel)) rfl
theorem wt_62 : Cond.classLink "TwoOnACable" 30 "TwoOnACable$Told" ∈ gL := gm_1 (List.mem_of_getElem? (i := 95) (by decide +kernel)) rfl
theorem wt_63 : Cond.instantiable "TwoOnACable$Told" 3 ∈ gL := gm_1 (List.mem_of_getElem? (i := 96) (by decide +kernel)) rfl
theorem wt_64 : Cond.instanceMethod yX10_init ∈ gL := gm_1 (List.mem_of_getElem? (i := 98) (by decide +kernel)) rfl
theorem wt_65 : Cond.code yX10_init prog_12_method_1_code 1 (none : Option FieldType) ∈ gL := gm_1 (List.mem_of_getElem? (i := 99) (by decide +kernel)) rfl
theorem wt_66 : Cond.methodLink "TwoOnACable$Told" 3 objectInit ∈ gL := gm_1 (List.mem_of_getElem? (i := 100) (by decide +kernel)) rfl
theorem wt_67 : Cond.fieldLink "TwoOnACable$Told" 9 "TwoOnACable$Told" "lengths" "[I" ∈ gL := gm_1 (List.mem_of_getElem? (i := 101) (by decide +kernel)) rfl
theorem wt_68 : Cond.fieldLink "TwoOnACable$Told" 15 "TwoOnACable$Told" "turns" "[I" ∈ gL := gm_1 (List.mem_of_getElem? (i := 102) (by decide +kernel)) rfl
theorem wt_69 : Cond.fieldLink "TwoOnACable$Told" 18 "TwoOnACable$Told" "size" "I" ∈ gL := gm_1 (List.mem_of_getElem? (i := 103) (by decide +kernel)) rfl
theorem wt_70 : Cond.fieldLink "TwoOnACable" 267 "TwoOnACable$Told" "size" "I" ∈ gL := gm_1 (List.mem_of_getElem? (i := 104) (by decide +kernel)) rfl
theorem wt_71 : Cond.classLink "TwoOnACable" 37 "TwoOnACable$Evening" ∈ gL := gm_1 (List.mem_of_getElem? (i := 112) (by decide +kernel)) rfl
theorem wt_72 : Cond.instantiable "TwoOnACable$Evening" 7 ∈ gL := gm_1 (List.mem_of_getElem? (i := 113) (by decide +kernel)) rfl
theorem wt_73 : Cond.instanceMethod yX2_init ∈ gL := gm_1 (List.mem_of_getElem? (i := 115) (by decide +kernel)) rfl
theorem wt_74 : Cond.code yX2_init prog_4_method_1_code 1 (none : Option FieldType) ∈ gL := gm_1 (List.mem_of_getElem? (i := 116) (by decide +kernel)) rfl
theorem wt_75 : Cond.methodLink "TwoOnACable$Evening" 3 objectInit ∈ gL := gm_1 (List.mem_of_getElem? (i := 117) (by decide +kernel)) rfl
theorem wt_76 : Cond.fieldLink "TwoOnACable$Evening" 9 "TwoOnACable$Evening" "weighs" "[I" ∈ gL := gm_1 (List.mem_of_getElem? (i := 118) (by decide +kernel)) rfl
theorem wt_77 : Cond.fieldLink "TwoOnACable$Evening" 15 "TwoOnACable$Evening" "gains" "[I" ∈ gL := gm_1 (List.mem_of_getElem? (i := 119) (by decide +kernel)) rfl
theorem wt_78 : Cond.classLink "TwoOnACable" 44 "TwoOnACable$Search" ∈ gL := gm_1 (List.mem_of_getElem? (i := 135) (by decide +kernel)) rfl
theorem wt_79 : Cond.instantiable "TwoOnACable$Search" 4 ∈ gL := gm_1 (List.mem_of_getElem? (i := 136) (by decide +kernel)) rfl
theorem wt_80 : Cond.instanceMethod yX8_init ∈ gL := gm_1 (List.mem_of_getElem? (i := 138) (by decide +kernel)) rfl
theorem wt_81 : Cond.code yX8_init prog_10_method_1_code 1 (none : Option FieldType) ∈ gL := gm_1 (List.mem_of_getElem? (i := 139) (by decide +kernel)) rfl
theorem wt_82 : Cond.methodLink "TwoOnACable$Search" 3 objectInit ∈ gL := gm_1 (List.mem_of_getElem? (i := 140) (by decide +kernel)) rfl
theorem wt_83 : Cond.fieldLink "TwoOnACable$Search" 9 "TwoOnACable$Search" "now" "[I" ∈ gL := gm_1 (List.mem_of_getElem? (i := 141) (by decide +kernel)) rfl
theorem wt_84 : Cond.fieldLink "TwoOnACable$Search" 15 "TwoOnACable$Search" "next" "[I" ∈ gL := gm_1 (List.mem_of_getElem? (i := 142) (by decide +kernel)) rfl
theorem wt_85 : Cond.fieldLink "TwoOnACable" 10 "TwoOnACable" "page" "LTwoOnACable$Page;" ∈ gL := gm_1 (List.mem_of_getElem? (i := 152) (by decide +kernel)) rfl
theorem wt_86 : Cond.fieldLink "TwoOnACable" 19 "TwoOnACable" "cable" "LTwoOnACable$Cable;" ∈ gL := gm_1 (List.mem_of_getElem? (i := 153) (by decide +kernel)) rfl
theorem wt_87 : Cond.fieldLink "TwoOnACable" 26 "TwoOnACable" "load" "LTwoOnACable$Load;" ∈ gL := gm_1 (List.mem_of_getElem? (i := 154) (by decide +kernel)) rfl
theorem wt_88 : Cond.fieldLink "TwoOnACable" 33 "TwoOnACable" "told" "LTwoOnACable$Told;" ∈ gL := gm_1 (List.mem_of_getElem? (i := 155) (by decide +kernel)) rfl
theorem wt_89 : Cond.fieldLink "TwoOnACable" 40 "TwoOnACable" "evening" "LTwoOnACable$Evening;" ∈ gL := gm_1 (List.mem_of_getElem? (i := 156) (by decide +kernel)) rfl
theorem wt_90 : Cond.fieldLink "TwoOnACable" 47 "TwoOnACable" "search" "LTwoOnACable$Search;" ∈ gL := gm_1 (List.mem_of_getElem? (i := 157) (by decide +kernel)) rfl
theorem wt_91 : Cond.fieldLink "TwoOnACable" 51 "TwoOnACable" "trial" "LTwoOnACable$Cable;" ∈ gL := gm_1 (List.mem_of_getElem? (i := 158) (by decide +kernel)) rfl
theorem wt_92 : Cond.fieldLink "TwoOnACable" 54 "TwoOnACable" "keptCable" "LTwoOnACable$Cable;" ∈ gL := gm_1 (List.mem_of_getElem? (i := 159) (by decide +kernel)) rfl
theorem wt_93 : Cond.fieldLink "TwoOnACable" 97 "TwoOnACable" "isKept" "Z" ∈ gL := gm_1 (List.mem_of_getElem? (i := 160) (by decide +kernel)) rfl
theorem wt_94 : Cond.fieldLink "TwoOnACable" 101 "TwoOnACable" "reads" "I" ∈ gL := gm_1 (List.mem_of_getElem? (i := 161) (by decide +kernel)) rfl
theorem wt_95 : Cond.methodLink "TwoOnACableLaw" 62 yX11_cabin ∈ gL := gm_1 (List.mem_of_getElem? (i := 183) (by decide +kernel)) rfl
theorem wt_96 : Cond.instanceMethod yX11_cabin ∈ gL := gm_1 (List.mem_of_getElem? (i := 184) (by decide +kernel)) rfl
theorem wt_97 : Cond.selects "TwoOnACable" yX11_cabin yX11_cabin ∈ gL := gm_1 (List.mem_of_getElem? (i := 185) (by decide +kernel)) rfl
theorem wt_98 : Cond.code yX11_cabin prog_1_method_6_code 3 (some FieldType.int) ∈ gL := gm_1 (List.mem_of_getElem? (i := 186) (by decide +kernel)) rfl
theorem wt_99 : Cond.methodLink "TwoOnACable" 107 yX11_isCabin ∈ gL := gm_1 (List.mem_of_getElem? (i := 187) (by decide +kernel)) rfl
theorem wt_100 : Cond.static yX11_isCabin ∈ gL := gm_1 (List.mem_of_getElem? (i := 188) (by decide +kernel)) rfl
theorem wt_101 : Cond.code yX11_isCabin prog_1_method_32_code 1 (some FieldType.boolean) ∈ gL := gm_1 (List.mem_of_getElem? (i := 189) (by decide +kernel)) rfl
theorem wt_102 : Cond.methodLink "TwoOnACable" 110 yX0_isThere ∈ gL := gm_1 (List.mem_of_getElem? (i := 190) (by decide +kernel)) rfl
theorem wt_103 : Cond.instanceMethod yX0_isThere ∈ gL := gm_1 (List.mem_of_getElem? (i := 191) (by decide +kernel)) rfl
theorem wt_104 : Cond.selects "TwoOnACable$Cable" yX0_isThere yX0_isThere ∈ gL := gm_1 (List.mem_of_getElem? (i := 192) (by decide +kernel)) rfl
theorem wt_105 : Cond.code yX0_isThere prog_2_method_4_code 1 (some FieldType.boolean) ∈ gL := gm_1 (List.mem_of_getElem? (i := 193) (by decide +kernel)) rfl
theorem wt_106 : Cond.methodLink "TwoOnACable" 116 yX6_weighsIn ∈ gL := gm_1 (List.mem_of_getElem? (i := 194) (by decide +kernel)) rfl
theorem wt_107 : Cond.instanceMethod yX6_weighsIn ∈ gL := gm_1 (List.mem_of_getElem? (i := 195) (by decide +kernel)) rfl
theorem wt_108 : Cond.selects "TwoOnACable$Load" yX6_weighsIn yX6_weighsIn ∈ gL := gm_1 (List.mem_of_getElem? (i := 196) (by decide +kernel)) rfl
theorem wt_109 : Cond.code yX6_weighsIn prog_8_method_8_code 6 (some FieldType.int) ∈ gL := gm_1 (List.mem_of_getElem? (i := 197) (by decide +kernel)) rfl
theorem wt_110 : Cond.methodLink "TwoOnACable$Load" 34 yX6_at ∈ gL := gm_1 (List.mem_of_getElem? (i := 198) (by decide +kernel)) rfl
theorem wt_111 : Cond.instanceMethod yX6_at ∈ gL := gm_1 (List.mem_of_getElem? (i := 199) (by decide +kernel)) rfl
theorem wt_112 : Cond.selects "TwoOnACable$Load" yX6_at yX6_at ∈ gL := gm_1 (List.mem_of_getElem? (i := 200) (by decide +kernel)) rfl
theorem wt_113 : Cond.code yX6_at prog_8_method_4_code 2 (some (FieldType.object "TwoOnACable$Thing")) ∈ gL := gm_1 (List.mem_of_getElem? (i := 201) (by decide +kernel)) rfl
theorem wt_114 : Cond.methodLink "TwoOnACable$Load" 45 yX9_weighs ∈ gL := gm_1 (List.mem_of_getElem? (i := 202) (by decide +kernel)) rfl
theorem wt_115 : Cond.instanceMethod yX9_weighs ∈ gL := gm_1 (List.mem_of_getElem? (i := 203) (by decide +kernel)) rfl
theorem wt_116 : Cond.selects "TwoOnACable$Thing" yX9_weighs yX9_weighs ∈ gL := gm_1 (List.mem_of_getElem? (i := 204) (by decide +kernel)) rfl
theorem wt_117 : Cond.sameMethod "TwoOnACable$Thing" "TwoOnACable$Thing" "weighs" "(I)I" ∈ gL := gm_1 (List.mem_of_getElem? (i := 205) (by decide +kernel)) rfl
theorem wt_118 : Cond.selects "TwoOnACable$Cook" yX9_weighs yX1_weighs ∈ gL := gm_1 (List.mem_of_getElem? (i := 206) (by decide +kernel)) rfl
theorem wt_119 : Cond.instanceMethod yX1_weighs ∈ gL := gm_1 (List.mem_of_getElem? (i := 207) (by decide +kernel)) rfl
theorem wt_120 : Cond.code yX1_weighs prog_3_method_3_code 2 (some FieldType.int) ∈ gL := gm_1 (List.mem_of_getElem? (i := 208) (by decide +kernel)) rfl
theorem wt_121 : Cond.selects "TwoOnACable$Guest" yX9_weighs yX9_weighs ∈ gL := gm_1 (List.mem_of_getElem? (i := 209) (by decide +kernel)) rfl
theorem wt_122 : Cond.selects "TwoOnACable$Hens" yX9_weighs yX4_weighs ∈ gL := gm_1 (List.mem_of_getElem? (i := 210) (by decide +kernel)) rfl
theorem wt_123 : Cond.instanceMethod yX4_weighs ∈ gL := gm_1 (List.mem_of_getElem? (i := 211) (by decide +kernel)) rfl
theorem wt_124 : Cond.code yX4_weighs prog_6_method_3_code 2 (some FieldType.int) ∈ gL := gm_1 (List.mem_of_getElem? (i := 212) (by decide +kernel)) rfl
theorem wt_125 : Cond.selects "TwoOnACable$Live" yX9_weighs yX5_weighs ∈ gL := gm_1 (List.mem_of_getElem? (i := 213) (by decide +kernel)) rfl
theorem wt_126 : Cond.instanceMethod yX5_weighs ∈ gL := gm_1 (List.mem_of_getElem? (i := 214) (by decide +kernel)) rfl
theorem wt_127 : Cond.code yX5_weighs prog_7_method_3_code 2 (some FieldType.int) ∈ gL := gm_1 (List.mem_of_getElem? (i := 215) (by decide +kernel)) rfl
theorem wt_128 : Cond.code yX9_weighs prog_11_method_3_code 2 (some FieldType.int) ∈ gL := gm_1 (List.mem_of_getElem? (i := 216) (by decide +kernel)) rfl
theorem wt_129 : Cond.methodLink "TwoOnACable" 120 yX0_armNow ∈ gL := gm_1 (List.mem_of_getElem? (i := 217) (by decide +kernel)) rfl
theorem wt_130 : Cond.instanceMethod yX0_armNow ∈ gL := gm_1 (List.mem_of_getElem? (i := 218) (by decide +kernel)) rfl
theorem wt_131 : Cond.selects "TwoOnACable$Cable" yX0_armNow yX0_armNow ∈ gL := gm_1 (List.mem_of_getElem? (i := 219) (by decide +kernel)) rfl
theorem wt_132 : Cond.code yX0_armNow prog_2_method_11_code 3 (some FieldType.int) ∈ gL := gm_1 (List.mem_of_getElem? (i := 220) (by decide +kernel)) rfl
theorem wt_133 : Cond.methodLink "TwoOnACable$Cable" 50 yX6_weighsIn ∈ gL := gm_1 (List.mem_of_getElem? (i := 221) (by decide +kernel)) rfl
theorem wt_134 : Cond.methodLink "TwoOnACable$Cable" 46 yX0_armAt ∈ gL := gm_1 (List.mem_of_getElem? (i := 222) (by decide +kernel)) rfl
theorem wt_135 : Cond.instanceMethod yX0_armAt ∈ gL := gm_1 (List.mem_of_getElem? (i := 223) (by decide +kernel)) rfl
theorem wt_136 : Cond.selects "TwoOnACable$Cable" yX0_armAt yX0_armAt ∈ gL := gm_1 (List.mem_of_getElem? (i := 224) (by decide +kernel)) rfl
theorem wt_137 : Cond.code yX0_armAt prog_2_method_8_code 7 (some FieldType.int) ∈ gL := gm_1 (List.mem_of_getElem? (i := 225) (by decide +kernel)) rfl
theorem wt_138 : Cond.methodLink "TwoOnACable" 124 yX0_floorNow ∈ gL := gm_1 (List.mem_of_getElem? (i := 226) (by decide +kernel)) rfl
theorem wt_139 : Cond.instanceMethod yX0_floorNow ∈ gL := gm_1 (List.mem_of_getElem? (i := 227) (by decide +kernel)) rfl
theorem wt_140 : Cond.selects "TwoOnACable$Cable" yX0_floorNow yX0_floorNow ∈ gL := gm_1 (List.mem_of_getElem? (i := 228) (by decide +kernel)) rfl
theorem wt_141 : Cond.code yX0_floorNow prog_2_method_12_code 3 (some FieldType.int) ∈ gL := gm_1 (List.mem_of_getElem? (i := 229) (by decide +kernel)) rfl
theorem wt_142 : Cond.methodLink "TwoOnACable$Cable" 56 yX0_floorAt ∈ gL := gm_1 (List.mem_of_getElem? (i := 230) (by decide +kernel)) rfl
theorem wt_143 : Cond.instanceMethod yX0_floorAt ∈ gL := gm_1 (List.mem_of_getElem? (i := 231) (by decide +kernel)) rfl
theorem wt_144 : Cond.selects "TwoOnACable$Cable" yX0_floorAt yX0_floorAt ∈ gL := gm_1 (List.mem_of_getElem? (i := 232) (by decide +kernel)) rfl
theorem wt_145 : Cond.code yX0_floorAt prog_2_method_9_code 6 (some FieldType.int) ∈ gL := gm_1 (List.mem_of_getElem? (i := 233) (by decide +kernel)) rfl
theorem wt_146 : Cond.methodLink "TwoOnACable$Cable" 43 yX0_turnsAt ∈ gL := gm_1 (List.mem_of_getElem? (i := 234) (by decide +kernel)) rfl
theorem wt_147 : Cond.instanceMethod yX0_turnsAt ∈ gL := gm_1 (List.mem_of_getElem? (i := 235) (by decide +kernel)) rfl
theorem wt_148 : Cond.selects "TwoOnACable$Cable" yX0_turnsAt yX0_turnsAt ∈ gL := gm_1 (List.mem_of_getElem? (i := 236) (by decide +kernel)) rfl
theorem wt_149 : Cond.code yX0_turnsAt prog_2_method_6_code 2 (some FieldType.int) ∈ gL := gm_1 (List.mem_of_getElem? (i := 237) (by decide +kernel)) rfl
theorem wt_150 : Cond.methodLink "TwoOnACable" 127 yX6_sizeIn ∈ gL := gm_1 (List.mem_of_getElem? (i := 238) (by decide +kernel)) rfl
theorem wt_151 : Cond.instanceMethod yX6_sizeIn ∈ gL := gm_1 (List.mem_of_getElem? (i := 239) (by decide +kernel)) rfl
theorem wt_152 : Cond.selects "TwoOnACable$Load" yX6_sizeIn yX6_sizeIn ∈ gL := gm_2 (List.mem_of_getElem? (i := 0) (by decide +kernel)) rfl
theorem wt_153 : Cond.code yX6_sizeIn prog_8_method_9_code 5 (some FieldType.int) ∈ gL := gm_2 (List.mem_of_getElem? (i := 1) (by decide +kernel)) rfl
theorem wt_154 : Cond.methodLink "TwoOnACableLaw" 58 yX11_about ∈ gL := gm_2 (List.mem_of_getElem? (i := 2) (by decide +kernel)) rfl
theorem wt_155 : Cond.instanceMethod yX11_about ∈ gL := gm_2 (List.mem_of_getElem? (i := 3) (by decide +kernel)) rfl
theorem wt_156 : Cond.selects "TwoOnACable" yX11_about yX11_about ∈ gL := gm_2 (List.mem_of_getElem? (i := 4) (by decide +kernel)) rfl
theorem wt_157 : Cond.code yX11_about prog_1_method_8_code 4 (some FieldType.int) ∈ gL := gm_2 (List.mem_of_getElem? (i := 5) (by decide +kernel)) rfl
theorem wt_158 : Cond.methodLink "TwoOnACable" 144 yX6_at ∈ gL := gm_2 (List.mem_of_getElem? (i := 6) (by decide +kernel)) rfl
theorem wt_159 : Cond.methodLink "TwoOnACable" 148 yX9_kind ∈ gL := gm_2 (List.mem_of_getElem? (i := 7) (by decide +kernel)) rfl
theorem wt_160 : Cond.instanceMethod yX9_kind ∈ gL := gm_2 (List.mem_of_getElem? (i := 8) (by decide +kernel)) rfl
theorem wt_161 : Cond.selects "TwoOnACable$Thing" yX9_kind yX9_kind ∈ gL := gm_2 (List.mem_of_getElem? (i := 9) (by decide +kernel)) rfl
theorem wt_162 : Cond.sameMethod "TwoOnACable$Thing" "TwoOnACable$Thing" "kind" "()I" ∈ gL := gm_2 (List.mem_of_getElem? (i := 10) (by decide +kernel)) rfl
theorem wt_163 : Cond.selects "TwoOnACable$Cook" yX9_kind yX1_kind ∈ gL := gm_2 (List.mem_of_getElem? (i := 11) (by decide +kernel)) rfl
theorem wt_164 : Cond.instanceMethod yX1_kind ∈ gL := gm_2 (List.mem_of_getElem? (i := 12) (by decide +kernel)) rfl
theorem wt_165 : Cond.code yX1_kind prog_3_method_2_code 1 (some FieldType.int) ∈ gL := gm_2 (List.mem_of_getElem? (i := 13) (by decide +kernel)) rfl
theorem wt_166 : Cond.selects "TwoOnACable$Guest" yX9_kind yX3_kind ∈ gL := gm_2 (List.mem_of_getElem? (i := 14) (by decide +kernel)) rfl
theorem wt_167 : Cond.instanceMethod yX3_kind ∈ gL := gm_2 (List.mem_of_getElem? (i := 15) (by decide +kernel)) rfl
theorem wt_168 : Cond.code yX3_kind prog_5_method_2_code 1 (some FieldType.int) ∈ gL := gm_2 (List.mem_of_getElem? (i := 16) (by decide +kernel)) rfl
theorem wt_169 : Cond.selects "TwoOnACable$Hens" yX9_kind yX4_kind ∈ gL := gm_2 (List.mem_of_getElem? (i := 17) (by decide +kernel)) rfl
theorem wt_170 : Cond.instanceMethod yX4_kind ∈ gL := gm_2 (List.mem_of_getElem? (i := 18) (by decide +kernel)) rfl
theorem wt_171 : Cond.code yX4_kind prog_6_method_2_code 1 (some FieldType.int) ∈ gL := gm_2 (List.mem_of_getElem? (i := 19) (by decide +kernel)) rfl
theorem wt_172 : Cond.selects "TwoOnACable$Live" yX9_kind yX5_kind ∈ gL := gm_2 (List.mem_of_getElem? (i := 20) (by decide +kernel)) rfl
theorem wt_173 : Cond.instanceMethod yX5_kind ∈ gL := gm_2 (List.mem_of_getElem? (i := 21) (by decide +kernel)) rfl
theorem wt_174 : Cond.code yX5_kind prog_7_method_2_code 1 (some FieldType.int) ∈ gL := gm_2 (List.mem_of_getElem? (i := 22) (by decide +kernel)) rfl
theorem wt_175 : Cond.code yX9_kind prog_11_method_2_code 1 (some FieldType.int) ∈ gL := gm_2 (List.mem_of_getElem? (i := 23) (by decide +kernel)) rfl
theorem wt_176 : Cond.methodLink "TwoOnACable" 159 yX9_weighs ∈ gL := gm_2 (List.mem_of_getElem? (i := 24) (by decide +kernel)) rfl
theorem wt_177 : Cond.methodLink "TwoOnACable" 162 yX9_hoursHere ∈ gL := gm_2 (List.mem_of_getElem? (i := 25) (by decide +kernel)) rfl
theorem wt_178 : Cond.instanceMethod yX9_hoursHere ∈ gL := gm_2 (List.mem_of_getElem? (i := 26) (by decide +kernel)) rfl
theorem wt_179 : Cond.selects "TwoOnACable$Thing" yX9_hoursHere yX9_hoursHere ∈ gL := gm_2 (List.mem_of_getElem? (i := 27) (by decide +kernel)) rfl
theorem wt_180 : Cond.sameMethod "TwoOnACable$Thing" "TwoOnACable$Thing" "hoursHere" "(I)I" ∈ gL := gm_2 (List.mem_of_getElem? (i := 28) (by decide +kernel)) rfl
theorem wt_181 : Cond.selects "TwoOnACable$Cook" yX9_hoursHere yX9_hoursHere ∈ gL := gm_2 (List.mem_of_getElem? (i := 29) (by decide +kernel)) rfl
theorem wt_182 : Cond.selects "TwoOnACable$Guest" yX9_hoursHere yX9_hoursHere ∈ gL := gm_2 (List.mem_of_getElem? (i := 30) (by decide +kernel)) rfl
theorem wt_183 : Cond.selects "TwoOnACable$Hens" yX9_hoursHere yX9_hoursHere ∈ gL := gm_2 (List.mem_of_getElem? (i := 31) (by decide +kernel)) rfl
theorem wt_184 : Cond.selects "TwoOnACable$Live" yX9_hoursHere yX9_hoursHere ∈ gL := gm_2 (List.mem_of_getElem? (i := 32) (by decide +kernel)) rfl
theorem wt_185 : Cond.code yX9_hoursHere prog_11_method_5_code 2 (some FieldType.int) ∈ gL := gm_2 (List.mem_of_getElem? (i := 33) (by decide +kernel)) rfl
theorem wt_186 : Cond.methodLink "TwoOnACableLaw" 85 yX11_as ∈ gL := gm_2 (List.mem_of_getElem? (i := 34) (by decide +kernel)) rfl
theorem wt_187 : Cond.instanceMethod yX11_as ∈ gL := gm_2 (List.mem_of_getElem? (i := 35) (by decide +kernel)) rfl
theorem wt_188 : Cond.selects "TwoOnACable" yX11_as yX11_as ∈ gL := gm_2 (List.mem_of_getElem? (i := 36) (by decide +kernel)) rfl
theorem wt_189 : Cond.code yX11_as prog_1_method_9_code 4 (some FieldType.int) ∈ gL := gm_2 (List.mem_of_getElem? (i := 37) (by decide +kernel)) rfl
theorem wt_190 : Cond.methodLink "TwoOnACable" 131 yX11_isKind ∈ gL := gm_2 (List.mem_of_getElem? (i := 38) (by decide +kernel)) rfl
theorem wt_191 : Cond.static yX11_isKind ∈ gL := gm_2 (List.mem_of_getElem? (i := 39) (by decide +kernel)) rfl
theorem wt_192 : Cond.code yX11_isKind prog_1_method_33_code 1 (some FieldType.boolean) ∈ gL := gm_2 (List.mem_of_getElem? (i := 40) (by decide +kernel)) rfl
theorem wt_193 : Cond.methodLink "TwoOnACable" 165 yX11_isOfKind ∈ gL := gm_2 (List.mem_of_getElem? (i := 41) (by decide +kernel)) rfl
theorem wt_194 : Cond.static yX11_isOfKind ∈ gL := gm_2 (List.mem_of_getElem? (i := 42) (by decide +kernel)) rfl
theorem wt_195 : Cond.code yX11_isOfKind prog_1_method_40_code 2 (some FieldType.boolean) ∈ gL := gm_2 (List.mem_of_getElem? (i := 43) (by decide +kernel)) rfl
theorem wt_196 : Cond.classLink "TwoOnACable" 325 "TwoOnACable$Cook" ∈ gL := gm_2 (List.mem_of_getElem? (i := 44) (by decide +kernel)) rfl
theorem wt_197 : Cond.classLink "TwoOnACable" 330 "TwoOnACable$Guest" ∈ gL := gm_2 (List.mem_of_getElem? (i := 45) (by decide +kernel)) rfl
theorem wt_198 : Cond.classLink "TwoOnACable" 333 "TwoOnACable$Live" ∈ gL := gm_2 (List.mem_of_getElem? (i := 46) (by decide +kernel)) rfl
theorem wt_199 : Cond.classLink "TwoOnACable" 336 "TwoOnACable$Hens" ∈ gL := gm_2 (List.mem_of_getElem? (i := 47) (by decide +kernel)) rfl
theorem wt_200 : Cond.methodLink "TwoOnACableLaw" 78 yX11_carry ∈ gL := gm_2 (List.mem_of_getElem? (i := 48) (by decide +kernel)) rfl
theorem wt_201 : Cond.instanceMethod yX11_carry ∈ gL := gm_2 (List.mem_of_getElem? (i := 49) (by decide +kernel)) rfl
theorem wt_202 : Cond.selects "TwoOnACable" yX11_carry yX11_carry ∈ gL := gm_2 (List.mem_of_getElem? (i := 50) (by decide +kernel)) rfl
theorem wt_203 : Cond.code yX11_carry prog_1_method_10_code 3 (some FieldType.int) ∈ gL := gm_2 (List.mem_of_getElem? (i := 51) (by decide +kernel)) rfl
theorem wt_204 : Cond.methodLink "TwoOnACable" 169 yX0_isWhole ∈ gL := gm_2 (List.mem_of_getElem? (i := 52) (by decide +kernel)) rfl
theorem wt_205 : Cond.instanceMethod yX0_isWhole ∈ gL := gm_2 (List.mem_of_getElem? (i := 53) (by decide +kernel)) rfl
theorem wt_206 : Cond.selects "TwoOnACable$Cable" yX0_isWhole yX0_isWhole ∈ gL := gm_2 (List.mem_of_getElem? (i := 54) (by decide +kernel)) rfl
theorem wt_207 : Cond.code yX0_isWhole prog_2_method_5_code 1 (some FieldType.boolean) ∈ gL := gm_2 (List.mem_of_getElem? (i := 55) (by decide +kernel)) rfl
theorem wt_208 : Cond.methodLink "TwoOnACable" 172 yX0_turnsNow ∈ gL := gm_2 (List.mem_of_getElem? (i := 56) (by decide +kernel)) rfl
theorem wt_209 : Cond.instanceMethod yX0_turnsNow ∈ gL := gm_2 (List.mem_of_getElem? (i := 57) (by decide +kernel)) rfl
theorem wt_210 : Cond.selects "TwoOnACable$Cable" yX0_turnsNow yX0_turnsNow ∈ gL := gm_2 (List.mem_of_getElem? (i := 58) (by decide +kernel)) rfl
theorem wt_211 : Cond.code yX0_turnsNow prog_2_method_7_code 1 (some FieldType.int) ∈ gL := gm_2 (List.mem_of_getElem? (i := 59) (by decide +kernel)) rfl
theorem wt_212 : Cond.methodLink "TwoOnACable" 175 yX9_goesAcross ∈ gL := gm_2 (List.mem_of_getElem? (i := 60) (by decide +kernel)) rfl
theorem wt_213 : Cond.instanceMethod yX9_goesAcross ∈ gL := gm_2 (List.mem_of_getElem? (i := 61) (by decide +kernel)) rfl
theorem wt_214 : Cond.selects "TwoOnACable$Thing" yX9_goesAcross yX9_goesAcross ∈ gL := gm_2 (List.mem_of_getElem? (i := 62) (by decide +kernel)) rfl
theorem wt_215 : Cond.sameMethod "TwoOnACable$Thing" "TwoOnACable$Thing" "goesAcross" "(I)Z" ∈ gL := gm_2 (List.mem_of_getElem? (i := 63) (by decide +kernel)) rfl
theorem wt_216 : Cond.selects "TwoOnACable$Cook" yX9_goesAcross yX9_goesAcross ∈ gL := gm_2 (List.mem_of_getElem? (i := 64) (by decide +kernel)) rfl
theorem wt_217 : Cond.selects "TwoOnACable$Guest" yX9_goesAcross yX3_goesAcross ∈ gL := gm_2 (List.mem_of_getElem? (i := 65) (by decide +kernel)) rfl
theorem wt_218 : Cond.instanceMethod yX3_goesAcross ∈ gL := gm_2 (List.mem_of_getElem? (i := 66) (by decide +kernel)) rfl
theorem wt_219 : Cond.code yX3_goesAcross prog_5_method_3_code 2 (some FieldType.boolean) ∈ gL := gm_2 (List.mem_of_getElem? (i := 67) (by decide +kernel)) rfl
theorem wt_220 : Cond.selects "TwoOnACable$Hens" yX9_goesAcross yX9_goesAcross ∈ gL := gm_2 (List.mem_of_getElem? (i := 68) (by decide +kernel)) rfl
theorem wt_221 : Cond.selects "TwoOnACable$Live" yX9_goesAcross yX9_goesAcross ∈ gL := gm_2 (List.mem_of_getElem? (i := 69) (by decide +kernel)) rfl
theorem wt_222 : Cond.code yX9_goesAcross prog_11_method_4_code 2 (some FieldType.boolean) ∈ gL := gm_2 (List.mem_of_getElem? (i := 70) (by decide +kernel)) rfl
theorem wt_223 : Cond.methodLink "TwoOnACableLaw" 73 yX11_hour ∈ gL := gm_2 (List.mem_of_getElem? (i := 71) (by decide +kernel)) rfl
theorem wt_224 : Cond.instanceMethod yX11_hour ∈ gL := gm_2 (List.mem_of_getElem? (i := 72) (by decide +kernel)) rfl
theorem wt_225 : Cond.selects "TwoOnACable" yX11_hour yX11_hour ∈ gL := gm_2 (List.mem_of_getElem? (i := 73) (by decide +kernel)) rfl
theorem wt_226 : Cond.code yX11_hour prog_1_method_11_code 2 (some FieldType.int) ∈ gL := gm_2 (List.mem_of_getElem? (i := 74) (by decide +kernel)) rfl
theorem wt_227 : Cond.methodLink "TwoOnACable" 181 yX11_isLength ∈ gL := gm_2 (List.mem_of_getElem? (i := 75) (by decide +kernel)) rfl
theorem wt_228 : Cond.static yX11_isLength ∈ gL := gm_2 (List.mem_of_getElem? (i := 76) (by decide +kernel)) rfl
theorem wt_229 : Cond.code yX11_isLength prog_1_method_34_code 1 (some FieldType.boolean) ∈ gL := gm_2 (List.mem_of_getElem? (i := 77) (by decide +kernel)) rfl
theorem wt_230 : Cond.methodLink "TwoOnACable" 184 yX0_goHour ∈ gL := gm_2 (List.mem_of_getElem? (i := 78) (by decide +kernel)) rfl
theorem wt_231 : Cond.instanceMethod yX0_goHour ∈ gL := gm_2 (List.mem_of_getElem? (i := 79) (by decide +kernel)) rfl
theorem wt_232 : Cond.selects "TwoOnACable$Cable" yX0_goHour yX0_goHour ∈ gL := gm_2 (List.mem_of_getElem? (i := 80) (by decide +kernel)) rfl
theorem wt_233 : Cond.code yX0_goHour prog_2_method_15_code 3 (none : Option FieldType) ∈ gL := gm_2 (List.mem_of_getElem? (i := 81) (by decide +kernel)) rfl
theorem wt_234 : Cond.methodLink "TwoOnACable$Cable" 71 yX0_placeAfter ∈ gL := gm_2 (List.mem_of_getElem? (i := 82) (by decide +kernel)) rfl
theorem wt_235 : Cond.instanceMethod yX0_placeAfter ∈ gL := gm_2 (List.mem_of_getElem? (i := 83) (by decide +kernel)) rfl
theorem wt_236 : Cond.selects "TwoOnACable$Cable" yX0_placeAfter yX0_placeAfter ∈ gL := gm_2 (List.mem_of_getElem? (i := 84) (by decide +kernel)) rfl
theorem wt_237 : Cond.code yX0_placeAfter prog_2_method_14_code 2 (some FieldType.int) ∈ gL := gm_2 (List.mem_of_getElem? (i := 85) (by decide +kernel)) rfl
theorem wt_238 : Cond.methodLink "TwoOnACable$Cable" 62 yX0_turnsNow ∈ gL := gm_2 (List.mem_of_getElem? (i := 86) (by decide +kernel)) rfl
theorem wt_239 : Cond.methodLink "TwoOnACable$Cable" 66 yJ9_floorMod_7cf53 ∈ gL := gm_2 (List.mem_of_getElem? (i := 87) (by decide +kernel)) rfl
theorem wt_240 : Cond.static yJ9_floorMod_7cf53 ∈ gL := gm_2 (List.mem_of_getElem? (i := 88) (by decide +kernel)) rfl
theorem wt_241 : Cond.code yJ9_floorMod_7cf53 prog_15_method_50_code 3 (some FieldType.int) ∈ gL := gm_2 (List.mem_of_getElem? (i := 89) (by decide +kernel)) rfl
theorem wt_242 : Cond.methodLink "TwoOnACable$Cable" 74 yX0_strainNow ∈ gL := gm_2 (List.mem_of_getElem? (i := 90) (by decide +kernel)) rfl
theorem wt_243 : Cond.instanceMethod yX0_strainNow ∈ gL := gm_2 (List.mem_of_getElem? (i := 91) (by decide +kernel)) rfl
theorem wt_244 : Cond.selects "TwoOnACable$Cable" yX0_strainNow yX0_strainNow ∈ gL := gm_2 (List.mem_of_getElem? (i := 92) (by decide +kernel)) rfl
theorem wt_245 : Cond.code yX0_strainNow prog_2_method_13_code 3 (some FieldType.int) ∈ gL := gm_2 (List.mem_of_getElem? (i := 93) (by decide +kernel)) rfl
theorem wt_246 : Cond.methodLink "TwoOnACable$Cable" 59 yX0_strainBy ∈ gL := gm_2 (List.mem_of_getElem? (i := 94) (by decide +kernel)) rfl
theorem wt_247 : Cond.instanceMethod yX0_strainBy ∈ gL := gm_2 (List.mem_of_getElem? (i := 95) (by decide +kernel)) rfl
theorem wt_248 : Cond.selects "TwoOnACable$Cable" yX0_strainBy yX0_strainBy ∈ gL := gm_2 (List.mem_of_getElem? (i := 96) (by decide +kernel)) rfl
theorem wt_249 : Cond.code yX0_strainBy prog_2_method_10_code 3 (some FieldType.int) ∈ gL := gm_2 (List.mem_of_getElem? (i := 97) (by decide +kernel)) rfl
theorem wt_250 : Cond.methodLink "TwoOnACableLaw" 88 yX11_caught ∈ gL := gm_2 (List.mem_of_getElem? (i := 98) (by decide +kernel)) rfl
theorem wt_251 : Cond.instanceMethod yX11_caught ∈ gL := gm_2 (List.mem_of_getElem? (i := 99) (by decide +kernel)) rfl
theorem wt_252 : Cond.selects "TwoOnACable" yX11_caught yX11_caught ∈ gL := gm_2 (List.mem_of_getElem? (i := 100) (by decide +kernel)) rfl
theorem wt_253 : Cond.code yX11_caught prog_1_method_14_code 5 (some FieldType.int) ∈ gL := gm_2 (List.mem_of_getElem? (i := 101) (by decide +kernel)) rfl
theorem wt_254 : Cond.methodLink "TwoOnACable" 208 yJ9_floorMod_7cf53 ∈ gL := gm_2 (List.mem_of_getElem? (i := 102) (by decide +kernel)) rfl
theorem wt_255 : Cond.methodLink "TwoOnACable" 213 yX0_placeAfter ∈ gL := gm_2 (List.mem_of_getElem? (i := 103) (by decide +kernel)) rfl
theorem wt_256 : Cond.methodLink "TwoOnACable" 216 yX11_apartOnCircle ∈ gL := gm_2 (List.mem_of_getElem? (i := 104) (by decide +kernel)) rfl
theorem wt_257 : Cond.static yX11_apartOnCircle ∈ gL := gm_2 (List.mem_of_getElem? (i := 105) (by decide +kernel)) rfl
theorem wt_258 : Cond.code yX11_apartOnCircle prog_1_method_35_code 3 (some FieldType.int) ∈ gL := gm_2 (List.mem_of_getElem? (i := 106) (by decide +kernel)) rfl
theorem wt_259 : Cond.methodLink "TwoOnACable" 322 yJ9_min_7cf53 ∈ gL := gm_2 (List.mem_of_getElem? (i := 107) (by decide +kernel)) rfl
theorem wt_260 : Cond.static yJ9_min_7cf53 ∈ gL := gm_2 (List.mem_of_getElem? (i := 108) (by decide +kernel)) rfl
theorem wt_261 : Cond.code yJ9_min_7cf53 prog_15_method_69_code 2 (some FieldType.int) ∈ gL := gm_2 (List.mem_of_getElem? (i := 109) (by decide +kernel)) rfl
theorem wt_262 : Cond.methodLink "TwoOnACableLaw" 101 yX11_whirls ∈ gL := gm_2 (List.mem_of_getElem? (i := 110) (by decide +kernel)) rfl
theorem wt_263 : Cond.instanceMethod yX11_whirls ∈ gL := gm_2 (List.mem_of_getElem? (i := 111) (by decide +kernel)) rfl
theorem wt_264 : Cond.selects "TwoOnACable" yX11_whirls yX11_whirls ∈ gL := gm_2 (List.mem_of_getElem? (i := 112) (by decide +kernel)) rfl
theorem wt_265 : Cond.code yX11_whirls prog_1_method_19_code 5 (some FieldType.int) ∈ gL := gm_2 (List.mem_of_getElem? (i := 113) (by decide +kernel)) rfl
theorem wt_266 : Cond.methodLink "TwoOnACable" 246 yX11_tryHours ∈ gL := gm_2 (List.mem_of_getElem? (i := 114) (by decide +kernel)) rfl
theorem wt_267 : Cond.instanceMethod yX11_tryHours ∈ gL := gm_2 (List.mem_of_getElem? (i := 116) (by decide +kernel)) rfl
theorem wt_268 : Cond.code yX11_tryHours prog_1_method_27_code 6 (some FieldType.int) ∈ gL := gm_2 (List.mem_of_getElem? (i := 117) (by decide +kernel)) rfl
theorem wt_269 : Cond.methodLink "TwoOnACable" 250 yX0_becomeLike ∈ gL := gm_2 (List.mem_of_getElem? (i := 118) (by decide +kernel)) rfl
theorem wt_270 : Cond.instanceMethod yX0_becomeLike ∈ gL := gm_2 (List.mem_of_getElem? (i := 119) (by decide +kernel)) rfl
theorem wt_271 : Cond.selects "TwoOnACable$Cable" yX0_becomeLike yX0_becomeLike ∈ gL := gm_2 (List.mem_of_getElem? (i := 120) (by decide +kernel)) rfl
theorem wt_272 : Cond.code yX0_becomeLike prog_2_method_3_code 2 (none : Option FieldType) ∈ gL := gm_2 (List.mem_of_getElem? (i := 121) (by decide +kernel)) rfl
theorem wt_273 : Cond.methodLink "TwoOnACable" 307 yX11_nextSeed ∈ gL := gm_2 (List.mem_of_getElem? (i := 122) (by decide +kernel)) rfl
theorem wt_274 : Cond.static yX11_nextSeed ∈ gL := gm_2 (List.mem_of_getElem? (i := 123) (by decide +kernel)) rfl
theorem wt_275 : Cond.code yX11_nextSeed prog_1_method_28_code 1 (some FieldType.int) ∈ gL := gm_2 (List.mem_of_getElem? (i := 124) (by decide +kernel)) rfl
theorem wt_276 : Cond.constantLong "TwoOnACable" 314 (1103515245 : Int64) ∈ gL := gm_2 (List.mem_of_getElem? (i := 125) (by decide +kernel)) rfl
theorem wt_277 : Cond.constantLong "TwoOnACable" 316 (12345 : Int64) ∈ gL := gm_2 (List.mem_of_getElem? (i := 126) (by decide +kernel)) rfl
theorem wt_278 : Cond.constantLong "TwoOnACable" 318 (2147483648 : Int64) ∈ gL := gm_2 (List.mem_of_getElem? (i := 127) (by decide +kernel)) rfl
theorem wt_279 : Cond.constant "TwoOnACable" 310 (65536 : Int32) ∈ gL := gm_2 (List.mem_of_getElem? (i := 128) (by decide +kernel)) rfl
theorem wt_280 : Cond.methodLink "TwoOnACable" 311 yX11_windingOf ∈ gL := gm_2 (List.mem_of_getElem? (i := 129) (by decide +kernel)) rfl
theorem wt_281 : Cond.static yX11_windingOf ∈ gL := gm_2 (List.mem_of_getElem? (i := 130) (by decide +kernel)) rfl
theorem wt_282 : Cond.code yX11_windingOf prog_1_method_36_code 1 (some FieldType.int) ∈ gL := gm_2 (List.mem_of_getElem? (i := 131) (by decide +kernel)) rfl
theorem wt_283 : Cond.methodLink "TwoOnACableLaw" 65 yL_cell ∈ gL := gm_2 (List.mem_of_getElem? (i := 132) (by decide +kernel)) rfl
theorem wt_284 : Cond.static yL_cell ∈ gL := gm_2 (List.mem_of_getElem? (i := 133) (by decide +kernel)) rfl
theorem wt_285 : Cond.code yL_cell method_2_code 2 (some FieldType.int) ∈ gL := gm_2 (List.mem_of_getElem? (i := 134) (by decide +kernel)) rfl
theorem wt_286 : Cond.constant "TwoOnACableLaw" 7 (2147483647 : Int32) ∈ gL := gm_2 (List.mem_of_getElem? (i := 135) (by decide +kernel)) rfl
theorem wt_287 : Cond.methodLink "TwoOnACableLaw" 68 yL_wire ∈ gL := gm_2 (List.mem_of_getElem? (i := 136) (by decide +kernel)) rfl
theorem wt_288 : Cond.static yL_wire ∈ gL := gm_2 (List.mem_of_getElem? (i := 137) (by decide +kernel)) rfl
theorem wt_289 : Cond.code yL_wire method_4_code 7 (some FieldType.boolean) ∈ gL := gm_2 (List.mem_of_getElem? (i := 138) (by decide +kernel)) rfl
theorem wt_290 : Cond.constant "TwoOnACableLaw" 14 (524288 : Int32) ∈ gL := gm_2 (List.mem_of_getElem? (i := 139) (by decide +kernel)) rfl
theorem wt_291 : Cond.methodLink "TwoOnACableLaw" 15 yL_put ∈ gL := gm_2 (List.mem_of_getElem? (i := 140) (by decide +kernel)) rfl
theorem wt_292 : Cond.static yL_put ∈ gL := gm_2 (List.mem_of_getElem? (i := 141) (by decide +kernel)) rfl
theorem wt_293 : Cond.code yL_put method_3_code 2 (some FieldType.boolean) ∈ gL := gm_2 (List.mem_of_getElem? (i := 142) (by decide +kernel)) rfl
theorem wt_294 : Cond.methodLink "TwoOnACableLaw" 8 yX11_letters ∈ gL := gm_2 (List.mem_of_getElem? (i := 143) (by decide +kernel)) rfl
theorem wt_295 : Cond.instanceMethod yX11_letters ∈ gL := gm_2 (List.mem_of_getElem? (i := 144) (by decide +kernel)) rfl
theorem wt_296 : Cond.selects "TwoOnACable" yX11_letters yX11_letters ∈ gL := gm_2 (List.mem_of_getElem? (i := 145) (by decide +kernel)) rfl
theorem wt_297 : Cond.code yX11_letters prog_1_method_2_code 5 (some FieldType.int) ∈ gL := gm_2 (List.mem_of_getElem? (i := 146) (by decide +kernel)) rfl
theorem wt_298 : Cond.methodLink "TwoOnACable" 57 yX11_lettersIn ∈ gL := gm_2 (List.mem_of_getElem? (i := 147) (by decide +kernel)) rfl
theorem wt_299 : Cond.static yX11_lettersIn ∈ gL := gm_2 (List.mem_of_getElem? (i := 148) (by decide +kernel)) rfl
theorem wt_300 : Cond.code yX11_lettersIn prog_1_method_31_code 6 (some FieldType.int) ∈ gL := gm_2 (List.mem_of_getElem? (i := 149) (by decide +kernel)) rfl
theorem wt_301 : Cond.methodLink "TwoOnACable" 65 yX11_byteOf ∈ gL := gm_2 (List.mem_of_getElem? (i := 150) (by decide +kernel)) rfl
theorem wt_302 : Cond.static yX11_byteOf ∈ gL := gm_2 (List.mem_of_getElem? (i := 151) (by decide +kernel)) rfl
theorem wt_303 : Cond.code yX11_byteOf prog_1_method_30_code 3 (some FieldType.int) ∈ gL := gm_2 (List.mem_of_getElem? (i := 152) (by decide +kernel)) rfl
theorem wt_304 : Cond.methodLink "TwoOnACable" 61 yX7_hasRoomFor ∈ gL := gm_2 (List.mem_of_getElem? (i := 153) (by decide +kernel)) rfl
theorem wt_305 : Cond.instanceMethod yX7_hasRoomFor ∈ gL := gm_2 (List.mem_of_getElem? (i := 154) (by decide +kernel)) rfl
theorem wt_306 : Cond.selects "TwoOnACable$Page" yX7_hasRoomFor yX7_hasRoomFor ∈ gL := gm_2 (List.mem_of_getElem? (i := 155) (by decide +kernel)) rfl
theorem wt_307 : Cond.code yX7_hasRoomFor prog_9_method_2_code 2 (some FieldType.boolean) ∈ gL := gm_2 (List.mem_of_getElem? (i := 156) (by decide +kernel)) rfl
theorem wt_308 : Cond.methodLink "TwoOnACable" 69 yX7_put ∈ gL := gm_2 (List.mem_of_getElem? (i := 157) (by decide +kernel)) rfl
theorem wt_309 : Cond.instanceMethod yX7_put ∈ gL := gm_2 (List.mem_of_getElem? (i := 158) (by decide +kernel)) rfl
theorem wt_310 : Cond.selects "TwoOnACable$Page" yX7_put yX7_put ∈ gL := gm_2 (List.mem_of_getElem? (i := 159) (by decide +kernel)) rfl
theorem wt_311 : Cond.code yX7_put prog_9_method_3_code 2 (none : Option FieldType) ∈ gL := gm_2 (List.mem_of_getElem? (i := 160) (by decide +kernel)) rfl
theorem wt_312 : Cond.methodLink "TwoOnACableLaw" 21 yX11_fault ∈ gL := gm_2 (List.mem_of_getElem? (i := 161) (by decide +kernel)) rfl
theorem wt_313 : Cond.instanceMethod yX11_fault ∈ gL := gm_2 (List.mem_of_getElem? (i := 162) (by decide +kernel)) rfl
theorem wt_314 : Cond.selects "TwoOnACable" yX11_fault yX11_fault ∈ gL := gm_2 (List.mem_of_getElem? (i := 163) (by decide +kernel)) rfl
theorem wt_315 : Cond.code yX11_fault prog_1_method_4_code 1 (some FieldType.int) ∈ gL := gm_2 (List.mem_of_getElem? (i := 164) (by decide +kernel)) rfl
theorem wt_316 : Cond.methodLink "TwoOnACable" 81 yX7_firstWrong ∈ gL := gm_2 (List.mem_of_getElem? (i := 165) (by decide +kernel)) rfl
theorem wt_317 : Cond.instanceMethod yX7_firstWrong ∈ gL := gm_2 (List.mem_of_getElem? (i := 166) (by decide +kernel)) rfl
theorem wt_318 : Cond.selects "TwoOnACable$Page" yX7_firstWrong yX7_firstWrong ∈ gL := gm_2 (List.mem_of_getElem? (i := 167) (by decide +kernel)) rfl
theorem wt_319 : Cond.code yX7_firstWrong prog_9_method_6_code 2 (some FieldType.int) ∈ gL := gm_2 (List.mem_of_getElem? (i := 168) (by decide +kernel)) rfl
theorem wt_320 : Cond.methodLink "TwoOnACable$Page" 19 yX7_isWireLetter ∈ gL := gm_2 (List.mem_of_getElem? (i := 169) (by decide +kernel)) rfl
theorem wt_321 : Cond.instanceMethod yX7_isWireLetter ∈ gL := gm_2 (List.mem_of_getElem? (i := 171) (by decide +kernel)) rfl
theorem wt_322 : Cond.code yX7_isWireLetter prog_9_method_9_code 2 (some FieldType.boolean) ∈ gL := gm_2 (List.mem_of_getElem? (i := 172) (by decide +kernel)) rfl
theorem wt_323 : Cond.methodLink "TwoOnACable$Page" 31 yX7_isBetween ∈ gL := gm_2 (List.mem_of_getElem? (i := 173) (by decide +kernel)) rfl
theorem wt_324 : Cond.instanceMethod yX7_isBetween ∈ gL := gm_2 (List.mem_of_getElem? (i := 175) (by decide +kernel)) rfl
theorem wt_325 : Cond.code yX7_isBetween prog_9_method_10_code 4 (some FieldType.boolean) ∈ gL := gm_2 (List.mem_of_getElem? (i := 176) (by decide +kernel)) rfl
theorem wt_326 : Cond.methodLink "TwoOnACable$Page" 27 yX7_at ∈ gL := gm_2 (List.mem_of_getElem? (i := 177) (by decide +kernel)) rfl
theorem wt_327 : Cond.instanceMethod yX7_at ∈ gL := gm_2 (List.mem_of_getElem? (i := 178) (by decide +kernel)) rfl
theorem wt_328 : Cond.selects "TwoOnACable$Page" yX7_at yX7_at ∈ gL := gm_2 (List.mem_of_getElem? (i := 179) (by decide +kernel)) rfl
theorem wt_329 : Cond.code yX7_at prog_9_method_4_code 2 (some FieldType.int) ∈ gL := gm_2 (List.mem_of_getElem? (i := 180) (by decide +kernel)) rfl
theorem wt_330 : Cond.methodLink "TwoOnACableLaw" 25 yX11_wire ∈ gL := gm_2 (List.mem_of_getElem? (i := 181) (by decide +kernel)) rfl
theorem wt_331 : Cond.instanceMethod yX11_wire ∈ gL := gm_2 (List.mem_of_getElem? (i := 182) (by decide +kernel)) rfl
theorem wt_332 : Cond.selects "TwoOnACable" yX11_wire yX11_wire ∈ gL := gm_2 (List.mem_of_getElem? (i := 183) (by decide +kernel)) rfl
theorem wt_333 : Cond.code yX11_wire prog_1_method_5_code 1 (some FieldType.int) ∈ gL := gm_2 (List.mem_of_getElem? (i := 184) (by decide +kernel)) rfl
theorem wt_334 : Cond.methodLink "TwoOnACable" 84 yX7_isWire ∈ gL := gm_2 (List.mem_of_getElem? (i := 185) (by decide +kernel)) rfl
theorem wt_335 : Cond.instanceMethod yX7_isWire ∈ gL := gm_2 (List.mem_of_getElem? (i := 186) (by decide +kernel)) rfl
theorem wt_336 : Cond.selects "TwoOnACable$Page" yX7_isWire yX7_isWire ∈ gL := gm_2 (List.mem_of_getElem? (i := 187) (by decide +kernel)) rfl
theorem wt_337 : Cond.code yX7_isWire prog_9_method_7_code 1 (some FieldType.boolean) ∈ gL := gm_2 (List.mem_of_getElem? (i := 188) (by decide +kernel)) rfl
theorem wt_338 : Cond.methodLink "TwoOnACable$Page" 23 yX7_firstWrong ∈ gL := gm_2 (List.mem_of_getElem? (i := 189) (by decide +kernel)) rfl
theorem wt_339 : Cond.methodLink "TwoOnACable" 88 yX0_hang ∈ gL := gm_2 (List.mem_of_getElem? (i := 190) (by decide +kernel)) rfl
theorem wt_340 : Cond.instanceMethod yX0_hang ∈ gL := gm_2 (List.mem_of_getElem? (i := 191) (by decide +kernel)) rfl
theorem wt_341 : Cond.selects "TwoOnACable$Cable" yX0_hang yX0_hang ∈ gL := gm_2 (List.mem_of_getElem? (i := 192) (by decide +kernel)) rfl
theorem wt_342 : Cond.code yX0_hang prog_2_method_2_code 2 (none : Option FieldType) ∈ gL := gm_2 (List.mem_of_getElem? (i := 193) (by decide +kernel)) rfl
theorem wt_343 : Cond.methodLink "TwoOnACable$Cable" 9 yX7_digitAt ∈ gL := gm_2 (List.mem_of_getElem? (i := 194) (by decide +kernel)) rfl
theorem wt_344 : Cond.instanceMethod yX7_digitAt ∈ gL := gm_2 (List.mem_of_getElem? (i := 195) (by decide +kernel)) rfl
theorem wt_345 : Cond.selects "TwoOnACable$Page" yX7_digitAt yX7_digitAt ∈ gL := gm_2 (List.mem_of_getElem? (i := 196) (by decide +kernel)) rfl
theorem wt_346 : Cond.code yX7_digitAt prog_9_method_8_code 2 (some FieldType.int) ∈ gL := gm_2 (List.mem_of_getElem? (i := 197) (by decide +kernel)) rfl
theorem wt_347 : Cond.methodLink "TwoOnACable" 77 yX7_emptied ∈ gL := gm_2 (List.mem_of_getElem? (i := 198) (by decide +kernel)) rfl
theorem wt_348 : Cond.instanceMethod yX7_emptied ∈ gL := gm_2 (List.mem_of_getElem? (i := 199) (by decide +kernel)) rfl
theorem wt_349 : Cond.selects "TwoOnACable$Page" yX7_emptied yX7_emptied ∈ gL := gm_2 (List.mem_of_getElem? (i := 200) (by decide +kernel)) rfl
theorem wt_350 : Cond.code yX7_emptied prog_9_method_5_code 2 (some FieldType.int) ∈ gL := gm_2 (List.mem_of_getElem? (i := 201) (by decide +kernel)) rfl
theorem wt_351 : Cond.methodLink "TwoOnACable" 92 yX6_cutTo ∈ gL := gm_2 (List.mem_of_getElem? (i := 202) (by decide +kernel)) rfl
theorem wt_352 : Cond.instanceMethod yX6_cutTo ∈ gL := gm_2 (List.mem_of_getElem? (i := 203) (by decide +kernel)) rfl
theorem wt_353 : Cond.selects "TwoOnACable$Load" yX6_cutTo yX6_cutTo ∈ gL := gm_2 (List.mem_of_getElem? (i := 204) (by decide +kernel)) rfl
theorem wt_354 : Cond.code yX6_cutTo prog_8_method_5_code 3 (none : Option FieldType) ∈ gL := gm_2 (List.mem_of_getElem? (i := 205) (by decide +kernel)) rfl
theorem wt_355 : Cond.methodLink "TwoOnACable$Load" 25 yJ9_min_7cf53 ∈ gL := gm_2 (List.mem_of_getElem? (i := 206) (by decide +kernel)) rfl
theorem wt_356 : Cond.methodLink "TwoOnACable" 96 yX10_emptied ∈ gL := gm_2 (List.mem_of_getElem? (i := 207) (by decide +kernel)) rfl
theorem wt_357 : Cond.instanceMethod yX10_emptied ∈ gL := gm_2 (List.mem_of_getElem? (i := 208) (by decide +kernel)) rfl
theorem wt_358 : Cond.selects "TwoOnACable$Told" yX10_emptied yX10_emptied ∈ gL := gm_2 (List.mem_of_getElem? (i := 209) (by decide +kernel)) rfl
theorem wt_359 : Cond.code yX10_emptied prog_12_method_4_code 2 (some FieldType.int) ∈ gL := gm_2 (List.mem_of_getElem? (i := 210) (by decide +kernel)) rfl
theorem wt_360 : Cond.methodLink "TwoOnACableLaw" 71 yL_thing ∈ gL := gm_2 (List.mem_of_getElem? (i := 211) (by decide +kernel)) rfl
theorem wt_361 : Cond.static yL_thing ∈ gL := gm_2 (List.mem_of_getElem? (i := 212) (by decide +kernel)) rfl
theorem wt_362 : Cond.code yL_thing method_5_code 4 (some FieldType.boolean) ∈ gL := gm_2 (List.mem_of_getElem? (i := 213) (by decide +kernel)) rfl
theorem wt_363 : Cond.methodLink "TwoOnACableLaw" 28 yX11_thing ∈ gL := gm_2 (List.mem_of_getElem? (i := 214) (by decide +kernel)) rfl
theorem wt_364 : Cond.instanceMethod yX11_thing ∈ gL := gm_2 (List.mem_of_getElem? (i := 215) (by decide +kernel)) rfl
theorem wt_365 : Cond.selects "TwoOnACable" yX11_thing yX11_thing ∈ gL := gm_2 (List.mem_of_getElem? (i := 216) (by decide +kernel)) rfl
theorem wt_366 : Cond.code yX11_thing prog_1_method_7_code 4 (some FieldType.int) ∈ gL := gm_2 (List.mem_of_getElem? (i := 217) (by decide +kernel)) rfl
theorem wt_367 : Cond.methodLink "TwoOnACable" 134 yX6_isFull ∈ gL := gm_2 (List.mem_of_getElem? (i := 218) (by decide +kernel)) rfl
theorem wt_368 : Cond.instanceMethod yX6_isFull ∈ gL := gm_2 (List.mem_of_getElem? (i := 219) (by decide +kernel)) rfl
theorem wt_369 : Cond.selects "TwoOnACable$Load" yX6_isFull yX6_isFull ∈ gL := gm_2 (List.mem_of_getElem? (i := 220) (by decide +kernel)) rfl
theorem wt_370 : Cond.code yX6_isFull prog_8_method_2_code 1 (some FieldType.boolean) ∈ gL := gm_2 (List.mem_of_getElem? (i := 221) (by decide +kernel)) rfl
theorem wt_371 : Cond.methodLink "TwoOnACable" 137 yX11_newThing ∈ gL := gm_2 (List.mem_of_getElem? (i := 222) (by decide +kernel)) rfl
theorem wt_372 : Cond.static yX11_newThing ∈ gL := gm_2 (List.mem_of_getElem? (i := 223) (by decide +kernel)) rfl
theorem wt_373 : Cond.code yX11_newThing prog_1_method_39_code 4 (some (FieldType.object "TwoOnACable$Thing")) ∈ gL := gm_2 (List.mem_of_getElem? (i := 224) (by decide +kernel)) rfl
theorem wt_374 : Cond.instantiable "TwoOnACable$Cook" 3 ∈ gL := gm_2 (List.mem_of_getElem? (i := 225) (by decide +kernel)) rfl
theorem wt_375 : Cond.methodLink "TwoOnACable" 327 yX1_init ∈ gL := gm_2 (List.mem_of_getElem? (i := 226) (by decide +kernel)) rfl
theorem wt_376 : Cond.instanceMethod yX1_init ∈ gL := gm_2 (List.mem_of_getElem? (i := 227) (by decide +kernel)) rfl
theorem wt_377 : Cond.code yX1_init prog_3_method_1_code 4 (none : Option FieldType) ∈ gL := gm_2 (List.mem_of_getElem? (i := 228) (by decide +kernel)) rfl
theorem wt_378 : Cond.methodLink "TwoOnACable$Cook" 3 yX9_init ∈ gL := gm_2 (List.mem_of_getElem? (i := 229) (by decide +kernel)) rfl
theorem wt_379 : Cond.instanceMethod yX9_init ∈ gL := gm_2 (List.mem_of_getElem? (i := 230) (by decide +kernel)) rfl
theorem wt_380 : Cond.code yX9_init prog_11_method_1_code 4 (none : Option FieldType) ∈ gL := gm_2 (List.mem_of_getElem? (i := 231) (by decide +kernel)) rfl
theorem wt_381 : Cond.methodLink "TwoOnACable$Thing" 3 objectInit ∈ gL := gm_2 (List.mem_of_getElem? (i := 232) (by decide +kernel)) rfl
theorem wt_382 : Cond.fieldLink "TwoOnACable$Thing" 9 "TwoOnACable$Thing" "weight" "I" ∈ gL := gm_2 (List.mem_of_getElem? (i := 233) (by decide +kernel)) rfl
theorem wt_383 : Cond.fieldLink "TwoOnACable$Cook" 9 "TwoOnACable$Cook" "weight" "I" ∈ gL := gm_2 (List.mem_of_getElem? (i := 234) (by decide +kernel)) rfl
theorem wt_384 : Cond.sameField "TwoOnACable$Cook" "TwoOnACable$Thing" "weight" "I" ∈ gL := gm_2 (List.mem_of_getElem? (i := 235) (by decide +kernel)) rfl
theorem wt_385 : Cond.fieldLink "TwoOnACable$Hens" 9 "TwoOnACable$Hens" "weight" "I" ∈ gL := gm_2 (List.mem_of_getElem? (i := 236) (by decide +kernel)) rfl
theorem wt_386 : Cond.sameField "TwoOnACable$Hens" "TwoOnACable$Thing" "weight" "I" ∈ gL := gm_2 (List.mem_of_getElem? (i := 237) (by decide +kernel)) rfl
theorem wt_387 : Cond.fieldLink "TwoOnACable$Live" 9 "TwoOnACable$Live" "weight" "I" ∈ gL := gm_2 (List.mem_of_getElem? (i := 238) (by decide +kernel)) rfl
theorem wt_388 : Cond.sameField "TwoOnACable$Live" "TwoOnACable$Thing" "weight" "I" ∈ gL := gm_2 (List.mem_of_getElem? (i := 239) (by decide +kernel)) rfl
theorem wt_389 : Cond.fieldLink "TwoOnACable" 153 "TwoOnACable$Thing" "weight" "I" ∈ gL := gm_3 (List.mem_of_getElem? (i := 0) (by decide +kernel)) rfl
theorem wt_390 : Cond.fieldLink "TwoOnACable$Thing" 18 "TwoOnACable$Thing" "came" "I" ∈ gL := gm_3 (List.mem_of_getElem? (i := 1) (by decide +kernel)) rfl
theorem wt_391 : Cond.fieldLink "TwoOnACable$Live" 15 "TwoOnACable$Live" "came" "I" ∈ gL := gm_3 (List.mem_of_getElem? (i := 2) (by decide +kernel)) rfl
theorem wt_392 : Cond.sameField "TwoOnACable$Live" "TwoOnACable$Thing" "came" "I" ∈ gL := gm_3 (List.mem_of_getElem? (i := 3) (by decide +kernel)) rfl
theorem wt_393 : Cond.fieldLink "TwoOnACable$Hens" 15 "TwoOnACable$Hens" "came" "I" ∈ gL := gm_3 (List.mem_of_getElem? (i := 4) (by decide +kernel)) rfl
theorem wt_394 : Cond.sameField "TwoOnACable$Hens" "TwoOnACable$Thing" "came" "I" ∈ gL := gm_3 (List.mem_of_getElem? (i := 5) (by decide +kernel)) rfl
theorem wt_395 : Cond.fieldLink "TwoOnACable$Thing" 15 "TwoOnACable$Thing" "place" "I" ∈ gL := gm_3 (List.mem_of_getElem? (i := 6) (by decide +kernel)) rfl
theorem wt_396 : Cond.fieldLink "TwoOnACable$Load" 38 "TwoOnACable$Thing" "place" "I" ∈ gL := gm_3 (List.mem_of_getElem? (i := 7) (by decide +kernel)) rfl
theorem wt_397 : Cond.fieldLink "TwoOnACable" 156 "TwoOnACable$Thing" "place" "I" ∈ gL := gm_3 (List.mem_of_getElem? (i := 8) (by decide +kernel)) rfl
theorem wt_398 : Cond.instantiable "TwoOnACable$Guest" 3 ∈ gL := gm_3 (List.mem_of_getElem? (i := 16) (by decide +kernel)) rfl
theorem wt_399 : Cond.methodLink "TwoOnACable" 332 yX3_init ∈ gL := gm_3 (List.mem_of_getElem? (i := 17) (by decide +kernel)) rfl
theorem wt_400 : Cond.instanceMethod yX3_init ∈ gL := gm_3 (List.mem_of_getElem? (i := 18) (by decide +kernel)) rfl
theorem wt_401 : Cond.code yX3_init prog_5_method_1_code 4 (none : Option FieldType) ∈ gL := gm_3 (List.mem_of_getElem? (i := 19) (by decide +kernel)) rfl
theorem wt_402 : Cond.methodLink "TwoOnACable$Guest" 3 yX9_init ∈ gL := gm_3 (List.mem_of_getElem? (i := 20) (by decide +kernel)) rfl
theorem wt_403 : Cond.instantiable "TwoOnACable$Live" 3 ∈ gL := gm_3 (List.mem_of_getElem? (i := 25) (by decide +kernel)) rfl
theorem wt_404 : Cond.methodLink "TwoOnACable" 335 yX5_init ∈ gL := gm_3 (List.mem_of_getElem? (i := 26) (by decide +kernel)) rfl
theorem wt_405 : Cond.instanceMethod yX5_init ∈ gL := gm_3 (List.mem_of_getElem? (i := 27) (by decide +kernel)) rfl
theorem wt_406 : Cond.code yX5_init prog_7_method_1_code 4 (none : Option FieldType) ∈ gL := gm_3 (List.mem_of_getElem? (i := 28) (by decide +kernel)) rfl
theorem wt_407 : Cond.methodLink "TwoOnACable$Live" 3 yX9_init ∈ gL := gm_3 (List.mem_of_getElem? (i := 29) (by decide +kernel)) rfl
theorem wt_408 : Cond.instantiable "TwoOnACable$Hens" 3 ∈ gL := gm_3 (List.mem_of_getElem? (i := 34) (by decide +kernel)) rfl
theorem wt_409 : Cond.methodLink "TwoOnACable" 338 yX4_init ∈ gL := gm_3 (List.mem_of_getElem? (i := 35) (by decide +kernel)) rfl
theorem wt_410 : Cond.instanceMethod yX4_init ∈ gL := gm_3 (List.mem_of_getElem? (i := 36) (by decide +kernel)) rfl
theorem wt_411 : Cond.code yX4_init prog_6_method_1_code 4 (none : Option FieldType) ∈ gL := gm_3 (List.mem_of_getElem? (i := 37) (by decide +kernel)) rfl
theorem wt_412 : Cond.methodLink "TwoOnACable$Hens" 3 yX5_init ∈ gL := gm_3 (List.mem_of_getElem? (i := 38) (by decide +kernel)) rfl
theorem wt_413 : Cond.classLink "TwoOnACable" 149 "TwoOnACable$Thing" ∈ gL := gm_3 (List.mem_of_getElem? (i := 43) (by decide +kernel)) rfl
theorem wt_414 : Cond.instantiable "TwoOnACable$Thing" 3 ∈ gL := gm_3 (List.mem_of_getElem? (i := 44) (by decide +kernel)) rfl
theorem wt_415 : Cond.methodLink "TwoOnACable" 339 yX9_init ∈ gL := gm_3 (List.mem_of_getElem? (i := 45) (by decide +kernel)) rfl
theorem wt_416 : Cond.methodLink "TwoOnACable" 141 yX6_put ∈ gL := gm_3 (List.mem_of_getElem? (i := 50) (by decide +kernel)) rfl
theorem wt_417 : Cond.instanceMethod yX6_put ∈ gL := gm_3 (List.mem_of_getElem? (i := 51) (by decide +kernel)) rfl
theorem wt_418 : Cond.selects "TwoOnACable$Load" yX6_put yX6_put ∈ gL := gm_3 (List.mem_of_getElem? (i := 52) (by decide +kernel)) rfl
theorem wt_419 : Cond.code yX6_put prog_8_method_3_code 2 (some FieldType.int) ∈ gL := gm_3 (List.mem_of_getElem? (i := 53) (by decide +kernel)) rfl
theorem wt_420 : Cond.methodLink "TwoOnACableLaw" 40 yL_turns ∈ gL := gm_3 (List.mem_of_getElem? (i := 54) (by decide +kernel)) rfl
theorem wt_421 : Cond.static yL_turns ∈ gL := gm_3 (List.mem_of_getElem? (i := 55) (by decide +kernel)) rfl
theorem wt_422 : Cond.code yL_turns method_8_code 2 (some FieldType.int) ∈ gL := gm_3 (List.mem_of_getElem? (i := 56) (by decide +kernel)) rfl
theorem wt_423 : Cond.methodLink "TwoOnACableLaw" 76 yL_hour ∈ gL := gm_3 (List.mem_of_getElem? (i := 57) (by decide +kernel)) rfl
theorem wt_424 : Cond.static yL_hour ∈ gL := gm_3 (List.mem_of_getElem? (i := 58) (by decide +kernel)) rfl
theorem wt_425 : Cond.code yL_hour method_12_code 2 (some FieldType.int) ∈ gL := gm_3 (List.mem_of_getElem? (i := 59) (by decide +kernel)) rfl
theorem wt_426 : Cond.methodLink "TwoOnACableLaw" 51 yL_strain ∈ gL := gm_3 (List.mem_of_getElem? (i := 60) (by decide +kernel)) rfl
theorem wt_427 : Cond.static yL_strain ∈ gL := gm_3 (List.mem_of_getElem? (i := 61) (by decide +kernel)) rfl
theorem wt_428 : Cond.code yL_strain method_11_code 3 (some FieldType.int) ∈ gL := gm_3 (List.mem_of_getElem? (i := 62) (by decide +kernel)) rfl
theorem wt_429 : Cond.methodLink "TwoOnACableLaw" 48 yL_floor ∈ gL := gm_3 (List.mem_of_getElem? (i := 63) (by decide +kernel)) rfl
theorem wt_430 : Cond.static yL_floor ∈ gL := gm_3 (List.mem_of_getElem? (i := 64) (by decide +kernel)) rfl
theorem wt_431 : Cond.code yL_floor method_10_code 6 (some FieldType.int) ∈ gL := gm_3 (List.mem_of_getElem? (i := 65) (by decide +kernel)) rfl
theorem wt_432 : Cond.methodLink "TwoOnACableLaw" 44 yL_arm ∈ gL := gm_3 (List.mem_of_getElem? (i := 66) (by decide +kernel)) rfl
theorem wt_433 : Cond.static yL_arm ∈ gL := gm_3 (List.mem_of_getElem? (i := 67) (by decide +kernel)) rfl
theorem wt_434 : Cond.code yL_arm method_9_code 8 (some FieldType.int) ∈ gL := gm_3 (List.mem_of_getElem? (i := 68) (by decide +kernel)) rfl
theorem wt_435 : Cond.methodLink "TwoOnACableLaw" 36 yL_cabin ∈ gL := gm_3 (List.mem_of_getElem? (i := 69) (by decide +kernel)) rfl
theorem wt_436 : Cond.static yL_cabin ∈ gL := gm_3 (List.mem_of_getElem? (i := 70) (by decide +kernel)) rfl
theorem wt_437 : Cond.code yL_cabin method_7_code 7 (some FieldType.int) ∈ gL := gm_3 (List.mem_of_getElem? (i := 71) (by decide +kernel)) rfl
theorem wt_438 : Cond.methodLink "TwoOnACableLaw" 32 yL_weighs ∈ gL := gm_3 (List.mem_of_getElem? (i := 72) (by decide +kernel)) rfl
theorem wt_439 : Cond.static yL_weighs ∈ gL := gm_3 (List.mem_of_getElem? (i := 73) (by decide +kernel)) rfl
theorem wt_440 : Cond.code yL_weighs method_6_code 5 (some FieldType.int) ∈ gL := gm_3 (List.mem_of_getElem? (i := 74) (by decide +kernel)) rfl
theorem wt_441 : Cond.methodLink "TwoOnACableLaw" 81 yL_told ∈ gL := gm_3 (List.mem_of_getElem? (i := 75) (by decide +kernel)) rfl
theorem wt_442 : Cond.static yL_told ∈ gL := gm_3 (List.mem_of_getElem? (i := 76) (by decide +kernel)) rfl
theorem wt_443 : Cond.code yL_told method_13_code 5 (some FieldType.boolean) ∈ gL := gm_3 (List.mem_of_getElem? (i := 77) (by decide +kernel)) rfl
theorem wt_444 : Cond.methodLink "TwoOnACableLaw" 54 yX11_count ∈ gL := gm_3 (List.mem_of_getElem? (i := 78) (by decide +kernel)) rfl
theorem wt_445 : Cond.instanceMethod yX11_count ∈ gL := gm_3 (List.mem_of_getElem? (i := 79) (by decide +kernel)) rfl
theorem wt_446 : Cond.selects "TwoOnACable" yX11_count yX11_count ∈ gL := gm_3 (List.mem_of_getElem? (i := 80) (by decide +kernel)) rfl
theorem wt_447 : Cond.code yX11_count prog_1_method_22_code 2 (some FieldType.int) ∈ gL := gm_3 (List.mem_of_getElem? (i := 81) (by decide +kernel)) rfl
theorem wt_448 : Cond.methodLink "TwoOnACable" 232 yX0_strainNow ∈ gL := gm_3 (List.mem_of_getElem? (i := 82) (by decide +kernel)) rfl
theorem wt_449 : Cond.constantLong "TwoOnACableLaw" 91 (1103515245 : Int64) ∈ gL := gm_3 (List.mem_of_getElem? (i := 83) (by decide +kernel)) rfl
theorem wt_450 : Cond.constantLong "TwoOnACableLaw" 93 (12345 : Int64) ∈ gL := gm_3 (List.mem_of_getElem? (i := 84) (by decide +kernel)) rfl
theorem wt_451 : Cond.constantLong "TwoOnACableLaw" 95 (2147483648 : Int64) ∈ gL := gm_3 (List.mem_of_getElem? (i := 85) (by decide +kernel)) rfl
theorem wt_452 : Cond.constantLong "TwoOnACableLaw" 97 (65536 : Int64) ∈ gL := gm_3 (List.mem_of_getElem? (i := 86) (by decide +kernel)) rfl
theorem wt_453 : Cond.constantLong "TwoOnACableLaw" 99 (7 : Int64) ∈ gL := gm_3 (List.mem_of_getElem? (i := 87) (by decide +kernel)) rfl
theorem wt_454 : Cond.constantLong "TwoOnACableLaw" 104 (-103 : Int64) ∈ gL := gm_3 (List.mem_of_getElem? (i := 88) (by decide +kernel)) rfl
theorem wt_455 : Cond.selects RX11 yX11_tryHours yX11_tryHours ∈ gL := gm_0 (by decide +kernel) rfl
theorem wt_456 : Cond.selects RX7 yX7_isWireLetter yX7_isWireLetter ∈ gL := gm_0 (by decide +kernel) rfl
theorem wt_457 : Cond.selects RX7 yX7_isBetween yX7_isBetween ∈ gL := gm_0 (by decide +kernel) rfl
theorem inX0 : ∀ w ∈ u_ws RX0 TX0 7, w ∈ gL := by decide +kernel
theorem inX1 : ∀ w ∈ u_ws RX1 TX1 3, w ∈ gL := by decide +kernel
theorem inX2 : ∀ w ∈ u_ws RX2 TX2 7, w ∈ gL := by decide +kernel
theorem inX3 : ∀ w ∈ u_ws RX3 TX3 3, w ∈ gL := by decide +kernel
theorem inX4 : ∀ w ∈ u_ws RX4 TX4 3, w ∈ gL := by decide +kernel
theorem inX5 : ∀ w ∈ u_ws RX5 TX5 3, w ∈ gL := by decide +kernel
theorem inX6 : ∀ w ∈ u_ws RX6 TX6 4, w ∈ gL := by decide +kernel
theorem inX7 : ∀ w ∈ u_ws RX7 TX7 2, w ∈ gL := by decide +kernel
theorem inX8 : ∀ w ∈ u_ws RX8 TX8 4, w ∈ gL := by decide +kernel
theorem inX9 : ∀ w ∈ u_ws RX9 TX9 3, w ∈ gL := by decide +kernel
theorem inX10 : ∀ w ∈ u_ws RX10 TX10 3, w ∈ gL := by decide +kernel
theorem inX11 : ∀ w ∈ u_ws RX11 TX11 10, w ∈ gL := by decide +kernel
theorem inX12 : ∀ w ∈ u_ws RX12 TX12 0, w ∈ gL := by decide +kernel
theorem inJ9 : ∀ w ∈ u_ws RJ9 TJ9 0, w ∈ gL := by decide +kernel
end
section
theorem dX0_init_0 : decode cX0_init 0 = .ok (.aload_n 0, 1) := by decide +kernel
theorem dX0_init_1 : decode cX0_init 1 = .ok (.invokespecial 3, 3) := by decide +kernel
theorem dX0_init_4 : decode cX0_init 4 = .ok (.return_, 1) := by decide +kernel
theorem dX0_hang_0 : decode cX0_hang 0 = .ok (.aload_n 0, 1) := by decide +kernel
theorem dX0_hang_1 : decode cX0_hang 1 = .ok (.bipush 10, 2) := by decide +kernel
theorem dX0_hang_3 : decode cX0_hang 3 = .ok (.aload_n 1, 1) := by decide +kernel
theorem dX0_hang_4 : decode cX0_hang 4 = .ok (.iconst 0, 1) := by decide +kernel
theorem dX0_hang_5 : decode cX0_hang 5 = .ok (.invokevirtual 9, 3) := by decide +kernel
theorem dX0_hang_8 : decode cX0_hang 8 = .ok (.imul, 1) := by decide +kernel
theorem dX0_hang_9 : decode cX0_hang 9 = .ok (.aload_n 1, 1) := by decide +kernel
theorem dX0_hang_10 : decode cX0_hang 10 = .ok (.iconst 1, 1) := by decide +kernel
theorem dX0_hang_11 : decode cX0_hang 11 = .ok (.invokevirtual 9, 3) := by decide +kernel
theorem dX0_hang_14 : decode cX0_hang 14 = .ok (.iadd, 1) := by decide +kernel
theorem dX0_hang_15 : decode cX0_hang 15 = .ok (.putfield 15, 3) := by decide +kernel
theorem dX0_hang_18 : decode cX0_hang 18 = .ok (.aload_n 0, 1) := by decide +kernel
theorem dX0_hang_19 : decode cX0_hang 19 = .ok (.aload_n 0, 1) := by decide +kernel
theorem dX0_hang_20 : decode cX0_hang 20 = .ok (.getfield 15, 3) := by decide +kernel
theorem dX0_hang_23 : decode cX0_hang 23 = .ok (.aload_n 0, 1) := by decide +kernel
theorem dX0_hang_24 : decode cX0_hang 24 = .ok (.getfield 15, 3) := by decide +kernel
theorem dX0_hang_27 : decode cX0_hang 27 = .ok (.imul, 1) := by decide +kernel
theorem dX0_hang_28 : decode cX0_hang 28 = .ok (.aload_n 1, 1) := by decide +kernel
theorem dX0_hang_29 : decode cX0_hang 29 = .ok (.iconst 3, 1) := by decide +kernel
theorem dX0_hang_30 : decode cX0_hang 30 = .ok (.invokevirtual 9, 3) := by decide +kernel
theorem dX0_hang_33 : decode cX0_hang 33 = .ok (.imul, 1) := by decide +kernel
theorem dX0_hang_34 : decode cX0_hang 34 = .ok (.putfield 21, 3) := by decide +kernel
theorem dX0_hang_37 : decode cX0_hang 37 = .ok (.aload_n 0, 1) := by decide +kernel
theorem dX0_hang_38 : decode cX0_hang 38 = .ok (.bipush 100, 2) := by decide +kernel
theorem dX0_hang_40 : decode cX0_hang 40 = .ok (.aload_n 1, 1) := by decide +kernel
theorem dX0_hang_41 : decode cX0_hang 41 = .ok (.iconst 5, 1) := by decide +kernel
theorem dX0_hang_42 : decode cX0_hang 42 = .ok (.invokevirtual 9, 3) := by decide +kernel
theorem dX0_hang_45 : decode cX0_hang 45 = .ok (.imul, 1) := by decide +kernel
theorem dX0_hang_46 : decode cX0_hang 46 = .ok (.bipush 10, 2) := by decide +kernel
theorem dX0_hang_48 : decode cX0_hang 48 = .ok (.aload_n 1, 1) := by decide +kernel
theorem dX0_hang_49 : decode cX0_hang 49 = .ok (.bipush 6, 2) := by decide +kernel
theorem dX0_hang_51 : decode cX0_hang 51 = .ok (.invokevirtual 9, 3) := by decide +kernel
theorem dX0_hang_54 : decode cX0_hang 54 = .ok (.imul, 1) := by decide +kernel
theorem dX0_hang_55 : decode cX0_hang 55 = .ok (.iadd, 1) := by decide +kernel
theorem dX0_hang_56 : decode cX0_hang 56 = .ok (.aload_n 1, 1) := by decide +kernel
theorem dX0_hang_57 : decode cX0_hang 57 = .ok (.bipush 7, 2) := by decide +kernel
theorem dX0_hang_59 : decode cX0_hang 59 = .ok (.invokevirtual 9, 3) := by decide +kernel
theorem dX0_hang_62 : decode cX0_hang 62 = .ok (.iadd, 1) := by decide +kernel
theorem dX0_hang_63 : decode cX0_hang 63 = .ok (.putfield 24, 3) := by decide +kernel
theorem dX0_hang_66 : decode cX0_hang 66 = .ok (.aload_n 0, 1) := by decide +kernel
theorem dX0_hang_67 : decode cX0_hang 67 = .ok (.aload_n 1, 1) := by decide +kernel
theorem dX0_hang_68 : decode cX0_hang 68 = .ok (.getfield 27, 3) := by decide +kernel
theorem dX0_hang_71 : decode cX0_hang 71 = .ok (.bipush 8, 2) := by decide +kernel
theorem dX0_hang_73 : decode cX0_hang 73 = .ok (.if_icmp .le 7, 3) := by decide +kernel
theorem dX0_hang_76 : decode cX0_hang 76 = .ok (.iconst 1, 1) := by decide +kernel
theorem dX0_hang_77 : decode cX0_hang 77 = .ok (.goto 4, 3) := by decide +kernel
theorem dX0_hang_80 : decode cX0_hang 80 = .ok (.iconst 0, 1) := by decide +kernel
theorem dX0_hang_81 : decode cX0_hang 81 = .ok (.putfield 30, 3) := by decide +kernel
theorem dX0_hang_84 : decode cX0_hang 84 = .ok (.aload_n 0, 1) := by decide +kernel
theorem dX0_hang_85 : decode cX0_hang 85 = .ok (.iconst 0, 1) := by decide +kernel
theorem dX0_hang_86 : decode cX0_hang 86 = .ok (.putfield 34, 3) := by decide +kernel
theorem dX0_hang_89 : decode cX0_hang 89 = .ok (.aload_n 0, 1) := by decide +kernel
theorem dX0_hang_90 : decode cX0_hang 90 = .ok (.iconst 0, 1) := by decide +kernel
theorem dX0_hang_91 : decode cX0_hang 91 = .ok (.putfield 37, 3) := by decide +kernel
theorem dX0_hang_94 : decode cX0_hang 94 = .ok (.aload_n 0, 1) := by decide +kernel
theorem dX0_hang_95 : decode cX0_hang 95 = .ok (.iconst 0, 1) := by decide +kernel
theorem dX0_hang_96 : decode cX0_hang 96 = .ok (.putfield 40, 3) := by decide +kernel
theorem dX0_hang_99 : decode cX0_hang 99 = .ok (.return_, 1) := by decide +kernel
theorem dX0_becomeLike_0 : decode cX0_becomeLike 0 = .ok (.aload_n 0, 1) := by decide +kernel
theorem dX0_becomeLike_1 : decode cX0_becomeLike 1 = .ok (.aload_n 1, 1) := by decide +kernel
theorem dX0_becomeLike_2 : decode cX0_becomeLike 2 = .ok (.getfield 15, 3) := by decide +kernel
theorem dX0_becomeLike_5 : decode cX0_becomeLike 5 = .ok (.putfield 15, 3) := by decide +kernel
theorem dX0_becomeLike_8 : decode cX0_becomeLike 8 = .ok (.aload_n 0, 1) := by decide +kernel
theorem dX0_becomeLike_9 : decode cX0_becomeLike 9 = .ok (.aload_n 1, 1) := by decide +kernel
theorem dX0_becomeLike_10 : decode cX0_becomeLike 10 = .ok (.getfield 21, 3) := by decide +kernel
theorem dX0_becomeLike_13 : decode cX0_becomeLike 13 = .ok (.putfield 21, 3) := by decide +kernel
theorem dX0_becomeLike_16 : decode cX0_becomeLike 16 = .ok (.aload_n 0, 1) := by decide +kernel
theorem dX0_becomeLike_17 : decode cX0_becomeLike 17 = .ok (.aload_n 1, 1) := by decide +kernel
theorem dX0_becomeLike_18 : decode cX0_becomeLike 18 = .ok (.getfield 24, 3) := by decide +kernel
theorem dX0_becomeLike_21 : decode cX0_becomeLike 21 = .ok (.putfield 24, 3) := by decide +kernel
theorem dX0_becomeLike_24 : decode cX0_becomeLike 24 = .ok (.aload_n 0, 1) := by decide +kernel
theorem dX0_becomeLike_25 : decode cX0_becomeLike 25 = .ok (.aload_n 1, 1) := by decide +kernel
theorem dX0_becomeLike_26 : decode cX0_becomeLike 26 = .ok (.getfield 34, 3) := by decide +kernel
theorem dX0_becomeLike_29 : decode cX0_becomeLike 29 = .ok (.putfield 34, 3) := by decide +kernel
theorem dX0_becomeLike_32 : decode cX0_becomeLike 32 = .ok (.aload_n 0, 1) := by decide +kernel
theorem dX0_becomeLike_33 : decode cX0_becomeLike 33 = .ok (.aload_n 1, 1) := by decide +kernel
theorem dX0_becomeLike_34 : decode cX0_becomeLike 34 = .ok (.getfield 37, 3) := by decide +kernel
theorem dX0_becomeLike_37 : decode cX0_becomeLike 37 = .ok (.putfield 37, 3) := by decide +kernel
theorem dX0_becomeLike_40 : decode cX0_becomeLike 40 = .ok (.aload_n 0, 1) := by decide +kernel
theorem dX0_becomeLike_41 : decode cX0_becomeLike 41 = .ok (.aload_n 1, 1) := by decide +kernel
theorem dX0_becomeLike_42 : decode cX0_becomeLike 42 = .ok (.getfield 30, 3) := by decide +kernel
theorem dX0_becomeLike_45 : decode cX0_becomeLike 45 = .ok (.putfield 30, 3) := by decide +kernel
theorem dX0_becomeLike_48 : decode cX0_becomeLike 48 = .ok (.aload_n 0, 1) := by decide +kernel
theorem dX0_becomeLike_49 : decode cX0_becomeLike 49 = .ok (.aload_n 1, 1) := by decide +kernel
theorem dX0_becomeLike_50 : decode cX0_becomeLike 50 = .ok (.getfield 40, 3) := by decide +kernel
theorem dX0_becomeLike_53 : decode cX0_becomeLike 53 = .ok (.putfield 40, 3) := by decide +kernel
theorem dX0_becomeLike_56 : decode cX0_becomeLike 56 = .ok (.return_, 1) := by decide +kernel
theorem dX0_isThere_0 : decode cX0_isThere 0 = .ok (.aload_n 0, 1) := by decide +kernel
theorem dX0_isThere_1 : decode cX0_isThere 1 = .ok (.getfield 15, 3) := by decide +kernel
theorem dX0_isThere_4 : decode cX0_isThere 4 = .ok (.ifCond .le 7, 3) := by decide +kernel
theorem dX0_isThere_7 : decode cX0_isThere 7 = .ok (.iconst 1, 1) := by decide +kernel
theorem dX0_isThere_8 : decode cX0_isThere 8 = .ok (.goto 4, 3) := by decide +kernel
theorem dX0_isThere_11 : decode cX0_isThere 11 = .ok (.iconst 0, 1) := by decide +kernel
theorem dX0_isThere_12 : decode cX0_isThere 12 = .ok (.ireturn, 1) := by decide +kernel
theorem dX0_isWhole_0 : decode cX0_isWhole 0 = .ok (.aload_n 0, 1) := by decide +kernel
theorem dX0_isWhole_1 : decode cX0_isWhole 1 = .ok (.getfield 15, 3) := by decide +kernel
theorem dX0_isWhole_4 : decode cX0_isWhole 4 = .ok (.ifCond .le 14, 3) := by decide +kernel
theorem dX0_isWhole_7 : decode cX0_isWhole 7 = .ok (.aload_n 0, 1) := by decide +kernel
theorem dX0_isWhole_8 : decode cX0_isWhole 8 = .ok (.getfield 40, 3) := by decide +kernel
theorem dX0_isWhole_11 : decode cX0_isWhole 11 = .ok (.ifCond .ne 7, 3) := by decide +kernel
theorem dX0_isWhole_14 : decode cX0_isWhole 14 = .ok (.iconst 1, 1) := by decide +kernel
theorem dX0_isWhole_15 : decode cX0_isWhole 15 = .ok (.goto 4, 3) := by decide +kernel
theorem dX0_isWhole_18 : decode cX0_isWhole 18 = .ok (.iconst 0, 1) := by decide +kernel
theorem dX0_isWhole_19 : decode cX0_isWhole 19 = .ok (.ireturn, 1) := by decide +kernel
theorem dX0_turnsAt_0 : decode cX0_turnsAt 0 = .ok (.iload_n 1, 1) := by decide +kernel
theorem dX0_turnsAt_1 : decode cX0_turnsAt 1 = .ok (.bipush 10, 2) := by decide +kernel
theorem dX0_turnsAt_3 : decode cX0_turnsAt 3 = .ok (.if_icmp .lt 20, 3) := by decide +kernel
theorem dX0_turnsAt_6 : decode cX0_turnsAt 6 = .ok (.iload_n 1, 1) := by decide +kernel
theorem dX0_turnsAt_7 : decode cX0_turnsAt 7 = .ok (.bipush 40, 2) := by decide +kernel
theorem dX0_turnsAt_9 : decode cX0_turnsAt 9 = .ok (.if_icmp .gt 14, 3) := by decide +kernel
theorem dX0_turnsAt_12 : decode cX0_turnsAt 12 = .ok (.aload_n 0, 1) := by decide +kernel
theorem dX0_turnsAt_13 : decode cX0_turnsAt 13 = .ok (.getfield 21, 3) := by decide +kernel
theorem dX0_turnsAt_16 : decode cX0_turnsAt 16 = .ok (.iload_n 1, 1) := by decide +kernel
theorem dX0_turnsAt_17 : decode cX0_turnsAt 17 = .ok (.iload_n 1, 1) := by decide +kernel
theorem dX0_turnsAt_18 : decode cX0_turnsAt 18 = .ok (.imul, 1) := by decide +kernel
theorem dX0_turnsAt_19 : decode cX0_turnsAt 19 = .ok (.idiv, 1) := by decide +kernel
theorem dX0_turnsAt_20 : decode cX0_turnsAt 20 = .ok (.goto 4, 3) := by decide +kernel
theorem dX0_turnsAt_23 : decode cX0_turnsAt 23 = .ok (.iconst 0, 1) := by decide +kernel
theorem dX0_turnsAt_24 : decode cX0_turnsAt 24 = .ok (.ireturn, 1) := by decide +kernel
theorem dX0_turnsNow_0 : decode cX0_turnsNow 0 = .ok (.aload_n 0, 1) := by decide +kernel
theorem dX0_turnsNow_1 : decode cX0_turnsNow 1 = .ok (.aload_n 0, 1) := by decide +kernel
theorem dX0_turnsNow_2 : decode cX0_turnsNow 2 = .ok (.getfield 15, 3) := by decide +kernel
theorem dX0_turnsNow_5 : decode cX0_turnsNow 5 = .ok (.invokevirtual 43, 3) := by decide +kernel
theorem dX0_turnsNow_8 : decode cX0_turnsNow 8 = .ok (.ireturn, 1) := by decide +kernel
theorem dX0_armAt_0 : decode cX0_armAt 0 = .ok (.iload_n 3, 1) := by decide +kernel
theorem dX0_armAt_1 : decode cX0_armAt 1 = .ok (.iload 4, 2) := by decide +kernel
theorem dX0_armAt_3 : decode cX0_armAt 3 = .ok (.iadd, 1) := by decide +kernel
theorem dX0_armAt_4 : decode cX0_armAt 4 = .ok (.istore 5, 2) := by decide +kernel
theorem dX0_armAt_6 : decode cX0_armAt 6 = .ok (.iload 5, 2) := by decide +kernel
theorem dX0_armAt_8 : decode cX0_armAt 8 = .ok (.ifCond .le 13, 3) := by decide +kernel
theorem dX0_armAt_11 : decode cX0_armAt 11 = .ok (.iload_n 2, 1) := by decide +kernel
theorem dX0_armAt_12 : decode cX0_armAt 12 = .ok (.iload 4, 2) := by decide +kernel
theorem dX0_armAt_14 : decode cX0_armAt 14 = .ok (.imul, 1) := by decide +kernel
theorem dX0_armAt_15 : decode cX0_armAt 15 = .ok (.iload 5, 2) := by decide +kernel
theorem dX0_armAt_17 : decode cX0_armAt 17 = .ok (.idiv, 1) := by decide +kernel
theorem dX0_armAt_18 : decode cX0_armAt 18 = .ok (.goto 4, 3) := by decide +kernel
theorem dX0_armAt_21 : decode cX0_armAt 21 = .ok (.iconst 0, 1) := by decide +kernel
theorem dX0_armAt_22 : decode cX0_armAt 22 = .ok (.istore 6, 2) := by decide +kernel
theorem dX0_armAt_24 : decode cX0_armAt 24 = .ok (.iload_n 1, 1) := by decide +kernel
theorem dX0_armAt_25 : decode cX0_armAt 25 = .ok (.ifCond .ne 8, 3) := by decide +kernel
theorem dX0_armAt_28 : decode cX0_armAt 28 = .ok (.iload 6, 2) := by decide +kernel
theorem dX0_armAt_30 : decode cX0_armAt 30 = .ok (.goto 7, 3) := by decide +kernel
theorem dX0_armAt_33 : decode cX0_armAt 33 = .ok (.iload_n 2, 1) := by decide +kernel
theorem dX0_armAt_34 : decode cX0_armAt 34 = .ok (.iload 6, 2) := by decide +kernel
theorem dX0_armAt_36 : decode cX0_armAt 36 = .ok (.isub, 1) := by decide +kernel
theorem dX0_armAt_37 : decode cX0_armAt 37 = .ok (.ireturn, 1) := by decide +kernel
theorem dX0_floorAt_0 : decode cX0_floorAt 0 = .ok (.aload_n 0, 1) := by decide +kernel
theorem dX0_floorAt_1 : decode cX0_floorAt 1 = .ok (.iload_n 2, 1) := by decide +kernel
theorem dX0_floorAt_2 : decode cX0_floorAt 2 = .ok (.invokevirtual 43, 3) := by decide +kernel
theorem dX0_floorAt_5 : decode cX0_floorAt 5 = .ok (.istore 5, 2) := by decide +kernel
theorem dX0_floorAt_7 : decode cX0_floorAt 7 = .ok (.aload_n 0, 1) := by decide +kernel
theorem dX0_floorAt_8 : decode cX0_floorAt 8 = .ok (.iload_n 1, 1) := by decide +kernel
theorem dX0_floorAt_9 : decode cX0_floorAt 9 = .ok (.iload_n 2, 1) := by decide +kernel
theorem dX0_floorAt_10 : decode cX0_floorAt 10 = .ok (.iload_n 3, 1) := by decide +kernel
theorem dX0_floorAt_11 : decode cX0_floorAt 11 = .ok (.iload 4, 2) := by decide +kernel
theorem dX0_floorAt_13 : decode cX0_floorAt 13 = .ok (.invokevirtual 46, 3) := by decide +kernel
theorem dX0_floorAt_16 : decode cX0_floorAt 16 = .ok (.iload 5, 2) := by decide +kernel
theorem dX0_floorAt_18 : decode cX0_floorAt 18 = .ok (.imul, 1) := by decide +kernel
theorem dX0_floorAt_19 : decode cX0_floorAt 19 = .ok (.iload 5, 2) := by decide +kernel
theorem dX0_floorAt_21 : decode cX0_floorAt 21 = .ok (.imul, 1) := by decide +kernel
theorem dX0_floorAt_22 : decode cX0_floorAt 22 = .ok (.ireturn, 1) := by decide +kernel
theorem dX0_strainBy_0 : decode cX0_strainBy 0 = .ok (.iload_n 1, 1) := by decide +kernel
theorem dX0_strainBy_1 : decode cX0_strainBy 1 = .ok (.iload_n 2, 1) := by decide +kernel
theorem dX0_strainBy_2 : decode cX0_strainBy 2 = .ok (.imul, 1) := by decide +kernel
theorem dX0_strainBy_3 : decode cX0_strainBy 3 = .ok (.bipush 100, 2) := by decide +kernel
theorem dX0_strainBy_5 : decode cX0_strainBy 5 = .ok (.idiv, 1) := by decide +kernel
theorem dX0_strainBy_6 : decode cX0_strainBy 6 = .ok (.ireturn, 1) := by decide +kernel
theorem dX0_armNow_0 : decode cX0_armNow 0 = .ok (.aload_n 0, 1) := by decide +kernel
theorem dX0_armNow_1 : decode cX0_armNow 1 = .ok (.iload_n 1, 1) := by decide +kernel
theorem dX0_armNow_2 : decode cX0_armNow 2 = .ok (.aload_n 0, 1) := by decide +kernel
theorem dX0_armNow_3 : decode cX0_armNow 3 = .ok (.getfield 15, 3) := by decide +kernel
theorem dX0_armNow_6 : decode cX0_armNow 6 = .ok (.aload_n 2, 1) := by decide +kernel
theorem dX0_armNow_7 : decode cX0_armNow 7 = .ok (.iconst 0, 1) := by decide +kernel
theorem dX0_armNow_8 : decode cX0_armNow 8 = .ok (.aload_n 0, 1) := by decide +kernel
theorem dX0_armNow_9 : decode cX0_armNow 9 = .ok (.getfield 37, 3) := by decide +kernel
theorem dX0_armNow_12 : decode cX0_armNow 12 = .ok (.invokevirtual 50, 3) := by decide +kernel
theorem dX0_armNow_15 : decode cX0_armNow 15 = .ok (.aload_n 2, 1) := by decide +kernel
theorem dX0_armNow_16 : decode cX0_armNow 16 = .ok (.iconst 1, 1) := by decide +kernel
theorem dX0_armNow_17 : decode cX0_armNow 17 = .ok (.aload_n 0, 1) := by decide +kernel
theorem dX0_armNow_18 : decode cX0_armNow 18 = .ok (.getfield 37, 3) := by decide +kernel
theorem dX0_armNow_21 : decode cX0_armNow 21 = .ok (.invokevirtual 50, 3) := by decide +kernel
theorem dX0_armNow_24 : decode cX0_armNow 24 = .ok (.invokevirtual 46, 3) := by decide +kernel
theorem dX0_armNow_27 : decode cX0_armNow 27 = .ok (.ireturn, 1) := by decide +kernel
theorem dX0_floorNow_0 : decode cX0_floorNow 0 = .ok (.aload_n 0, 1) := by decide +kernel
theorem dX0_floorNow_1 : decode cX0_floorNow 1 = .ok (.iload_n 1, 1) := by decide +kernel
theorem dX0_floorNow_2 : decode cX0_floorNow 2 = .ok (.aload_n 0, 1) := by decide +kernel
theorem dX0_floorNow_3 : decode cX0_floorNow 3 = .ok (.getfield 15, 3) := by decide +kernel
theorem dX0_floorNow_6 : decode cX0_floorNow 6 = .ok (.aload_n 2, 1) := by decide +kernel
theorem dX0_floorNow_7 : decode cX0_floorNow 7 = .ok (.iconst 0, 1) := by decide +kernel
theorem dX0_floorNow_8 : decode cX0_floorNow 8 = .ok (.aload_n 0, 1) := by decide +kernel
theorem dX0_floorNow_9 : decode cX0_floorNow 9 = .ok (.getfield 37, 3) := by decide +kernel
theorem dX0_floorNow_12 : decode cX0_floorNow 12 = .ok (.invokevirtual 50, 3) := by decide +kernel
theorem dX0_floorNow_15 : decode cX0_floorNow 15 = .ok (.aload_n 2, 1) := by decide +kernel
theorem dX0_floorNow_16 : decode cX0_floorNow 16 = .ok (.iconst 1, 1) := by decide +kernel
theorem dX0_floorNow_17 : decode cX0_floorNow 17 = .ok (.aload_n 0, 1) := by decide +kernel
theorem dX0_floorNow_18 : decode cX0_floorNow 18 = .ok (.getfield 37, 3) := by decide +kernel
theorem dX0_floorNow_21 : decode cX0_floorNow 21 = .ok (.invokevirtual 50, 3) := by decide +kernel
theorem dX0_floorNow_24 : decode cX0_floorNow 24 = .ok (.invokevirtual 56, 3) := by decide +kernel
theorem dX0_floorNow_27 : decode cX0_floorNow 27 = .ok (.ireturn, 1) := by decide +kernel
theorem dX0_strainNow_0 : decode cX0_strainNow 0 = .ok (.aload_n 1, 1) := by decide +kernel
theorem dX0_strainNow_1 : decode cX0_strainNow 1 = .ok (.iconst 0, 1) := by decide +kernel
theorem dX0_strainNow_2 : decode cX0_strainNow 2 = .ok (.aload_n 0, 1) := by decide +kernel
theorem dX0_strainNow_3 : decode cX0_strainNow 3 = .ok (.getfield 37, 3) := by decide +kernel
theorem dX0_strainNow_6 : decode cX0_strainNow 6 = .ok (.invokevirtual 50, 3) := by decide +kernel
theorem dX0_strainNow_9 : decode cX0_strainNow 9 = .ok (.istore_n 2, 1) := by decide +kernel
theorem dX0_strainNow_10 : decode cX0_strainNow 10 = .ok (.aload_n 0, 1) := by decide +kernel
theorem dX0_strainNow_11 : decode cX0_strainNow 11 = .ok (.iload_n 2, 1) := by decide +kernel
theorem dX0_strainNow_12 : decode cX0_strainNow 12 = .ok (.aload_n 0, 1) := by decide +kernel
theorem dX0_strainNow_13 : decode cX0_strainNow 13 = .ok (.iconst 0, 1) := by decide +kernel
theorem dX0_strainNow_14 : decode cX0_strainNow 14 = .ok (.aload_n 0, 1) := by decide +kernel
theorem dX0_strainNow_15 : decode cX0_strainNow 15 = .ok (.getfield 15, 3) := by decide +kernel
theorem dX0_strainNow_18 : decode cX0_strainNow 18 = .ok (.iload_n 2, 1) := by decide +kernel
theorem dX0_strainNow_19 : decode cX0_strainNow 19 = .ok (.aload_n 1, 1) := by decide +kernel
theorem dX0_strainNow_20 : decode cX0_strainNow 20 = .ok (.iconst 1, 1) := by decide +kernel
theorem dX0_strainNow_21 : decode cX0_strainNow 21 = .ok (.aload_n 0, 1) := by decide +kernel
theorem dX0_strainNow_22 : decode cX0_strainNow 22 = .ok (.getfield 37, 3) := by decide +kernel
theorem dX0_strainNow_25 : decode cX0_strainNow 25 = .ok (.invokevirtual 50, 3) := by decide +kernel
theorem dX0_strainNow_28 : decode cX0_strainNow 28 = .ok (.invokevirtual 56, 3) := by decide +kernel
theorem dX0_strainNow_31 : decode cX0_strainNow 31 = .ok (.invokevirtual 59, 3) := by decide +kernel
theorem dX0_strainNow_34 : decode cX0_strainNow 34 = .ok (.ireturn, 1) := by decide +kernel
theorem dX0_placeAfter_0 : decode cX0_placeAfter 0 = .ok (.aload_n 0, 1) := by decide +kernel
theorem dX0_placeAfter_1 : decode cX0_placeAfter 1 = .ok (.getfield 34, 3) := by decide +kernel
theorem dX0_placeAfter_4 : decode cX0_placeAfter 4 = .ok (.iload_n 1, 1) := by decide +kernel
theorem dX0_placeAfter_5 : decode cX0_placeAfter 5 = .ok (.aload_n 0, 1) := by decide +kernel
theorem dX0_placeAfter_6 : decode cX0_placeAfter 6 = .ok (.invokevirtual 62, 3) := by decide +kernel
theorem dX0_placeAfter_9 : decode cX0_placeAfter 9 = .ok (.imul, 1) := by decide +kernel
theorem dX0_placeAfter_10 : decode cX0_placeAfter 10 = .ok (.bipush 10, 2) := by decide +kernel
theorem dX0_placeAfter_12 : decode cX0_placeAfter 12 = .ok (.imul, 1) := by decide +kernel
theorem dX0_placeAfter_13 : decode cX0_placeAfter 13 = .ok (.iadd, 1) := by decide +kernel
theorem dX0_placeAfter_14 : decode cX0_placeAfter 14 = .ok (.sipush 360, 3) := by decide +kernel
theorem dX0_placeAfter_17 : decode cX0_placeAfter 17 = .ok (.invokestatic 66, 3) := by decide +kernel
theorem dX0_placeAfter_20 : decode cX0_placeAfter 20 = .ok (.ireturn, 1) := by decide +kernel
theorem dX0_goHour_0 : decode cX0_goHour 0 = .ok (.aload_n 0, 1) := by decide +kernel
theorem dX0_goHour_1 : decode cX0_goHour 1 = .ok (.dup, 1) := by decide +kernel
theorem dX0_goHour_2 : decode cX0_goHour 2 = .ok (.getfield 15, 3) := by decide +kernel
theorem dX0_goHour_5 : decode cX0_goHour 5 = .ok (.iload_n 1, 1) := by decide +kernel
theorem dX0_goHour_6 : decode cX0_goHour 6 = .ok (.isub, 1) := by decide +kernel
theorem dX0_goHour_7 : decode cX0_goHour 7 = .ok (.putfield 15, 3) := by decide +kernel
theorem dX0_goHour_10 : decode cX0_goHour 10 = .ok (.aload_n 0, 1) := by decide +kernel
theorem dX0_goHour_11 : decode cX0_goHour 11 = .ok (.dup, 1) := by decide +kernel
theorem dX0_goHour_12 : decode cX0_goHour 12 = .ok (.getfield 37, 3) := by decide +kernel
theorem dX0_goHour_15 : decode cX0_goHour 15 = .ok (.iconst 1, 1) := by decide +kernel
theorem dX0_goHour_16 : decode cX0_goHour 16 = .ok (.iadd, 1) := by decide +kernel
theorem dX0_goHour_17 : decode cX0_goHour 17 = .ok (.putfield 37, 3) := by decide +kernel
theorem dX0_goHour_20 : decode cX0_goHour 20 = .ok (.aload_n 0, 1) := by decide +kernel
theorem dX0_goHour_21 : decode cX0_goHour 21 = .ok (.aload_n 0, 1) := by decide +kernel
theorem dX0_goHour_22 : decode cX0_goHour 22 = .ok (.iconst 1, 1) := by decide +kernel
theorem dX0_goHour_23 : decode cX0_goHour 23 = .ok (.invokevirtual 71, 3) := by decide +kernel
theorem dX0_goHour_26 : decode cX0_goHour 26 = .ok (.putfield 34, 3) := by decide +kernel
theorem dX0_goHour_29 : decode cX0_goHour 29 = .ok (.aload_n 0, 1) := by decide +kernel
theorem dX0_goHour_30 : decode cX0_goHour 30 = .ok (.aload_n 0, 1) := by decide +kernel
theorem dX0_goHour_31 : decode cX0_goHour 31 = .ok (.aload_n 2, 1) := by decide +kernel
theorem dX0_goHour_32 : decode cX0_goHour 32 = .ok (.invokevirtual 74, 3) := by decide +kernel
theorem dX0_goHour_35 : decode cX0_goHour 35 = .ok (.aload_n 0, 1) := by decide +kernel
theorem dX0_goHour_36 : decode cX0_goHour 36 = .ok (.getfield 24, 3) := by decide +kernel
theorem dX0_goHour_39 : decode cX0_goHour 39 = .ok (.if_icmp .le 7, 3) := by decide +kernel
theorem dX0_goHour_42 : decode cX0_goHour 42 = .ok (.iconst 1, 1) := by decide +kernel
theorem dX0_goHour_43 : decode cX0_goHour 43 = .ok (.goto 4, 3) := by decide +kernel
theorem dX0_goHour_46 : decode cX0_goHour 46 = .ok (.iconst 0, 1) := by decide +kernel
theorem dX0_goHour_47 : decode cX0_goHour 47 = .ok (.putfield 40, 3) := by decide +kernel
theorem dX0_goHour_50 : decode cX0_goHour 50 = .ok (.return_, 1) := by decide +kernel
theorem dX1_init_0 : decode cX1_init 0 = .ok (.aload_n 0, 1) := by decide +kernel
theorem dX1_init_1 : decode cX1_init 1 = .ok (.iload_n 1, 1) := by decide +kernel
theorem dX1_init_2 : decode cX1_init 2 = .ok (.iload_n 2, 1) := by decide +kernel
theorem dX1_init_3 : decode cX1_init 3 = .ok (.iload_n 3, 1) := by decide +kernel
theorem dX1_init_4 : decode cX1_init 4 = .ok (.invokespecial 3, 3) := by decide +kernel
theorem dX1_init_7 : decode cX1_init 7 = .ok (.return_, 1) := by decide +kernel
theorem dX1_kind_0 : decode cX1_kind 0 = .ok (.iconst 1, 1) := by decide +kernel
theorem dX1_kind_1 : decode cX1_kind 1 = .ok (.ireturn, 1) := by decide +kernel
theorem dX1_weighs_0 : decode cX1_weighs 0 = .ok (.aload_n 0, 1) := by decide +kernel
theorem dX1_weighs_1 : decode cX1_weighs 1 = .ok (.getfield 9, 3) := by decide +kernel
theorem dX1_weighs_4 : decode cX1_weighs 4 = .ok (.iconst 2, 1) := by decide +kernel
theorem dX1_weighs_5 : decode cX1_weighs 5 = .ok (.iadd, 1) := by decide +kernel
theorem dX1_weighs_6 : decode cX1_weighs 6 = .ok (.ireturn, 1) := by decide +kernel
theorem dX2_init_0 : decode cX2_init 0 = .ok (.aload_n 0, 1) := by decide +kernel
theorem dX2_init_1 : decode cX2_init 1 = .ok (.invokespecial 3, 3) := by decide +kernel
theorem dX2_init_4 : decode cX2_init 4 = .ok (.aload_n 0, 1) := by decide +kernel
theorem dX2_init_5 : decode cX2_init 5 = .ok (.bipush 6, 2) := by decide +kernel
theorem dX2_init_7 : decode cX2_init 7 = .ok (.newarray .int, 2) := by decide +kernel
theorem dX2_init_9 : decode cX2_init 9 = .ok (.putfield 9, 3) := by decide +kernel
theorem dX2_init_12 : decode cX2_init 12 = .ok (.aload_n 0, 1) := by decide +kernel
theorem dX2_init_13 : decode cX2_init 13 = .ok (.bipush 6, 2) := by decide +kernel
theorem dX2_init_15 : decode cX2_init 15 = .ok (.newarray .int, 2) := by decide +kernel
theorem dX2_init_17 : decode cX2_init 17 = .ok (.putfield 15, 3) := by decide +kernel
theorem dX2_init_20 : decode cX2_init 20 = .ok (.return_, 1) := by decide +kernel
theorem dX3_init_0 : decode cX3_init 0 = .ok (.aload_n 0, 1) := by decide +kernel
theorem dX3_init_1 : decode cX3_init 1 = .ok (.iload_n 1, 1) := by decide +kernel
theorem dX3_init_2 : decode cX3_init 2 = .ok (.iload_n 2, 1) := by decide +kernel
theorem dX3_init_3 : decode cX3_init 3 = .ok (.iload_n 3, 1) := by decide +kernel
theorem dX3_init_4 : decode cX3_init 4 = .ok (.invokespecial 3, 3) := by decide +kernel
theorem dX3_init_7 : decode cX3_init 7 = .ok (.return_, 1) := by decide +kernel
theorem dX3_kind_0 : decode cX3_kind 0 = .ok (.iconst 2, 1) := by decide +kernel
theorem dX3_kind_1 : decode cX3_kind 1 = .ok (.ireturn, 1) := by decide +kernel
theorem dX3_goesAcross_0 : decode cX3_goesAcross 0 = .ok (.iload_n 1, 1) := by decide +kernel
theorem dX3_goesAcross_1 : decode cX3_goesAcross 1 = .ok (.iconst 2, 1) := by decide +kernel
theorem dX3_goesAcross_2 : decode cX3_goesAcross 2 = .ok (.if_icmp .gt 7, 3) := by decide +kernel
theorem dX3_goesAcross_5 : decode cX3_goesAcross 5 = .ok (.iconst 1, 1) := by decide +kernel
theorem dX3_goesAcross_6 : decode cX3_goesAcross 6 = .ok (.goto 4, 3) := by decide +kernel
theorem dX3_goesAcross_9 : decode cX3_goesAcross 9 = .ok (.iconst 0, 1) := by decide +kernel
theorem dX3_goesAcross_10 : decode cX3_goesAcross 10 = .ok (.ireturn, 1) := by decide +kernel
theorem dX4_init_0 : decode cX4_init 0 = .ok (.aload_n 0, 1) := by decide +kernel
theorem dX4_init_1 : decode cX4_init 1 = .ok (.iload_n 1, 1) := by decide +kernel
theorem dX4_init_2 : decode cX4_init 2 = .ok (.iload_n 2, 1) := by decide +kernel
theorem dX4_init_3 : decode cX4_init 3 = .ok (.iload_n 3, 1) := by decide +kernel
theorem dX4_init_4 : decode cX4_init 4 = .ok (.invokespecial 3, 3) := by decide +kernel
theorem dX4_init_7 : decode cX4_init 7 = .ok (.return_, 1) := by decide +kernel
theorem dX4_kind_0 : decode cX4_kind 0 = .ok (.iconst 4, 1) := by decide +kernel
theorem dX4_kind_1 : decode cX4_kind 1 = .ok (.ireturn, 1) := by decide +kernel
theorem dX4_weighs_0 : decode cX4_weighs 0 = .ok (.aload_n 0, 1) := by decide +kernel
theorem dX4_weighs_1 : decode cX4_weighs 1 = .ok (.getfield 9, 3) := by decide +kernel
theorem dX4_weighs_4 : decode cX4_weighs 4 = .ok (.iconst 2, 1) := by decide +kernel
theorem dX4_weighs_5 : decode cX4_weighs 5 = .ok (.iload_n 1, 1) := by decide +kernel
theorem dX4_weighs_6 : decode cX4_weighs 6 = .ok (.aload_n 0, 1) := by decide +kernel
theorem dX4_weighs_7 : decode cX4_weighs 7 = .ok (.getfield 15, 3) := by decide +kernel
theorem dX4_weighs_10 : decode cX4_weighs 10 = .ok (.isub, 1) := by decide +kernel
theorem dX4_weighs_11 : decode cX4_weighs 11 = .ok (.bipush 6, 2) := by decide +kernel
theorem dX4_weighs_13 : decode cX4_weighs 13 = .ok (.idiv, 1) := by decide +kernel
theorem dX4_weighs_14 : decode cX4_weighs 14 = .ok (.imul, 1) := by decide +kernel
theorem dX4_weighs_15 : decode cX4_weighs 15 = .ok (.iadd, 1) := by decide +kernel
theorem dX4_weighs_16 : decode cX4_weighs 16 = .ok (.ireturn, 1) := by decide +kernel
theorem dX5_init_0 : decode cX5_init 0 = .ok (.aload_n 0, 1) := by decide +kernel
theorem dX5_init_1 : decode cX5_init 1 = .ok (.iload_n 1, 1) := by decide +kernel
theorem dX5_init_2 : decode cX5_init 2 = .ok (.iload_n 2, 1) := by decide +kernel
theorem dX5_init_3 : decode cX5_init 3 = .ok (.iload_n 3, 1) := by decide +kernel
theorem dX5_init_4 : decode cX5_init 4 = .ok (.invokespecial 3, 3) := by decide +kernel
theorem dX5_init_7 : decode cX5_init 7 = .ok (.return_, 1) := by decide +kernel
theorem dX5_kind_0 : decode cX5_kind 0 = .ok (.iconst 3, 1) := by decide +kernel
theorem dX5_kind_1 : decode cX5_kind 1 = .ok (.ireturn, 1) := by decide +kernel
theorem dX5_weighs_0 : decode cX5_weighs 0 = .ok (.aload_n 0, 1) := by decide +kernel
theorem dX5_weighs_1 : decode cX5_weighs 1 = .ok (.getfield 9, 3) := by decide +kernel
theorem dX5_weighs_4 : decode cX5_weighs 4 = .ok (.iload_n 1, 1) := by decide +kernel
theorem dX5_weighs_5 : decode cX5_weighs 5 = .ok (.aload_n 0, 1) := by decide +kernel
theorem dX5_weighs_6 : decode cX5_weighs 6 = .ok (.getfield 15, 3) := by decide +kernel
theorem dX5_weighs_9 : decode cX5_weighs 9 = .ok (.isub, 1) := by decide +kernel
theorem dX5_weighs_10 : decode cX5_weighs 10 = .ok (.bipush 6, 2) := by decide +kernel
theorem dX5_weighs_12 : decode cX5_weighs 12 = .ok (.idiv, 1) := by decide +kernel
theorem dX5_weighs_13 : decode cX5_weighs 13 = .ok (.iadd, 1) := by decide +kernel
theorem dX5_weighs_14 : decode cX5_weighs 14 = .ok (.ireturn, 1) := by decide +kernel
theorem dX6_init_0 : decode cX6_init 0 = .ok (.aload_n 0, 1) := by decide +kernel
theorem dX6_init_1 : decode cX6_init 1 = .ok (.invokespecial 3, 3) := by decide +kernel
theorem dX6_init_4 : decode cX6_init 4 = .ok (.aload_n 0, 1) := by decide +kernel
theorem dX6_init_5 : decode cX6_init 5 = .ok (.bipush 6, 2) := by decide +kernel
theorem dX6_init_7 : decode cX6_init 7 = .ok (.anewarray 9, 3) := by decide +kernel
theorem dX6_init_10 : decode cX6_init 10 = .ok (.putfield 11, 3) := by decide +kernel
theorem dX6_init_13 : decode cX6_init 13 = .ok (.aload_n 0, 1) := by decide +kernel
theorem dX6_init_14 : decode cX6_init 14 = .ok (.bipush 6, 2) := by decide +kernel
theorem dX6_init_16 : decode cX6_init 16 = .ok (.newarray .int, 2) := by decide +kernel
theorem dX6_init_18 : decode cX6_init 18 = .ok (.putfield 17, 3) := by decide +kernel
theorem dX6_init_21 : decode cX6_init 21 = .ok (.return_, 1) := by decide +kernel
theorem dX6_isFull_0 : decode cX6_isFull 0 = .ok (.aload_n 0, 1) := by decide +kernel
theorem dX6_isFull_1 : decode cX6_isFull 1 = .ok (.getfield 21, 3) := by decide +kernel
theorem dX6_isFull_4 : decode cX6_isFull 4 = .ok (.aload_n 0, 1) := by decide +kernel
theorem dX6_isFull_5 : decode cX6_isFull 5 = .ok (.getfield 11, 3) := by decide +kernel
theorem dX6_isFull_8 : decode cX6_isFull 8 = .ok (.arraylength, 1) := by decide +kernel
theorem dX6_isFull_9 : decode cX6_isFull 9 = .ok (.if_icmp .lt 7, 3) := by decide +kernel
theorem dX6_isFull_12 : decode cX6_isFull 12 = .ok (.iconst 1, 1) := by decide +kernel
theorem dX6_isFull_13 : decode cX6_isFull 13 = .ok (.goto 4, 3) := by decide +kernel
theorem dX6_isFull_16 : decode cX6_isFull 16 = .ok (.iconst 0, 1) := by decide +kernel
theorem dX6_isFull_17 : decode cX6_isFull 17 = .ok (.ireturn, 1) := by decide +kernel
theorem dX6_put_0 : decode cX6_put 0 = .ok (.aload_n 0, 1) := by decide +kernel
theorem dX6_put_1 : decode cX6_put 1 = .ok (.getfield 21, 3) := by decide +kernel
theorem dX6_put_4 : decode cX6_put 4 = .ok (.ifCond .lt 15, 3) := by decide +kernel
theorem dX6_put_7 : decode cX6_put 7 = .ok (.aload_n 0, 1) := by decide +kernel
theorem dX6_put_8 : decode cX6_put 8 = .ok (.getfield 21, 3) := by decide +kernel
theorem dX6_put_11 : decode cX6_put 11 = .ok (.aload_n 0, 1) := by decide +kernel
theorem dX6_put_12 : decode cX6_put 12 = .ok (.getfield 11, 3) := by decide +kernel
theorem dX6_put_15 : decode cX6_put 15 = .ok (.arraylength, 1) := by decide +kernel
theorem dX6_put_16 : decode cX6_put 16 = .ok (.if_icmp .lt 6, 3) := by decide +kernel
theorem dX6_put_19 : decode cX6_put 19 = .ok (.bipush (-104), 2) := by decide +kernel
theorem dX6_put_21 : decode cX6_put 21 = .ok (.ireturn, 1) := by decide +kernel
theorem dX6_put_22 : decode cX6_put 22 = .ok (.aload_n 0, 1) := by decide +kernel
theorem dX6_put_23 : decode cX6_put 23 = .ok (.getfield 11, 3) := by decide +kernel
theorem dX6_put_26 : decode cX6_put 26 = .ok (.aload_n 0, 1) := by decide +kernel
theorem dX6_put_27 : decode cX6_put 27 = .ok (.getfield 21, 3) := by decide +kernel
theorem dX6_put_30 : decode cX6_put 30 = .ok (.aload_n 1, 1) := by decide +kernel
theorem dX6_put_31 : decode cX6_put 31 = .ok (.aastore, 1) := by decide +kernel
theorem dX6_put_32 : decode cX6_put 32 = .ok (.aload_n 0, 1) := by decide +kernel
theorem dX6_put_33 : decode cX6_put 33 = .ok (.dup, 1) := by decide +kernel
theorem dX6_put_34 : decode cX6_put 34 = .ok (.getfield 21, 3) := by decide +kernel
theorem dX6_put_37 : decode cX6_put 37 = .ok (.iconst 1, 1) := by decide +kernel
theorem dX6_put_38 : decode cX6_put 38 = .ok (.iadd, 1) := by decide +kernel
theorem dX6_put_39 : decode cX6_put 39 = .ok (.putfield 21, 3) := by decide +kernel
theorem dX6_put_42 : decode cX6_put 42 = .ok (.aload_n 0, 1) := by decide +kernel
theorem dX6_put_43 : decode cX6_put 43 = .ok (.getfield 21, 3) := by decide +kernel
theorem dX6_put_46 : decode cX6_put 46 = .ok (.iconst 1, 1) := by decide +kernel
theorem dX6_put_47 : decode cX6_put 47 = .ok (.isub, 1) := by decide +kernel
theorem dX6_put_48 : decode cX6_put 48 = .ok (.ireturn, 1) := by decide +kernel
theorem dX6_at_0 : decode cX6_at 0 = .ok (.iload_n 1, 1) := by decide +kernel
theorem dX6_at_1 : decode cX6_at 1 = .ok (.ifCond .lt 29, 3) := by decide +kernel
theorem dX6_at_4 : decode cX6_at 4 = .ok (.iload_n 1, 1) := by decide +kernel
theorem dX6_at_5 : decode cX6_at 5 = .ok (.aload_n 0, 1) := by decide +kernel
theorem dX6_at_6 : decode cX6_at 6 = .ok (.getfield 21, 3) := by decide +kernel
theorem dX6_at_9 : decode cX6_at 9 = .ok (.if_icmp .ge 21, 3) := by decide +kernel
theorem dX6_at_12 : decode cX6_at 12 = .ok (.iload_n 1, 1) := by decide +kernel
theorem dX6_at_13 : decode cX6_at 13 = .ok (.aload_n 0, 1) := by decide +kernel
theorem dX6_at_14 : decode cX6_at 14 = .ok (.getfield 11, 3) := by decide +kernel
theorem dX6_at_17 : decode cX6_at 17 = .ok (.arraylength, 1) := by decide +kernel
theorem dX6_at_18 : decode cX6_at 18 = .ok (.if_icmp .ge 12, 3) := by decide +kernel
theorem dX6_at_21 : decode cX6_at 21 = .ok (.aload_n 0, 1) := by decide +kernel
theorem dX6_at_22 : decode cX6_at 22 = .ok (.getfield 11, 3) := by decide +kernel
theorem dX6_at_25 : decode cX6_at 25 = .ok (.iload_n 1, 1) := by decide +kernel
theorem dX6_at_26 : decode cX6_at 26 = .ok (.aaload, 1) := by decide +kernel
theorem dX6_at_27 : decode cX6_at 27 = .ok (.goto 4, 3) := by decide +kernel
theorem dX6_at_30 : decode cX6_at 30 = .ok (.aconst_null, 1) := by decide +kernel
theorem dX6_at_31 : decode cX6_at 31 = .ok (.areturn, 1) := by decide +kernel
theorem dX6_cutTo_0 : decode cX6_cutTo 0 = .ok (.iconst 0, 1) := by decide +kernel
theorem dX6_cutTo_1 : decode cX6_cutTo 1 = .ok (.istore_n 2, 1) := by decide +kernel
theorem dX6_cutTo_2 : decode cX6_cutTo 2 = .ok (.iload_n 2, 1) := by decide +kernel
theorem dX6_cutTo_3 : decode cX6_cutTo 3 = .ok (.aload_n 0, 1) := by decide +kernel
theorem dX6_cutTo_4 : decode cX6_cutTo 4 = .ok (.getfield 11, 3) := by decide +kernel
theorem dX6_cutTo_7 : decode cX6_cutTo 7 = .ok (.arraylength, 1) := by decide +kernel
theorem dX6_cutTo_8 : decode cX6_cutTo 8 = .ok (.if_icmp .ge 21, 3) := by decide +kernel
theorem dX6_cutTo_11 : decode cX6_cutTo 11 = .ok (.iload_n 2, 1) := by decide +kernel
theorem dX6_cutTo_12 : decode cX6_cutTo 12 = .ok (.iload_n 1, 1) := by decide +kernel
theorem dX6_cutTo_13 : decode cX6_cutTo 13 = .ok (.if_icmp .lt 10, 3) := by decide +kernel
theorem dX6_cutTo_16 : decode cX6_cutTo 16 = .ok (.aload_n 0, 1) := by decide +kernel
theorem dX6_cutTo_17 : decode cX6_cutTo 17 = .ok (.getfield 11, 3) := by decide +kernel
theorem dX6_cutTo_20 : decode cX6_cutTo 20 = .ok (.iload_n 2, 1) := by decide +kernel
theorem dX6_cutTo_21 : decode cX6_cutTo 21 = .ok (.aconst_null, 1) := by decide +kernel
theorem dX6_cutTo_22 : decode cX6_cutTo 22 = .ok (.aastore, 1) := by decide +kernel
theorem dX6_cutTo_23 : decode cX6_cutTo 23 = .ok (.iinc 2 1, 3) := by decide +kernel
theorem dX6_cutTo_26 : decode cX6_cutTo 26 = .ok (.goto (-24), 3) := by decide +kernel
theorem dX6_cutTo_29 : decode cX6_cutTo 29 = .ok (.aload_n 0, 1) := by decide +kernel
theorem dX6_cutTo_30 : decode cX6_cutTo 30 = .ok (.aload_n 0, 1) := by decide +kernel
theorem dX6_cutTo_31 : decode cX6_cutTo 31 = .ok (.getfield 21, 3) := by decide +kernel
theorem dX6_cutTo_34 : decode cX6_cutTo 34 = .ok (.iload_n 1, 1) := by decide +kernel
theorem dX6_cutTo_35 : decode cX6_cutTo 35 = .ok (.invokestatic 25, 3) := by decide +kernel
theorem dX6_cutTo_38 : decode cX6_cutTo 38 = .ok (.putfield 21, 3) := by decide +kernel
theorem dX6_cutTo_41 : decode cX6_cutTo 41 = .ok (.return_, 1) := by decide +kernel
theorem dX6_weighsIn_0 : decode cX6_weighsIn 0 = .ok (.bipush 10, 2) := by decide +kernel
theorem dX6_weighsIn_2 : decode cX6_weighsIn 2 = .ok (.istore_n 3, 1) := by decide +kernel
theorem dX6_weighsIn_3 : decode cX6_weighsIn 3 = .ok (.iconst 0, 1) := by decide +kernel
theorem dX6_weighsIn_4 : decode cX6_weighsIn 4 = .ok (.istore 4, 2) := by decide +kernel
theorem dX6_weighsIn_6 : decode cX6_weighsIn 6 = .ok (.iload 4, 2) := by decide +kernel
theorem dX6_weighsIn_8 : decode cX6_weighsIn 8 = .ok (.aload_n 0, 1) := by decide +kernel
theorem dX6_weighsIn_9 : decode cX6_weighsIn 9 = .ok (.getfield 21, 3) := by decide +kernel
theorem dX6_weighsIn_12 : decode cX6_weighsIn 12 = .ok (.if_icmp .ge 40, 3) := by decide +kernel
theorem dX6_weighsIn_15 : decode cX6_weighsIn 15 = .ok (.aload_n 0, 1) := by decide +kernel
theorem dX6_weighsIn_16 : decode cX6_weighsIn 16 = .ok (.iload 4, 2) := by decide +kernel
theorem dX6_weighsIn_18 : decode cX6_weighsIn 18 = .ok (.invokevirtual 34, 3) := by decide +kernel
theorem dX6_weighsIn_21 : decode cX6_weighsIn 21 = .ok (.astore 5, 2) := by decide +kernel
theorem dX6_weighsIn_23 : decode cX6_weighsIn 23 = .ok (.aload 5, 2) := by decide +kernel
theorem dX6_weighsIn_25 : decode cX6_weighsIn 25 = .ok (.ifnull 21, 3) := by decide +kernel
theorem dX6_weighsIn_28 : decode cX6_weighsIn 28 = .ok (.aload 5, 2) := by decide +kernel
theorem dX6_weighsIn_30 : decode cX6_weighsIn 30 = .ok (.getfield 38, 3) := by decide +kernel
theorem dX6_weighsIn_33 : decode cX6_weighsIn 33 = .ok (.iload_n 1, 1) := by decide +kernel
theorem dX6_weighsIn_34 : decode cX6_weighsIn 34 = .ok (.if_icmp .ne 12, 3) := by decide +kernel
theorem dX6_weighsIn_37 : decode cX6_weighsIn 37 = .ok (.iload_n 3, 1) := by decide +kernel
theorem dX6_weighsIn_38 : decode cX6_weighsIn 38 = .ok (.aload 5, 2) := by decide +kernel
theorem dX6_weighsIn_40 : decode cX6_weighsIn 40 = .ok (.iload_n 2, 1) := by decide +kernel
theorem dX6_weighsIn_41 : decode cX6_weighsIn 41 = .ok (.invokevirtual 45, 3) := by decide +kernel
theorem dX6_weighsIn_44 : decode cX6_weighsIn 44 = .ok (.iadd, 1) := by decide +kernel
theorem dX6_weighsIn_45 : decode cX6_weighsIn 45 = .ok (.istore_n 3, 1) := by decide +kernel
theorem dX6_weighsIn_46 : decode cX6_weighsIn 46 = .ok (.iinc 4 1, 3) := by decide +kernel
theorem dX6_weighsIn_49 : decode cX6_weighsIn 49 = .ok (.goto (-43), 3) := by decide +kernel
theorem dX6_weighsIn_52 : decode cX6_weighsIn 52 = .ok (.iload_n 3, 1) := by decide +kernel
theorem dX6_weighsIn_53 : decode cX6_weighsIn 53 = .ok (.ireturn, 1) := by decide +kernel
theorem dX6_sizeIn_0 : decode cX6_sizeIn 0 = .ok (.iconst 0, 1) := by decide +kernel
theorem dX6_sizeIn_1 : decode cX6_sizeIn 1 = .ok (.istore_n 2, 1) := by decide +kernel
theorem dX6_sizeIn_2 : decode cX6_sizeIn 2 = .ok (.iconst 0, 1) := by decide +kernel
theorem dX6_sizeIn_3 : decode cX6_sizeIn 3 = .ok (.istore_n 3, 1) := by decide +kernel
theorem dX6_sizeIn_4 : decode cX6_sizeIn 4 = .ok (.iload_n 3, 1) := by decide +kernel
theorem dX6_sizeIn_5 : decode cX6_sizeIn 5 = .ok (.aload_n 0, 1) := by decide +kernel
theorem dX6_sizeIn_6 : decode cX6_sizeIn 6 = .ok (.getfield 21, 3) := by decide +kernel
theorem dX6_sizeIn_9 : decode cX6_sizeIn 9 = .ok (.if_icmp .ge 33, 3) := by decide +kernel
theorem dX6_sizeIn_12 : decode cX6_sizeIn 12 = .ok (.aload_n 0, 1) := by decide +kernel
theorem dX6_sizeIn_13 : decode cX6_sizeIn 13 = .ok (.iload_n 3, 1) := by decide +kernel
theorem dX6_sizeIn_14 : decode cX6_sizeIn 14 = .ok (.invokevirtual 34, 3) := by decide +kernel
theorem dX6_sizeIn_17 : decode cX6_sizeIn 17 = .ok (.astore 4, 2) := by decide +kernel
theorem dX6_sizeIn_19 : decode cX6_sizeIn 19 = .ok (.aload 4, 2) := by decide +kernel
theorem dX6_sizeIn_21 : decode cX6_sizeIn 21 = .ok (.ifnull 15, 3) := by decide +kernel
theorem dX6_sizeIn_24 : decode cX6_sizeIn 24 = .ok (.aload 4, 2) := by decide +kernel
theorem dX6_sizeIn_26 : decode cX6_sizeIn 26 = .ok (.getfield 38, 3) := by decide +kernel
theorem dX6_sizeIn_29 : decode cX6_sizeIn 29 = .ok (.iload_n 1, 1) := by decide +kernel
theorem dX6_sizeIn_30 : decode cX6_sizeIn 30 = .ok (.if_icmp .ne 6, 3) := by decide +kernel
theorem dX6_sizeIn_33 : decode cX6_sizeIn 33 = .ok (.iinc 2 1, 3) := by decide +kernel
theorem dX6_sizeIn_36 : decode cX6_sizeIn 36 = .ok (.iinc 3 1, 3) := by decide +kernel
theorem dX6_sizeIn_39 : decode cX6_sizeIn 39 = .ok (.goto (-35), 3) := by decide +kernel
theorem dX6_sizeIn_42 : decode cX6_sizeIn 42 = .ok (.iload_n 2, 1) := by decide +kernel
theorem dX6_sizeIn_43 : decode cX6_sizeIn 43 = .ok (.ireturn, 1) := by decide +kernel
theorem dX7_init_0 : decode cX7_init 0 = .ok (.aload_n 0, 1) := by decide +kernel
theorem dX7_init_1 : decode cX7_init 1 = .ok (.invokespecial 3, 3) := by decide +kernel
theorem dX7_init_4 : decode cX7_init 4 = .ok (.aload_n 0, 1) := by decide +kernel
theorem dX7_init_5 : decode cX7_init 5 = .ok (.bipush 12, 2) := by decide +kernel
theorem dX7_init_7 : decode cX7_init 7 = .ok (.newarray .char, 2) := by decide +kernel
theorem dX7_init_9 : decode cX7_init 9 = .ok (.putfield 9, 3) := by decide +kernel
theorem dX7_init_12 : decode cX7_init 12 = .ok (.return_, 1) := by decide +kernel
theorem dX7_hasRoomFor_0 : decode cX7_hasRoomFor 0 = .ok (.aload_n 0, 1) := by decide +kernel
theorem dX7_hasRoomFor_1 : decode cX7_hasRoomFor 1 = .ok (.getfield 15, 3) := by decide +kernel
theorem dX7_hasRoomFor_4 : decode cX7_hasRoomFor 4 = .ok (.iload_n 1, 1) := by decide +kernel
theorem dX7_hasRoomFor_5 : decode cX7_hasRoomFor 5 = .ok (.iadd, 1) := by decide +kernel
theorem dX7_hasRoomFor_6 : decode cX7_hasRoomFor 6 = .ok (.aload_n 0, 1) := by decide +kernel
theorem dX7_hasRoomFor_7 : decode cX7_hasRoomFor 7 = .ok (.getfield 9, 3) := by decide +kernel
theorem dX7_hasRoomFor_10 : decode cX7_hasRoomFor 10 = .ok (.arraylength, 1) := by decide +kernel
theorem dX7_hasRoomFor_11 : decode cX7_hasRoomFor 11 = .ok (.if_icmp .gt 7, 3) := by decide +kernel
theorem dX7_hasRoomFor_14 : decode cX7_hasRoomFor 14 = .ok (.iconst 1, 1) := by decide +kernel
theorem dX7_hasRoomFor_15 : decode cX7_hasRoomFor 15 = .ok (.goto 4, 3) := by decide +kernel
theorem dX7_hasRoomFor_18 : decode cX7_hasRoomFor 18 = .ok (.iconst 0, 1) := by decide +kernel
theorem dX7_hasRoomFor_19 : decode cX7_hasRoomFor 19 = .ok (.ireturn, 1) := by decide +kernel
theorem dX7_put_0 : decode cX7_put 0 = .ok (.aload_n 0, 1) := by decide +kernel
theorem dX7_put_1 : decode cX7_put 1 = .ok (.getfield 15, 3) := by decide +kernel
theorem dX7_put_4 : decode cX7_put 4 = .ok (.ifCond .lt 35, 3) := by decide +kernel
theorem dX7_put_7 : decode cX7_put 7 = .ok (.aload_n 0, 1) := by decide +kernel
theorem dX7_put_8 : decode cX7_put 8 = .ok (.getfield 15, 3) := by decide +kernel
theorem dX7_put_11 : decode cX7_put 11 = .ok (.aload_n 0, 1) := by decide +kernel
theorem dX7_put_12 : decode cX7_put 12 = .ok (.getfield 9, 3) := by decide +kernel
theorem dX7_put_15 : decode cX7_put 15 = .ok (.arraylength, 1) := by decide +kernel
theorem dX7_put_16 : decode cX7_put 16 = .ok (.if_icmp .ge 23, 3) := by decide +kernel
theorem dX7_put_19 : decode cX7_put 19 = .ok (.aload_n 0, 1) := by decide +kernel
theorem dX7_put_20 : decode cX7_put 20 = .ok (.getfield 9, 3) := by decide +kernel
theorem dX7_put_23 : decode cX7_put 23 = .ok (.aload_n 0, 1) := by decide +kernel
theorem dX7_put_24 : decode cX7_put 24 = .ok (.getfield 15, 3) := by decide +kernel
theorem dX7_put_27 : decode cX7_put 27 = .ok (.iload_n 1, 1) := by decide +kernel
theorem dX7_put_28 : decode cX7_put 28 = .ok (.castore, 1) := by decide +kernel
theorem dX7_put_29 : decode cX7_put 29 = .ok (.aload_n 0, 1) := by decide +kernel
theorem dX7_put_30 : decode cX7_put 30 = .ok (.dup, 1) := by decide +kernel
theorem dX7_put_31 : decode cX7_put 31 = .ok (.getfield 15, 3) := by decide +kernel
theorem dX7_put_34 : decode cX7_put 34 = .ok (.iconst 1, 1) := by decide +kernel
theorem dX7_put_35 : decode cX7_put 35 = .ok (.iadd, 1) := by decide +kernel
theorem dX7_put_36 : decode cX7_put 36 = .ok (.putfield 15, 3) := by decide +kernel
theorem dX7_put_39 : decode cX7_put 39 = .ok (.return_, 1) := by decide +kernel
theorem dX7_at_0 : decode cX7_at 0 = .ok (.iload_n 1, 1) := by decide +kernel
theorem dX7_at_1 : decode cX7_at 1 = .ok (.ifCond .lt 29, 3) := by decide +kernel
theorem dX7_at_4 : decode cX7_at 4 = .ok (.iload_n 1, 1) := by decide +kernel
theorem dX7_at_5 : decode cX7_at 5 = .ok (.aload_n 0, 1) := by decide +kernel
theorem dX7_at_6 : decode cX7_at 6 = .ok (.getfield 15, 3) := by decide +kernel
theorem dX7_at_9 : decode cX7_at 9 = .ok (.if_icmp .ge 21, 3) := by decide +kernel
theorem dX7_at_12 : decode cX7_at 12 = .ok (.iload_n 1, 1) := by decide +kernel
theorem dX7_at_13 : decode cX7_at 13 = .ok (.aload_n 0, 1) := by decide +kernel
theorem dX7_at_14 : decode cX7_at 14 = .ok (.getfield 9, 3) := by decide +kernel
theorem dX7_at_17 : decode cX7_at 17 = .ok (.arraylength, 1) := by decide +kernel
theorem dX7_at_18 : decode cX7_at 18 = .ok (.if_icmp .ge 12, 3) := by decide +kernel
theorem dX7_at_21 : decode cX7_at 21 = .ok (.aload_n 0, 1) := by decide +kernel
theorem dX7_at_22 : decode cX7_at 22 = .ok (.getfield 9, 3) := by decide +kernel
theorem dX7_at_25 : decode cX7_at 25 = .ok (.iload_n 1, 1) := by decide +kernel
theorem dX7_at_26 : decode cX7_at 26 = .ok (.caload, 1) := by decide +kernel
theorem dX7_at_27 : decode cX7_at 27 = .ok (.goto 4, 3) := by decide +kernel
theorem dX7_at_30 : decode cX7_at 30 = .ok (.iconst 0, 1) := by decide +kernel
theorem dX7_at_31 : decode cX7_at 31 = .ok (.ireturn, 1) := by decide +kernel
theorem dX7_emptied_0 : decode cX7_emptied 0 = .ok (.aload_n 0, 1) := by decide +kernel
theorem dX7_emptied_1 : decode cX7_emptied 1 = .ok (.getfield 15, 3) := by decide +kernel
theorem dX7_emptied_4 : decode cX7_emptied 4 = .ok (.istore_n 1, 1) := by decide +kernel
theorem dX7_emptied_5 : decode cX7_emptied 5 = .ok (.aload_n 0, 1) := by decide +kernel
theorem dX7_emptied_6 : decode cX7_emptied 6 = .ok (.iconst 0, 1) := by decide +kernel
theorem dX7_emptied_7 : decode cX7_emptied 7 = .ok (.putfield 15, 3) := by decide +kernel
theorem dX7_emptied_10 : decode cX7_emptied 10 = .ok (.iload_n 1, 1) := by decide +kernel
theorem dX7_emptied_11 : decode cX7_emptied 11 = .ok (.ireturn, 1) := by decide +kernel
theorem dX7_firstWrong_0 : decode cX7_firstWrong 0 = .ok (.iconst 0, 1) := by decide +kernel
theorem dX7_firstWrong_1 : decode cX7_firstWrong 1 = .ok (.istore_n 1, 1) := by decide +kernel
theorem dX7_firstWrong_2 : decode cX7_firstWrong 2 = .ok (.iload_n 1, 1) := by decide +kernel
theorem dX7_firstWrong_3 : decode cX7_firstWrong 3 = .ok (.aload_n 0, 1) := by decide +kernel
theorem dX7_firstWrong_4 : decode cX7_firstWrong 4 = .ok (.getfield 15, 3) := by decide +kernel
theorem dX7_firstWrong_7 : decode cX7_firstWrong 7 = .ok (.if_icmp .ge 19, 3) := by decide +kernel
theorem dX7_firstWrong_10 : decode cX7_firstWrong 10 = .ok (.aload_n 0, 1) := by decide +kernel
theorem dX7_firstWrong_11 : decode cX7_firstWrong 11 = .ok (.iload_n 1, 1) := by decide +kernel
theorem dX7_firstWrong_12 : decode cX7_firstWrong 12 = .ok (.invokevirtual 19, 3) := by decide +kernel
theorem dX7_firstWrong_15 : decode cX7_firstWrong 15 = .ok (.ifCond .ne 5, 3) := by decide +kernel
theorem dX7_firstWrong_18 : decode cX7_firstWrong 18 = .ok (.iload_n 1, 1) := by decide +kernel
theorem dX7_firstWrong_19 : decode cX7_firstWrong 19 = .ok (.ireturn, 1) := by decide +kernel
theorem dX7_firstWrong_20 : decode cX7_firstWrong 20 = .ok (.iinc 1 1, 3) := by decide +kernel
theorem dX7_firstWrong_23 : decode cX7_firstWrong 23 = .ok (.goto (-21), 3) := by decide +kernel
theorem dX7_firstWrong_26 : decode cX7_firstWrong 26 = .ok (.aload_n 0, 1) := by decide +kernel
theorem dX7_firstWrong_27 : decode cX7_firstWrong 27 = .ok (.getfield 15, 3) := by decide +kernel
theorem dX7_firstWrong_30 : decode cX7_firstWrong 30 = .ok (.ireturn, 1) := by decide +kernel
theorem dX7_isWire_0 : decode cX7_isWire 0 = .ok (.aload_n 0, 1) := by decide +kernel
theorem dX7_isWire_1 : decode cX7_isWire 1 = .ok (.getfield 15, 3) := by decide +kernel
theorem dX7_isWire_4 : decode cX7_isWire 4 = .ok (.bipush 8, 2) := by decide +kernel
theorem dX7_isWire_6 : decode cX7_isWire 6 = .ok (.if_icmp .lt 18, 3) := by decide +kernel
theorem dX7_isWire_9 : decode cX7_isWire 9 = .ok (.aload_n 0, 1) := by decide +kernel
theorem dX7_isWire_10 : decode cX7_isWire 10 = .ok (.invokevirtual 23, 3) := by decide +kernel
theorem dX7_isWire_13 : decode cX7_isWire 13 = .ok (.aload_n 0, 1) := by decide +kernel
theorem dX7_isWire_14 : decode cX7_isWire 14 = .ok (.getfield 15, 3) := by decide +kernel
theorem dX7_isWire_17 : decode cX7_isWire 17 = .ok (.if_icmp .ne 7, 3) := by decide +kernel
theorem dX7_isWire_20 : decode cX7_isWire 20 = .ok (.iconst 1, 1) := by decide +kernel
theorem dX7_isWire_21 : decode cX7_isWire 21 = .ok (.goto 4, 3) := by decide +kernel
theorem dX7_isWire_24 : decode cX7_isWire 24 = .ok (.iconst 0, 1) := by decide +kernel
theorem dX7_isWire_25 : decode cX7_isWire 25 = .ok (.ireturn, 1) := by decide +kernel
theorem dX7_digitAt_0 : decode cX7_digitAt 0 = .ok (.aload_n 0, 1) := by decide +kernel
theorem dX7_digitAt_1 : decode cX7_digitAt 1 = .ok (.iload_n 1, 1) := by decide +kernel
theorem dX7_digitAt_2 : decode cX7_digitAt 2 = .ok (.invokevirtual 27, 3) := by decide +kernel
theorem dX7_digitAt_5 : decode cX7_digitAt 5 = .ok (.bipush 48, 2) := by decide +kernel
theorem dX7_digitAt_7 : decode cX7_digitAt 7 = .ok (.isub, 1) := by decide +kernel
theorem dX7_digitAt_8 : decode cX7_digitAt 8 = .ok (.ireturn, 1) := by decide +kernel
theorem dX7_isWireLetter_0 : decode cX7_isWireLetter 0 = .ok (.iload_n 1, 1) := by decide +kernel
theorem dX7_isWireLetter_1 : decode cX7_isWireLetter 1 = .ok (.tableswitch 138 0 8 #[51, 61, 86, 102, 86, 102, 112, 112, 122], 51) := by decide +kernel
theorem dX7_isWireLetter_52 : decode cX7_isWireLetter 52 = .ok (.aload_n 0, 1) := by decide +kernel
theorem dX7_isWireLetter_53 : decode cX7_isWireLetter 53 = .ok (.iload_n 1, 1) := by decide +kernel
theorem dX7_isWireLetter_54 : decode cX7_isWireLetter 54 = .ok (.bipush 49, 2) := by decide +kernel
theorem dX7_isWireLetter_56 : decode cX7_isWireLetter 56 = .ok (.bipush 52, 2) := by decide +kernel
theorem dX7_isWireLetter_58 : decode cX7_isWireLetter 58 = .ok (.invokevirtual 31, 3) := by decide +kernel
theorem dX7_isWireLetter_61 : decode cX7_isWireLetter 61 = .ok (.ireturn, 1) := by decide +kernel
theorem dX7_isWireLetter_62 : decode cX7_isWireLetter 62 = .ok (.aload_n 0, 1) := by decide +kernel
theorem dX7_isWireLetter_63 : decode cX7_isWireLetter 63 = .ok (.iload_n 1, 1) := by decide +kernel
theorem dX7_isWireLetter_64 : decode cX7_isWireLetter 64 = .ok (.bipush 48, 2) := by decide +kernel
theorem dX7_isWireLetter_66 : decode cX7_isWireLetter 66 = .ok (.aload_n 0, 1) := by decide +kernel
theorem dX7_isWireLetter_67 : decode cX7_isWireLetter 67 = .ok (.iconst 0, 1) := by decide +kernel
theorem dX7_isWireLetter_68 : decode cX7_isWireLetter 68 = .ok (.invokevirtual 27, 3) := by decide +kernel
theorem dX7_isWireLetter_71 : decode cX7_isWireLetter 71 = .ok (.bipush 52, 2) := by decide +kernel
theorem dX7_isWireLetter_73 : decode cX7_isWireLetter 73 = .ok (.if_icmp .ne 8, 3) := by decide +kernel
theorem dX7_isWireLetter_76 : decode cX7_isWireLetter 76 = .ok (.bipush 48, 2) := by decide +kernel
theorem dX7_isWireLetter_78 : decode cX7_isWireLetter 78 = .ok (.goto 5, 3) := by decide +kernel
theorem dX7_isWireLetter_81 : decode cX7_isWireLetter 81 = .ok (.bipush 57, 2) := by decide +kernel
theorem dX7_isWireLetter_83 : decode cX7_isWireLetter 83 = .ok (.invokevirtual 31, 3) := by decide +kernel
theorem dX7_isWireLetter_86 : decode cX7_isWireLetter 86 = .ok (.ireturn, 1) := by decide +kernel
theorem dX7_isWireLetter_87 : decode cX7_isWireLetter 87 = .ok (.aload_n 0, 1) := by decide +kernel
theorem dX7_isWireLetter_88 : decode cX7_isWireLetter 88 = .ok (.iload_n 1, 1) := by decide +kernel
theorem dX7_isWireLetter_89 : decode cX7_isWireLetter 89 = .ok (.invokevirtual 27, 3) := by decide +kernel
theorem dX7_isWireLetter_92 : decode cX7_isWireLetter 92 = .ok (.bipush 58, 2) := by decide +kernel
theorem dX7_isWireLetter_94 : decode cX7_isWireLetter 94 = .ok (.if_icmp .ne 7, 3) := by decide +kernel
theorem dX7_isWireLetter_97 : decode cX7_isWireLetter 97 = .ok (.iconst 1, 1) := by decide +kernel
theorem dX7_isWireLetter_98 : decode cX7_isWireLetter 98 = .ok (.goto 4, 3) := by decide +kernel
theorem dX7_isWireLetter_101 : decode cX7_isWireLetter 101 = .ok (.iconst 0, 1) := by decide +kernel
theorem dX7_isWireLetter_102 : decode cX7_isWireLetter 102 = .ok (.ireturn, 1) := by decide +kernel
theorem dX7_isWireLetter_103 : decode cX7_isWireLetter 103 = .ok (.aload_n 0, 1) := by decide +kernel
theorem dX7_isWireLetter_104 : decode cX7_isWireLetter 104 = .ok (.iload_n 1, 1) := by decide +kernel
theorem dX7_isWireLetter_105 : decode cX7_isWireLetter 105 = .ok (.bipush 49, 2) := by decide +kernel
theorem dX7_isWireLetter_107 : decode cX7_isWireLetter 107 = .ok (.bipush 57, 2) := by decide +kernel
theorem dX7_isWireLetter_109 : decode cX7_isWireLetter 109 = .ok (.invokevirtual 31, 3) := by decide +kernel
theorem dX7_isWireLetter_112 : decode cX7_isWireLetter 112 = .ok (.ireturn, 1) := by decide +kernel
theorem dX7_isWireLetter_113 : decode cX7_isWireLetter 113 = .ok (.aload_n 0, 1) := by decide +kernel
theorem dX7_isWireLetter_114 : decode cX7_isWireLetter 114 = .ok (.iload_n 1, 1) := by decide +kernel
theorem dX7_isWireLetter_115 : decode cX7_isWireLetter 115 = .ok (.bipush 48, 2) := by decide +kernel
theorem dX7_isWireLetter_117 : decode cX7_isWireLetter 117 = .ok (.bipush 57, 2) := by decide +kernel
theorem dX7_isWireLetter_119 : decode cX7_isWireLetter 119 = .ok (.invokevirtual 31, 3) := by decide +kernel
theorem dX7_isWireLetter_122 : decode cX7_isWireLetter 122 = .ok (.ireturn, 1) := by decide +kernel
theorem dX7_isWireLetter_123 : decode cX7_isWireLetter 123 = .ok (.aload_n 0, 1) := by decide +kernel
theorem dX7_isWireLetter_124 : decode cX7_isWireLetter 124 = .ok (.iload_n 1, 1) := by decide +kernel
theorem dX7_isWireLetter_125 : decode cX7_isWireLetter 125 = .ok (.invokevirtual 27, 3) := by decide +kernel
theorem dX7_isWireLetter_128 : decode cX7_isWireLetter 128 = .ok (.bipush 111, 2) := by decide +kernel
theorem dX7_isWireLetter_130 : decode cX7_isWireLetter 130 = .ok (.if_icmp .ne 7, 3) := by decide +kernel
theorem dX7_isWireLetter_133 : decode cX7_isWireLetter 133 = .ok (.iconst 1, 1) := by decide +kernel
theorem dX7_isWireLetter_134 : decode cX7_isWireLetter 134 = .ok (.goto 4, 3) := by decide +kernel
theorem dX7_isWireLetter_137 : decode cX7_isWireLetter 137 = .ok (.iconst 0, 1) := by decide +kernel
theorem dX7_isWireLetter_138 : decode cX7_isWireLetter 138 = .ok (.ireturn, 1) := by decide +kernel
theorem dX7_isWireLetter_139 : decode cX7_isWireLetter 139 = .ok (.iconst 0, 1) := by decide +kernel
theorem dX7_isWireLetter_140 : decode cX7_isWireLetter 140 = .ok (.ireturn, 1) := by decide +kernel
theorem dX7_isBetween_0 : decode cX7_isBetween 0 = .ok (.aload_n 0, 1) := by decide +kernel
theorem dX7_isBetween_1 : decode cX7_isBetween 1 = .ok (.iload_n 1, 1) := by decide +kernel
theorem dX7_isBetween_2 : decode cX7_isBetween 2 = .ok (.invokevirtual 27, 3) := by decide +kernel
theorem dX7_isBetween_5 : decode cX7_isBetween 5 = .ok (.iload_n 2, 1) := by decide +kernel
theorem dX7_isBetween_6 : decode cX7_isBetween 6 = .ok (.if_icmp .lt 16, 3) := by decide +kernel
theorem dX7_isBetween_9 : decode cX7_isBetween 9 = .ok (.aload_n 0, 1) := by decide +kernel
theorem dX7_isBetween_10 : decode cX7_isBetween 10 = .ok (.iload_n 1, 1) := by decide +kernel
theorem dX7_isBetween_11 : decode cX7_isBetween 11 = .ok (.invokevirtual 27, 3) := by decide +kernel
theorem dX7_isBetween_14 : decode cX7_isBetween 14 = .ok (.iload_n 3, 1) := by decide +kernel
theorem dX7_isBetween_15 : decode cX7_isBetween 15 = .ok (.if_icmp .gt 7, 3) := by decide +kernel
theorem dX7_isBetween_18 : decode cX7_isBetween 18 = .ok (.iconst 1, 1) := by decide +kernel
theorem dX7_isBetween_19 : decode cX7_isBetween 19 = .ok (.goto 4, 3) := by decide +kernel
theorem dX7_isBetween_22 : decode cX7_isBetween 22 = .ok (.iconst 0, 1) := by decide +kernel
theorem dX7_isBetween_23 : decode cX7_isBetween 23 = .ok (.ireturn, 1) := by decide +kernel
theorem dX8_init_0 : decode cX8_init 0 = .ok (.aload_n 0, 1) := by decide +kernel
theorem dX8_init_1 : decode cX8_init 1 = .ok (.invokespecial 3, 3) := by decide +kernel
theorem dX8_init_4 : decode cX8_init 4 = .ok (.aload_n 0, 1) := by decide +kernel
theorem dX8_init_5 : decode cX8_init 5 = .ok (.bipush 41, 2) := by decide +kernel
theorem dX8_init_7 : decode cX8_init 7 = .ok (.newarray .int, 2) := by decide +kernel
theorem dX8_init_9 : decode cX8_init 9 = .ok (.putfield 9, 3) := by decide +kernel
theorem dX8_init_12 : decode cX8_init 12 = .ok (.aload_n 0, 1) := by decide +kernel
theorem dX8_init_13 : decode cX8_init 13 = .ok (.bipush 41, 2) := by decide +kernel
theorem dX8_init_15 : decode cX8_init 15 = .ok (.newarray .int, 2) := by decide +kernel
theorem dX8_init_17 : decode cX8_init 17 = .ok (.putfield 15, 3) := by decide +kernel
theorem dX8_init_20 : decode cX8_init 20 = .ok (.return_, 1) := by decide +kernel
theorem dX9_init_0 : decode cX9_init 0 = .ok (.aload_n 0, 1) := by decide +kernel
theorem dX9_init_1 : decode cX9_init 1 = .ok (.invokespecial 3, 3) := by decide +kernel
theorem dX9_init_4 : decode cX9_init 4 = .ok (.aload_n 0, 1) := by decide +kernel
theorem dX9_init_5 : decode cX9_init 5 = .ok (.iload_n 1, 1) := by decide +kernel
theorem dX9_init_6 : decode cX9_init 6 = .ok (.putfield 9, 3) := by decide +kernel
theorem dX9_init_9 : decode cX9_init 9 = .ok (.aload_n 0, 1) := by decide +kernel
theorem dX9_init_10 : decode cX9_init 10 = .ok (.iload_n 2, 1) := by decide +kernel
theorem dX9_init_11 : decode cX9_init 11 = .ok (.putfield 15, 3) := by decide +kernel
theorem dX9_init_14 : decode cX9_init 14 = .ok (.aload_n 0, 1) := by decide +kernel
theorem dX9_init_15 : decode cX9_init 15 = .ok (.iload_n 3, 1) := by decide +kernel
theorem dX9_init_16 : decode cX9_init 16 = .ok (.putfield 18, 3) := by decide +kernel
theorem dX9_init_19 : decode cX9_init 19 = .ok (.return_, 1) := by decide +kernel
theorem dX9_kind_0 : decode cX9_kind 0 = .ok (.iconst 0, 1) := by decide +kernel
theorem dX9_kind_1 : decode cX9_kind 1 = .ok (.ireturn, 1) := by decide +kernel
theorem dX9_weighs_0 : decode cX9_weighs 0 = .ok (.aload_n 0, 1) := by decide +kernel
theorem dX9_weighs_1 : decode cX9_weighs 1 = .ok (.getfield 9, 3) := by decide +kernel
theorem dX9_weighs_4 : decode cX9_weighs 4 = .ok (.ireturn, 1) := by decide +kernel
theorem dX9_goesAcross_0 : decode cX9_goesAcross 0 = .ok (.iconst 1, 1) := by decide +kernel
theorem dX9_goesAcross_1 : decode cX9_goesAcross 1 = .ok (.ireturn, 1) := by decide +kernel
theorem dX9_hoursHere_0 : decode cX9_hoursHere 0 = .ok (.iload_n 1, 1) := by decide +kernel
theorem dX9_hoursHere_1 : decode cX9_hoursHere 1 = .ok (.aload_n 0, 1) := by decide +kernel
theorem dX9_hoursHere_2 : decode cX9_hoursHere 2 = .ok (.getfield 18, 3) := by decide +kernel
theorem dX9_hoursHere_5 : decode cX9_hoursHere 5 = .ok (.isub, 1) := by decide +kernel
theorem dX9_hoursHere_6 : decode cX9_hoursHere 6 = .ok (.ireturn, 1) := by decide +kernel
theorem dX10_init_0 : decode cX10_init 0 = .ok (.aload_n 0, 1) := by decide +kernel
theorem dX10_init_1 : decode cX10_init 1 = .ok (.invokespecial 3, 3) := by decide +kernel
theorem dX10_init_4 : decode cX10_init 4 = .ok (.aload_n 0, 1) := by decide +kernel
theorem dX10_init_5 : decode cX10_init 5 = .ok (.bipush 6, 2) := by decide +kernel
theorem dX10_init_7 : decode cX10_init 7 = .ok (.newarray .int, 2) := by decide +kernel
theorem dX10_init_9 : decode cX10_init 9 = .ok (.putfield 9, 3) := by decide +kernel
theorem dX10_init_12 : decode cX10_init 12 = .ok (.aload_n 0, 1) := by decide +kernel
theorem dX10_init_13 : decode cX10_init 13 = .ok (.bipush 6, 2) := by decide +kernel
theorem dX10_init_15 : decode cX10_init 15 = .ok (.newarray .int, 2) := by decide +kernel
theorem dX10_init_17 : decode cX10_init 17 = .ok (.putfield 15, 3) := by decide +kernel
theorem dX10_init_20 : decode cX10_init 20 = .ok (.return_, 1) := by decide +kernel
theorem dX10_emptied_0 : decode cX10_emptied 0 = .ok (.aload_n 0, 1) := by decide +kernel
theorem dX10_emptied_1 : decode cX10_emptied 1 = .ok (.getfield 18, 3) := by decide +kernel
theorem dX10_emptied_4 : decode cX10_emptied 4 = .ok (.istore_n 1, 1) := by decide +kernel
theorem dX10_emptied_5 : decode cX10_emptied 5 = .ok (.aload_n 0, 1) := by decide +kernel
theorem dX10_emptied_6 : decode cX10_emptied 6 = .ok (.iconst 0, 1) := by decide +kernel
theorem dX10_emptied_7 : decode cX10_emptied 7 = .ok (.putfield 18, 3) := by decide +kernel
theorem dX10_emptied_10 : decode cX10_emptied 10 = .ok (.iload_n 1, 1) := by decide +kernel
theorem dX10_emptied_11 : decode cX10_emptied 11 = .ok (.ireturn, 1) := by decide +kernel
theorem dJ9_floorMod_7cf53_0 : decode cJ9_floorMod_7cf53 0 = .ok (.iload_n 0, 1) := by decide +kernel
theorem dJ9_floorMod_7cf53_1 : decode cJ9_floorMod_7cf53 1 = .ok (.iload_n 1, 1) := by decide +kernel
theorem dJ9_floorMod_7cf53_2 : decode cJ9_floorMod_7cf53 2 = .ok (.irem, 1) := by decide +kernel
theorem dJ9_floorMod_7cf53_3 : decode cJ9_floorMod_7cf53 3 = .ok (.istore_n 2, 1) := by decide +kernel
theorem dJ9_floorMod_7cf53_4 : decode cJ9_floorMod_7cf53 4 = .ok (.iload_n 0, 1) := by decide +kernel
theorem dJ9_floorMod_7cf53_5 : decode cJ9_floorMod_7cf53 5 = .ok (.iload_n 1, 1) := by decide +kernel
theorem dJ9_floorMod_7cf53_6 : decode cJ9_floorMod_7cf53 6 = .ok (.ixor, 1) := by decide +kernel
theorem dJ9_floorMod_7cf53_7 : decode cJ9_floorMod_7cf53 7 = .ok (.ifCond .ge 11, 3) := by decide +kernel
theorem dJ9_floorMod_7cf53_10 : decode cJ9_floorMod_7cf53 10 = .ok (.iload_n 2, 1) := by decide +kernel
theorem dJ9_floorMod_7cf53_11 : decode cJ9_floorMod_7cf53 11 = .ok (.ifCond .eq 7, 3) := by decide +kernel
theorem dJ9_floorMod_7cf53_14 : decode cJ9_floorMod_7cf53 14 = .ok (.iload_n 2, 1) := by decide +kernel
theorem dJ9_floorMod_7cf53_15 : decode cJ9_floorMod_7cf53 15 = .ok (.iload_n 1, 1) := by decide +kernel
theorem dJ9_floorMod_7cf53_16 : decode cJ9_floorMod_7cf53 16 = .ok (.iadd, 1) := by decide +kernel
theorem dJ9_floorMod_7cf53_17 : decode cJ9_floorMod_7cf53 17 = .ok (.ireturn, 1) := by decide +kernel
theorem dJ9_floorMod_7cf53_18 : decode cJ9_floorMod_7cf53 18 = .ok (.iload_n 2, 1) := by decide +kernel
theorem dJ9_floorMod_7cf53_19 : decode cJ9_floorMod_7cf53 19 = .ok (.ireturn, 1) := by decide +kernel
theorem dJ9_min_7cf53_0 : decode cJ9_min_7cf53 0 = .ok (.iload_n 0, 1) := by decide +kernel
theorem dJ9_min_7cf53_1 : decode cJ9_min_7cf53 1 = .ok (.iload_n 1, 1) := by decide +kernel
theorem dJ9_min_7cf53_2 : decode cJ9_min_7cf53 2 = .ok (.if_icmp .gt 7, 3) := by decide +kernel
theorem dJ9_min_7cf53_5 : decode cJ9_min_7cf53 5 = .ok (.iload_n 0, 1) := by decide +kernel
theorem dJ9_min_7cf53_6 : decode cJ9_min_7cf53 6 = .ok (.goto 4, 3) := by decide +kernel
theorem dJ9_min_7cf53_9 : decode cJ9_min_7cf53 9 = .ok (.iload_n 1, 1) := by decide +kernel
theorem dJ9_min_7cf53_10 : decode cJ9_min_7cf53 10 = .ok (.ireturn, 1) := by decide +kernel
end
section
theorem dL_cell_0 : decode cL_cell 0 = .ok (.iload_n 1, 1) := by decide +kernel
theorem dL_cell_1 : decode cL_cell 1 = .ok (.aload_n 0, 1) := by decide +kernel
theorem dL_cell_2 : decode cL_cell 2 = .ok (.arraylength, 1) := by decide +kernel
theorem dL_cell_3 : decode cL_cell 3 = .ok (.if_icmp .ge 9, 3) := by decide +kernel
theorem dL_cell_6 : decode cL_cell 6 = .ok (.aload_n 0, 1) := by decide +kernel
theorem dL_cell_7 : decode cL_cell 7 = .ok (.iload_n 1, 1) := by decide +kernel
theorem dL_cell_8 : decode cL_cell 8 = .ok (.iaload, 1) := by decide +kernel
theorem dL_cell_9 : decode cL_cell 9 = .ok (.goto 11, 3) := by decide +kernel
theorem dL_cell_12 : decode cL_cell 12 = .ok (.sipush 7919, 3) := by decide +kernel
theorem dL_cell_15 : decode cL_cell 15 = .ok (.iload_n 1, 1) := by decide +kernel
theorem dL_cell_16 : decode cL_cell 16 = .ok (.imul, 1) := by decide +kernel
theorem dL_cell_17 : decode cL_cell 17 = .ok (.bipush 13, 2) := by decide +kernel
theorem dL_cell_19 : decode cL_cell 19 = .ok (.iadd, 1) := by decide +kernel
theorem dL_cell_20 : decode cL_cell 20 = .ok (.ldc 7, 2) := by decide +kernel
theorem dL_cell_22 : decode cL_cell 22 = .ok (.iand, 1) := by decide +kernel
theorem dL_cell_23 : decode cL_cell 23 = .ok (.ireturn, 1) := by decide +kernel
theorem dL_put_0 : decode cL_put 0 = .ok (.aload_n 0, 1) := by decide +kernel
theorem dL_put_1 : decode cL_put 1 = .ok (.iload_n 1, 1) := by decide +kernel
theorem dL_put_2 : decode cL_put 2 = .ok (.i2l, 1) := by decide +kernel
theorem dL_put_3 : decode cL_put 3 = .ok (.invokevirtual 8, 3) := by decide +kernel
theorem dL_put_6 : decode cL_put 6 = .ok (.ifCond .le 7, 3) := by decide +kernel
theorem dL_put_9 : decode cL_put 9 = .ok (.iconst 1, 1) := by decide +kernel
theorem dL_put_10 : decode cL_put 10 = .ok (.goto 4, 3) := by decide +kernel
theorem dL_put_13 : decode cL_put 13 = .ok (.iconst 0, 1) := by decide +kernel
theorem dL_put_14 : decode cL_put 14 = .ok (.ireturn, 1) := by decide +kernel
theorem dL_wire_0 : decode cL_wire 0 = .ok (.bipush 10, 2) := by decide +kernel
theorem dL_wire_2 : decode cL_wire 2 = .ok (.iload_n 1, 1) := by decide +kernel
theorem dL_wire_3 : decode cL_wire 3 = .ok (.bipush 31, 2) := by decide +kernel
theorem dL_wire_5 : decode cL_wire 5 = .ok (.irem, 1) := by decide +kernel
theorem dL_wire_6 : decode cL_wire 6 = .ok (.iadd, 1) := by decide +kernel
theorem dL_wire_7 : decode cL_wire 7 = .ok (.istore_n 3, 1) := by decide +kernel
theorem dL_wire_8 : decode cL_wire 8 = .ok (.iconst 1, 1) := by decide +kernel
theorem dL_wire_9 : decode cL_wire 9 = .ok (.iload_n 1, 1) := by decide +kernel
theorem dL_wire_10 : decode cL_wire 10 = .ok (.bipush 32, 2) := by decide +kernel
theorem dL_wire_12 : decode cL_wire 12 = .ok (.idiv, 1) := by decide +kernel
theorem dL_wire_13 : decode cL_wire 13 = .ok (.bipush 9, 2) := by decide +kernel
theorem dL_wire_15 : decode cL_wire 15 = .ok (.irem, 1) := by decide +kernel
theorem dL_wire_16 : decode cL_wire 16 = .ok (.iload_n 1, 1) := by decide +kernel
theorem dL_wire_17 : decode cL_wire 17 = .ok (.iconst 3, 1) := by decide +kernel
theorem dL_wire_18 : decode cL_wire 18 = .ok (.irem, 1) := by decide +kernel
theorem dL_wire_19 : decode cL_wire 19 = .ok (.iconst 1, 1) := by decide +kernel
theorem dL_wire_20 : decode cL_wire 20 = .ok (.iadd, 1) := by decide +kernel
theorem dL_wire_21 : decode cL_wire 21 = .ok (.idiv, 1) := by decide +kernel
theorem dL_wire_22 : decode cL_wire 22 = .ok (.iadd, 1) := by decide +kernel
theorem dL_wire_23 : decode cL_wire 23 = .ok (.istore 4, 2) := by decide +kernel
theorem dL_wire_25 : decode cL_wire 25 = .ok (.bipush 100, 2) := by decide +kernel
theorem dL_wire_27 : decode cL_wire 27 = .ok (.iload_n 1, 1) := by decide +kernel
theorem dL_wire_28 : decode cL_wire 28 = .ok (.sipush 512, 3) := by decide +kernel
theorem dL_wire_31 : decode cL_wire 31 = .ok (.idiv, 1) := by decide +kernel
theorem dL_wire_32 : decode cL_wire 32 = .ok (.sipush 900, 3) := by decide +kernel
theorem dL_wire_35 : decode cL_wire 35 = .ok (.irem, 1) := by decide +kernel
theorem dL_wire_36 : decode cL_wire 36 = .ok (.iadd, 1) := by decide +kernel
theorem dL_wire_37 : decode cL_wire 37 = .ok (.istore 5, 2) := by decide +kernel
theorem dL_wire_39 : decode cL_wire 39 = .ok (.iconst 0, 1) := by decide +kernel
theorem dL_wire_40 : decode cL_wire 40 = .ok (.istore 6, 2) := by decide +kernel
theorem dL_wire_42 : decode cL_wire 42 = .ok (.iload 6, 2) := by decide +kernel
theorem dL_wire_44 : decode cL_wire 44 = .ok (.bipush 32, 2) := by decide +kernel
theorem dL_wire_46 : decode cL_wire 46 = .ok (.if_icmp .ge 14, 3) := by decide +kernel
theorem dL_wire_49 : decode cL_wire 49 = .ok (.aload_n 2, 1) := by decide +kernel
theorem dL_wire_50 : decode cL_wire 50 = .ok (.iload 6, 2) := by decide +kernel
theorem dL_wire_52 : decode cL_wire 52 = .ok (.iconst 0, 1) := by decide +kernel
theorem dL_wire_53 : decode cL_wire 53 = .ok (.iastore, 1) := by decide +kernel
theorem dL_wire_54 : decode cL_wire 54 = .ok (.iinc 6 1, 3) := by decide +kernel
theorem dL_wire_57 : decode cL_wire 57 = .ok (.goto (-15), 3) := by decide +kernel
theorem dL_wire_60 : decode cL_wire 60 = .ok (.aload_n 2, 1) := by decide +kernel
theorem dL_wire_61 : decode cL_wire 61 = .ok (.iconst 0, 1) := by decide +kernel
theorem dL_wire_62 : decode cL_wire 62 = .ok (.iload_n 3, 1) := by decide +kernel
theorem dL_wire_63 : decode cL_wire 63 = .ok (.iastore, 1) := by decide +kernel
theorem dL_wire_64 : decode cL_wire 64 = .ok (.aload_n 2, 1) := by decide +kernel
theorem dL_wire_65 : decode cL_wire 65 = .ok (.iconst 1, 1) := by decide +kernel
theorem dL_wire_66 : decode cL_wire 66 = .ok (.iload_n 3, 1) := by decide +kernel
theorem dL_wire_67 : decode cL_wire 67 = .ok (.iload_n 3, 1) := by decide +kernel
theorem dL_wire_68 : decode cL_wire 68 = .ok (.imul, 1) := by decide +kernel
theorem dL_wire_69 : decode cL_wire 69 = .ok (.iload 4, 2) := by decide +kernel
theorem dL_wire_71 : decode cL_wire 71 = .ok (.imul, 1) := by decide +kernel
theorem dL_wire_72 : decode cL_wire 72 = .ok (.iastore, 1) := by decide +kernel
theorem dL_wire_73 : decode cL_wire 73 = .ok (.aload_n 2, 1) := by decide +kernel
theorem dL_wire_74 : decode cL_wire 74 = .ok (.iconst 2, 1) := by decide +kernel
theorem dL_wire_75 : decode cL_wire 75 = .ok (.iload 5, 2) := by decide +kernel
theorem dL_wire_77 : decode cL_wire 77 = .ok (.iastore, 1) := by decide +kernel
theorem dL_wire_78 : decode cL_wire 78 = .ok (.aload_n 2, 1) := by decide +kernel
theorem dL_wire_79 : decode cL_wire 79 = .ok (.iconst 3, 1) := by decide +kernel
theorem dL_wire_80 : decode cL_wire 80 = .ok (.iload_n 1, 1) := by decide +kernel
theorem dL_wire_81 : decode cL_wire 81 = .ok (.ldc 14, 2) := by decide +kernel
theorem dL_wire_83 : decode cL_wire 83 = .ok (.idiv, 1) := by decide +kernel
theorem dL_wire_84 : decode cL_wire 84 = .ok (.iconst 2, 1) := by decide +kernel
theorem dL_wire_85 : decode cL_wire 85 = .ok (.irem, 1) := by decide +kernel
theorem dL_wire_86 : decode cL_wire 86 = .ok (.iastore, 1) := by decide +kernel
theorem dL_wire_87 : decode cL_wire 87 = .ok (.aload_n 0, 1) := by decide +kernel
theorem dL_wire_88 : decode cL_wire 88 = .ok (.bipush 48, 2) := by decide +kernel
theorem dL_wire_90 : decode cL_wire 90 = .ok (.iload_n 3, 1) := by decide +kernel
theorem dL_wire_91 : decode cL_wire 91 = .ok (.bipush 10, 2) := by decide +kernel
theorem dL_wire_93 : decode cL_wire 93 = .ok (.idiv, 1) := by decide +kernel
theorem dL_wire_94 : decode cL_wire 94 = .ok (.iadd, 1) := by decide +kernel
theorem dL_wire_95 : decode cL_wire 95 = .ok (.invokestatic 15, 3) := by decide +kernel
theorem dL_wire_98 : decode cL_wire 98 = .ok (.ifCond .eq 114, 3) := by decide +kernel
theorem dL_wire_101 : decode cL_wire 101 = .ok (.aload_n 0, 1) := by decide +kernel
theorem dL_wire_102 : decode cL_wire 102 = .ok (.bipush 48, 2) := by decide +kernel
theorem dL_wire_104 : decode cL_wire 104 = .ok (.iload_n 3, 1) := by decide +kernel
theorem dL_wire_105 : decode cL_wire 105 = .ok (.bipush 10, 2) := by decide +kernel
theorem dL_wire_107 : decode cL_wire 107 = .ok (.irem, 1) := by decide +kernel
theorem dL_wire_108 : decode cL_wire 108 = .ok (.iadd, 1) := by decide +kernel
theorem dL_wire_109 : decode cL_wire 109 = .ok (.invokestatic 15, 3) := by decide +kernel
theorem dL_wire_112 : decode cL_wire 112 = .ok (.ifCond .eq 100, 3) := by decide +kernel
theorem dL_wire_115 : decode cL_wire 115 = .ok (.aload_n 0, 1) := by decide +kernel
theorem dL_wire_116 : decode cL_wire 116 = .ok (.bipush 58, 2) := by decide +kernel
theorem dL_wire_118 : decode cL_wire 118 = .ok (.invokestatic 15, 3) := by decide +kernel
theorem dL_wire_121 : decode cL_wire 121 = .ok (.ifCond .eq 91, 3) := by decide +kernel
theorem dL_wire_124 : decode cL_wire 124 = .ok (.aload_n 0, 1) := by decide +kernel
theorem dL_wire_125 : decode cL_wire 125 = .ok (.bipush 48, 2) := by decide +kernel
theorem dL_wire_127 : decode cL_wire 127 = .ok (.iload 4, 2) := by decide +kernel
theorem dL_wire_129 : decode cL_wire 129 = .ok (.iadd, 1) := by decide +kernel
theorem dL_wire_130 : decode cL_wire 130 = .ok (.invokestatic 15, 3) := by decide +kernel
theorem dL_wire_133 : decode cL_wire 133 = .ok (.ifCond .eq 79, 3) := by decide +kernel
theorem dL_wire_136 : decode cL_wire 136 = .ok (.aload_n 0, 1) := by decide +kernel
theorem dL_wire_137 : decode cL_wire 137 = .ok (.bipush 58, 2) := by decide +kernel
theorem dL_wire_139 : decode cL_wire 139 = .ok (.invokestatic 15, 3) := by decide +kernel
theorem dL_wire_142 : decode cL_wire 142 = .ok (.ifCond .eq 70, 3) := by decide +kernel
theorem dL_wire_145 : decode cL_wire 145 = .ok (.aload_n 0, 1) := by decide +kernel
theorem dL_wire_146 : decode cL_wire 146 = .ok (.bipush 48, 2) := by decide +kernel
theorem dL_wire_148 : decode cL_wire 148 = .ok (.iload 5, 2) := by decide +kernel
theorem dL_wire_150 : decode cL_wire 150 = .ok (.bipush 100, 2) := by decide +kernel
theorem dL_wire_152 : decode cL_wire 152 = .ok (.idiv, 1) := by decide +kernel
theorem dL_wire_153 : decode cL_wire 153 = .ok (.iadd, 1) := by decide +kernel
theorem dL_wire_154 : decode cL_wire 154 = .ok (.invokestatic 15, 3) := by decide +kernel
theorem dL_wire_157 : decode cL_wire 157 = .ok (.ifCond .eq 55, 3) := by decide +kernel
theorem dL_wire_160 : decode cL_wire 160 = .ok (.aload_n 0, 1) := by decide +kernel
theorem dL_wire_161 : decode cL_wire 161 = .ok (.bipush 48, 2) := by decide +kernel
theorem dL_wire_163 : decode cL_wire 163 = .ok (.iload 5, 2) := by decide +kernel
theorem dL_wire_165 : decode cL_wire 165 = .ok (.bipush 10, 2) := by decide +kernel
theorem dL_wire_167 : decode cL_wire 167 = .ok (.idiv, 1) := by decide +kernel
theorem dL_wire_168 : decode cL_wire 168 = .ok (.bipush 10, 2) := by decide +kernel
theorem dL_wire_170 : decode cL_wire 170 = .ok (.irem, 1) := by decide +kernel
theorem dL_wire_171 : decode cL_wire 171 = .ok (.iadd, 1) := by decide +kernel
theorem dL_wire_172 : decode cL_wire 172 = .ok (.invokestatic 15, 3) := by decide +kernel
theorem dL_wire_175 : decode cL_wire 175 = .ok (.ifCond .eq 37, 3) := by decide +kernel
theorem dL_wire_178 : decode cL_wire 178 = .ok (.aload_n 0, 1) := by decide +kernel
theorem dL_wire_179 : decode cL_wire 179 = .ok (.bipush 48, 2) := by decide +kernel
theorem dL_wire_181 : decode cL_wire 181 = .ok (.iload 5, 2) := by decide +kernel
theorem dL_wire_183 : decode cL_wire 183 = .ok (.bipush 10, 2) := by decide +kernel
theorem dL_wire_185 : decode cL_wire 185 = .ok (.irem, 1) := by decide +kernel
theorem dL_wire_186 : decode cL_wire 186 = .ok (.iadd, 1) := by decide +kernel
theorem dL_wire_187 : decode cL_wire 187 = .ok (.invokestatic 15, 3) := by decide +kernel
theorem dL_wire_190 : decode cL_wire 190 = .ok (.ifCond .eq 22, 3) := by decide +kernel
theorem dL_wire_193 : decode cL_wire 193 = .ok (.aload_n 2, 1) := by decide +kernel
theorem dL_wire_194 : decode cL_wire 194 = .ok (.iconst 3, 1) := by decide +kernel
theorem dL_wire_195 : decode cL_wire 195 = .ok (.iaload, 1) := by decide +kernel
theorem dL_wire_196 : decode cL_wire 196 = .ok (.ifCond .eq 12, 3) := by decide +kernel
theorem dL_wire_199 : decode cL_wire 199 = .ok (.aload_n 0, 1) := by decide +kernel
theorem dL_wire_200 : decode cL_wire 200 = .ok (.bipush 111, 2) := by decide +kernel
theorem dL_wire_202 : decode cL_wire 202 = .ok (.invokestatic 15, 3) := by decide +kernel
theorem dL_wire_205 : decode cL_wire 205 = .ok (.ifCond .eq 7, 3) := by decide +kernel
theorem dL_wire_208 : decode cL_wire 208 = .ok (.iconst 1, 1) := by decide +kernel
theorem dL_wire_209 : decode cL_wire 209 = .ok (.goto 4, 3) := by decide +kernel
theorem dL_wire_212 : decode cL_wire 212 = .ok (.iconst 0, 1) := by decide +kernel
theorem dL_wire_213 : decode cL_wire 213 = .ok (.istore 6, 2) := by decide +kernel
theorem dL_wire_215 : decode cL_wire 215 = .ok (.iload 6, 2) := by decide +kernel
theorem dL_wire_217 : decode cL_wire 217 = .ok (.ifCond .eq 30, 3) := by decide +kernel
theorem dL_wire_220 : decode cL_wire 220 = .ok (.aload_n 0, 1) := by decide +kernel
theorem dL_wire_221 : decode cL_wire 221 = .ok (.invokevirtual 21, 3) := by decide +kernel
theorem dL_wire_224 : decode cL_wire 224 = .ok (.bipush 8, 2) := by decide +kernel
theorem dL_wire_226 : decode cL_wire 226 = .ok (.aload_n 2, 1) := by decide +kernel
theorem dL_wire_227 : decode cL_wire 227 = .ok (.iconst 3, 1) := by decide +kernel
theorem dL_wire_228 : decode cL_wire 228 = .ok (.iaload, 1) := by decide +kernel
theorem dL_wire_229 : decode cL_wire 229 = .ok (.iadd, 1) := by decide +kernel
theorem dL_wire_230 : decode cL_wire 230 = .ok (.if_icmp .ne 17, 3) := by decide +kernel
theorem dL_wire_233 : decode cL_wire 233 = .ok (.aload_n 0, 1) := by decide +kernel
theorem dL_wire_234 : decode cL_wire 234 = .ok (.invokevirtual 25, 3) := by decide +kernel
theorem dL_wire_237 : decode cL_wire 237 = .ok (.aload_n 2, 1) := by decide +kernel
theorem dL_wire_238 : decode cL_wire 238 = .ok (.iconst 1, 1) := by decide +kernel
theorem dL_wire_239 : decode cL_wire 239 = .ok (.iaload, 1) := by decide +kernel
theorem dL_wire_240 : decode cL_wire 240 = .ok (.if_icmp .ne 7, 3) := by decide +kernel
theorem dL_wire_243 : decode cL_wire 243 = .ok (.iconst 1, 1) := by decide +kernel
theorem dL_wire_244 : decode cL_wire 244 = .ok (.goto 4, 3) := by decide +kernel
theorem dL_wire_247 : decode cL_wire 247 = .ok (.iconst 0, 1) := by decide +kernel
theorem dL_wire_248 : decode cL_wire 248 = .ok (.ireturn, 1) := by decide +kernel
theorem dL_thing_0 : decode cL_thing 0 = .ok (.bipush 8, 2) := by decide +kernel
theorem dL_thing_2 : decode cL_thing 2 = .ok (.iconst 4, 1) := by decide +kernel
theorem dL_thing_3 : decode cL_thing 3 = .ok (.aload_n 2, 1) := by decide +kernel
theorem dL_thing_4 : decode cL_thing 4 = .ok (.bipush 7, 2) := by decide +kernel
theorem dL_thing_6 : decode cL_thing 6 = .ok (.iaload, 1) := by decide +kernel
theorem dL_thing_7 : decode cL_thing 7 = .ok (.imul, 1) := by decide +kernel
theorem dL_thing_8 : decode cL_thing 8 = .ok (.iadd, 1) := by decide +kernel
theorem dL_thing_9 : decode cL_thing 9 = .ok (.istore_n 3, 1) := by decide +kernel
theorem dL_thing_10 : decode cL_thing 10 = .ok (.aload_n 2, 1) := by decide +kernel
theorem dL_thing_11 : decode cL_thing 11 = .ok (.iload_n 3, 1) := by decide +kernel
theorem dL_thing_12 : decode cL_thing 12 = .ok (.iload_n 1, 1) := by decide +kernel
theorem dL_thing_13 : decode cL_thing 13 = .ok (.iconst 5, 1) := by decide +kernel
theorem dL_thing_14 : decode cL_thing 14 = .ok (.irem, 1) := by decide +kernel
theorem dL_thing_15 : decode cL_thing 15 = .ok (.iastore, 1) := by decide +kernel
theorem dL_thing_16 : decode cL_thing 16 = .ok (.aload_n 2, 1) := by decide +kernel
theorem dL_thing_17 : decode cL_thing 17 = .ok (.iload_n 3, 1) := by decide +kernel
theorem dL_thing_18 : decode cL_thing 18 = .ok (.iconst 1, 1) := by decide +kernel
theorem dL_thing_19 : decode cL_thing 19 = .ok (.iadd, 1) := by decide +kernel
theorem dL_thing_20 : decode cL_thing 20 = .ok (.iconst 1, 1) := by decide +kernel
theorem dL_thing_21 : decode cL_thing 21 = .ok (.iload_n 1, 1) := by decide +kernel
theorem dL_thing_22 : decode cL_thing 22 = .ok (.bipush 8, 2) := by decide +kernel
theorem dL_thing_24 : decode cL_thing 24 = .ok (.idiv, 1) := by decide +kernel
theorem dL_thing_25 : decode cL_thing 25 = .ok (.bipush 20, 2) := by decide +kernel
theorem dL_thing_27 : decode cL_thing 27 = .ok (.irem, 1) := by decide +kernel
theorem dL_thing_28 : decode cL_thing 28 = .ok (.iadd, 1) := by decide +kernel
theorem dL_thing_29 : decode cL_thing 29 = .ok (.iastore, 1) := by decide +kernel
theorem dL_thing_30 : decode cL_thing 30 = .ok (.aload_n 2, 1) := by decide +kernel
theorem dL_thing_31 : decode cL_thing 31 = .ok (.iload_n 3, 1) := by decide +kernel
theorem dL_thing_32 : decode cL_thing 32 = .ok (.iconst 2, 1) := by decide +kernel
theorem dL_thing_33 : decode cL_thing 33 = .ok (.iadd, 1) := by decide +kernel
theorem dL_thing_34 : decode cL_thing 34 = .ok (.iload_n 1, 1) := by decide +kernel
theorem dL_thing_35 : decode cL_thing 35 = .ok (.sipush 256, 3) := by decide +kernel
theorem dL_thing_38 : decode cL_thing 38 = .ok (.idiv, 1) := by decide +kernel
theorem dL_thing_39 : decode cL_thing 39 = .ok (.iconst 2, 1) := by decide +kernel
theorem dL_thing_40 : decode cL_thing 40 = .ok (.irem, 1) := by decide +kernel
theorem dL_thing_41 : decode cL_thing 41 = .ok (.iastore, 1) := by decide +kernel
theorem dL_thing_42 : decode cL_thing 42 = .ok (.aload_n 2, 1) := by decide +kernel
theorem dL_thing_43 : decode cL_thing 43 = .ok (.iload_n 3, 1) := by decide +kernel
theorem dL_thing_44 : decode cL_thing 44 = .ok (.iconst 3, 1) := by decide +kernel
theorem dL_thing_45 : decode cL_thing 45 = .ok (.iadd, 1) := by decide +kernel
theorem dL_thing_46 : decode cL_thing 46 = .ok (.aload_n 2, 1) := by decide +kernel
theorem dL_thing_47 : decode cL_thing 47 = .ok (.iconst 5, 1) := by decide +kernel
theorem dL_thing_48 : decode cL_thing 48 = .ok (.iaload, 1) := by decide +kernel
theorem dL_thing_49 : decode cL_thing 49 = .ok (.iastore, 1) := by decide +kernel
theorem dL_thing_50 : decode cL_thing 50 = .ok (.aload_n 2, 1) := by decide +kernel
theorem dL_thing_51 : decode cL_thing 51 = .ok (.bipush 7, 2) := by decide +kernel
theorem dL_thing_53 : decode cL_thing 53 = .ok (.dup2, 1) := by decide +kernel
theorem dL_thing_54 : decode cL_thing 54 = .ok (.iaload, 1) := by decide +kernel
theorem dL_thing_55 : decode cL_thing 55 = .ok (.iconst 1, 1) := by decide +kernel
theorem dL_thing_56 : decode cL_thing 56 = .ok (.iadd, 1) := by decide +kernel
theorem dL_thing_57 : decode cL_thing 57 = .ok (.iastore, 1) := by decide +kernel
theorem dL_thing_58 : decode cL_thing 58 = .ok (.aload_n 0, 1) := by decide +kernel
theorem dL_thing_59 : decode cL_thing 59 = .ok (.iload_n 1, 1) := by decide +kernel
theorem dL_thing_60 : decode cL_thing 60 = .ok (.iconst 5, 1) := by decide +kernel
theorem dL_thing_61 : decode cL_thing 61 = .ok (.irem, 1) := by decide +kernel
theorem dL_thing_62 : decode cL_thing 62 = .ok (.aload_n 2, 1) := by decide +kernel
theorem dL_thing_63 : decode cL_thing 63 = .ok (.iload_n 3, 1) := by decide +kernel
theorem dL_thing_64 : decode cL_thing 64 = .ok (.iconst 1, 1) := by decide +kernel
theorem dL_thing_65 : decode cL_thing 65 = .ok (.iadd, 1) := by decide +kernel
theorem dL_thing_66 : decode cL_thing 66 = .ok (.iaload, 1) := by decide +kernel
theorem dL_thing_67 : decode cL_thing 67 = .ok (.aload_n 2, 1) := by decide +kernel
theorem dL_thing_68 : decode cL_thing 68 = .ok (.iload_n 3, 1) := by decide +kernel
theorem dL_thing_69 : decode cL_thing 69 = .ok (.iconst 2, 1) := by decide +kernel
theorem dL_thing_70 : decode cL_thing 70 = .ok (.iadd, 1) := by decide +kernel
theorem dL_thing_71 : decode cL_thing 71 = .ok (.iaload, 1) := by decide +kernel
theorem dL_thing_72 : decode cL_thing 72 = .ok (.invokevirtual 28, 3) := by decide +kernel
theorem dL_thing_75 : decode cL_thing 75 = .ok (.aload_n 2, 1) := by decide +kernel
theorem dL_thing_76 : decode cL_thing 76 = .ok (.bipush 7, 2) := by decide +kernel
theorem dL_thing_78 : decode cL_thing 78 = .ok (.iaload, 1) := by decide +kernel
theorem dL_thing_79 : decode cL_thing 79 = .ok (.iconst 1, 1) := by decide +kernel
theorem dL_thing_80 : decode cL_thing 80 = .ok (.isub, 1) := by decide +kernel
theorem dL_thing_81 : decode cL_thing 81 = .ok (.if_icmp .ne 7, 3) := by decide +kernel
theorem dL_thing_84 : decode cL_thing 84 = .ok (.iconst 1, 1) := by decide +kernel
theorem dL_thing_85 : decode cL_thing 85 = .ok (.goto 4, 3) := by decide +kernel
theorem dL_thing_88 : decode cL_thing 88 = .ok (.iconst 0, 1) := by decide +kernel
theorem dL_thing_89 : decode cL_thing 89 = .ok (.ireturn, 1) := by decide +kernel
theorem dL_weighs_0 : decode cL_weighs 0 = .ok (.aload_n 0, 1) := by decide +kernel
theorem dL_weighs_1 : decode cL_weighs 1 = .ok (.bipush 8, 2) := by decide +kernel
theorem dL_weighs_3 : decode cL_weighs 3 = .ok (.iconst 4, 1) := by decide +kernel
theorem dL_weighs_4 : decode cL_weighs 4 = .ok (.iload_n 1, 1) := by decide +kernel
theorem dL_weighs_5 : decode cL_weighs 5 = .ok (.imul, 1) := by decide +kernel
theorem dL_weighs_6 : decode cL_weighs 6 = .ok (.iadd, 1) := by decide +kernel
theorem dL_weighs_7 : decode cL_weighs 7 = .ok (.iaload, 1) := by decide +kernel
theorem dL_weighs_8 : decode cL_weighs 8 = .ok (.istore_n 3, 1) := by decide +kernel
theorem dL_weighs_9 : decode cL_weighs 9 = .ok (.aload_n 0, 1) := by decide +kernel
theorem dL_weighs_10 : decode cL_weighs 10 = .ok (.iconst 5, 1) := by decide +kernel
theorem dL_weighs_11 : decode cL_weighs 11 = .ok (.iaload, 1) := by decide +kernel
theorem dL_weighs_12 : decode cL_weighs 12 = .ok (.iload_n 2, 1) := by decide +kernel
theorem dL_weighs_13 : decode cL_weighs 13 = .ok (.iadd, 1) := by decide +kernel
theorem dL_weighs_14 : decode cL_weighs 14 = .ok (.aload_n 0, 1) := by decide +kernel
theorem dL_weighs_15 : decode cL_weighs 15 = .ok (.bipush 11, 2) := by decide +kernel
theorem dL_weighs_17 : decode cL_weighs 17 = .ok (.iconst 4, 1) := by decide +kernel
theorem dL_weighs_18 : decode cL_weighs 18 = .ok (.iload_n 1, 1) := by decide +kernel
theorem dL_weighs_19 : decode cL_weighs 19 = .ok (.imul, 1) := by decide +kernel
theorem dL_weighs_20 : decode cL_weighs 20 = .ok (.iadd, 1) := by decide +kernel
theorem dL_weighs_21 : decode cL_weighs 21 = .ok (.iaload, 1) := by decide +kernel
theorem dL_weighs_22 : decode cL_weighs 22 = .ok (.isub, 1) := by decide +kernel
theorem dL_weighs_23 : decode cL_weighs 23 = .ok (.bipush 6, 2) := by decide +kernel
theorem dL_weighs_25 : decode cL_weighs 25 = .ok (.idiv, 1) := by decide +kernel
theorem dL_weighs_26 : decode cL_weighs 26 = .ok (.istore 4, 2) := by decide +kernel
theorem dL_weighs_28 : decode cL_weighs 28 = .ok (.aload_n 0, 1) := by decide +kernel
theorem dL_weighs_29 : decode cL_weighs 29 = .ok (.bipush 9, 2) := by decide +kernel
theorem dL_weighs_31 : decode cL_weighs 31 = .ok (.iconst 4, 1) := by decide +kernel
theorem dL_weighs_32 : decode cL_weighs 32 = .ok (.iload_n 1, 1) := by decide +kernel
theorem dL_weighs_33 : decode cL_weighs 33 = .ok (.imul, 1) := by decide +kernel
theorem dL_weighs_34 : decode cL_weighs 34 = .ok (.iadd, 1) := by decide +kernel
theorem dL_weighs_35 : decode cL_weighs 35 = .ok (.iaload, 1) := by decide +kernel
theorem dL_weighs_36 : decode cL_weighs 36 = .ok (.iload_n 3, 1) := by decide +kernel
theorem dL_weighs_37 : decode cL_weighs 37 = .ok (.iconst 1, 1) := by decide +kernel
theorem dL_weighs_38 : decode cL_weighs 38 = .ok (.if_icmp .ne 7, 3) := by decide +kernel
theorem dL_weighs_41 : decode cL_weighs 41 = .ok (.iconst 2, 1) := by decide +kernel
theorem dL_weighs_42 : decode cL_weighs 42 = .ok (.goto 27, 3) := by decide +kernel
theorem dL_weighs_45 : decode cL_weighs 45 = .ok (.iload_n 3, 1) := by decide +kernel
theorem dL_weighs_46 : decode cL_weighs 46 = .ok (.iconst 3, 1) := by decide +kernel
theorem dL_weighs_47 : decode cL_weighs 47 = .ok (.if_icmp .ne 8, 3) := by decide +kernel
theorem dL_weighs_50 : decode cL_weighs 50 = .ok (.iload 4, 2) := by decide +kernel
theorem dL_weighs_52 : decode cL_weighs 52 = .ok (.goto 17, 3) := by decide +kernel
theorem dL_weighs_55 : decode cL_weighs 55 = .ok (.iload_n 3, 1) := by decide +kernel
theorem dL_weighs_56 : decode cL_weighs 56 = .ok (.iconst 4, 1) := by decide +kernel
theorem dL_weighs_57 : decode cL_weighs 57 = .ok (.if_icmp .ne 11, 3) := by decide +kernel
theorem dL_weighs_60 : decode cL_weighs 60 = .ok (.iload 4, 2) := by decide +kernel
theorem dL_weighs_62 : decode cL_weighs 62 = .ok (.iload 4, 2) := by decide +kernel
theorem dL_weighs_64 : decode cL_weighs 64 = .ok (.iadd, 1) := by decide +kernel
theorem dL_weighs_65 : decode cL_weighs 65 = .ok (.goto 4, 3) := by decide +kernel
theorem dL_weighs_68 : decode cL_weighs 68 = .ok (.iconst 0, 1) := by decide +kernel
theorem dL_weighs_69 : decode cL_weighs 69 = .ok (.iadd, 1) := by decide +kernel
theorem dL_weighs_70 : decode cL_weighs 70 = .ok (.ireturn, 1) := by decide +kernel
theorem dL_cabin_0 : decode cL_cabin 0 = .ok (.bipush 10, 2) := by decide +kernel
theorem dL_cabin_2 : decode cL_cabin 2 = .ok (.istore 4, 2) := by decide +kernel
theorem dL_cabin_4 : decode cL_cabin 4 = .ok (.iconst 0, 1) := by decide +kernel
theorem dL_cabin_5 : decode cL_cabin 5 = .ok (.istore 5, 2) := by decide +kernel
theorem dL_cabin_7 : decode cL_cabin 7 = .ok (.iload 5, 2) := by decide +kernel
theorem dL_cabin_9 : decode cL_cabin 9 = .ok (.aload_n 0, 1) := by decide +kernel
theorem dL_cabin_10 : decode cL_cabin 10 = .ok (.bipush 7, 2) := by decide +kernel
theorem dL_cabin_12 : decode cL_cabin 12 = .ok (.iaload, 1) := by decide +kernel
theorem dL_cabin_13 : decode cL_cabin 13 = .ok (.if_icmp .ge 51, 3) := by decide +kernel
theorem dL_cabin_16 : decode cL_cabin 16 = .ok (.aload_n 0, 1) := by decide +kernel
theorem dL_cabin_17 : decode cL_cabin 17 = .ok (.bipush 10, 2) := by decide +kernel
theorem dL_cabin_19 : decode cL_cabin 19 = .ok (.iconst 4, 1) := by decide +kernel
theorem dL_cabin_20 : decode cL_cabin 20 = .ok (.iload 5, 2) := by decide +kernel
theorem dL_cabin_22 : decode cL_cabin 22 = .ok (.imul, 1) := by decide +kernel
theorem dL_cabin_23 : decode cL_cabin 23 = .ok (.iadd, 1) := by decide +kernel
theorem dL_cabin_24 : decode cL_cabin 24 = .ok (.iaload, 1) := by decide +kernel
theorem dL_cabin_25 : decode cL_cabin 25 = .ok (.iload_n 2, 1) := by decide +kernel
theorem dL_cabin_26 : decode cL_cabin 26 = .ok (.iload 5, 2) := by decide +kernel
theorem dL_cabin_28 : decode cL_cabin 28 = .ok (.ishr, 1) := by decide +kernel
theorem dL_cabin_29 : decode cL_cabin 29 = .ok (.iconst 1, 1) := by decide +kernel
theorem dL_cabin_30 : decode cL_cabin 30 = .ok (.iand, 1) := by decide +kernel
theorem dL_cabin_31 : decode cL_cabin 31 = .ok (.iadd, 1) := by decide +kernel
theorem dL_cabin_32 : decode cL_cabin 32 = .ok (.iconst 2, 1) := by decide +kernel
theorem dL_cabin_33 : decode cL_cabin 33 = .ok (.irem, 1) := by decide +kernel
theorem dL_cabin_34 : decode cL_cabin 34 = .ok (.istore 6, 2) := by decide +kernel
theorem dL_cabin_36 : decode cL_cabin 36 = .ok (.iload 4, 2) := by decide +kernel
theorem dL_cabin_38 : decode cL_cabin 38 = .ok (.iload 6, 2) := by decide +kernel
theorem dL_cabin_40 : decode cL_cabin 40 = .ok (.iload_n 1, 1) := by decide +kernel
theorem dL_cabin_41 : decode cL_cabin 41 = .ok (.if_icmp .ne 13, 3) := by decide +kernel
theorem dL_cabin_44 : decode cL_cabin 44 = .ok (.aload_n 0, 1) := by decide +kernel
theorem dL_cabin_45 : decode cL_cabin 45 = .ok (.iload 5, 2) := by decide +kernel
theorem dL_cabin_47 : decode cL_cabin 47 = .ok (.iload_n 3, 1) := by decide +kernel
theorem dL_cabin_48 : decode cL_cabin 48 = .ok (.invokestatic 32, 3) := by decide +kernel
theorem dL_cabin_51 : decode cL_cabin 51 = .ok (.goto 4, 3) := by decide +kernel
theorem dL_cabin_54 : decode cL_cabin 54 = .ok (.iconst 0, 1) := by decide +kernel
theorem dL_cabin_55 : decode cL_cabin 55 = .ok (.iadd, 1) := by decide +kernel
theorem dL_cabin_56 : decode cL_cabin 56 = .ok (.istore 4, 2) := by decide +kernel
theorem dL_cabin_58 : decode cL_cabin 58 = .ok (.iinc 5 1, 3) := by decide +kernel
theorem dL_cabin_61 : decode cL_cabin 61 = .ok (.goto (-54), 3) := by decide +kernel
theorem dL_cabin_64 : decode cL_cabin 64 = .ok (.iload 4, 2) := by decide +kernel
theorem dL_cabin_66 : decode cL_cabin 66 = .ok (.ireturn, 1) := by decide +kernel
theorem dL_turns_0 : decode cL_turns 0 = .ok (.aload_n 0, 1) := by decide +kernel
theorem dL_turns_1 : decode cL_turns 1 = .ok (.iconst 1, 1) := by decide +kernel
theorem dL_turns_2 : decode cL_turns 2 = .ok (.iaload, 1) := by decide +kernel
theorem dL_turns_3 : decode cL_turns 3 = .ok (.iload_n 1, 1) := by decide +kernel
theorem dL_turns_4 : decode cL_turns 4 = .ok (.iload_n 1, 1) := by decide +kernel
theorem dL_turns_5 : decode cL_turns 5 = .ok (.imul, 1) := by decide +kernel
theorem dL_turns_6 : decode cL_turns 6 = .ok (.idiv, 1) := by decide +kernel
theorem dL_turns_7 : decode cL_turns 7 = .ok (.ireturn, 1) := by decide +kernel
theorem dL_arm_0 : decode cL_arm 0 = .ok (.aload_n 0, 1) := by decide +kernel
theorem dL_arm_1 : decode cL_arm 1 = .ok (.iconst 0, 1) := by decide +kernel
theorem dL_arm_2 : decode cL_arm 2 = .ok (.iload_n 2, 1) := by decide +kernel
theorem dL_arm_3 : decode cL_arm 3 = .ok (.iload 4, 2) := by decide +kernel
theorem dL_arm_5 : decode cL_arm 5 = .ok (.invokestatic 36, 3) := by decide +kernel
theorem dL_arm_8 : decode cL_arm 8 = .ok (.istore 5, 2) := by decide +kernel
theorem dL_arm_10 : decode cL_arm 10 = .ok (.aload_n 0, 1) := by decide +kernel
theorem dL_arm_11 : decode cL_arm 11 = .ok (.iconst 1, 1) := by decide +kernel
theorem dL_arm_12 : decode cL_arm 12 = .ok (.iload_n 2, 1) := by decide +kernel
theorem dL_arm_13 : decode cL_arm 13 = .ok (.iload 4, 2) := by decide +kernel
theorem dL_arm_15 : decode cL_arm 15 = .ok (.invokestatic 36, 3) := by decide +kernel
theorem dL_arm_18 : decode cL_arm 18 = .ok (.istore 6, 2) := by decide +kernel
theorem dL_arm_20 : decode cL_arm 20 = .ok (.iload_n 3, 1) := by decide +kernel
theorem dL_arm_21 : decode cL_arm 21 = .ok (.iload 6, 2) := by decide +kernel
theorem dL_arm_23 : decode cL_arm 23 = .ok (.imul, 1) := by decide +kernel
theorem dL_arm_24 : decode cL_arm 24 = .ok (.iload_n 3, 1) := by decide +kernel
theorem dL_arm_25 : decode cL_arm 25 = .ok (.iload 6, 2) := by decide +kernel
theorem dL_arm_27 : decode cL_arm 27 = .ok (.imul, 1) := by decide +kernel
theorem dL_arm_28 : decode cL_arm 28 = .ok (.iload 5, 2) := by decide +kernel
theorem dL_arm_30 : decode cL_arm 30 = .ok (.iload 6, 2) := by decide +kernel
theorem dL_arm_32 : decode cL_arm 32 = .ok (.iadd, 1) := by decide +kernel
theorem dL_arm_33 : decode cL_arm 33 = .ok (.irem, 1) := by decide +kernel
theorem dL_arm_34 : decode cL_arm 34 = .ok (.isub, 1) := by decide +kernel
theorem dL_arm_35 : decode cL_arm 35 = .ok (.iload 5, 2) := by decide +kernel
theorem dL_arm_37 : decode cL_arm 37 = .ok (.iload 6, 2) := by decide +kernel
theorem dL_arm_39 : decode cL_arm 39 = .ok (.iadd, 1) := by decide +kernel
theorem dL_arm_40 : decode cL_arm 40 = .ok (.idiv, 1) := by decide +kernel
theorem dL_arm_41 : decode cL_arm 41 = .ok (.istore 7, 2) := by decide +kernel
theorem dL_arm_43 : decode cL_arm 43 = .ok (.iload_n 1, 1) := by decide +kernel
theorem dL_arm_44 : decode cL_arm 44 = .ok (.ifCond .ne 8, 3) := by decide +kernel
theorem dL_arm_47 : decode cL_arm 47 = .ok (.iload 7, 2) := by decide +kernel
theorem dL_arm_49 : decode cL_arm 49 = .ok (.goto 7, 3) := by decide +kernel
theorem dL_arm_52 : decode cL_arm 52 = .ok (.iload_n 3, 1) := by decide +kernel
theorem dL_arm_53 : decode cL_arm 53 = .ok (.iload 7, 2) := by decide +kernel
theorem dL_arm_55 : decode cL_arm 55 = .ok (.isub, 1) := by decide +kernel
theorem dL_arm_56 : decode cL_arm 56 = .ok (.ireturn, 1) := by decide +kernel
theorem dL_floor_0 : decode cL_floor 0 = .ok (.aload_n 0, 1) := by decide +kernel
theorem dL_floor_1 : decode cL_floor 1 = .ok (.iload_n 3, 1) := by decide +kernel
theorem dL_floor_2 : decode cL_floor 2 = .ok (.invokestatic 40, 3) := by decide +kernel
theorem dL_floor_5 : decode cL_floor 5 = .ok (.istore 5, 2) := by decide +kernel
theorem dL_floor_7 : decode cL_floor 7 = .ok (.iload 5, 2) := by decide +kernel
theorem dL_floor_9 : decode cL_floor 9 = .ok (.aload_n 0, 1) := by decide +kernel
theorem dL_floor_10 : decode cL_floor 10 = .ok (.iload_n 1, 1) := by decide +kernel
theorem dL_floor_11 : decode cL_floor 11 = .ok (.iload_n 2, 1) := by decide +kernel
theorem dL_floor_12 : decode cL_floor 12 = .ok (.iload_n 3, 1) := by decide +kernel
theorem dL_floor_13 : decode cL_floor 13 = .ok (.iload 4, 2) := by decide +kernel
theorem dL_floor_15 : decode cL_floor 15 = .ok (.invokestatic 44, 3) := by decide +kernel
theorem dL_floor_18 : decode cL_floor 18 = .ok (.imul, 1) := by decide +kernel
theorem dL_floor_19 : decode cL_floor 19 = .ok (.iload 5, 2) := by decide +kernel
theorem dL_floor_21 : decode cL_floor 21 = .ok (.imul, 1) := by decide +kernel
theorem dL_floor_22 : decode cL_floor 22 = .ok (.ireturn, 1) := by decide +kernel
theorem dL_strain_0 : decode cL_strain 0 = .ok (.aload_n 0, 1) := by decide +kernel
theorem dL_strain_1 : decode cL_strain 1 = .ok (.iconst 0, 1) := by decide +kernel
theorem dL_strain_2 : decode cL_strain 2 = .ok (.iconst 0, 1) := by decide +kernel
theorem dL_strain_3 : decode cL_strain 3 = .ok (.iload_n 1, 1) := by decide +kernel
theorem dL_strain_4 : decode cL_strain 4 = .ok (.iload_n 2, 1) := by decide +kernel
theorem dL_strain_5 : decode cL_strain 5 = .ok (.invokestatic 48, 3) := by decide +kernel
theorem dL_strain_8 : decode cL_strain 8 = .ok (.aload_n 0, 1) := by decide +kernel
theorem dL_strain_9 : decode cL_strain 9 = .ok (.iconst 0, 1) := by decide +kernel
theorem dL_strain_10 : decode cL_strain 10 = .ok (.iconst 0, 1) := by decide +kernel
theorem dL_strain_11 : decode cL_strain 11 = .ok (.iload_n 2, 1) := by decide +kernel
theorem dL_strain_12 : decode cL_strain 12 = .ok (.invokestatic 36, 3) := by decide +kernel
theorem dL_strain_15 : decode cL_strain 15 = .ok (.imul, 1) := by decide +kernel
theorem dL_strain_16 : decode cL_strain 16 = .ok (.bipush 100, 2) := by decide +kernel
theorem dL_strain_18 : decode cL_strain 18 = .ok (.idiv, 1) := by decide +kernel
theorem dL_strain_19 : decode cL_strain 19 = .ok (.ireturn, 1) := by decide +kernel
theorem dL_hour_0 : decode cL_hour 0 = .ok (.aload_n 0, 1) := by decide +kernel
theorem dL_hour_1 : decode cL_hour 1 = .ok (.iconst 0, 1) := by decide +kernel
theorem dL_hour_2 : decode cL_hour 2 = .ok (.dup2, 1) := by decide +kernel
theorem dL_hour_3 : decode cL_hour 3 = .ok (.iaload, 1) := by decide +kernel
theorem dL_hour_4 : decode cL_hour 4 = .ok (.iload_n 1, 1) := by decide +kernel
theorem dL_hour_5 : decode cL_hour 5 = .ok (.isub, 1) := by decide +kernel
theorem dL_hour_6 : decode cL_hour 6 = .ok (.iastore, 1) := by decide +kernel
theorem dL_hour_7 : decode cL_hour 7 = .ok (.aload_n 0, 1) := by decide +kernel
theorem dL_hour_8 : decode cL_hour 8 = .ok (.iconst 5, 1) := by decide +kernel
theorem dL_hour_9 : decode cL_hour 9 = .ok (.dup2, 1) := by decide +kernel
theorem dL_hour_10 : decode cL_hour 10 = .ok (.iaload, 1) := by decide +kernel
theorem dL_hour_11 : decode cL_hour 11 = .ok (.iconst 1, 1) := by decide +kernel
theorem dL_hour_12 : decode cL_hour 12 = .ok (.iadd, 1) := by decide +kernel
theorem dL_hour_13 : decode cL_hour 13 = .ok (.iastore, 1) := by decide +kernel
theorem dL_hour_14 : decode cL_hour 14 = .ok (.aload_n 0, 1) := by decide +kernel
theorem dL_hour_15 : decode cL_hour 15 = .ok (.iconst 4, 1) := by decide +kernel
theorem dL_hour_16 : decode cL_hour 16 = .ok (.aload_n 0, 1) := by decide +kernel
theorem dL_hour_17 : decode cL_hour 17 = .ok (.iconst 4, 1) := by decide +kernel
theorem dL_hour_18 : decode cL_hour 18 = .ok (.iaload, 1) := by decide +kernel
theorem dL_hour_19 : decode cL_hour 19 = .ok (.aload_n 0, 1) := by decide +kernel
theorem dL_hour_20 : decode cL_hour 20 = .ok (.aload_n 0, 1) := by decide +kernel
theorem dL_hour_21 : decode cL_hour 21 = .ok (.iconst 0, 1) := by decide +kernel
theorem dL_hour_22 : decode cL_hour 22 = .ok (.iaload, 1) := by decide +kernel
theorem dL_hour_23 : decode cL_hour 23 = .ok (.invokestatic 40, 3) := by decide +kernel
theorem dL_hour_26 : decode cL_hour 26 = .ok (.bipush 10, 2) := by decide +kernel
theorem dL_hour_28 : decode cL_hour 28 = .ok (.imul, 1) := by decide +kernel
theorem dL_hour_29 : decode cL_hour 29 = .ok (.iadd, 1) := by decide +kernel
theorem dL_hour_30 : decode cL_hour 30 = .ok (.sipush 360, 3) := by decide +kernel
theorem dL_hour_33 : decode cL_hour 33 = .ok (.irem, 1) := by decide +kernel
theorem dL_hour_34 : decode cL_hour 34 = .ok (.iastore, 1) := by decide +kernel
theorem dL_hour_35 : decode cL_hour 35 = .ok (.aload_n 0, 1) := by decide +kernel
theorem dL_hour_36 : decode cL_hour 36 = .ok (.bipush 6, 2) := by decide +kernel
theorem dL_hour_38 : decode cL_hour 38 = .ok (.aload_n 0, 1) := by decide +kernel
theorem dL_hour_39 : decode cL_hour 39 = .ok (.aload_n 0, 1) := by decide +kernel
theorem dL_hour_40 : decode cL_hour 40 = .ok (.iconst 0, 1) := by decide +kernel
theorem dL_hour_41 : decode cL_hour 41 = .ok (.iaload, 1) := by decide +kernel
theorem dL_hour_42 : decode cL_hour 42 = .ok (.iconst 0, 1) := by decide +kernel
theorem dL_hour_43 : decode cL_hour 43 = .ok (.invokestatic 51, 3) := by decide +kernel
theorem dL_hour_46 : decode cL_hour 46 = .ok (.aload_n 0, 1) := by decide +kernel
theorem dL_hour_47 : decode cL_hour 47 = .ok (.iconst 2, 1) := by decide +kernel
theorem dL_hour_48 : decode cL_hour 48 = .ok (.iaload, 1) := by decide +kernel
theorem dL_hour_49 : decode cL_hour 49 = .ok (.if_icmp .le 7, 3) := by decide +kernel
theorem dL_hour_52 : decode cL_hour 52 = .ok (.iconst 1, 1) := by decide +kernel
theorem dL_hour_53 : decode cL_hour 53 = .ok (.goto 4, 3) := by decide +kernel
theorem dL_hour_56 : decode cL_hour 56 = .ok (.iconst 0, 1) := by decide +kernel
theorem dL_hour_57 : decode cL_hour 57 = .ok (.iastore, 1) := by decide +kernel
theorem dL_hour_58 : decode cL_hour 58 = .ok (.aload_n 0, 1) := by decide +kernel
theorem dL_hour_59 : decode cL_hour 59 = .ok (.bipush 6, 2) := by decide +kernel
theorem dL_hour_61 : decode cL_hour 61 = .ok (.iaload, 1) := by decide +kernel
theorem dL_hour_62 : decode cL_hour 62 = .ok (.iconst 1, 1) := by decide +kernel
theorem dL_hour_63 : decode cL_hour 63 = .ok (.if_icmp .ne 7, 3) := by decide +kernel
theorem dL_hour_66 : decode cL_hour 66 = .ok (.iconst (-1), 1) := by decide +kernel
theorem dL_hour_67 : decode cL_hour 67 = .ok (.goto 6, 3) := by decide +kernel
theorem dL_hour_70 : decode cL_hour 70 = .ok (.aload_n 0, 1) := by decide +kernel
theorem dL_hour_71 : decode cL_hour 71 = .ok (.iconst 0, 1) := by decide +kernel
theorem dL_hour_72 : decode cL_hour 72 = .ok (.iaload, 1) := by decide +kernel
theorem dL_hour_73 : decode cL_hour 73 = .ok (.ireturn, 1) := by decide +kernel
theorem dL_told_0 : decode cL_told 0 = .ok (.aload_n 0, 1) := by decide +kernel
theorem dL_told_1 : decode cL_told 1 = .ok (.iconst 0, 1) := by decide +kernel
theorem dL_told_2 : decode cL_told 2 = .ok (.invokevirtual 54, 3) := by decide +kernel
theorem dL_told_5 : decode cL_told 5 = .ok (.aload_n 1, 1) := by decide +kernel
theorem dL_told_6 : decode cL_told 6 = .ok (.iconst 0, 1) := by decide +kernel
theorem dL_told_7 : decode cL_told 7 = .ok (.iaload, 1) := by decide +kernel
theorem dL_told_8 : decode cL_told 8 = .ok (.if_icmp .ne 121, 3) := by decide +kernel
theorem dL_told_11 : decode cL_told 11 = .ok (.aload_n 0, 1) := by decide +kernel
theorem dL_told_12 : decode cL_told 12 = .ok (.iconst 1, 1) := by decide +kernel
theorem dL_told_13 : decode cL_told 13 = .ok (.invokevirtual 54, 3) := by decide +kernel
theorem dL_told_16 : decode cL_told 16 = .ok (.aload_n 1, 1) := by decide +kernel
theorem dL_told_17 : decode cL_told 17 = .ok (.aload_n 1, 1) := by decide +kernel
theorem dL_told_18 : decode cL_told 18 = .ok (.iconst 0, 1) := by decide +kernel
theorem dL_told_19 : decode cL_told 19 = .ok (.iaload, 1) := by decide +kernel
theorem dL_told_20 : decode cL_told 20 = .ok (.invokestatic 40, 3) := by decide +kernel
theorem dL_told_23 : decode cL_told 23 = .ok (.if_icmp .ne 106, 3) := by decide +kernel
theorem dL_told_26 : decode cL_told 26 = .ok (.aload_n 0, 1) := by decide +kernel
theorem dL_told_27 : decode cL_told 27 = .ok (.iconst 2, 1) := by decide +kernel
theorem dL_told_28 : decode cL_told 28 = .ok (.invokevirtual 54, 3) := by decide +kernel
theorem dL_told_31 : decode cL_told 31 = .ok (.aload_n 1, 1) := by decide +kernel
theorem dL_told_32 : decode cL_told 32 = .ok (.iconst 1, 1) := by decide +kernel
theorem dL_told_33 : decode cL_told 33 = .ok (.iaload, 1) := by decide +kernel
theorem dL_told_34 : decode cL_told 34 = .ok (.if_icmp .ne 95, 3) := by decide +kernel
theorem dL_told_37 : decode cL_told 37 = .ok (.aload_n 0, 1) := by decide +kernel
theorem dL_told_38 : decode cL_told 38 = .ok (.iconst 3, 1) := by decide +kernel
theorem dL_told_39 : decode cL_told 39 = .ok (.invokevirtual 54, 3) := by decide +kernel
theorem dL_told_42 : decode cL_told 42 = .ok (.aload_n 1, 1) := by decide +kernel
theorem dL_told_43 : decode cL_told 43 = .ok (.aload_n 1, 1) := by decide +kernel
theorem dL_told_44 : decode cL_told 44 = .ok (.iconst 0, 1) := by decide +kernel
theorem dL_told_45 : decode cL_told 45 = .ok (.iaload, 1) := by decide +kernel
theorem dL_told_46 : decode cL_told 46 = .ok (.iconst 0, 1) := by decide +kernel
theorem dL_told_47 : decode cL_told 47 = .ok (.invokestatic 51, 3) := by decide +kernel
theorem dL_told_50 : decode cL_told 50 = .ok (.if_icmp .ne 79, 3) := by decide +kernel
theorem dL_told_53 : decode cL_told 53 = .ok (.aload_n 0, 1) := by decide +kernel
theorem dL_told_54 : decode cL_told 54 = .ok (.iconst 4, 1) := by decide +kernel
theorem dL_told_55 : decode cL_told 55 = .ok (.invokevirtual 54, 3) := by decide +kernel
theorem dL_told_58 : decode cL_told 58 = .ok (.aload_n 1, 1) := by decide +kernel
theorem dL_told_59 : decode cL_told 59 = .ok (.iconst 2, 1) := by decide +kernel
theorem dL_told_60 : decode cL_told 60 = .ok (.iaload, 1) := by decide +kernel
theorem dL_told_61 : decode cL_told 61 = .ok (.if_icmp .ne 68, 3) := by decide +kernel
theorem dL_told_64 : decode cL_told 64 = .ok (.aload_n 0, 1) := by decide +kernel
theorem dL_told_65 : decode cL_told 65 = .ok (.iconst 5, 1) := by decide +kernel
theorem dL_told_66 : decode cL_told 66 = .ok (.invokevirtual 54, 3) := by decide +kernel
theorem dL_told_69 : decode cL_told 69 = .ok (.aload_n 1, 1) := by decide +kernel
theorem dL_told_70 : decode cL_told 70 = .ok (.iconst 3, 1) := by decide +kernel
theorem dL_told_71 : decode cL_told 71 = .ok (.iaload, 1) := by decide +kernel
theorem dL_told_72 : decode cL_told 72 = .ok (.if_icmp .ne 57, 3) := by decide +kernel
theorem dL_told_75 : decode cL_told 75 = .ok (.aload_n 0, 1) := by decide +kernel
theorem dL_told_76 : decode cL_told 76 = .ok (.bipush 6, 2) := by decide +kernel
theorem dL_told_78 : decode cL_told 78 = .ok (.invokevirtual 54, 3) := by decide +kernel
theorem dL_told_81 : decode cL_told 81 = .ok (.aload_n 1, 1) := by decide +kernel
theorem dL_told_82 : decode cL_told 82 = .ok (.iconst 4, 1) := by decide +kernel
theorem dL_told_83 : decode cL_told 83 = .ok (.iaload, 1) := by decide +kernel
theorem dL_told_84 : decode cL_told 84 = .ok (.if_icmp .ne 45, 3) := by decide +kernel
theorem dL_told_87 : decode cL_told 87 = .ok (.aload_n 0, 1) := by decide +kernel
theorem dL_told_88 : decode cL_told 88 = .ok (.bipush 7, 2) := by decide +kernel
theorem dL_told_90 : decode cL_told 90 = .ok (.invokevirtual 54, 3) := by decide +kernel
theorem dL_told_93 : decode cL_told 93 = .ok (.aload_n 1, 1) := by decide +kernel
theorem dL_told_94 : decode cL_told 94 = .ok (.iconst 5, 1) := by decide +kernel
theorem dL_told_95 : decode cL_told 95 = .ok (.iaload, 1) := by decide +kernel
theorem dL_told_96 : decode cL_told 96 = .ok (.if_icmp .ne 33, 3) := by decide +kernel
theorem dL_told_99 : decode cL_told 99 = .ok (.aload_n 0, 1) := by decide +kernel
theorem dL_told_100 : decode cL_told 100 = .ok (.bipush 8, 2) := by decide +kernel
theorem dL_told_102 : decode cL_told 102 = .ok (.invokevirtual 54, 3) := by decide +kernel
theorem dL_told_105 : decode cL_told 105 = .ok (.aload_n 1, 1) := by decide +kernel
theorem dL_told_106 : decode cL_told 106 = .ok (.bipush 6, 2) := by decide +kernel
theorem dL_told_108 : decode cL_told 108 = .ok (.iaload, 1) := by decide +kernel
theorem dL_told_109 : decode cL_told 109 = .ok (.if_icmp .ne 20, 3) := by decide +kernel
theorem dL_told_112 : decode cL_told 112 = .ok (.aload_n 0, 1) := by decide +kernel
theorem dL_told_113 : decode cL_told 113 = .ok (.bipush 9, 2) := by decide +kernel
theorem dL_told_115 : decode cL_told 115 = .ok (.invokevirtual 54, 3) := by decide +kernel
theorem dL_told_118 : decode cL_told 118 = .ok (.aload_n 1, 1) := by decide +kernel
theorem dL_told_119 : decode cL_told 119 = .ok (.bipush 7, 2) := by decide +kernel
theorem dL_told_121 : decode cL_told 121 = .ok (.iaload, 1) := by decide +kernel
theorem dL_told_122 : decode cL_told 122 = .ok (.if_icmp .ne 7, 3) := by decide +kernel
theorem dL_told_125 : decode cL_told 125 = .ok (.iconst 1, 1) := by decide +kernel
theorem dL_told_126 : decode cL_told 126 = .ok (.goto 4, 3) := by decide +kernel
theorem dL_told_129 : decode cL_told 129 = .ok (.iconst 0, 1) := by decide +kernel
theorem dL_told_130 : decode cL_told 130 = .ok (.istore_n 2, 1) := by decide +kernel
theorem dL_told_131 : decode cL_told 131 = .ok (.iconst 0, 1) := by decide +kernel
theorem dL_told_132 : decode cL_told 132 = .ok (.istore_n 3, 1) := by decide +kernel
theorem dL_told_133 : decode cL_told 133 = .ok (.iconst 0, 1) := by decide +kernel
theorem dL_told_134 : decode cL_told 134 = .ok (.istore 4, 2) := by decide +kernel
theorem dL_told_136 : decode cL_told 136 = .ok (.iload 4, 2) := by decide +kernel
theorem dL_told_138 : decode cL_told 138 = .ok (.aload_n 1, 1) := by decide +kernel
theorem dL_told_139 : decode cL_told 139 = .ok (.bipush 7, 2) := by decide +kernel
theorem dL_told_141 : decode cL_told 141 = .ok (.iaload, 1) := by decide +kernel
theorem dL_told_142 : decode cL_told 142 = .ok (.if_icmp .ge 136, 3) := by decide +kernel
theorem dL_told_145 : decode cL_told 145 = .ok (.iload_n 3, 1) := by decide +kernel
theorem dL_told_146 : decode cL_told 146 = .ok (.aload_n 1, 1) := by decide +kernel
theorem dL_told_147 : decode cL_told 147 = .ok (.bipush 10, 2) := by decide +kernel
theorem dL_told_149 : decode cL_told 149 = .ok (.iconst 4, 1) := by decide +kernel
theorem dL_told_150 : decode cL_told 150 = .ok (.iload 4, 2) := by decide +kernel
theorem dL_told_152 : decode cL_told 152 = .ok (.imul, 1) := by decide +kernel
theorem dL_told_153 : decode cL_told 153 = .ok (.iadd, 1) := by decide +kernel
theorem dL_told_154 : decode cL_told 154 = .ok (.iaload, 1) := by decide +kernel
theorem dL_told_155 : decode cL_told 155 = .ok (.ifCond .ne 7, 3) := by decide +kernel
theorem dL_told_158 : decode cL_told 158 = .ok (.iconst 1, 1) := by decide +kernel
theorem dL_told_159 : decode cL_told 159 = .ok (.goto 4, 3) := by decide +kernel
theorem dL_told_162 : decode cL_told 162 = .ok (.iconst 0, 1) := by decide +kernel
theorem dL_told_163 : decode cL_told 163 = .ok (.iadd, 1) := by decide +kernel
theorem dL_told_164 : decode cL_told 164 = .ok (.istore_n 3, 1) := by decide +kernel
theorem dL_told_165 : decode cL_told 165 = .ok (.iload_n 2, 1) := by decide +kernel
theorem dL_told_166 : decode cL_told 166 = .ok (.ifCond .eq 104, 3) := by decide +kernel
theorem dL_told_169 : decode cL_told 169 = .ok (.aload_n 0, 1) := by decide +kernel
theorem dL_told_170 : decode cL_told 170 = .ok (.iload 4, 2) := by decide +kernel
theorem dL_told_172 : decode cL_told 172 = .ok (.iconst 0, 1) := by decide +kernel
theorem dL_told_173 : decode cL_told 173 = .ok (.invokevirtual 58, 3) := by decide +kernel
theorem dL_told_176 : decode cL_told 176 = .ok (.aload_n 1, 1) := by decide +kernel
theorem dL_told_177 : decode cL_told 177 = .ok (.bipush 8, 2) := by decide +kernel
theorem dL_told_179 : decode cL_told 179 = .ok (.iconst 4, 1) := by decide +kernel
theorem dL_told_180 : decode cL_told 180 = .ok (.iload 4, 2) := by decide +kernel
theorem dL_told_182 : decode cL_told 182 = .ok (.imul, 1) := by decide +kernel
theorem dL_told_183 : decode cL_told 183 = .ok (.iadd, 1) := by decide +kernel
theorem dL_told_184 : decode cL_told 184 = .ok (.iaload, 1) := by decide +kernel
theorem dL_told_185 : decode cL_told 185 = .ok (.if_icmp .ne 85, 3) := by decide +kernel
theorem dL_told_188 : decode cL_told 188 = .ok (.aload_n 0, 1) := by decide +kernel
theorem dL_told_189 : decode cL_told 189 = .ok (.iload 4, 2) := by decide +kernel
theorem dL_told_191 : decode cL_told 191 = .ok (.iconst 1, 1) := by decide +kernel
theorem dL_told_192 : decode cL_told 192 = .ok (.invokevirtual 58, 3) := by decide +kernel
theorem dL_told_195 : decode cL_told 195 = .ok (.aload_n 1, 1) := by decide +kernel
theorem dL_told_196 : decode cL_told 196 = .ok (.bipush 9, 2) := by decide +kernel
theorem dL_told_198 : decode cL_told 198 = .ok (.iconst 4, 1) := by decide +kernel
theorem dL_told_199 : decode cL_told 199 = .ok (.iload 4, 2) := by decide +kernel
theorem dL_told_201 : decode cL_told 201 = .ok (.imul, 1) := by decide +kernel
theorem dL_told_202 : decode cL_told 202 = .ok (.iadd, 1) := by decide +kernel
theorem dL_told_203 : decode cL_told 203 = .ok (.iaload, 1) := by decide +kernel
theorem dL_told_204 : decode cL_told 204 = .ok (.if_icmp .ne 66, 3) := by decide +kernel
theorem dL_told_207 : decode cL_told 207 = .ok (.aload_n 0, 1) := by decide +kernel
theorem dL_told_208 : decode cL_told 208 = .ok (.iload 4, 2) := by decide +kernel
theorem dL_told_210 : decode cL_told 210 = .ok (.iconst 2, 1) := by decide +kernel
theorem dL_told_211 : decode cL_told 211 = .ok (.invokevirtual 58, 3) := by decide +kernel
theorem dL_told_214 : decode cL_told 214 = .ok (.aload_n 1, 1) := by decide +kernel
theorem dL_told_215 : decode cL_told 215 = .ok (.bipush 10, 2) := by decide +kernel
theorem dL_told_217 : decode cL_told 217 = .ok (.iconst 4, 1) := by decide +kernel
theorem dL_told_218 : decode cL_told 218 = .ok (.iload 4, 2) := by decide +kernel
theorem dL_told_220 : decode cL_told 220 = .ok (.imul, 1) := by decide +kernel
theorem dL_told_221 : decode cL_told 221 = .ok (.iadd, 1) := by decide +kernel
theorem dL_told_222 : decode cL_told 222 = .ok (.iaload, 1) := by decide +kernel
theorem dL_told_223 : decode cL_told 223 = .ok (.if_icmp .ne 47, 3) := by decide +kernel
theorem dL_told_226 : decode cL_told 226 = .ok (.aload_n 0, 1) := by decide +kernel
theorem dL_told_227 : decode cL_told 227 = .ok (.iload 4, 2) := by decide +kernel
theorem dL_told_229 : decode cL_told 229 = .ok (.iconst 3, 1) := by decide +kernel
theorem dL_told_230 : decode cL_told 230 = .ok (.invokevirtual 58, 3) := by decide +kernel
theorem dL_told_233 : decode cL_told 233 = .ok (.aload_n 1, 1) := by decide +kernel
theorem dL_told_234 : decode cL_told 234 = .ok (.iload 4, 2) := by decide +kernel
theorem dL_told_236 : decode cL_told 236 = .ok (.iconst 0, 1) := by decide +kernel
theorem dL_told_237 : decode cL_told 237 = .ok (.invokestatic 32, 3) := by decide +kernel
theorem dL_told_240 : decode cL_told 240 = .ok (.if_icmp .ne 30, 3) := by decide +kernel
theorem dL_told_243 : decode cL_told 243 = .ok (.aload_n 0, 1) := by decide +kernel
theorem dL_told_244 : decode cL_told 244 = .ok (.iload 4, 2) := by decide +kernel
theorem dL_told_246 : decode cL_told 246 = .ok (.iconst 4, 1) := by decide +kernel
theorem dL_told_247 : decode cL_told 247 = .ok (.invokevirtual 58, 3) := by decide +kernel
theorem dL_told_250 : decode cL_told 250 = .ok (.aload_n 1, 1) := by decide +kernel
theorem dL_told_251 : decode cL_told 251 = .ok (.iconst 5, 1) := by decide +kernel
theorem dL_told_252 : decode cL_told 252 = .ok (.iaload, 1) := by decide +kernel
theorem dL_told_253 : decode cL_told 253 = .ok (.aload_n 1, 1) := by decide +kernel
theorem dL_told_254 : decode cL_told 254 = .ok (.bipush 11, 2) := by decide +kernel
theorem dL_told_256 : decode cL_told 256 = .ok (.iconst 4, 1) := by decide +kernel
theorem dL_told_257 : decode cL_told 257 = .ok (.iload 4, 2) := by decide +kernel
theorem dL_told_259 : decode cL_told 259 = .ok (.imul, 1) := by decide +kernel
theorem dL_told_260 : decode cL_told 260 = .ok (.iadd, 1) := by decide +kernel
theorem dL_told_261 : decode cL_told 261 = .ok (.iaload, 1) := by decide +kernel
theorem dL_told_262 : decode cL_told 262 = .ok (.isub, 1) := by decide +kernel
theorem dL_told_263 : decode cL_told 263 = .ok (.if_icmp .ne 7, 3) := by decide +kernel
theorem dL_told_266 : decode cL_told 266 = .ok (.iconst 1, 1) := by decide +kernel
theorem dL_told_267 : decode cL_told 267 = .ok (.goto 4, 3) := by decide +kernel
theorem dL_told_270 : decode cL_told 270 = .ok (.iconst 0, 1) := by decide +kernel
theorem dL_told_271 : decode cL_told 271 = .ok (.istore_n 2, 1) := by decide +kernel
theorem dL_told_272 : decode cL_told 272 = .ok (.iinc 4 1, 3) := by decide +kernel
theorem dL_told_275 : decode cL_told 275 = .ok (.goto (-139), 3) := by decide +kernel
theorem dL_told_278 : decode cL_told 278 = .ok (.iconst 0, 1) := by decide +kernel
theorem dL_told_279 : decode cL_told 279 = .ok (.istore 4, 2) := by decide +kernel
theorem dL_told_281 : decode cL_told 281 = .ok (.iload 4, 2) := by decide +kernel
theorem dL_told_283 : decode cL_told 283 = .ok (.iconst 2, 1) := by decide +kernel
theorem dL_told_284 : decode cL_told 284 = .ok (.if_icmp .ge 104, 3) := by decide +kernel
theorem dL_told_287 : decode cL_told 287 = .ok (.iload_n 2, 1) := by decide +kernel
theorem dL_told_288 : decode cL_told 288 = .ok (.ifCond .eq 92, 3) := by decide +kernel
theorem dL_told_291 : decode cL_told 291 = .ok (.aload_n 0, 1) := by decide +kernel
theorem dL_told_292 : decode cL_told 292 = .ok (.iload 4, 2) := by decide +kernel
theorem dL_told_294 : decode cL_told 294 = .ok (.iconst 0, 1) := by decide +kernel
theorem dL_told_295 : decode cL_told 295 = .ok (.invokevirtual 62, 3) := by decide +kernel
theorem dL_told_298 : decode cL_told 298 = .ok (.aload_n 1, 1) := by decide +kernel
theorem dL_told_299 : decode cL_told 299 = .ok (.iload 4, 2) := by decide +kernel
theorem dL_told_301 : decode cL_told 301 = .ok (.iconst 0, 1) := by decide +kernel
theorem dL_told_302 : decode cL_told 302 = .ok (.iconst 0, 1) := by decide +kernel
theorem dL_told_303 : decode cL_told 303 = .ok (.invokestatic 36, 3) := by decide +kernel
theorem dL_told_306 : decode cL_told 306 = .ok (.if_icmp .ne 74, 3) := by decide +kernel
theorem dL_told_309 : decode cL_told 309 = .ok (.aload_n 0, 1) := by decide +kernel
theorem dL_told_310 : decode cL_told 310 = .ok (.iload 4, 2) := by decide +kernel
theorem dL_told_312 : decode cL_told 312 = .ok (.iconst 1, 1) := by decide +kernel
theorem dL_told_313 : decode cL_told 313 = .ok (.invokevirtual 62, 3) := by decide +kernel
theorem dL_told_316 : decode cL_told 316 = .ok (.aload_n 1, 1) := by decide +kernel
theorem dL_told_317 : decode cL_told 317 = .ok (.iload 4, 2) := by decide +kernel
theorem dL_told_319 : decode cL_told 319 = .ok (.iconst 0, 1) := by decide +kernel
theorem dL_told_320 : decode cL_told 320 = .ok (.aload_n 1, 1) := by decide +kernel
theorem dL_told_321 : decode cL_told 321 = .ok (.iconst 0, 1) := by decide +kernel
theorem dL_told_322 : decode cL_told 322 = .ok (.iaload, 1) := by decide +kernel
theorem dL_told_323 : decode cL_told 323 = .ok (.iconst 0, 1) := by decide +kernel
theorem dL_told_324 : decode cL_told 324 = .ok (.invokestatic 44, 3) := by decide +kernel
theorem dL_told_327 : decode cL_told 327 = .ok (.if_icmp .ne 53, 3) := by decide +kernel
theorem dL_told_330 : decode cL_told 330 = .ok (.aload_n 0, 1) := by decide +kernel
theorem dL_told_331 : decode cL_told 331 = .ok (.iload 4, 2) := by decide +kernel
theorem dL_told_333 : decode cL_told 333 = .ok (.iconst 2, 1) := by decide +kernel
theorem dL_told_334 : decode cL_told 334 = .ok (.invokevirtual 62, 3) := by decide +kernel
theorem dL_told_337 : decode cL_told 337 = .ok (.aload_n 1, 1) := by decide +kernel
theorem dL_told_338 : decode cL_told 338 = .ok (.iload 4, 2) := by decide +kernel
theorem dL_told_340 : decode cL_told 340 = .ok (.iconst 0, 1) := by decide +kernel
theorem dL_told_341 : decode cL_told 341 = .ok (.aload_n 1, 1) := by decide +kernel
theorem dL_told_342 : decode cL_told 342 = .ok (.iconst 0, 1) := by decide +kernel
theorem dL_told_343 : decode cL_told 343 = .ok (.iaload, 1) := by decide +kernel
theorem dL_told_344 : decode cL_told 344 = .ok (.iconst 0, 1) := by decide +kernel
theorem dL_told_345 : decode cL_told 345 = .ok (.invokestatic 48, 3) := by decide +kernel
theorem dL_told_348 : decode cL_told 348 = .ok (.if_icmp .ne 32, 3) := by decide +kernel
theorem dL_told_351 : decode cL_told 351 = .ok (.aload_n 0, 1) := by decide +kernel
theorem dL_told_352 : decode cL_told 352 = .ok (.iload 4, 2) := by decide +kernel
theorem dL_told_354 : decode cL_told 354 = .ok (.iconst 3, 1) := by decide +kernel
theorem dL_told_355 : decode cL_told 355 = .ok (.invokevirtual 62, 3) := by decide +kernel
theorem dL_told_358 : decode cL_told 358 = .ok (.iload 4, 2) := by decide +kernel
theorem dL_told_360 : decode cL_told 360 = .ok (.ifCond .ne 7, 3) := by decide +kernel
theorem dL_told_363 : decode cL_told 363 = .ok (.iload_n 3, 1) := by decide +kernel
theorem dL_told_364 : decode cL_told 364 = .ok (.goto 9, 3) := by decide +kernel
theorem dL_told_367 : decode cL_told 367 = .ok (.aload_n 1, 1) := by decide +kernel
theorem dL_told_368 : decode cL_told 368 = .ok (.bipush 7, 2) := by decide +kernel
theorem dL_told_370 : decode cL_told 370 = .ok (.iaload, 1) := by decide +kernel
theorem dL_told_371 : decode cL_told 371 = .ok (.iload_n 3, 1) := by decide +kernel
theorem dL_told_372 : decode cL_told 372 = .ok (.isub, 1) := by decide +kernel
theorem dL_told_373 : decode cL_told 373 = .ok (.if_icmp .ne 7, 3) := by decide +kernel
theorem dL_told_376 : decode cL_told 376 = .ok (.iconst 1, 1) := by decide +kernel
theorem dL_told_377 : decode cL_told 377 = .ok (.goto 4, 3) := by decide +kernel
theorem dL_told_380 : decode cL_told 380 = .ok (.iconst 0, 1) := by decide +kernel
theorem dL_told_381 : decode cL_told 381 = .ok (.istore_n 2, 1) := by decide +kernel
theorem dL_told_382 : decode cL_told 382 = .ok (.iinc 4 1, 3) := by decide +kernel
theorem dL_told_385 : decode cL_told 385 = .ok (.goto (-104), 3) := by decide +kernel
theorem dL_told_388 : decode cL_told 388 = .ok (.iload_n 2, 1) := by decide +kernel
theorem dL_told_389 : decode cL_told 389 = .ok (.ireturn, 1) := by decide +kernel
theorem dL_law_0 : decode cL_law 0 = .ok (.new 9, 3) := by decide +kernel
theorem dL_law_3 : decode cL_law 3 = .ok (.dup, 1) := by decide +kernel
theorem dL_law_4 : decode cL_law 4 = .ok (.invokespecial 64, 3) := by decide +kernel
theorem dL_law_7 : decode cL_law 7 = .ok (.astore_n 1, 1) := by decide +kernel
theorem dL_law_8 : decode cL_law 8 = .ok (.bipush 32, 2) := by decide +kernel
theorem dL_law_10 : decode cL_law 10 = .ok (.newarray .int, 2) := by decide +kernel
theorem dL_law_12 : decode cL_law 12 = .ok (.astore_n 2, 1) := by decide +kernel
theorem dL_law_13 : decode cL_law 13 = .ok (.bipush 32, 2) := by decide +kernel
theorem dL_law_15 : decode cL_law 15 = .ok (.newarray .int, 2) := by decide +kernel
theorem dL_law_17 : decode cL_law 17 = .ok (.astore_n 3, 1) := by decide +kernel
theorem dL_law_18 : decode cL_law 18 = .ok (.aload_n 1, 1) := by decide +kernel
theorem dL_law_19 : decode cL_law 19 = .ok (.aload_n 0, 1) := by decide +kernel
theorem dL_law_20 : decode cL_law 20 = .ok (.iconst 0, 1) := by decide +kernel
theorem dL_law_21 : decode cL_law 21 = .ok (.invokestatic 65, 3) := by decide +kernel
theorem dL_law_24 : decode cL_law 24 = .ok (.aload_n 2, 1) := by decide +kernel
theorem dL_law_25 : decode cL_law 25 = .ok (.invokestatic 68, 3) := by decide +kernel
theorem dL_law_28 : decode cL_law 28 = .ok (.ifCond .ne 5, 3) := by decide +kernel
theorem dL_law_31 : decode cL_law 31 = .ok (.iconst 0, 1) := by decide +kernel
theorem dL_law_32 : decode cL_law 32 = .ok (.ireturn, 1) := by decide +kernel
theorem dL_law_33 : decode cL_law 33 = .ok (.aload_n 0, 1) := by decide +kernel
theorem dL_law_34 : decode cL_law 34 = .ok (.iconst 1, 1) := by decide +kernel
theorem dL_law_35 : decode cL_law 35 = .ok (.invokestatic 65, 3) := by decide +kernel
theorem dL_law_38 : decode cL_law 38 = .ok (.bipush 6, 2) := by decide +kernel
theorem dL_law_40 : decode cL_law 40 = .ok (.irem, 1) := by decide +kernel
theorem dL_law_41 : decode cL_law 41 = .ok (.istore 4, 2) := by decide +kernel
theorem dL_law_43 : decode cL_law 43 = .ok (.iconst 0, 1) := by decide +kernel
theorem dL_law_44 : decode cL_law 44 = .ok (.istore 5, 2) := by decide +kernel
theorem dL_law_46 : decode cL_law 46 = .ok (.iload 5, 2) := by decide +kernel
theorem dL_law_48 : decode cL_law 48 = .ok (.iload 4, 2) := by decide +kernel
theorem dL_law_50 : decode cL_law 50 = .ok (.if_icmp .ge 27, 3) := by decide +kernel
theorem dL_law_53 : decode cL_law 53 = .ok (.aload_n 1, 1) := by decide +kernel
theorem dL_law_54 : decode cL_law 54 = .ok (.aload_n 0, 1) := by decide +kernel
theorem dL_law_55 : decode cL_law 55 = .ok (.iconst 2, 1) := by decide +kernel
theorem dL_law_56 : decode cL_law 56 = .ok (.iload 5, 2) := by decide +kernel
theorem dL_law_58 : decode cL_law 58 = .ok (.iadd, 1) := by decide +kernel
theorem dL_law_59 : decode cL_law 59 = .ok (.invokestatic 65, 3) := by decide +kernel
theorem dL_law_62 : decode cL_law 62 = .ok (.aload_n 2, 1) := by decide +kernel
theorem dL_law_63 : decode cL_law 63 = .ok (.invokestatic 71, 3) := by decide +kernel
theorem dL_law_66 : decode cL_law 66 = .ok (.ifCond .ne 5, 3) := by decide +kernel
theorem dL_law_69 : decode cL_law 69 = .ok (.iconst 0, 1) := by decide +kernel
theorem dL_law_70 : decode cL_law 70 = .ok (.ireturn, 1) := by decide +kernel
theorem dL_law_71 : decode cL_law 71 = .ok (.iinc 5 1, 3) := by decide +kernel
theorem dL_law_74 : decode cL_law 74 = .ok (.goto (-28), 3) := by decide +kernel
theorem dL_law_77 : decode cL_law 77 = .ok (.iconst 0, 1) := by decide +kernel
theorem dL_law_78 : decode cL_law 78 = .ok (.istore 5, 2) := by decide +kernel
theorem dL_law_80 : decode cL_law 80 = .ok (.iload 5, 2) := by decide +kernel
theorem dL_law_82 : decode cL_law 82 = .ok (.bipush 44, 2) := by decide +kernel
theorem dL_law_84 : decode cL_law 84 = .ok (.if_icmp .ge 875, 3) := by decide +kernel
theorem dL_law_87 : decode cL_law 87 = .ok (.aload_n 0, 1) := by decide +kernel
theorem dL_law_88 : decode cL_law 88 = .ok (.bipush 8, 2) := by decide +kernel
theorem dL_law_90 : decode cL_law 90 = .ok (.iload 5, 2) := by decide +kernel
theorem dL_law_92 : decode cL_law 92 = .ok (.iadd, 1) := by decide +kernel
theorem dL_law_93 : decode cL_law 93 = .ok (.invokestatic 65, 3) := by decide +kernel
theorem dL_law_96 : decode cL_law 96 = .ok (.istore 6, 2) := by decide +kernel
theorem dL_law_98 : decode cL_law 98 = .ok (.iload 6, 2) := by decide +kernel
theorem dL_law_100 : decode cL_law 100 = .ok (.bipush 16, 2) := by decide +kernel
theorem dL_law_102 : decode cL_law 102 = .ok (.irem, 1) := by decide +kernel
theorem dL_law_103 : decode cL_law 103 = .ok (.istore 7, 2) := by decide +kernel
theorem dL_law_105 : decode cL_law 105 = .ok (.aload_n 2, 1) := by decide +kernel
theorem dL_law_106 : decode cL_law 106 = .ok (.bipush 7, 2) := by decide +kernel
theorem dL_law_108 : decode cL_law 108 = .ok (.iaload, 1) := by decide +kernel
theorem dL_law_109 : decode cL_law 109 = .ok (.ifCond .ne 7, 3) := by decide +kernel
theorem dL_law_112 : decode cL_law 112 = .ok (.iconst 0, 1) := by decide +kernel
theorem dL_law_113 : decode cL_law 113 = .ok (.goto 13, 3) := by decide +kernel
theorem dL_law_116 : decode cL_law 116 = .ok (.iload 6, 2) := by decide +kernel
theorem dL_law_118 : decode cL_law 118 = .ok (.bipush 16, 2) := by decide +kernel
theorem dL_law_120 : decode cL_law 120 = .ok (.idiv, 1) := by decide +kernel
theorem dL_law_121 : decode cL_law 121 = .ok (.aload_n 2, 1) := by decide +kernel
theorem dL_law_122 : decode cL_law 122 = .ok (.bipush 7, 2) := by decide +kernel
theorem dL_law_124 : decode cL_law 124 = .ok (.iaload, 1) := by decide +kernel
theorem dL_law_125 : decode cL_law 125 = .ok (.irem, 1) := by decide +kernel
theorem dL_law_126 : decode cL_law 126 = .ok (.istore 8, 2) := by decide +kernel
theorem dL_law_128 : decode cL_law 128 = .ok (.iload 7, 2) := by decide +kernel
theorem dL_law_130 : decode cL_law 130 = .ok (.bipush 9, 2) := by decide +kernel
theorem dL_law_132 : decode cL_law 132 = .ok (.if_icmp .ge 101, 3) := by decide +kernel
theorem dL_law_135 : decode cL_law 135 = .ok (.iload 6, 2) := by decide +kernel
theorem dL_law_137 : decode cL_law 137 = .ok (.sipush 128, 3) := by decide +kernel
theorem dL_law_140 : decode cL_law 140 = .ok (.idiv, 1) := by decide +kernel
theorem dL_law_141 : decode cL_law 141 = .ok (.bipush 7, 2) := by decide +kernel
theorem dL_law_143 : decode cL_law 143 = .ok (.irem, 1) := by decide +kernel
theorem dL_law_144 : decode cL_law 144 = .ok (.iconst 3, 1) := by decide +kernel
theorem dL_law_145 : decode cL_law 145 = .ok (.isub, 1) := by decide +kernel
theorem dL_law_146 : decode cL_law 146 = .ok (.istore 9, 2) := by decide +kernel
theorem dL_law_148 : decode cL_law 148 = .ok (.iload 6, 2) := by decide +kernel
theorem dL_law_150 : decode cL_law 150 = .ok (.sipush 1024, 3) := by decide +kernel
theorem dL_law_153 : decode cL_law 153 = .ok (.idiv, 1) := by decide +kernel
theorem dL_law_154 : decode cL_law 154 = .ok (.iconst 3, 1) := by decide +kernel
theorem dL_law_155 : decode cL_law 155 = .ok (.irem, 1) := by decide +kernel
theorem dL_law_156 : decode cL_law 156 = .ok (.ifCond .ne 7, 3) := by decide +kernel
theorem dL_law_159 : decode cL_law 159 = .ok (.iconst 0, 1) := by decide +kernel
theorem dL_law_160 : decode cL_law 160 = .ok (.goto 5, 3) := by decide +kernel
theorem dL_law_163 : decode cL_law 163 = .ok (.iload 9, 2) := by decide +kernel
theorem dL_law_165 : decode cL_law 165 = .ok (.istore 9, 2) := by decide +kernel
theorem dL_law_167 : decode cL_law 167 = .ok (.aload_n 2, 1) := by decide +kernel
theorem dL_law_168 : decode cL_law 168 = .ok (.bipush 6, 2) := by decide +kernel
theorem dL_law_170 : decode cL_law 170 = .ok (.iaload, 1) := by decide +kernel
theorem dL_law_171 : decode cL_law 171 = .ok (.ifCond .ne 29, 3) := by decide +kernel
theorem dL_law_174 : decode cL_law 174 = .ok (.aload_n 2, 1) := by decide +kernel
theorem dL_law_175 : decode cL_law 175 = .ok (.iconst 0, 1) := by decide +kernel
theorem dL_law_176 : decode cL_law 176 = .ok (.iaload, 1) := by decide +kernel
theorem dL_law_177 : decode cL_law 177 = .ok (.iload 9, 2) := by decide +kernel
theorem dL_law_179 : decode cL_law 179 = .ok (.isub, 1) := by decide +kernel
theorem dL_law_180 : decode cL_law 180 = .ok (.bipush 9, 2) := by decide +kernel
theorem dL_law_182 : decode cL_law 182 = .ok (.if_icmp .le 18, 3) := by decide +kernel
theorem dL_law_185 : decode cL_law 185 = .ok (.aload_n 2, 1) := by decide +kernel
theorem dL_law_186 : decode cL_law 186 = .ok (.iconst 0, 1) := by decide +kernel
theorem dL_law_187 : decode cL_law 187 = .ok (.iaload, 1) := by decide +kernel
theorem dL_law_188 : decode cL_law 188 = .ok (.iload 9, 2) := by decide +kernel
theorem dL_law_190 : decode cL_law 190 = .ok (.isub, 1) := by decide +kernel
theorem dL_law_191 : decode cL_law 191 = .ok (.bipush 41, 2) := by decide +kernel
theorem dL_law_193 : decode cL_law 193 = .ok (.if_icmp .ge 7, 3) := by decide +kernel
theorem dL_law_196 : decode cL_law 196 = .ok (.iconst 1, 1) := by decide +kernel
theorem dL_law_197 : decode cL_law 197 = .ok (.goto 4, 3) := by decide +kernel
theorem dL_law_200 : decode cL_law 200 = .ok (.iconst 0, 1) := by decide +kernel
theorem dL_law_201 : decode cL_law 201 = .ok (.istore 10, 2) := by decide +kernel
theorem dL_law_203 : decode cL_law 203 = .ok (.aload_n 1, 1) := by decide +kernel
theorem dL_law_204 : decode cL_law 204 = .ok (.iload 9, 2) := by decide +kernel
theorem dL_law_206 : decode cL_law 206 = .ok (.invokevirtual 73, 3) := by decide +kernel
theorem dL_law_209 : decode cL_law 209 = .ok (.iload 10, 2) := by decide +kernel
theorem dL_law_211 : decode cL_law 211 = .ok (.ifCond .eq 12, 3) := by decide +kernel
theorem dL_law_214 : decode cL_law 214 = .ok (.aload_n 2, 1) := by decide +kernel
theorem dL_law_215 : decode cL_law 215 = .ok (.iload 9, 2) := by decide +kernel
theorem dL_law_217 : decode cL_law 217 = .ok (.invokestatic 76, 3) := by decide +kernel
theorem dL_law_220 : decode cL_law 220 = .ok (.goto 5, 3) := by decide +kernel
theorem dL_law_223 : decode cL_law 223 = .ok (.bipush (-103), 2) := by decide +kernel
theorem dL_law_225 : decode cL_law 225 = .ok (.if_icmp .eq 5, 3) := by decide +kernel
theorem dL_law_228 : decode cL_law 228 = .ok (.iconst 0, 1) := by decide +kernel
theorem dL_law_229 : decode cL_law 229 = .ok (.ireturn, 1) := by decide +kernel
theorem dL_law_230 : decode cL_law 230 = .ok (.goto 186, 3) := by decide +kernel
theorem dL_law_233 : decode cL_law 233 = .ok (.iload 7, 2) := by decide +kernel
theorem dL_law_235 : decode cL_law 235 = .ok (.bipush 14, 2) := by decide +kernel
theorem dL_law_237 : decode cL_law 237 = .ok (.if_icmp .ge 118, 3) := by decide +kernel
theorem dL_law_240 : decode cL_law 240 = .ok (.aload_n 2, 1) := by decide +kernel
theorem dL_law_241 : decode cL_law 241 = .ok (.bipush 7, 2) := by decide +kernel
theorem dL_law_243 : decode cL_law 243 = .ok (.iaload, 1) := by decide +kernel
theorem dL_law_244 : decode cL_law 244 = .ok (.ifCond .le 111, 3) := by decide +kernel
theorem dL_law_247 : decode cL_law 247 = .ok (.aload_n 2, 1) := by decide +kernel
theorem dL_law_248 : decode cL_law 248 = .ok (.bipush 6, 2) := by decide +kernel
theorem dL_law_250 : decode cL_law 250 = .ok (.iaload, 1) := by decide +kernel
theorem dL_law_251 : decode cL_law 251 = .ok (.ifCond .ne 31, 3) := by decide +kernel
theorem dL_law_254 : decode cL_law 254 = .ok (.aload_n 2, 1) := by decide +kernel
theorem dL_law_255 : decode cL_law 255 = .ok (.bipush 8, 2) := by decide +kernel
theorem dL_law_257 : decode cL_law 257 = .ok (.iconst 4, 1) := by decide +kernel
theorem dL_law_258 : decode cL_law 258 = .ok (.iload 8, 2) := by decide +kernel
theorem dL_law_260 : decode cL_law 260 = .ok (.imul, 1) := by decide +kernel
theorem dL_law_261 : decode cL_law 261 = .ok (.iadd, 1) := by decide +kernel
theorem dL_law_262 : decode cL_law 262 = .ok (.iaload, 1) := by decide +kernel
theorem dL_law_263 : decode cL_law 263 = .ok (.iconst 2, 1) := by decide +kernel
theorem dL_law_264 : decode cL_law 264 = .ok (.if_icmp .ne 14, 3) := by decide +kernel
theorem dL_law_267 : decode cL_law 267 = .ok (.aload_n 2, 1) := by decide +kernel
theorem dL_law_268 : decode cL_law 268 = .ok (.aload_n 2, 1) := by decide +kernel
theorem dL_law_269 : decode cL_law 269 = .ok (.iconst 0, 1) := by decide +kernel
theorem dL_law_270 : decode cL_law 270 = .ok (.iaload, 1) := by decide +kernel
theorem dL_law_271 : decode cL_law 271 = .ok (.invokestatic 40, 3) := by decide +kernel
theorem dL_law_274 : decode cL_law 274 = .ok (.iconst 3, 1) := by decide +kernel
theorem dL_law_275 : decode cL_law 275 = .ok (.if_icmp .ge 7, 3) := by decide +kernel
theorem dL_law_278 : decode cL_law 278 = .ok (.iconst 1, 1) := by decide +kernel
theorem dL_law_279 : decode cL_law 279 = .ok (.goto 4, 3) := by decide +kernel
theorem dL_law_282 : decode cL_law 282 = .ok (.iconst 0, 1) := by decide +kernel
theorem dL_law_283 : decode cL_law 283 = .ok (.istore 9, 2) := by decide +kernel
theorem dL_law_285 : decode cL_law 285 = .ok (.aload_n 2, 1) := by decide +kernel
theorem dL_law_286 : decode cL_law 286 = .ok (.bipush 10, 2) := by decide +kernel
theorem dL_law_288 : decode cL_law 288 = .ok (.iconst 4, 1) := by decide +kernel
theorem dL_law_289 : decode cL_law 289 = .ok (.iload 8, 2) := by decide +kernel
theorem dL_law_291 : decode cL_law 291 = .ok (.imul, 1) := by decide +kernel
theorem dL_law_292 : decode cL_law 292 = .ok (.iadd, 1) := by decide +kernel
theorem dL_law_293 : decode cL_law 293 = .ok (.iload 9, 2) := by decide +kernel
theorem dL_law_295 : decode cL_law 295 = .ok (.ifCond .eq 17, 3) := by decide +kernel
theorem dL_law_298 : decode cL_law 298 = .ok (.iconst 1, 1) := by decide +kernel
theorem dL_law_299 : decode cL_law 299 = .ok (.aload_n 2, 1) := by decide +kernel
theorem dL_law_300 : decode cL_law 300 = .ok (.bipush 10, 2) := by decide +kernel
theorem dL_law_302 : decode cL_law 302 = .ok (.iconst 4, 1) := by decide +kernel
theorem dL_law_303 : decode cL_law 303 = .ok (.iload 8, 2) := by decide +kernel
theorem dL_law_305 : decode cL_law 305 = .ok (.imul, 1) := by decide +kernel
theorem dL_law_306 : decode cL_law 306 = .ok (.iadd, 1) := by decide +kernel
theorem dL_law_307 : decode cL_law 307 = .ok (.iaload, 1) := by decide +kernel
theorem dL_law_308 : decode cL_law 308 = .ok (.isub, 1) := by decide +kernel
theorem dL_law_309 : decode cL_law 309 = .ok (.goto 12, 3) := by decide +kernel
theorem dL_law_312 : decode cL_law 312 = .ok (.aload_n 2, 1) := by decide +kernel
theorem dL_law_313 : decode cL_law 313 = .ok (.bipush 10, 2) := by decide +kernel
theorem dL_law_315 : decode cL_law 315 = .ok (.iconst 4, 1) := by decide +kernel
theorem dL_law_316 : decode cL_law 316 = .ok (.iload 8, 2) := by decide +kernel
theorem dL_law_318 : decode cL_law 318 = .ok (.imul, 1) := by decide +kernel
theorem dL_law_319 : decode cL_law 319 = .ok (.iadd, 1) := by decide +kernel
theorem dL_law_320 : decode cL_law 320 = .ok (.iaload, 1) := by decide +kernel
theorem dL_law_321 : decode cL_law 321 = .ok (.iastore, 1) := by decide +kernel
theorem dL_law_322 : decode cL_law 322 = .ok (.aload_n 1, 1) := by decide +kernel
theorem dL_law_323 : decode cL_law 323 = .ok (.iload 8, 2) := by decide +kernel
theorem dL_law_325 : decode cL_law 325 = .ok (.invokevirtual 78, 3) := by decide +kernel
theorem dL_law_328 : decode cL_law 328 = .ok (.iload 9, 2) := by decide +kernel
theorem dL_law_330 : decode cL_law 330 = .ok (.ifCond .eq 15, 3) := by decide +kernel
theorem dL_law_333 : decode cL_law 333 = .ok (.aload_n 2, 1) := by decide +kernel
theorem dL_law_334 : decode cL_law 334 = .ok (.bipush 10, 2) := by decide +kernel
theorem dL_law_336 : decode cL_law 336 = .ok (.iconst 4, 1) := by decide +kernel
theorem dL_law_337 : decode cL_law 337 = .ok (.iload 8, 2) := by decide +kernel
theorem dL_law_339 : decode cL_law 339 = .ok (.imul, 1) := by decide +kernel
theorem dL_law_340 : decode cL_law 340 = .ok (.iadd, 1) := by decide +kernel
theorem dL_law_341 : decode cL_law 341 = .ok (.iaload, 1) := by decide +kernel
theorem dL_law_342 : decode cL_law 342 = .ok (.goto 5, 3) := by decide +kernel
theorem dL_law_345 : decode cL_law 345 = .ok (.bipush (-103), 2) := by decide +kernel
theorem dL_law_347 : decode cL_law 347 = .ok (.if_icmp .eq 5, 3) := by decide +kernel
theorem dL_law_350 : decode cL_law 350 = .ok (.iconst 0, 1) := by decide +kernel
theorem dL_law_351 : decode cL_law 351 = .ok (.ireturn, 1) := by decide +kernel
theorem dL_law_352 : decode cL_law 352 = .ok (.goto 64, 3) := by decide +kernel
theorem dL_law_355 : decode cL_law 355 = .ok (.iload 7, 2) := by decide +kernel
theorem dL_law_357 : decode cL_law 357 = .ok (.bipush 14, 2) := by decide +kernel
theorem dL_law_359 : decode cL_law 359 = .ok (.if_icmp .ne 27, 3) := by decide +kernel
theorem dL_law_362 : decode cL_law 362 = .ok (.aload_n 2, 1) := by decide +kernel
theorem dL_law_363 : decode cL_law 363 = .ok (.bipush 7, 2) := by decide +kernel
theorem dL_law_365 : decode cL_law 365 = .ok (.iaload, 1) := by decide +kernel
theorem dL_law_366 : decode cL_law 366 = .ok (.bipush 6, 2) := by decide +kernel
theorem dL_law_368 : decode cL_law 368 = .ok (.if_icmp .ge 18, 3) := by decide +kernel
theorem dL_law_371 : decode cL_law 371 = .ok (.aload_n 1, 1) := by decide +kernel
theorem dL_law_372 : decode cL_law 372 = .ok (.iload 6, 2) := by decide +kernel
theorem dL_law_374 : decode cL_law 374 = .ok (.bipush 16, 2) := by decide +kernel
theorem dL_law_376 : decode cL_law 376 = .ok (.idiv, 1) := by decide +kernel
theorem dL_law_377 : decode cL_law 377 = .ok (.aload_n 2, 1) := by decide +kernel
theorem dL_law_378 : decode cL_law 378 = .ok (.invokestatic 71, 3) := by decide +kernel
theorem dL_law_381 : decode cL_law 381 = .ok (.ifCond .ne 35, 3) := by decide +kernel
theorem dL_law_384 : decode cL_law 384 = .ok (.iconst 0, 1) := by decide +kernel
theorem dL_law_385 : decode cL_law 385 = .ok (.ireturn, 1) := by decide +kernel
theorem dL_law_386 : decode cL_law 386 = .ok (.aload_n 2, 1) := by decide +kernel
theorem dL_law_387 : decode cL_law 387 = .ok (.bipush 6, 2) := by decide +kernel
theorem dL_law_389 : decode cL_law 389 = .ok (.iaload, 1) := by decide +kernel
theorem dL_law_390 : decode cL_law 390 = .ok (.iconst 1, 1) := by decide +kernel
theorem dL_law_391 : decode cL_law 391 = .ok (.if_icmp .ne 25, 3) := by decide +kernel
theorem dL_law_394 : decode cL_law 394 = .ok (.iload 7, 2) := by decide +kernel
theorem dL_law_396 : decode cL_law 396 = .ok (.bipush 15, 2) := by decide +kernel
theorem dL_law_398 : decode cL_law 398 = .ok (.if_icmp .ne 18, 3) := by decide +kernel
theorem dL_law_401 : decode cL_law 401 = .ok (.aload_n 1, 1) := by decide +kernel
theorem dL_law_402 : decode cL_law 402 = .ok (.iload 6, 2) := by decide +kernel
theorem dL_law_404 : decode cL_law 404 = .ok (.bipush 16, 2) := by decide +kernel
theorem dL_law_406 : decode cL_law 406 = .ok (.idiv, 1) := by decide +kernel
theorem dL_law_407 : decode cL_law 407 = .ok (.aload_n 2, 1) := by decide +kernel
theorem dL_law_408 : decode cL_law 408 = .ok (.invokestatic 68, 3) := by decide +kernel
theorem dL_law_411 : decode cL_law 411 = .ok (.ifCond .ne 5, 3) := by decide +kernel
theorem dL_law_414 : decode cL_law 414 = .ok (.iconst 0, 1) := by decide +kernel
theorem dL_law_415 : decode cL_law 415 = .ok (.ireturn, 1) := by decide +kernel
theorem dL_law_416 : decode cL_law 416 = .ok (.aload_n 1, 1) := by decide +kernel
theorem dL_law_417 : decode cL_law 417 = .ok (.aload_n 2, 1) := by decide +kernel
theorem dL_law_418 : decode cL_law 418 = .ok (.invokestatic 81, 3) := by decide +kernel
theorem dL_law_421 : decode cL_law 421 = .ok (.ifCond .ne 5, 3) := by decide +kernel
theorem dL_law_424 : decode cL_law 424 = .ok (.iconst 0, 1) := by decide +kernel
theorem dL_law_425 : decode cL_law 425 = .ok (.ireturn, 1) := by decide +kernel
theorem dL_law_426 : decode cL_law 426 = .ok (.iconst 0, 1) := by decide +kernel
theorem dL_law_427 : decode cL_law 427 = .ok (.istore 9, 2) := by decide +kernel
theorem dL_law_429 : decode cL_law 429 = .ok (.iload 9, 2) := by decide +kernel
theorem dL_law_431 : decode cL_law 431 = .ok (.aload_n 2, 1) := by decide +kernel
theorem dL_law_432 : decode cL_law 432 = .ok (.bipush 7, 2) := by decide +kernel
theorem dL_law_434 : decode cL_law 434 = .ok (.iaload, 1) := by decide +kernel
theorem dL_law_435 : decode cL_law 435 = .ok (.if_icmp .ge 78, 3) := by decide +kernel
theorem dL_law_438 : decode cL_law 438 = .ok (.iconst 0, 1) := by decide +kernel
theorem dL_law_439 : decode cL_law 439 = .ok (.istore 10, 2) := by decide +kernel
theorem dL_law_441 : decode cL_law 441 = .ok (.iload 10, 2) := by decide +kernel
theorem dL_law_443 : decode cL_law 443 = .ok (.iconst 5, 1) := by decide +kernel
theorem dL_law_444 : decode cL_law 444 = .ok (.if_icmp .ge 63, 3) := by decide +kernel
theorem dL_law_447 : decode cL_law 447 = .ok (.aload_n 2, 1) := by decide +kernel
theorem dL_law_448 : decode cL_law 448 = .ok (.bipush 8, 2) := by decide +kernel
theorem dL_law_450 : decode cL_law 450 = .ok (.iconst 4, 1) := by decide +kernel
theorem dL_law_451 : decode cL_law 451 = .ok (.iload 9, 2) := by decide +kernel
theorem dL_law_453 : decode cL_law 453 = .ok (.imul, 1) := by decide +kernel
theorem dL_law_454 : decode cL_law 454 = .ok (.iadd, 1) := by decide +kernel
theorem dL_law_455 : decode cL_law 455 = .ok (.iaload, 1) := by decide +kernel
theorem dL_law_456 : decode cL_law 456 = .ok (.istore 11, 2) := by decide +kernel
theorem dL_law_458 : decode cL_law 458 = .ok (.aload_n 1, 1) := by decide +kernel
theorem dL_law_459 : decode cL_law 459 = .ok (.iload 9, 2) := by decide +kernel
theorem dL_law_461 : decode cL_law 461 = .ok (.iload 10, 2) := by decide +kernel
theorem dL_law_463 : decode cL_law 463 = .ok (.invokevirtual 85, 3) := by decide +kernel
theorem dL_law_466 : decode cL_law 466 = .ok (.iload 10, 2) := by decide +kernel
theorem dL_law_468 : decode cL_law 468 = .ok (.ifCond .eq 22, 3) := by decide +kernel
theorem dL_law_471 : decode cL_law 471 = .ok (.iload 10, 2) := by decide +kernel
theorem dL_law_473 : decode cL_law 473 = .ok (.iload 11, 2) := by decide +kernel
theorem dL_law_475 : decode cL_law 475 = .ok (.if_icmp .eq 15, 3) := by decide +kernel
theorem dL_law_478 : decode cL_law 478 = .ok (.iload 10, 2) := by decide +kernel
theorem dL_law_480 : decode cL_law 480 = .ok (.iconst 3, 1) := by decide +kernel
theorem dL_law_481 : decode cL_law 481 = .ok (.if_icmp .ne 14, 3) := by decide +kernel
theorem dL_law_484 : decode cL_law 484 = .ok (.iload 11, 2) := by decide +kernel
theorem dL_law_486 : decode cL_law 486 = .ok (.iconst 4, 1) := by decide +kernel
theorem dL_law_487 : decode cL_law 487 = .ok (.if_icmp .ne 8, 3) := by decide +kernel
theorem dL_law_490 : decode cL_law 490 = .ok (.iload 9, 2) := by decide +kernel
theorem dL_law_492 : decode cL_law 492 = .ok (.goto 4, 3) := by decide +kernel
theorem dL_law_495 : decode cL_law 495 = .ok (.iconst (-1), 1) := by decide +kernel
theorem dL_law_496 : decode cL_law 496 = .ok (.if_icmp .eq 5, 3) := by decide +kernel
theorem dL_law_499 : decode cL_law 499 = .ok (.iconst 0, 1) := by decide +kernel
theorem dL_law_500 : decode cL_law 500 = .ok (.ireturn, 1) := by decide +kernel
theorem dL_law_501 : decode cL_law 501 = .ok (.iinc 10 1, 3) := by decide +kernel
theorem dL_law_504 : decode cL_law 504 = .ok (.goto (-63), 3) := by decide +kernel
theorem dL_law_507 : decode cL_law 507 = .ok (.iinc 9 1, 3) := by decide +kernel
theorem dL_law_510 : decode cL_law 510 = .ok (.goto (-81), 3) := by decide +kernel
theorem dL_law_513 : decode cL_law 513 = .ok (.iconst 1, 1) := by decide +kernel
theorem dL_law_514 : decode cL_law 514 = .ok (.iload 6, 2) := by decide +kernel
theorem dL_law_516 : decode cL_law 516 = .ok (.sipush 4096, 3) := by decide +kernel
theorem dL_law_519 : decode cL_law 519 = .ok (.idiv, 1) := by decide +kernel
theorem dL_law_520 : decode cL_law 520 = .ok (.bipush 99, 2) := by decide +kernel
theorem dL_law_522 : decode cL_law 522 = .ok (.irem, 1) := by decide +kernel
theorem dL_law_523 : decode cL_law 523 = .ok (.iadd, 1) := by decide +kernel
theorem dL_law_524 : decode cL_law 524 = .ok (.istore 9, 2) := by decide +kernel
theorem dL_law_526 : decode cL_law 526 = .ok (.aload_n 2, 1) := by decide +kernel
theorem dL_law_527 : decode cL_law 527 = .ok (.aload_n 2, 1) := by decide +kernel
theorem dL_law_528 : decode cL_law 528 = .ok (.iconst 0, 1) := by decide +kernel
theorem dL_law_529 : decode cL_law 529 = .ok (.iaload, 1) := by decide +kernel
theorem dL_law_530 : decode cL_law 530 = .ok (.invokestatic 40, 3) := by decide +kernel
theorem dL_law_533 : decode cL_law 533 = .ok (.istore 10, 2) := by decide +kernel
theorem dL_law_535 : decode cL_law 535 = .ok (.bipush 90, 2) := by decide +kernel
theorem dL_law_537 : decode cL_law 537 = .ok (.iload 9, 2) := by decide +kernel
theorem dL_law_539 : decode cL_law 539 = .ok (.iload 10, 2) := by decide +kernel
theorem dL_law_541 : decode cL_law 541 = .ok (.imul, 1) := by decide +kernel
theorem dL_law_542 : decode cL_law 542 = .ok (.isub, 1) := by decide +kernel
theorem dL_law_543 : decode cL_law 543 = .ok (.sipush 360, 3) := by decide +kernel
theorem dL_law_546 : decode cL_law 546 = .ok (.irem, 1) := by decide +kernel
theorem dL_law_547 : decode cL_law 547 = .ok (.sipush 360, 3) := by decide +kernel
theorem dL_law_550 : decode cL_law 550 = .ok (.iadd, 1) := by decide +kernel
theorem dL_law_551 : decode cL_law 551 = .ok (.sipush 360, 3) := by decide +kernel
theorem dL_law_554 : decode cL_law 554 = .ok (.irem, 1) := by decide +kernel
theorem dL_law_555 : decode cL_law 555 = .ok (.istore 11, 2) := by decide +kernel
theorem dL_law_557 : decode cL_law 557 = .ok (.iconst (-1), 1) := by decide +kernel
theorem dL_law_558 : decode cL_law 558 = .ok (.istore 12, 2) := by decide +kernel
theorem dL_law_560 : decode cL_law 560 = .ok (.bipush 98, 2) := by decide +kernel
theorem dL_law_562 : decode cL_law 562 = .ok (.istore 13, 2) := by decide +kernel
theorem dL_law_564 : decode cL_law 564 = .ok (.iload 13, 2) := by decide +kernel
theorem dL_law_566 : decode cL_law 566 = .ok (.ifCond .lt 62, 3) := by decide +kernel
theorem dL_law_569 : decode cL_law 569 = .ok (.aload_n 2, 1) := by decide +kernel
theorem dL_law_570 : decode cL_law 570 = .ok (.iconst 4, 1) := by decide +kernel
theorem dL_law_571 : decode cL_law 571 = .ok (.iaload, 1) := by decide +kernel
theorem dL_law_572 : decode cL_law 572 = .ok (.iload 13, 2) := by decide +kernel
theorem dL_law_574 : decode cL_law 574 = .ok (.iload 10, 2) := by decide +kernel
theorem dL_law_576 : decode cL_law 576 = .ok (.imul, 1) := by decide +kernel
theorem dL_law_577 : decode cL_law 577 = .ok (.bipush 10, 2) := by decide +kernel
theorem dL_law_579 : decode cL_law 579 = .ok (.imul, 1) := by decide +kernel
theorem dL_law_580 : decode cL_law 580 = .ok (.iadd, 1) := by decide +kernel
theorem dL_law_581 : decode cL_law 581 = .ok (.iload 11, 2) := by decide +kernel
theorem dL_law_583 : decode cL_law 583 = .ok (.isub, 1) := by decide +kernel
theorem dL_law_584 : decode cL_law 584 = .ok (.sipush 360, 3) := by decide +kernel
theorem dL_law_587 : decode cL_law 587 = .ok (.irem, 1) := by decide +kernel
theorem dL_law_588 : decode cL_law 588 = .ok (.sipush 360, 3) := by decide +kernel
theorem dL_law_591 : decode cL_law 591 = .ok (.iadd, 1) := by decide +kernel
theorem dL_law_592 : decode cL_law 592 = .ok (.sipush 360, 3) := by decide +kernel
theorem dL_law_595 : decode cL_law 595 = .ok (.irem, 1) := by decide +kernel
theorem dL_law_596 : decode cL_law 596 = .ok (.istore 14, 2) := by decide +kernel
theorem dL_law_598 : decode cL_law 598 = .ok (.iload 14, 2) := by decide +kernel
theorem dL_law_600 : decode cL_law 600 = .ok (.bipush 6, 2) := by decide +kernel
theorem dL_law_602 : decode cL_law 602 = .ok (.if_icmp .lt 11, 3) := by decide +kernel
theorem dL_law_605 : decode cL_law 605 = .ok (.iload 14, 2) := by decide +kernel
theorem dL_law_607 : decode cL_law 607 = .ok (.sipush 354, 3) := by decide +kernel
theorem dL_law_610 : decode cL_law 610 = .ok (.if_icmp .le 8, 3) := by decide +kernel
theorem dL_law_613 : decode cL_law 613 = .ok (.iload 13, 2) := by decide +kernel
theorem dL_law_615 : decode cL_law 615 = .ok (.goto 5, 3) := by decide +kernel
theorem dL_law_618 : decode cL_law 618 = .ok (.iload 12, 2) := by decide +kernel
theorem dL_law_620 : decode cL_law 620 = .ok (.istore 12, 2) := by decide +kernel
theorem dL_law_622 : decode cL_law 622 = .ok (.iinc 13 (-1), 3) := by decide +kernel
theorem dL_law_625 : decode cL_law 625 = .ok (.goto (-61), 3) := by decide +kernel
theorem dL_law_628 : decode cL_law 628 = .ok (.aload_n 1, 1) := by decide +kernel
theorem dL_law_629 : decode cL_law 629 = .ok (.iload 9, 2) := by decide +kernel
theorem dL_law_631 : decode cL_law 631 = .ok (.invokevirtual 88, 3) := by decide +kernel
theorem dL_law_634 : decode cL_law 634 = .ok (.aload_n 2, 1) := by decide +kernel
theorem dL_law_635 : decode cL_law 635 = .ok (.bipush 6, 2) := by decide +kernel
theorem dL_law_637 : decode cL_law 637 = .ok (.iaload, 1) := by decide +kernel
theorem dL_law_638 : decode cL_law 638 = .ok (.iconst 1, 1) := by decide +kernel
theorem dL_law_639 : decode cL_law 639 = .ok (.if_icmp .ne 8, 3) := by decide +kernel
theorem dL_law_642 : decode cL_law 642 = .ok (.bipush (-103), 2) := by decide +kernel
theorem dL_law_644 : decode cL_law 644 = .ok (.goto 5, 3) := by decide +kernel
theorem dL_law_647 : decode cL_law 647 = .ok (.iload 12, 2) := by decide +kernel
theorem dL_law_649 : decode cL_law 649 = .ok (.if_icmp .eq 5, 3) := by decide +kernel
theorem dL_law_652 : decode cL_law 652 = .ok (.iconst 0, 1) := by decide +kernel
theorem dL_law_653 : decode cL_law 653 = .ok (.ireturn, 1) := by decide +kernel
theorem dL_law_654 : decode cL_law 654 = .ok (.iload 5, 2) := by decide +kernel
theorem dL_law_656 : decode cL_law 656 = .ok (.bipush 6, 2) := by decide +kernel
theorem dL_law_658 : decode cL_law 658 = .ok (.irem, 1) := by decide +kernel
theorem dL_law_659 : decode cL_law 659 = .ok (.iconst 2, 1) := by decide +kernel
theorem dL_law_660 : decode cL_law 660 = .ok (.if_icmp .ne 293, 3) := by decide +kernel
theorem dL_law_663 : decode cL_law 663 = .ok (.iconst 1, 1) := by decide +kernel
theorem dL_law_664 : decode cL_law 664 = .ok (.iload 6, 2) := by decide +kernel
theorem dL_law_666 : decode cL_law 666 = .ok (.sipush 512, 3) := by decide +kernel
theorem dL_law_669 : decode cL_law 669 = .ok (.idiv, 1) := by decide +kernel
theorem dL_law_670 : decode cL_law 670 = .ok (.bipush 60, 2) := by decide +kernel
theorem dL_law_672 : decode cL_law 672 = .ok (.irem, 1) := by decide +kernel
theorem dL_law_673 : decode cL_law 673 = .ok (.iadd, 1) := by decide +kernel
theorem dL_law_674 : decode cL_law 674 = .ok (.istore 13, 2) := by decide +kernel
theorem dL_law_676 : decode cL_law 676 = .ok (.aload_n 0, 1) := by decide +kernel
theorem dL_law_677 : decode cL_law 677 = .ok (.bipush 52, 2) := by decide +kernel
theorem dL_law_679 : decode cL_law 679 = .ok (.iload 5, 2) := by decide +kernel
theorem dL_law_681 : decode cL_law 681 = .ok (.bipush 6, 2) := by decide +kernel
theorem dL_law_683 : decode cL_law 683 = .ok (.idiv, 1) := by decide +kernel
theorem dL_law_684 : decode cL_law 684 = .ok (.iadd, 1) := by decide +kernel
theorem dL_law_685 : decode cL_law 685 = .ok (.invokestatic 65, 3) := by decide +kernel
theorem dL_law_688 : decode cL_law 688 = .ok (.istore 14, 2) := by decide +kernel
theorem dL_law_690 : decode cL_law 690 = .ok (.iload 14, 2) := by decide +kernel
theorem dL_law_692 : decode cL_law 692 = .ok (.i2l, 1) := by decide +kernel
theorem dL_law_693 : decode cL_law 693 = .ok (.lstore 15, 2) := by decide +kernel
theorem dL_law_695 : decode cL_law 695 = .ok (.iconst 0, 1) := by decide +kernel
theorem dL_law_696 : decode cL_law 696 = .ok (.istore 17, 2) := by decide +kernel
theorem dL_law_698 : decode cL_law 698 = .ok (.iload 17, 2) := by decide +kernel
theorem dL_law_700 : decode cL_law 700 = .ok (.bipush 32, 2) := by decide +kernel
theorem dL_law_702 : decode cL_law 702 = .ok (.if_icmp .ge 17, 3) := by decide +kernel
theorem dL_law_705 : decode cL_law 705 = .ok (.aload_n 3, 1) := by decide +kernel
theorem dL_law_706 : decode cL_law 706 = .ok (.iload 17, 2) := by decide +kernel
theorem dL_law_708 : decode cL_law 708 = .ok (.aload_n 2, 1) := by decide +kernel
theorem dL_law_709 : decode cL_law 709 = .ok (.iload 17, 2) := by decide +kernel
theorem dL_law_711 : decode cL_law 711 = .ok (.iaload, 1) := by decide +kernel
theorem dL_law_712 : decode cL_law 712 = .ok (.iastore, 1) := by decide +kernel
theorem dL_law_713 : decode cL_law 713 = .ok (.iinc 17 1, 3) := by decide +kernel
theorem dL_law_716 : decode cL_law 716 = .ok (.goto (-18), 3) := by decide +kernel
theorem dL_law_719 : decode cL_law 719 = .ok (.iconst 0, 1) := by decide +kernel
theorem dL_law_720 : decode cL_law 720 = .ok (.istore 17, 2) := by decide +kernel
theorem dL_law_722 : decode cL_law 722 = .ok (.iload 17, 2) := by decide +kernel
theorem dL_law_724 : decode cL_law 724 = .ok (.iload 13, 2) := by decide +kernel
theorem dL_law_726 : decode cL_law 726 = .ok (.if_icmp .ge 109, 3) := by decide +kernel
theorem dL_law_729 : decode cL_law 729 = .ok (.aload_n 3, 1) := by decide +kernel
theorem dL_law_730 : decode cL_law 730 = .ok (.bipush 6, 2) := by decide +kernel
theorem dL_law_732 : decode cL_law 732 = .ok (.iaload, 1) := by decide +kernel
theorem dL_law_733 : decode cL_law 733 = .ok (.ifCond .ne 102, 3) := by decide +kernel
theorem dL_law_736 : decode cL_law 736 = .ok (.ldc2_w 91, 3) := by decide +kernel
theorem dL_law_739 : decode cL_law 739 = .ok (.lload 15, 2) := by decide +kernel
theorem dL_law_741 : decode cL_law 741 = .ok (.lmul, 1) := by decide +kernel
theorem dL_law_742 : decode cL_law 742 = .ok (.ldc2_w 93, 3) := by decide +kernel
theorem dL_law_745 : decode cL_law 745 = .ok (.ladd, 1) := by decide +kernel
theorem dL_law_746 : decode cL_law 746 = .ok (.ldc2_w 95, 3) := by decide +kernel
theorem dL_law_749 : decode cL_law 749 = .ok (.lrem, 1) := by decide +kernel
theorem dL_law_750 : decode cL_law 750 = .ok (.lstore 15, 2) := by decide +kernel
theorem dL_law_752 : decode cL_law 752 = .ok (.lload 15, 2) := by decide +kernel
theorem dL_law_754 : decode cL_law 754 = .ok (.ldc2_w 97, 3) := by decide +kernel
theorem dL_law_757 : decode cL_law 757 = .ok (.ldiv, 1) := by decide +kernel
theorem dL_law_758 : decode cL_law 758 = .ok (.ldc2_w 99, 3) := by decide +kernel
theorem dL_law_761 : decode cL_law 761 = .ok (.lrem, 1) := by decide +kernel
theorem dL_law_762 : decode cL_law 762 = .ok (.l2i, 1) := by decide +kernel
theorem dL_law_763 : decode cL_law 763 = .ok (.istore 18, 2) := by decide +kernel
theorem dL_law_765 : decode cL_law 765 = .ok (.iload 18, 2) := by decide +kernel
theorem dL_law_767 : decode cL_law 767 = .ok (.iconst 4, 1) := by decide +kernel
theorem dL_law_768 : decode cL_law 768 = .ok (.if_icmp .ge 8, 3) := by decide +kernel
theorem dL_law_771 : decode cL_law 771 = .ok (.iload 18, 2) := by decide +kernel
theorem dL_law_773 : decode cL_law 773 = .ok (.goto 7, 3) := by decide +kernel
theorem dL_law_776 : decode cL_law 776 = .ok (.iconst 3, 1) := by decide +kernel
theorem dL_law_777 : decode cL_law 777 = .ok (.iload 18, 2) := by decide +kernel
theorem dL_law_779 : decode cL_law 779 = .ok (.isub, 1) := by decide +kernel
theorem dL_law_780 : decode cL_law 780 = .ok (.istore 19, 2) := by decide +kernel
theorem dL_law_782 : decode cL_law 782 = .ok (.aload_n 3, 1) := by decide +kernel
theorem dL_law_783 : decode cL_law 783 = .ok (.iconst 0, 1) := by decide +kernel
theorem dL_law_784 : decode cL_law 784 = .ok (.iaload, 1) := by decide +kernel
theorem dL_law_785 : decode cL_law 785 = .ok (.iload 19, 2) := by decide +kernel
theorem dL_law_787 : decode cL_law 787 = .ok (.isub, 1) := by decide +kernel
theorem dL_law_788 : decode cL_law 788 = .ok (.bipush 9, 2) := by decide +kernel
theorem dL_law_790 : decode cL_law 790 = .ok (.if_icmp .le 19, 3) := by decide +kernel
theorem dL_law_793 : decode cL_law 793 = .ok (.aload_n 3, 1) := by decide +kernel
theorem dL_law_794 : decode cL_law 794 = .ok (.iconst 0, 1) := by decide +kernel
theorem dL_law_795 : decode cL_law 795 = .ok (.iaload, 1) := by decide +kernel
theorem dL_law_796 : decode cL_law 796 = .ok (.iload 19, 2) := by decide +kernel
theorem dL_law_798 : decode cL_law 798 = .ok (.isub, 1) := by decide +kernel
theorem dL_law_799 : decode cL_law 799 = .ok (.bipush 41, 2) := by decide +kernel
theorem dL_law_801 : decode cL_law 801 = .ok (.if_icmp .ge 8, 3) := by decide +kernel
theorem dL_law_804 : decode cL_law 804 = .ok (.iload 19, 2) := by decide +kernel
theorem dL_law_806 : decode cL_law 806 = .ok (.goto 4, 3) := by decide +kernel
theorem dL_law_809 : decode cL_law 809 = .ok (.iconst 0, 1) := by decide +kernel
theorem dL_law_810 : decode cL_law 810 = .ok (.istore 19, 2) := by decide +kernel
theorem dL_law_812 : decode cL_law 812 = .ok (.iload 17, 2) := by decide +kernel
theorem dL_law_814 : decode cL_law 814 = .ok (.aload_n 3, 1) := by decide +kernel
theorem dL_law_815 : decode cL_law 815 = .ok (.iload 19, 2) := by decide +kernel
theorem dL_law_817 : decode cL_law 817 = .ok (.invokestatic 76, 3) := by decide +kernel
theorem dL_law_820 : decode cL_law 820 = .ok (.iconst (-1), 1) := by decide +kernel
theorem dL_law_821 : decode cL_law 821 = .ok (.if_icmp .ge 7, 3) := by decide +kernel
theorem dL_law_824 : decode cL_law 824 = .ok (.iconst 0, 1) := by decide +kernel
theorem dL_law_825 : decode cL_law 825 = .ok (.goto 4, 3) := by decide +kernel
theorem dL_law_828 : decode cL_law 828 = .ok (.iconst 1, 1) := by decide +kernel
theorem dL_law_829 : decode cL_law 829 = .ok (.iadd, 1) := by decide +kernel
theorem dL_law_830 : decode cL_law 830 = .ok (.istore 17, 2) := by decide +kernel
theorem dL_law_832 : decode cL_law 832 = .ok (.goto (-110), 3) := by decide +kernel
theorem dL_law_835 : decode cL_law 835 = .ok (.aload_n 2, 1) := by decide +kernel
theorem dL_law_836 : decode cL_law 836 = .ok (.bipush 6, 2) := by decide +kernel
theorem dL_law_838 : decode cL_law 838 = .ok (.iaload, 1) := by decide +kernel
theorem dL_law_839 : decode cL_law 839 = .ok (.iconst 1, 1) := by decide +kernel
theorem dL_law_840 : decode cL_law 840 = .ok (.if_icmp .ne 7, 3) := by decide +kernel
theorem dL_law_843 : decode cL_law 843 = .ok (.iconst 1, 1) := by decide +kernel
theorem dL_law_844 : decode cL_law 844 = .ok (.goto 4, 3) := by decide +kernel
theorem dL_law_847 : decode cL_law 847 = .ok (.iconst 0, 1) := by decide +kernel
theorem dL_law_848 : decode cL_law 848 = .ok (.istore 18, 2) := by decide +kernel
theorem dL_law_850 : decode cL_law 850 = .ok (.aload_n 1, 1) := by decide +kernel
theorem dL_law_851 : decode cL_law 851 = .ok (.iload 13, 2) := by decide +kernel
theorem dL_law_853 : decode cL_law 853 = .ok (.iload 14, 2) := by decide +kernel
theorem dL_law_855 : decode cL_law 855 = .ok (.iconst 0, 1) := by decide +kernel
theorem dL_law_856 : decode cL_law 856 = .ok (.invokevirtual 101, 3) := by decide +kernel
theorem dL_law_859 : decode cL_law 859 = .ok (.iload 18, 2) := by decide +kernel
theorem dL_law_861 : decode cL_law 861 = .ok (.ifCond .eq 8, 3) := by decide +kernel
theorem dL_law_864 : decode cL_law 864 = .ok (.bipush (-103), 2) := by decide +kernel
theorem dL_law_866 : decode cL_law 866 = .ok (.goto 6, 3) := by decide +kernel
theorem dL_law_869 : decode cL_law 869 = .ok (.aload_n 3, 1) := by decide +kernel
theorem dL_law_870 : decode cL_law 870 = .ok (.iconst 0, 1) := by decide +kernel
theorem dL_law_871 : decode cL_law 871 = .ok (.iaload, 1) := by decide +kernel
theorem dL_law_872 : decode cL_law 872 = .ok (.if_icmp .ne 79, 3) := by decide +kernel
theorem dL_law_875 : decode cL_law 875 = .ok (.aload_n 1, 1) := by decide +kernel
theorem dL_law_876 : decode cL_law 876 = .ok (.iload 13, 2) := by decide +kernel
theorem dL_law_878 : decode cL_law 878 = .ok (.iload 14, 2) := by decide +kernel
theorem dL_law_880 : decode cL_law 880 = .ok (.iconst 1, 1) := by decide +kernel
theorem dL_law_881 : decode cL_law 881 = .ok (.invokevirtual 101, 3) := by decide +kernel
theorem dL_law_884 : decode cL_law 884 = .ok (.iload 18, 2) := by decide +kernel
theorem dL_law_886 : decode cL_law 886 = .ok (.ifCond .eq 8, 3) := by decide +kernel
theorem dL_law_889 : decode cL_law 889 = .ok (.bipush (-103), 2) := by decide +kernel
theorem dL_law_891 : decode cL_law 891 = .ok (.goto 6, 3) := by decide +kernel
theorem dL_law_894 : decode cL_law 894 = .ok (.aload_n 3, 1) := by decide +kernel
theorem dL_law_895 : decode cL_law 895 = .ok (.iconst 4, 1) := by decide +kernel
theorem dL_law_896 : decode cL_law 896 = .ok (.iaload, 1) := by decide +kernel
theorem dL_law_897 : decode cL_law 897 = .ok (.if_icmp .ne 54, 3) := by decide +kernel
theorem dL_law_900 : decode cL_law 900 = .ok (.aload_n 1, 1) := by decide +kernel
theorem dL_law_901 : decode cL_law 901 = .ok (.iload 13, 2) := by decide +kernel
theorem dL_law_903 : decode cL_law 903 = .ok (.iload 14, 2) := by decide +kernel
theorem dL_law_905 : decode cL_law 905 = .ok (.iconst 2, 1) := by decide +kernel
theorem dL_law_906 : decode cL_law 906 = .ok (.invokevirtual 101, 3) := by decide +kernel
theorem dL_law_909 : decode cL_law 909 = .ok (.iload 18, 2) := by decide +kernel
theorem dL_law_911 : decode cL_law 911 = .ok (.ifCond .eq 8, 3) := by decide +kernel
theorem dL_law_914 : decode cL_law 914 = .ok (.bipush (-103), 2) := by decide +kernel
theorem dL_law_916 : decode cL_law 916 = .ok (.goto 5, 3) := by decide +kernel
theorem dL_law_919 : decode cL_law 919 = .ok (.iload 17, 2) := by decide +kernel
theorem dL_law_921 : decode cL_law 921 = .ok (.if_icmp .ne 30, 3) := by decide +kernel
theorem dL_law_924 : decode cL_law 924 = .ok (.aload_n 1, 1) := by decide +kernel
theorem dL_law_925 : decode cL_law 925 = .ok (.iload 13, 2) := by decide +kernel
theorem dL_law_927 : decode cL_law 927 = .ok (.iload 14, 2) := by decide +kernel
theorem dL_law_929 : decode cL_law 929 = .ok (.iconst 3, 1) := by decide +kernel
theorem dL_law_930 : decode cL_law 930 = .ok (.invokevirtual 101, 3) := by decide +kernel
theorem dL_law_933 : decode cL_law 933 = .ok (.i2l, 1) := by decide +kernel
theorem dL_law_934 : decode cL_law 934 = .ok (.iload 18, 2) := by decide +kernel
theorem dL_law_936 : decode cL_law 936 = .ok (.ifCond .eq 9, 3) := by decide +kernel
theorem dL_law_939 : decode cL_law 939 = .ok (.ldc2_w 104, 3) := by decide +kernel
theorem dL_law_942 : decode cL_law 942 = .ok (.goto 5, 3) := by decide +kernel
theorem dL_law_945 : decode cL_law 945 = .ok (.lload 15, 2) := by decide +kernel
theorem dL_law_947 : decode cL_law 947 = .ok (.lcmp, 1) := by decide +kernel
theorem dL_law_948 : decode cL_law 948 = .ok (.ifCond .eq 5, 3) := by decide +kernel
theorem dL_law_951 : decode cL_law 951 = .ok (.iconst 0, 1) := by decide +kernel
theorem dL_law_952 : decode cL_law 952 = .ok (.ireturn, 1) := by decide +kernel
theorem dL_law_953 : decode cL_law 953 = .ok (.iinc 5 1, 3) := by decide +kernel
theorem dL_law_956 : decode cL_law 956 = .ok (.goto (-876), 3) := by decide +kernel
theorem dL_law_959 : decode cL_law 959 = .ok (.aload_n 1, 1) := by decide +kernel
theorem dL_law_960 : decode cL_law 960 = .ok (.iconst 2, 1) := by decide +kernel
theorem dL_law_961 : decode cL_law 961 = .ok (.iconst 0, 1) := by decide +kernel
theorem dL_law_962 : decode cL_law 962 = .ok (.invokevirtual 62, 3) := by decide +kernel
theorem dL_law_965 : decode cL_law 965 = .ok (.bipush (-101), 2) := by decide +kernel
theorem dL_law_967 : decode cL_law 967 = .ok (.if_icmp .ne 177, 3) := by decide +kernel
theorem dL_law_970 : decode cL_law 970 = .ok (.aload_n 1, 1) := by decide +kernel
theorem dL_law_971 : decode cL_law 971 = .ok (.iconst 0, 1) := by decide +kernel
theorem dL_law_972 : decode cL_law 972 = .ok (.iconst 4, 1) := by decide +kernel
theorem dL_law_973 : decode cL_law 973 = .ok (.invokevirtual 62, 3) := by decide +kernel
theorem dL_law_976 : decode cL_law 976 = .ok (.bipush (-102), 2) := by decide +kernel
theorem dL_law_978 : decode cL_law 978 = .ok (.if_icmp .ne 166, 3) := by decide +kernel
theorem dL_law_981 : decode cL_law 981 = .ok (.aload_n 1, 1) := by decide +kernel
theorem dL_law_982 : decode cL_law 982 = .ok (.aload_n 2, 1) := by decide +kernel
theorem dL_law_983 : decode cL_law 983 = .ok (.bipush 7, 2) := by decide +kernel
theorem dL_law_985 : decode cL_law 985 = .ok (.iaload, 1) := by decide +kernel
theorem dL_law_986 : decode cL_law 986 = .ok (.iconst 0, 1) := by decide +kernel
theorem dL_law_987 : decode cL_law 987 = .ok (.invokevirtual 58, 3) := by decide +kernel
theorem dL_law_990 : decode cL_law 990 = .ok (.bipush (-101), 2) := by decide +kernel
theorem dL_law_992 : decode cL_law 992 = .ok (.if_icmp .ne 152, 3) := by decide +kernel
theorem dL_law_995 : decode cL_law 995 = .ok (.aload_n 1, 1) := by decide +kernel
theorem dL_law_996 : decode cL_law 996 = .ok (.aload_n 2, 1) := by decide +kernel
theorem dL_law_997 : decode cL_law 997 = .ok (.bipush 7, 2) := by decide +kernel
theorem dL_law_999 : decode cL_law 999 = .ok (.iaload, 1) := by decide +kernel
theorem dL_law_1000 : decode cL_law 1000 = .ok (.iconst 0, 1) := by decide +kernel
theorem dL_law_1001 : decode cL_law 1001 = .ok (.invokevirtual 85, 3) := by decide +kernel
theorem dL_law_1004 : decode cL_law 1004 = .ok (.bipush (-101), 2) := by decide +kernel
theorem dL_law_1006 : decode cL_law 1006 = .ok (.if_icmp .ne 138, 3) := by decide +kernel
theorem dL_law_1009 : decode cL_law 1009 = .ok (.aload_n 1, 1) := by decide +kernel
theorem dL_law_1010 : decode cL_law 1010 = .ok (.bipush 6, 2) := by decide +kernel
theorem dL_law_1012 : decode cL_law 1012 = .ok (.invokevirtual 78, 3) := by decide +kernel
theorem dL_law_1015 : decode cL_law 1015 = .ok (.bipush (-101), 2) := by decide +kernel
theorem dL_law_1017 : decode cL_law 1017 = .ok (.if_icmp .ne 127, 3) := by decide +kernel
theorem dL_law_1020 : decode cL_law 1020 = .ok (.aload_n 1, 1) := by decide +kernel
theorem dL_law_1021 : decode cL_law 1021 = .ok (.iconst 4, 1) := by decide +kernel
theorem dL_law_1022 : decode cL_law 1022 = .ok (.invokevirtual 73, 3) := by decide +kernel
theorem dL_law_1025 : decode cL_law 1025 = .ok (.bipush (-102), 2) := by decide +kernel
theorem dL_law_1027 : decode cL_law 1027 = .ok (.if_icmp .ne 117, 3) := by decide +kernel
theorem dL_law_1030 : decode cL_law 1030 = .ok (.aload_n 1, 1) := by decide +kernel
theorem dL_law_1031 : decode cL_law 1031 = .ok (.bipush (-4), 2) := by decide +kernel
theorem dL_law_1033 : decode cL_law 1033 = .ok (.invokevirtual 73, 3) := by decide +kernel
theorem dL_law_1036 : decode cL_law 1036 = .ok (.bipush (-102), 2) := by decide +kernel
theorem dL_law_1038 : decode cL_law 1038 = .ok (.if_icmp .ne 106, 3) := by decide +kernel
theorem dL_law_1041 : decode cL_law 1041 = .ok (.aload_n 1, 1) := by decide +kernel
theorem dL_law_1042 : decode cL_law 1042 = .ok (.iconst 0, 1) := by decide +kernel
theorem dL_law_1043 : decode cL_law 1043 = .ok (.invokevirtual 88, 3) := by decide +kernel
theorem dL_law_1046 : decode cL_law 1046 = .ok (.bipush (-102), 2) := by decide +kernel
theorem dL_law_1048 : decode cL_law 1048 = .ok (.if_icmp .ne 96, 3) := by decide +kernel
theorem dL_law_1051 : decode cL_law 1051 = .ok (.aload_n 1, 1) := by decide +kernel
theorem dL_law_1052 : decode cL_law 1052 = .ok (.bipush 100, 2) := by decide +kernel
theorem dL_law_1054 : decode cL_law 1054 = .ok (.invokevirtual 88, 3) := by decide +kernel
theorem dL_law_1057 : decode cL_law 1057 = .ok (.bipush (-102), 2) := by decide +kernel
theorem dL_law_1059 : decode cL_law 1059 = .ok (.if_icmp .ne 85, 3) := by decide +kernel
theorem dL_law_1062 : decode cL_law 1062 = .ok (.aload_n 1, 1) := by decide +kernel
theorem dL_law_1063 : decode cL_law 1063 = .ok (.iconst 0, 1) := by decide +kernel
theorem dL_law_1064 : decode cL_law 1064 = .ok (.iconst 1, 1) := by decide +kernel
theorem dL_law_1065 : decode cL_law 1065 = .ok (.iconst 0, 1) := by decide +kernel
theorem dL_law_1066 : decode cL_law 1066 = .ok (.invokevirtual 101, 3) := by decide +kernel
theorem dL_law_1069 : decode cL_law 1069 = .ok (.bipush (-102), 2) := by decide +kernel
theorem dL_law_1071 : decode cL_law 1071 = .ok (.if_icmp .ne 73, 3) := by decide +kernel
theorem dL_law_1074 : decode cL_law 1074 = .ok (.aload_n 1, 1) := by decide +kernel
theorem dL_law_1075 : decode cL_law 1075 = .ok (.bipush 61, 2) := by decide +kernel
theorem dL_law_1077 : decode cL_law 1077 = .ok (.iconst 1, 1) := by decide +kernel
theorem dL_law_1078 : decode cL_law 1078 = .ok (.iconst 0, 1) := by decide +kernel
theorem dL_law_1079 : decode cL_law 1079 = .ok (.invokevirtual 101, 3) := by decide +kernel
theorem dL_law_1082 : decode cL_law 1082 = .ok (.bipush (-102), 2) := by decide +kernel
theorem dL_law_1084 : decode cL_law 1084 = .ok (.if_icmp .ne 60, 3) := by decide +kernel
theorem dL_law_1087 : decode cL_law 1087 = .ok (.aload_n 1, 1) := by decide +kernel
theorem dL_law_1088 : decode cL_law 1088 = .ok (.iconst 1, 1) := by decide +kernel
theorem dL_law_1089 : decode cL_law 1089 = .ok (.iconst (-1), 1) := by decide +kernel
theorem dL_law_1090 : decode cL_law 1090 = .ok (.iconst 0, 1) := by decide +kernel
theorem dL_law_1091 : decode cL_law 1091 = .ok (.invokevirtual 101, 3) := by decide +kernel
theorem dL_law_1094 : decode cL_law 1094 = .ok (.bipush (-102), 2) := by decide +kernel
theorem dL_law_1096 : decode cL_law 1096 = .ok (.if_icmp .ne 48, 3) := by decide +kernel
theorem dL_law_1099 : decode cL_law 1099 = .ok (.aload_n 1, 1) := by decide +kernel
theorem dL_law_1100 : decode cL_law 1100 = .ok (.iconst 1, 1) := by decide +kernel
theorem dL_law_1101 : decode cL_law 1101 = .ok (.iconst 1, 1) := by decide +kernel
theorem dL_law_1102 : decode cL_law 1102 = .ok (.iconst 4, 1) := by decide +kernel
theorem dL_law_1103 : decode cL_law 1103 = .ok (.invokevirtual 101, 3) := by decide +kernel
theorem dL_law_1106 : decode cL_law 1106 = .ok (.bipush (-102), 2) := by decide +kernel
theorem dL_law_1108 : decode cL_law 1108 = .ok (.if_icmp .ne 36, 3) := by decide +kernel
theorem dL_law_1111 : decode cL_law 1111 = .ok (.aload_n 2, 1) := by decide +kernel
theorem dL_law_1112 : decode cL_law 1112 = .ok (.bipush 7, 2) := by decide +kernel
theorem dL_law_1114 : decode cL_law 1114 = .ok (.iaload, 1) := by decide +kernel
theorem dL_law_1115 : decode cL_law 1115 = .ok (.ifCond .eq 25, 3) := by decide +kernel
theorem dL_law_1118 : decode cL_law 1118 = .ok (.aload_n 1, 1) := by decide +kernel
theorem dL_law_1119 : decode cL_law 1119 = .ok (.iconst 0, 1) := by decide +kernel
theorem dL_law_1120 : decode cL_law 1120 = .ok (.iconst 5, 1) := by decide +kernel
theorem dL_law_1121 : decode cL_law 1121 = .ok (.invokevirtual 58, 3) := by decide +kernel
theorem dL_law_1124 : decode cL_law 1124 = .ok (.bipush (-102), 2) := by decide +kernel
theorem dL_law_1126 : decode cL_law 1126 = .ok (.if_icmp .ne 18, 3) := by decide +kernel
theorem dL_law_1129 : decode cL_law 1129 = .ok (.aload_n 1, 1) := by decide +kernel
theorem dL_law_1130 : decode cL_law 1130 = .ok (.iconst 0, 1) := by decide +kernel
theorem dL_law_1131 : decode cL_law 1131 = .ok (.iconst 5, 1) := by decide +kernel
theorem dL_law_1132 : decode cL_law 1132 = .ok (.invokevirtual 85, 3) := by decide +kernel
theorem dL_law_1135 : decode cL_law 1135 = .ok (.bipush (-102), 2) := by decide +kernel
theorem dL_law_1137 : decode cL_law 1137 = .ok (.if_icmp .ne 7, 3) := by decide +kernel
theorem dL_law_1140 : decode cL_law 1140 = .ok (.iconst 1, 1) := by decide +kernel
theorem dL_law_1141 : decode cL_law 1141 = .ok (.goto 4, 3) := by decide +kernel
theorem dL_law_1144 : decode cL_law 1144 = .ok (.iconst 0, 1) := by decide +kernel
theorem dL_law_1145 : decode cL_law 1145 = .ok (.ireturn, 1) := by decide +kernel
end
section
theorem dX11_init_0 : decode cX11_init 0 = .ok (.aload_n 0, 1) := by decide +kernel
theorem dX11_init_1 : decode cX11_init 1 = .ok (.invokespecial 1, 3) := by decide +kernel
theorem dX11_init_4 : decode cX11_init 4 = .ok (.aload_n 0, 1) := by decide +kernel
theorem dX11_init_5 : decode cX11_init 5 = .ok (.new 7, 3) := by decide +kernel
theorem dX11_init_8 : decode cX11_init 8 = .ok (.dup, 1) := by decide +kernel
theorem dX11_init_9 : decode cX11_init 9 = .ok (.invokespecial 9, 3) := by decide +kernel
theorem dX11_init_12 : decode cX11_init 12 = .ok (.putfield 10, 3) := by decide +kernel
theorem dX11_init_15 : decode cX11_init 15 = .ok (.aload_n 0, 1) := by decide +kernel
theorem dX11_init_16 : decode cX11_init 16 = .ok (.new 16, 3) := by decide +kernel
theorem dX11_init_19 : decode cX11_init 19 = .ok (.dup, 1) := by decide +kernel
theorem dX11_init_20 : decode cX11_init 20 = .ok (.invokespecial 18, 3) := by decide +kernel
theorem dX11_init_23 : decode cX11_init 23 = .ok (.putfield 19, 3) := by decide +kernel
theorem dX11_init_26 : decode cX11_init 26 = .ok (.aload_n 0, 1) := by decide +kernel
theorem dX11_init_27 : decode cX11_init 27 = .ok (.new 23, 3) := by decide +kernel
theorem dX11_init_30 : decode cX11_init 30 = .ok (.dup, 1) := by decide +kernel
theorem dX11_init_31 : decode cX11_init 31 = .ok (.invokespecial 25, 3) := by decide +kernel
theorem dX11_init_34 : decode cX11_init 34 = .ok (.putfield 26, 3) := by decide +kernel
theorem dX11_init_37 : decode cX11_init 37 = .ok (.aload_n 0, 1) := by decide +kernel
theorem dX11_init_38 : decode cX11_init 38 = .ok (.new 30, 3) := by decide +kernel
theorem dX11_init_41 : decode cX11_init 41 = .ok (.dup, 1) := by decide +kernel
theorem dX11_init_42 : decode cX11_init 42 = .ok (.invokespecial 32, 3) := by decide +kernel
theorem dX11_init_45 : decode cX11_init 45 = .ok (.putfield 33, 3) := by decide +kernel
theorem dX11_init_48 : decode cX11_init 48 = .ok (.aload_n 0, 1) := by decide +kernel
theorem dX11_init_49 : decode cX11_init 49 = .ok (.new 37, 3) := by decide +kernel
theorem dX11_init_52 : decode cX11_init 52 = .ok (.dup, 1) := by decide +kernel
theorem dX11_init_53 : decode cX11_init 53 = .ok (.invokespecial 39, 3) := by decide +kernel
theorem dX11_init_56 : decode cX11_init 56 = .ok (.putfield 40, 3) := by decide +kernel
theorem dX11_init_59 : decode cX11_init 59 = .ok (.aload_n 0, 1) := by decide +kernel
theorem dX11_init_60 : decode cX11_init 60 = .ok (.new 44, 3) := by decide +kernel
theorem dX11_init_63 : decode cX11_init 63 = .ok (.dup, 1) := by decide +kernel
theorem dX11_init_64 : decode cX11_init 64 = .ok (.invokespecial 46, 3) := by decide +kernel
theorem dX11_init_67 : decode cX11_init 67 = .ok (.putfield 47, 3) := by decide +kernel
theorem dX11_init_70 : decode cX11_init 70 = .ok (.aload_n 0, 1) := by decide +kernel
theorem dX11_init_71 : decode cX11_init 71 = .ok (.new 16, 3) := by decide +kernel
theorem dX11_init_74 : decode cX11_init 74 = .ok (.dup, 1) := by decide +kernel
theorem dX11_init_75 : decode cX11_init 75 = .ok (.invokespecial 18, 3) := by decide +kernel
theorem dX11_init_78 : decode cX11_init 78 = .ok (.putfield 51, 3) := by decide +kernel
theorem dX11_init_81 : decode cX11_init 81 = .ok (.aload_n 0, 1) := by decide +kernel
theorem dX11_init_82 : decode cX11_init 82 = .ok (.new 16, 3) := by decide +kernel
theorem dX11_init_85 : decode cX11_init 85 = .ok (.dup, 1) := by decide +kernel
theorem dX11_init_86 : decode cX11_init 86 = .ok (.invokespecial 18, 3) := by decide +kernel
theorem dX11_init_89 : decode cX11_init 89 = .ok (.putfield 54, 3) := by decide +kernel
theorem dX11_init_92 : decode cX11_init 92 = .ok (.return_, 1) := by decide +kernel
theorem dX11_letters_0 : decode cX11_letters 0 = .ok (.lload_n 1, 1) := by decide +kernel
theorem dX11_letters_1 : decode cX11_letters 1 = .ok (.invokestatic 57, 3) := by decide +kernel
theorem dX11_letters_4 : decode cX11_letters 4 = .ok (.istore_n 3, 1) := by decide +kernel
theorem dX11_letters_5 : decode cX11_letters 5 = .ok (.iload_n 3, 1) := by decide +kernel
theorem dX11_letters_6 : decode cX11_letters 6 = .ok (.ifCond .ge 6, 3) := by decide +kernel
theorem dX11_letters_9 : decode cX11_letters 9 = .ok (.bipush (-102), 2) := by decide +kernel
theorem dX11_letters_11 : decode cX11_letters 11 = .ok (.ireturn, 1) := by decide +kernel
theorem dX11_letters_12 : decode cX11_letters 12 = .ok (.aload_n 0, 1) := by decide +kernel
theorem dX11_letters_13 : decode cX11_letters 13 = .ok (.getfield 10, 3) := by decide +kernel
theorem dX11_letters_16 : decode cX11_letters 16 = .ok (.iload_n 3, 1) := by decide +kernel
theorem dX11_letters_17 : decode cX11_letters 17 = .ok (.invokevirtual 61, 3) := by decide +kernel
theorem dX11_letters_20 : decode cX11_letters 20 = .ok (.ifCond .ne 6, 3) := by decide +kernel
theorem dX11_letters_23 : decode cX11_letters 23 = .ok (.bipush (-104), 2) := by decide +kernel
theorem dX11_letters_25 : decode cX11_letters 25 = .ok (.ireturn, 1) := by decide +kernel
theorem dX11_letters_26 : decode cX11_letters 26 = .ok (.iconst 0, 1) := by decide +kernel
theorem dX11_letters_27 : decode cX11_letters 27 = .ok (.istore 4, 2) := by decide +kernel
theorem dX11_letters_29 : decode cX11_letters 29 = .ok (.iload 4, 2) := by decide +kernel
theorem dX11_letters_31 : decode cX11_letters 31 = .ok (.iload_n 3, 1) := by decide +kernel
theorem dX11_letters_32 : decode cX11_letters 32 = .ok (.if_icmp .ge 23, 3) := by decide +kernel
theorem dX11_letters_35 : decode cX11_letters 35 = .ok (.aload_n 0, 1) := by decide +kernel
theorem dX11_letters_36 : decode cX11_letters 36 = .ok (.getfield 10, 3) := by decide +kernel
theorem dX11_letters_39 : decode cX11_letters 39 = .ok (.lload_n 1, 1) := by decide +kernel
theorem dX11_letters_40 : decode cX11_letters 40 = .ok (.iload 4, 2) := by decide +kernel
theorem dX11_letters_42 : decode cX11_letters 42 = .ok (.invokestatic 65, 3) := by decide +kernel
theorem dX11_letters_45 : decode cX11_letters 45 = .ok (.i2c, 1) := by decide +kernel
theorem dX11_letters_46 : decode cX11_letters 46 = .ok (.invokevirtual 69, 3) := by decide +kernel
theorem dX11_letters_49 : decode cX11_letters 49 = .ok (.iinc 4 1, 3) := by decide +kernel
theorem dX11_letters_52 : decode cX11_letters 52 = .ok (.goto (-23), 3) := by decide +kernel
theorem dX11_letters_55 : decode cX11_letters 55 = .ok (.aload_n 0, 1) := by decide +kernel
theorem dX11_letters_56 : decode cX11_letters 56 = .ok (.getfield 10, 3) := by decide +kernel
theorem dX11_letters_59 : decode cX11_letters 59 = .ok (.getfield 73, 3) := by decide +kernel
theorem dX11_letters_62 : decode cX11_letters 62 = .ok (.ireturn, 1) := by decide +kernel
theorem dX11_fault_0 : decode cX11_fault 0 = .ok (.aload_n 0, 1) := by decide +kernel
theorem dX11_fault_1 : decode cX11_fault 1 = .ok (.getfield 10, 3) := by decide +kernel
theorem dX11_fault_4 : decode cX11_fault 4 = .ok (.invokevirtual 81, 3) := by decide +kernel
theorem dX11_fault_7 : decode cX11_fault 7 = .ok (.ireturn, 1) := by decide +kernel
theorem dX11_wire_0 : decode cX11_wire 0 = .ok (.aload_n 0, 1) := by decide +kernel
theorem dX11_wire_1 : decode cX11_wire 1 = .ok (.getfield 10, 3) := by decide +kernel
theorem dX11_wire_4 : decode cX11_wire 4 = .ok (.invokevirtual 84, 3) := by decide +kernel
theorem dX11_wire_7 : decode cX11_wire 7 = .ok (.ifCond .ne 6, 3) := by decide +kernel
theorem dX11_wire_10 : decode cX11_wire 10 = .ok (.bipush (-103), 2) := by decide +kernel
theorem dX11_wire_12 : decode cX11_wire 12 = .ok (.ireturn, 1) := by decide +kernel
theorem dX11_wire_13 : decode cX11_wire 13 = .ok (.aload_n 0, 1) := by decide +kernel
theorem dX11_wire_14 : decode cX11_wire 14 = .ok (.getfield 19, 3) := by decide +kernel
theorem dX11_wire_17 : decode cX11_wire 17 = .ok (.aload_n 0, 1) := by decide +kernel
theorem dX11_wire_18 : decode cX11_wire 18 = .ok (.getfield 10, 3) := by decide +kernel
theorem dX11_wire_21 : decode cX11_wire 21 = .ok (.invokevirtual 88, 3) := by decide +kernel
theorem dX11_wire_24 : decode cX11_wire 24 = .ok (.aload_n 0, 1) := by decide +kernel
theorem dX11_wire_25 : decode cX11_wire 25 = .ok (.getfield 10, 3) := by decide +kernel
theorem dX11_wire_28 : decode cX11_wire 28 = .ok (.invokevirtual 77, 3) := by decide +kernel
theorem dX11_wire_31 : decode cX11_wire 31 = .ok (.pop, 1) := by decide +kernel
theorem dX11_wire_32 : decode cX11_wire 32 = .ok (.aload_n 0, 1) := by decide +kernel
theorem dX11_wire_33 : decode cX11_wire 33 = .ok (.getfield 26, 3) := by decide +kernel
theorem dX11_wire_36 : decode cX11_wire 36 = .ok (.iconst 0, 1) := by decide +kernel
theorem dX11_wire_37 : decode cX11_wire 37 = .ok (.invokevirtual 92, 3) := by decide +kernel
theorem dX11_wire_40 : decode cX11_wire 40 = .ok (.aload_n 0, 1) := by decide +kernel
theorem dX11_wire_41 : decode cX11_wire 41 = .ok (.getfield 33, 3) := by decide +kernel
theorem dX11_wire_44 : decode cX11_wire 44 = .ok (.invokevirtual 96, 3) := by decide +kernel
theorem dX11_wire_47 : decode cX11_wire 47 = .ok (.pop, 1) := by decide +kernel
theorem dX11_wire_48 : decode cX11_wire 48 = .ok (.aload_n 0, 1) := by decide +kernel
theorem dX11_wire_49 : decode cX11_wire 49 = .ok (.iconst 0, 1) := by decide +kernel
theorem dX11_wire_50 : decode cX11_wire 50 = .ok (.putfield 97, 3) := by decide +kernel
theorem dX11_wire_53 : decode cX11_wire 53 = .ok (.aload_n 0, 1) := by decide +kernel
theorem dX11_wire_54 : decode cX11_wire 54 = .ok (.dup, 1) := by decide +kernel
theorem dX11_wire_55 : decode cX11_wire 55 = .ok (.getfield 101, 3) := by decide +kernel
theorem dX11_wire_58 : decode cX11_wire 58 = .ok (.iconst 1, 1) := by decide +kernel
theorem dX11_wire_59 : decode cX11_wire 59 = .ok (.iadd, 1) := by decide +kernel
theorem dX11_wire_60 : decode cX11_wire 60 = .ok (.putfield 101, 3) := by decide +kernel
theorem dX11_wire_63 : decode cX11_wire 63 = .ok (.aload_n 0, 1) := by decide +kernel
theorem dX11_wire_64 : decode cX11_wire 64 = .ok (.getfield 19, 3) := by decide +kernel
theorem dX11_wire_67 : decode cX11_wire 67 = .ok (.getfield 104, 3) := by decide +kernel
theorem dX11_wire_70 : decode cX11_wire 70 = .ok (.ireturn, 1) := by decide +kernel
theorem dX11_cabin_0 : decode cX11_cabin 0 = .ok (.iload_n 1, 1) := by decide +kernel
theorem dX11_cabin_1 : decode cX11_cabin 1 = .ok (.invokestatic 107, 3) := by decide +kernel
theorem dX11_cabin_4 : decode cX11_cabin 4 = .ok (.ifCond .ne 6, 3) := by decide +kernel
theorem dX11_cabin_7 : decode cX11_cabin 7 = .ok (.bipush (-101), 2) := by decide +kernel
theorem dX11_cabin_9 : decode cX11_cabin 9 = .ok (.ireturn, 1) := by decide +kernel
theorem dX11_cabin_10 : decode cX11_cabin 10 = .ok (.iload_n 2, 1) := by decide +kernel
theorem dX11_cabin_11 : decode cX11_cabin 11 = .ok (.ifCond .lt 8, 3) := by decide +kernel
theorem dX11_cabin_14 : decode cX11_cabin 14 = .ok (.iload_n 2, 1) := by decide +kernel
theorem dX11_cabin_15 : decode cX11_cabin 15 = .ok (.iconst 3, 1) := by decide +kernel
theorem dX11_cabin_16 : decode cX11_cabin 16 = .ok (.if_icmp .le 6, 3) := by decide +kernel
theorem dX11_cabin_19 : decode cX11_cabin 19 = .ok (.bipush (-102), 2) := by decide +kernel
theorem dX11_cabin_21 : decode cX11_cabin 21 = .ok (.ireturn, 1) := by decide +kernel
theorem dX11_cabin_22 : decode cX11_cabin 22 = .ok (.aload_n 0, 1) := by decide +kernel
theorem dX11_cabin_23 : decode cX11_cabin 23 = .ok (.getfield 19, 3) := by decide +kernel
theorem dX11_cabin_26 : decode cX11_cabin 26 = .ok (.invokevirtual 110, 3) := by decide +kernel
theorem dX11_cabin_29 : decode cX11_cabin 29 = .ok (.ifCond .ne 6, 3) := by decide +kernel
theorem dX11_cabin_32 : decode cX11_cabin 32 = .ok (.bipush (-103), 2) := by decide +kernel
theorem dX11_cabin_34 : decode cX11_cabin 34 = .ok (.ireturn, 1) := by decide +kernel
theorem dX11_cabin_35 : decode cX11_cabin 35 = .ok (.iload_n 2, 1) := by decide +kernel
theorem dX11_cabin_36 : decode cX11_cabin 36 = .ok (.tableswitch 70 0 2 #[28, 44, 57], 28) := by decide +kernel
theorem dX11_cabin_64 : decode cX11_cabin 64 = .ok (.aload_n 0, 1) := by decide +kernel
theorem dX11_cabin_65 : decode cX11_cabin 65 = .ok (.getfield 26, 3) := by decide +kernel
theorem dX11_cabin_68 : decode cX11_cabin 68 = .ok (.iload_n 1, 1) := by decide +kernel
theorem dX11_cabin_69 : decode cX11_cabin 69 = .ok (.aload_n 0, 1) := by decide +kernel
theorem dX11_cabin_70 : decode cX11_cabin 70 = .ok (.getfield 19, 3) := by decide +kernel
theorem dX11_cabin_73 : decode cX11_cabin 73 = .ok (.getfield 113, 3) := by decide +kernel
theorem dX11_cabin_76 : decode cX11_cabin 76 = .ok (.invokevirtual 116, 3) := by decide +kernel
theorem dX11_cabin_79 : decode cX11_cabin 79 = .ok (.ireturn, 1) := by decide +kernel
theorem dX11_cabin_80 : decode cX11_cabin 80 = .ok (.aload_n 0, 1) := by decide +kernel
theorem dX11_cabin_81 : decode cX11_cabin 81 = .ok (.getfield 19, 3) := by decide +kernel
theorem dX11_cabin_84 : decode cX11_cabin 84 = .ok (.iload_n 1, 1) := by decide +kernel
theorem dX11_cabin_85 : decode cX11_cabin 85 = .ok (.aload_n 0, 1) := by decide +kernel
theorem dX11_cabin_86 : decode cX11_cabin 86 = .ok (.getfield 26, 3) := by decide +kernel
theorem dX11_cabin_89 : decode cX11_cabin 89 = .ok (.invokevirtual 120, 3) := by decide +kernel
theorem dX11_cabin_92 : decode cX11_cabin 92 = .ok (.ireturn, 1) := by decide +kernel
theorem dX11_cabin_93 : decode cX11_cabin 93 = .ok (.aload_n 0, 1) := by decide +kernel
theorem dX11_cabin_94 : decode cX11_cabin 94 = .ok (.getfield 19, 3) := by decide +kernel
theorem dX11_cabin_97 : decode cX11_cabin 97 = .ok (.iload_n 1, 1) := by decide +kernel
theorem dX11_cabin_98 : decode cX11_cabin 98 = .ok (.aload_n 0, 1) := by decide +kernel
theorem dX11_cabin_99 : decode cX11_cabin 99 = .ok (.getfield 26, 3) := by decide +kernel
theorem dX11_cabin_102 : decode cX11_cabin 102 = .ok (.invokevirtual 124, 3) := by decide +kernel
theorem dX11_cabin_105 : decode cX11_cabin 105 = .ok (.ireturn, 1) := by decide +kernel
theorem dX11_cabin_106 : decode cX11_cabin 106 = .ok (.aload_n 0, 1) := by decide +kernel
theorem dX11_cabin_107 : decode cX11_cabin 107 = .ok (.getfield 26, 3) := by decide +kernel
theorem dX11_cabin_110 : decode cX11_cabin 110 = .ok (.iload_n 1, 1) := by decide +kernel
theorem dX11_cabin_111 : decode cX11_cabin 111 = .ok (.invokevirtual 127, 3) := by decide +kernel
theorem dX11_cabin_114 : decode cX11_cabin 114 = .ok (.ireturn, 1) := by decide +kernel
theorem dX11_thing_0 : decode cX11_thing 0 = .ok (.iload_n 3, 1) := by decide +kernel
theorem dX11_thing_1 : decode cX11_thing 1 = .ok (.invokestatic 107, 3) := by decide +kernel
theorem dX11_thing_4 : decode cX11_thing 4 = .ok (.ifCond .ne 6, 3) := by decide +kernel
theorem dX11_thing_7 : decode cX11_thing 7 = .ok (.bipush (-101), 2) := by decide +kernel
theorem dX11_thing_9 : decode cX11_thing 9 = .ok (.ireturn, 1) := by decide +kernel
theorem dX11_thing_10 : decode cX11_thing 10 = .ok (.iload_n 1, 1) := by decide +kernel
theorem dX11_thing_11 : decode cX11_thing 11 = .ok (.invokestatic 131, 3) := by decide +kernel
theorem dX11_thing_14 : decode cX11_thing 14 = .ok (.ifCond .eq 14, 3) := by decide +kernel
theorem dX11_thing_17 : decode cX11_thing 17 = .ok (.iload_n 2, 1) := by decide +kernel
theorem dX11_thing_18 : decode cX11_thing 18 = .ok (.iconst 1, 1) := by decide +kernel
theorem dX11_thing_19 : decode cX11_thing 19 = .ok (.if_icmp .lt 9, 3) := by decide +kernel
theorem dX11_thing_22 : decode cX11_thing 22 = .ok (.iload_n 2, 1) := by decide +kernel
theorem dX11_thing_23 : decode cX11_thing 23 = .ok (.bipush 20, 2) := by decide +kernel
theorem dX11_thing_25 : decode cX11_thing 25 = .ok (.if_icmp .le 6, 3) := by decide +kernel
theorem dX11_thing_28 : decode cX11_thing 28 = .ok (.bipush (-102), 2) := by decide +kernel
theorem dX11_thing_30 : decode cX11_thing 30 = .ok (.ireturn, 1) := by decide +kernel
theorem dX11_thing_31 : decode cX11_thing 31 = .ok (.aload_n 0, 1) := by decide +kernel
theorem dX11_thing_32 : decode cX11_thing 32 = .ok (.getfield 19, 3) := by decide +kernel
theorem dX11_thing_35 : decode cX11_thing 35 = .ok (.invokevirtual 110, 3) := by decide +kernel
theorem dX11_thing_38 : decode cX11_thing 38 = .ok (.ifCond .ne 6, 3) := by decide +kernel
theorem dX11_thing_41 : decode cX11_thing 41 = .ok (.bipush (-103), 2) := by decide +kernel
theorem dX11_thing_43 : decode cX11_thing 43 = .ok (.ireturn, 1) := by decide +kernel
theorem dX11_thing_44 : decode cX11_thing 44 = .ok (.aload_n 0, 1) := by decide +kernel
theorem dX11_thing_45 : decode cX11_thing 45 = .ok (.getfield 26, 3) := by decide +kernel
theorem dX11_thing_48 : decode cX11_thing 48 = .ok (.invokevirtual 134, 3) := by decide +kernel
theorem dX11_thing_51 : decode cX11_thing 51 = .ok (.ifCond .eq 6, 3) := by decide +kernel
theorem dX11_thing_54 : decode cX11_thing 54 = .ok (.bipush (-104), 2) := by decide +kernel
theorem dX11_thing_56 : decode cX11_thing 56 = .ok (.ireturn, 1) := by decide +kernel
theorem dX11_thing_57 : decode cX11_thing 57 = .ok (.aload_n 0, 1) := by decide +kernel
theorem dX11_thing_58 : decode cX11_thing 58 = .ok (.getfield 26, 3) := by decide +kernel
theorem dX11_thing_61 : decode cX11_thing 61 = .ok (.iload_n 1, 1) := by decide +kernel
theorem dX11_thing_62 : decode cX11_thing 62 = .ok (.iload_n 2, 1) := by decide +kernel
theorem dX11_thing_63 : decode cX11_thing 63 = .ok (.iload_n 3, 1) := by decide +kernel
theorem dX11_thing_64 : decode cX11_thing 64 = .ok (.aload_n 0, 1) := by decide +kernel
theorem dX11_thing_65 : decode cX11_thing 65 = .ok (.getfield 19, 3) := by decide +kernel
theorem dX11_thing_68 : decode cX11_thing 68 = .ok (.getfield 113, 3) := by decide +kernel
theorem dX11_thing_71 : decode cX11_thing 71 = .ok (.invokestatic 137, 3) := by decide +kernel
theorem dX11_thing_74 : decode cX11_thing 74 = .ok (.invokevirtual 141, 3) := by decide +kernel
theorem dX11_thing_77 : decode cX11_thing 77 = .ok (.ireturn, 1) := by decide +kernel
theorem dX11_about_0 : decode cX11_about 0 = .ok (.aload_n 0, 1) := by decide +kernel
theorem dX11_about_1 : decode cX11_about 1 = .ok (.getfield 26, 3) := by decide +kernel
theorem dX11_about_4 : decode cX11_about 4 = .ok (.iload_n 1, 1) := by decide +kernel
theorem dX11_about_5 : decode cX11_about 5 = .ok (.invokevirtual 144, 3) := by decide +kernel
theorem dX11_about_8 : decode cX11_about 8 = .ok (.astore_n 3, 1) := by decide +kernel
theorem dX11_about_9 : decode cX11_about 9 = .ok (.aload_n 3, 1) := by decide +kernel
theorem dX11_about_10 : decode cX11_about 10 = .ok (.ifnonnull 6, 3) := by decide +kernel
theorem dX11_about_13 : decode cX11_about 13 = .ok (.bipush (-101), 2) := by decide +kernel
theorem dX11_about_15 : decode cX11_about 15 = .ok (.ireturn, 1) := by decide +kernel
theorem dX11_about_16 : decode cX11_about 16 = .ok (.iload_n 2, 1) := by decide +kernel
theorem dX11_about_17 : decode cX11_about 17 = .ok (.tableswitch 74 0 4 #[35, 40, 45, 50, 62], 35) := by decide +kernel
theorem dX11_about_52 : decode cX11_about 52 = .ok (.aload_n 3, 1) := by decide +kernel
theorem dX11_about_53 : decode cX11_about 53 = .ok (.invokevirtual 148, 3) := by decide +kernel
theorem dX11_about_56 : decode cX11_about 56 = .ok (.ireturn, 1) := by decide +kernel
theorem dX11_about_57 : decode cX11_about 57 = .ok (.aload_n 3, 1) := by decide +kernel
theorem dX11_about_58 : decode cX11_about 58 = .ok (.getfield 153, 3) := by decide +kernel
theorem dX11_about_61 : decode cX11_about 61 = .ok (.ireturn, 1) := by decide +kernel
theorem dX11_about_62 : decode cX11_about 62 = .ok (.aload_n 3, 1) := by decide +kernel
theorem dX11_about_63 : decode cX11_about 63 = .ok (.getfield 156, 3) := by decide +kernel
theorem dX11_about_66 : decode cX11_about 66 = .ok (.ireturn, 1) := by decide +kernel
theorem dX11_about_67 : decode cX11_about 67 = .ok (.aload_n 3, 1) := by decide +kernel
theorem dX11_about_68 : decode cX11_about 68 = .ok (.aload_n 0, 1) := by decide +kernel
theorem dX11_about_69 : decode cX11_about 69 = .ok (.getfield 19, 3) := by decide +kernel
theorem dX11_about_72 : decode cX11_about 72 = .ok (.getfield 113, 3) := by decide +kernel
theorem dX11_about_75 : decode cX11_about 75 = .ok (.invokevirtual 159, 3) := by decide +kernel
theorem dX11_about_78 : decode cX11_about 78 = .ok (.ireturn, 1) := by decide +kernel
theorem dX11_about_79 : decode cX11_about 79 = .ok (.aload_n 3, 1) := by decide +kernel
theorem dX11_about_80 : decode cX11_about 80 = .ok (.aload_n 0, 1) := by decide +kernel
theorem dX11_about_81 : decode cX11_about 81 = .ok (.getfield 19, 3) := by decide +kernel
theorem dX11_about_84 : decode cX11_about 84 = .ok (.getfield 113, 3) := by decide +kernel
theorem dX11_about_87 : decode cX11_about 87 = .ok (.invokevirtual 162, 3) := by decide +kernel
theorem dX11_about_90 : decode cX11_about 90 = .ok (.ireturn, 1) := by decide +kernel
theorem dX11_about_91 : decode cX11_about 91 = .ok (.bipush (-102), 2) := by decide +kernel
theorem dX11_about_93 : decode cX11_about 93 = .ok (.ireturn, 1) := by decide +kernel
theorem dX11_as_0 : decode cX11_as 0 = .ok (.aload_n 0, 1) := by decide +kernel
theorem dX11_as_1 : decode cX11_as 1 = .ok (.getfield 26, 3) := by decide +kernel
theorem dX11_as_4 : decode cX11_as 4 = .ok (.iload_n 1, 1) := by decide +kernel
theorem dX11_as_5 : decode cX11_as 5 = .ok (.invokevirtual 144, 3) := by decide +kernel
theorem dX11_as_8 : decode cX11_as 8 = .ok (.astore_n 3, 1) := by decide +kernel
theorem dX11_as_9 : decode cX11_as 9 = .ok (.aload_n 3, 1) := by decide +kernel
theorem dX11_as_10 : decode cX11_as 10 = .ok (.ifnonnull 6, 3) := by decide +kernel
theorem dX11_as_13 : decode cX11_as 13 = .ok (.bipush (-101), 2) := by decide +kernel
theorem dX11_as_15 : decode cX11_as 15 = .ok (.ireturn, 1) := by decide +kernel
theorem dX11_as_16 : decode cX11_as 16 = .ok (.iload_n 2, 1) := by decide +kernel
theorem dX11_as_17 : decode cX11_as 17 = .ok (.invokestatic 131, 3) := by decide +kernel
theorem dX11_as_20 : decode cX11_as 20 = .ok (.ifCond .ne 6, 3) := by decide +kernel
theorem dX11_as_23 : decode cX11_as 23 = .ok (.bipush (-102), 2) := by decide +kernel
theorem dX11_as_25 : decode cX11_as 25 = .ok (.ireturn, 1) := by decide +kernel
theorem dX11_as_26 : decode cX11_as 26 = .ok (.aload_n 3, 1) := by decide +kernel
theorem dX11_as_27 : decode cX11_as 27 = .ok (.iload_n 2, 1) := by decide +kernel
theorem dX11_as_28 : decode cX11_as 28 = .ok (.invokestatic 165, 3) := by decide +kernel
theorem dX11_as_31 : decode cX11_as 31 = .ok (.ifCond .eq 7, 3) := by decide +kernel
theorem dX11_as_34 : decode cX11_as 34 = .ok (.iload_n 1, 1) := by decide +kernel
theorem dX11_as_35 : decode cX11_as 35 = .ok (.goto 4, 3) := by decide +kernel
theorem dX11_as_38 : decode cX11_as 38 = .ok (.iconst (-1), 1) := by decide +kernel
theorem dX11_as_39 : decode cX11_as 39 = .ok (.ireturn, 1) := by decide +kernel
theorem dX11_carry_0 : decode cX11_carry 0 = .ok (.aload_n 0, 1) := by decide +kernel
theorem dX11_carry_1 : decode cX11_carry 1 = .ok (.getfield 26, 3) := by decide +kernel
theorem dX11_carry_4 : decode cX11_carry 4 = .ok (.iload_n 1, 1) := by decide +kernel
theorem dX11_carry_5 : decode cX11_carry 5 = .ok (.invokevirtual 144, 3) := by decide +kernel
theorem dX11_carry_8 : decode cX11_carry 8 = .ok (.astore_n 2, 1) := by decide +kernel
theorem dX11_carry_9 : decode cX11_carry 9 = .ok (.aload_n 2, 1) := by decide +kernel
theorem dX11_carry_10 : decode cX11_carry 10 = .ok (.ifnonnull 6, 3) := by decide +kernel
theorem dX11_carry_13 : decode cX11_carry 13 = .ok (.bipush (-101), 2) := by decide +kernel
theorem dX11_carry_15 : decode cX11_carry 15 = .ok (.ireturn, 1) := by decide +kernel
theorem dX11_carry_16 : decode cX11_carry 16 = .ok (.aload_n 0, 1) := by decide +kernel
theorem dX11_carry_17 : decode cX11_carry 17 = .ok (.getfield 19, 3) := by decide +kernel
theorem dX11_carry_20 : decode cX11_carry 20 = .ok (.invokevirtual 169, 3) := by decide +kernel
theorem dX11_carry_23 : decode cX11_carry 23 = .ok (.ifCond .eq 17, 3) := by decide +kernel
theorem dX11_carry_26 : decode cX11_carry 26 = .ok (.aload_n 2, 1) := by decide +kernel
theorem dX11_carry_27 : decode cX11_carry 27 = .ok (.aload_n 0, 1) := by decide +kernel
theorem dX11_carry_28 : decode cX11_carry 28 = .ok (.getfield 19, 3) := by decide +kernel
theorem dX11_carry_31 : decode cX11_carry 31 = .ok (.invokevirtual 172, 3) := by decide +kernel
theorem dX11_carry_34 : decode cX11_carry 34 = .ok (.invokevirtual 175, 3) := by decide +kernel
theorem dX11_carry_37 : decode cX11_carry 37 = .ok (.ifCond .ne 6, 3) := by decide +kernel
theorem dX11_carry_40 : decode cX11_carry 40 = .ok (.bipush (-103), 2) := by decide +kernel
theorem dX11_carry_42 : decode cX11_carry 42 = .ok (.ireturn, 1) := by decide +kernel
theorem dX11_carry_43 : decode cX11_carry 43 = .ok (.aload_n 2, 1) := by decide +kernel
theorem dX11_carry_44 : decode cX11_carry 44 = .ok (.iconst 1, 1) := by decide +kernel
theorem dX11_carry_45 : decode cX11_carry 45 = .ok (.aload_n 2, 1) := by decide +kernel
theorem dX11_carry_46 : decode cX11_carry 46 = .ok (.getfield 156, 3) := by decide +kernel
theorem dX11_carry_49 : decode cX11_carry 49 = .ok (.isub, 1) := by decide +kernel
theorem dX11_carry_50 : decode cX11_carry 50 = .ok (.putfield 156, 3) := by decide +kernel
theorem dX11_carry_53 : decode cX11_carry 53 = .ok (.aload_n 2, 1) := by decide +kernel
theorem dX11_carry_54 : decode cX11_carry 54 = .ok (.getfield 156, 3) := by decide +kernel
theorem dX11_carry_57 : decode cX11_carry 57 = .ok (.ireturn, 1) := by decide +kernel
theorem dX11_hour_0 : decode cX11_hour 0 = .ok (.iload_n 1, 1) := by decide +kernel
theorem dX11_hour_1 : decode cX11_hour 1 = .ok (.bipush (-3), 2) := by decide +kernel
theorem dX11_hour_3 : decode cX11_hour 3 = .ok (.if_icmp .lt 8, 3) := by decide +kernel
theorem dX11_hour_6 : decode cX11_hour 6 = .ok (.iload_n 1, 1) := by decide +kernel
theorem dX11_hour_7 : decode cX11_hour 7 = .ok (.iconst 3, 1) := by decide +kernel
theorem dX11_hour_8 : decode cX11_hour 8 = .ok (.if_icmp .le 6, 3) := by decide +kernel
theorem dX11_hour_11 : decode cX11_hour 11 = .ok (.bipush (-102), 2) := by decide +kernel
theorem dX11_hour_13 : decode cX11_hour 13 = .ok (.ireturn, 1) := by decide +kernel
theorem dX11_hour_14 : decode cX11_hour 14 = .ok (.aload_n 0, 1) := by decide +kernel
theorem dX11_hour_15 : decode cX11_hour 15 = .ok (.getfield 19, 3) := by decide +kernel
theorem dX11_hour_18 : decode cX11_hour 18 = .ok (.invokevirtual 169, 3) := by decide +kernel
theorem dX11_hour_21 : decode cX11_hour 21 = .ok (.ifCond .eq 18, 3) := by decide +kernel
theorem dX11_hour_24 : decode cX11_hour 24 = .ok (.aload_n 0, 1) := by decide +kernel
theorem dX11_hour_25 : decode cX11_hour 25 = .ok (.getfield 19, 3) := by decide +kernel
theorem dX11_hour_28 : decode cX11_hour 28 = .ok (.getfield 178, 3) := by decide +kernel
theorem dX11_hour_31 : decode cX11_hour 31 = .ok (.iload_n 1, 1) := by decide +kernel
theorem dX11_hour_32 : decode cX11_hour 32 = .ok (.isub, 1) := by decide +kernel
theorem dX11_hour_33 : decode cX11_hour 33 = .ok (.invokestatic 181, 3) := by decide +kernel
theorem dX11_hour_36 : decode cX11_hour 36 = .ok (.ifCond .ne 6, 3) := by decide +kernel
theorem dX11_hour_39 : decode cX11_hour 39 = .ok (.bipush (-103), 2) := by decide +kernel
theorem dX11_hour_41 : decode cX11_hour 41 = .ok (.ireturn, 1) := by decide +kernel
theorem dX11_hour_42 : decode cX11_hour 42 = .ok (.aload_n 0, 1) := by decide +kernel
theorem dX11_hour_43 : decode cX11_hour 43 = .ok (.getfield 19, 3) := by decide +kernel
theorem dX11_hour_46 : decode cX11_hour 46 = .ok (.iload_n 1, 1) := by decide +kernel
theorem dX11_hour_47 : decode cX11_hour 47 = .ok (.aload_n 0, 1) := by decide +kernel
theorem dX11_hour_48 : decode cX11_hour 48 = .ok (.getfield 26, 3) := by decide +kernel
theorem dX11_hour_51 : decode cX11_hour 51 = .ok (.invokevirtual 184, 3) := by decide +kernel
theorem dX11_hour_54 : decode cX11_hour 54 = .ok (.aload_n 0, 1) := by decide +kernel
theorem dX11_hour_55 : decode cX11_hour 55 = .ok (.getfield 19, 3) := by decide +kernel
theorem dX11_hour_58 : decode cX11_hour 58 = .ok (.getfield 188, 3) := by decide +kernel
theorem dX11_hour_61 : decode cX11_hour 61 = .ok (.ifCond .eq 7, 3) := by decide +kernel
theorem dX11_hour_64 : decode cX11_hour 64 = .ok (.iconst (-1), 1) := by decide +kernel
theorem dX11_hour_65 : decode cX11_hour 65 = .ok (.goto 10, 3) := by decide +kernel
theorem dX11_hour_68 : decode cX11_hour 68 = .ok (.aload_n 0, 1) := by decide +kernel
theorem dX11_hour_69 : decode cX11_hour 69 = .ok (.getfield 19, 3) := by decide +kernel
theorem dX11_hour_72 : decode cX11_hour 72 = .ok (.getfield 178, 3) := by decide +kernel
theorem dX11_hour_75 : decode cX11_hour 75 = .ok (.ireturn, 1) := by decide +kernel
theorem dX11_caught_0 : decode cX11_caught 0 = .ok (.iload_n 1, 1) := by decide +kernel
theorem dX11_caught_1 : decode cX11_caught 1 = .ok (.iconst 1, 1) := by decide +kernel
theorem dX11_caught_2 : decode cX11_caught 2 = .ok (.if_icmp .lt 9, 3) := by decide +kernel
theorem dX11_caught_5 : decode cX11_caught 5 = .ok (.iload_n 1, 1) := by decide +kernel
theorem dX11_caught_6 : decode cX11_caught 6 = .ok (.bipush 99, 2) := by decide +kernel
theorem dX11_caught_8 : decode cX11_caught 8 = .ok (.if_icmp .le 6, 3) := by decide +kernel
theorem dX11_caught_11 : decode cX11_caught 11 = .ok (.bipush (-102), 2) := by decide +kernel
theorem dX11_caught_13 : decode cX11_caught 13 = .ok (.ireturn, 1) := by decide +kernel
theorem dX11_caught_14 : decode cX11_caught 14 = .ok (.aload_n 0, 1) := by decide +kernel
theorem dX11_caught_15 : decode cX11_caught 15 = .ok (.getfield 19, 3) := by decide +kernel
theorem dX11_caught_18 : decode cX11_caught 18 = .ok (.invokevirtual 169, 3) := by decide +kernel
theorem dX11_caught_21 : decode cX11_caught 21 = .ok (.ifCond .ne 6, 3) := by decide +kernel
theorem dX11_caught_24 : decode cX11_caught 24 = .ok (.bipush (-103), 2) := by decide +kernel
theorem dX11_caught_26 : decode cX11_caught 26 = .ok (.ireturn, 1) := by decide +kernel
theorem dX11_caught_27 : decode cX11_caught 27 = .ok (.aload_n 0, 1) := by decide +kernel
theorem dX11_caught_28 : decode cX11_caught 28 = .ok (.getfield 19, 3) := by decide +kernel
theorem dX11_caught_31 : decode cX11_caught 31 = .ok (.invokevirtual 172, 3) := by decide +kernel
theorem dX11_caught_34 : decode cX11_caught 34 = .ok (.istore_n 2, 1) := by decide +kernel
theorem dX11_caught_35 : decode cX11_caught 35 = .ok (.bipush 90, 2) := by decide +kernel
theorem dX11_caught_37 : decode cX11_caught 37 = .ok (.iload_n 1, 1) := by decide +kernel
theorem dX11_caught_38 : decode cX11_caught 38 = .ok (.iload_n 2, 1) := by decide +kernel
theorem dX11_caught_39 : decode cX11_caught 39 = .ok (.imul, 1) := by decide +kernel
theorem dX11_caught_40 : decode cX11_caught 40 = .ok (.isub, 1) := by decide +kernel
theorem dX11_caught_41 : decode cX11_caught 41 = .ok (.sipush 360, 3) := by decide +kernel
theorem dX11_caught_44 : decode cX11_caught 44 = .ok (.invokestatic 208, 3) := by decide +kernel
theorem dX11_caught_47 : decode cX11_caught 47 = .ok (.istore_n 3, 1) := by decide +kernel
theorem dX11_caught_48 : decode cX11_caught 48 = .ok (.iconst 0, 1) := by decide +kernel
theorem dX11_caught_49 : decode cX11_caught 49 = .ok (.istore 4, 2) := by decide +kernel
theorem dX11_caught_51 : decode cX11_caught 51 = .ok (.iload 4, 2) := by decide +kernel
theorem dX11_caught_53 : decode cX11_caught 53 = .ok (.bipush 98, 2) := by decide +kernel
theorem dX11_caught_55 : decode cX11_caught 55 = .ok (.if_icmp .gt 29, 3) := by decide +kernel
theorem dX11_caught_58 : decode cX11_caught 58 = .ok (.aload_n 0, 1) := by decide +kernel
theorem dX11_caught_59 : decode cX11_caught 59 = .ok (.getfield 19, 3) := by decide +kernel
theorem dX11_caught_62 : decode cX11_caught 62 = .ok (.iload 4, 2) := by decide +kernel
theorem dX11_caught_64 : decode cX11_caught 64 = .ok (.invokevirtual 213, 3) := by decide +kernel
theorem dX11_caught_67 : decode cX11_caught 67 = .ok (.iload_n 3, 1) := by decide +kernel
theorem dX11_caught_68 : decode cX11_caught 68 = .ok (.invokestatic 216, 3) := by decide +kernel
theorem dX11_caught_71 : decode cX11_caught 71 = .ok (.iconst 5, 1) := by decide +kernel
theorem dX11_caught_72 : decode cX11_caught 72 = .ok (.if_icmp .gt 6, 3) := by decide +kernel
theorem dX11_caught_75 : decode cX11_caught 75 = .ok (.iload 4, 2) := by decide +kernel
theorem dX11_caught_77 : decode cX11_caught 77 = .ok (.ireturn, 1) := by decide +kernel
theorem dX11_caught_78 : decode cX11_caught 78 = .ok (.iinc 4 1, 3) := by decide +kernel
theorem dX11_caught_81 : decode cX11_caught 81 = .ok (.goto (-30), 3) := by decide +kernel
theorem dX11_caught_84 : decode cX11_caught 84 = .ok (.iconst (-1), 1) := by decide +kernel
theorem dX11_caught_85 : decode cX11_caught 85 = .ok (.ireturn, 1) := by decide +kernel
theorem dX11_whirls_0 : decode cX11_whirls 0 = .ok (.iload_n 1, 1) := by decide +kernel
theorem dX11_whirls_1 : decode cX11_whirls 1 = .ok (.iconst 1, 1) := by decide +kernel
theorem dX11_whirls_2 : decode cX11_whirls 2 = .ok (.if_icmp .lt 22, 3) := by decide +kernel
theorem dX11_whirls_5 : decode cX11_whirls 5 = .ok (.iload_n 1, 1) := by decide +kernel
theorem dX11_whirls_6 : decode cX11_whirls 6 = .ok (.bipush 60, 2) := by decide +kernel
theorem dX11_whirls_8 : decode cX11_whirls 8 = .ok (.if_icmp .gt 16, 3) := by decide +kernel
theorem dX11_whirls_11 : decode cX11_whirls 11 = .ok (.iload_n 2, 1) := by decide +kernel
theorem dX11_whirls_12 : decode cX11_whirls 12 = .ok (.ifCond .lt 12, 3) := by decide +kernel
theorem dX11_whirls_15 : decode cX11_whirls 15 = .ok (.iload_n 3, 1) := by decide +kernel
theorem dX11_whirls_16 : decode cX11_whirls 16 = .ok (.ifCond .lt 8, 3) := by decide +kernel
theorem dX11_whirls_19 : decode cX11_whirls 19 = .ok (.iload_n 3, 1) := by decide +kernel
theorem dX11_whirls_20 : decode cX11_whirls 20 = .ok (.iconst 3, 1) := by decide +kernel
theorem dX11_whirls_21 : decode cX11_whirls 21 = .ok (.if_icmp .le 6, 3) := by decide +kernel
theorem dX11_whirls_24 : decode cX11_whirls 24 = .ok (.bipush (-102), 2) := by decide +kernel
theorem dX11_whirls_26 : decode cX11_whirls 26 = .ok (.ireturn, 1) := by decide +kernel
theorem dX11_whirls_27 : decode cX11_whirls 27 = .ok (.aload_n 0, 1) := by decide +kernel
theorem dX11_whirls_28 : decode cX11_whirls 28 = .ok (.getfield 19, 3) := by decide +kernel
theorem dX11_whirls_31 : decode cX11_whirls 31 = .ok (.invokevirtual 169, 3) := by decide +kernel
theorem dX11_whirls_34 : decode cX11_whirls 34 = .ok (.ifCond .ne 6, 3) := by decide +kernel
theorem dX11_whirls_37 : decode cX11_whirls 37 = .ok (.bipush (-103), 2) := by decide +kernel
theorem dX11_whirls_39 : decode cX11_whirls 39 = .ok (.ireturn, 1) := by decide +kernel
theorem dX11_whirls_40 : decode cX11_whirls 40 = .ok (.aload_n 0, 1) := by decide +kernel
theorem dX11_whirls_41 : decode cX11_whirls 41 = .ok (.iload_n 1, 1) := by decide +kernel
theorem dX11_whirls_42 : decode cX11_whirls 42 = .ok (.iload_n 2, 1) := by decide +kernel
theorem dX11_whirls_43 : decode cX11_whirls 43 = .ok (.invokevirtual 246, 3) := by decide +kernel
theorem dX11_whirls_46 : decode cX11_whirls 46 = .ok (.istore 4, 2) := by decide +kernel
theorem dX11_whirls_48 : decode cX11_whirls 48 = .ok (.iload_n 3, 1) := by decide +kernel
theorem dX11_whirls_49 : decode cX11_whirls 49 = .ok (.tableswitch 59 0 2 #[27, 35, 43], 27) := by decide +kernel
theorem dX11_whirls_76 : decode cX11_whirls 76 = .ok (.aload_n 0, 1) := by decide +kernel
theorem dX11_whirls_77 : decode cX11_whirls 77 = .ok (.getfield 51, 3) := by decide +kernel
theorem dX11_whirls_80 : decode cX11_whirls 80 = .ok (.getfield 178, 3) := by decide +kernel
theorem dX11_whirls_83 : decode cX11_whirls 83 = .ok (.ireturn, 1) := by decide +kernel
theorem dX11_whirls_84 : decode cX11_whirls 84 = .ok (.aload_n 0, 1) := by decide +kernel
theorem dX11_whirls_85 : decode cX11_whirls 85 = .ok (.getfield 51, 3) := by decide +kernel
theorem dX11_whirls_88 : decode cX11_whirls 88 = .ok (.getfield 249, 3) := by decide +kernel
theorem dX11_whirls_91 : decode cX11_whirls 91 = .ok (.ireturn, 1) := by decide +kernel
theorem dX11_whirls_92 : decode cX11_whirls 92 = .ok (.aload_n 0, 1) := by decide +kernel
theorem dX11_whirls_93 : decode cX11_whirls 93 = .ok (.getfield 51, 3) := by decide +kernel
theorem dX11_whirls_96 : decode cX11_whirls 96 = .ok (.getfield 113, 3) := by decide +kernel
theorem dX11_whirls_99 : decode cX11_whirls 99 = .ok (.aload_n 0, 1) := by decide +kernel
theorem dX11_whirls_100 : decode cX11_whirls 100 = .ok (.getfield 19, 3) := by decide +kernel
theorem dX11_whirls_103 : decode cX11_whirls 103 = .ok (.getfield 113, 3) := by decide +kernel
theorem dX11_whirls_106 : decode cX11_whirls 106 = .ok (.isub, 1) := by decide +kernel
theorem dX11_whirls_107 : decode cX11_whirls 107 = .ok (.ireturn, 1) := by decide +kernel
theorem dX11_whirls_108 : decode cX11_whirls 108 = .ok (.iload 4, 2) := by decide +kernel
theorem dX11_whirls_110 : decode cX11_whirls 110 = .ok (.ireturn, 1) := by decide +kernel
theorem dX11_count_0 : decode cX11_count 0 = .ok (.iload_n 1, 1) := by decide +kernel
theorem dX11_count_1 : decode cX11_count 1 = .ok (.tableswitch 188 0 12 #[67, 75, 83, 91, 103, 111, 127, 135, 143, 159, 167, 175, 180], 67) := by decide +kernel
theorem dX11_count_68 : decode cX11_count 68 = .ok (.aload_n 0, 1) := by decide +kernel
theorem dX11_count_69 : decode cX11_count 69 = .ok (.getfield 19, 3) := by decide +kernel
theorem dX11_count_72 : decode cX11_count 72 = .ok (.getfield 178, 3) := by decide +kernel
theorem dX11_count_75 : decode cX11_count 75 = .ok (.ireturn, 1) := by decide +kernel
theorem dX11_count_76 : decode cX11_count 76 = .ok (.aload_n 0, 1) := by decide +kernel
theorem dX11_count_77 : decode cX11_count 77 = .ok (.getfield 19, 3) := by decide +kernel
theorem dX11_count_80 : decode cX11_count 80 = .ok (.invokevirtual 172, 3) := by decide +kernel
theorem dX11_count_83 : decode cX11_count 83 = .ok (.ireturn, 1) := by decide +kernel
theorem dX11_count_84 : decode cX11_count 84 = .ok (.aload_n 0, 1) := by decide +kernel
theorem dX11_count_85 : decode cX11_count 85 = .ok (.getfield 19, 3) := by decide +kernel
theorem dX11_count_88 : decode cX11_count 88 = .ok (.getfield 104, 3) := by decide +kernel
theorem dX11_count_91 : decode cX11_count 91 = .ok (.ireturn, 1) := by decide +kernel
theorem dX11_count_92 : decode cX11_count 92 = .ok (.aload_n 0, 1) := by decide +kernel
theorem dX11_count_93 : decode cX11_count 93 = .ok (.getfield 19, 3) := by decide +kernel
theorem dX11_count_96 : decode cX11_count 96 = .ok (.aload_n 0, 1) := by decide +kernel
theorem dX11_count_97 : decode cX11_count 97 = .ok (.getfield 26, 3) := by decide +kernel
theorem dX11_count_100 : decode cX11_count 100 = .ok (.invokevirtual 232, 3) := by decide +kernel
theorem dX11_count_103 : decode cX11_count 103 = .ok (.ireturn, 1) := by decide +kernel
theorem dX11_count_104 : decode cX11_count 104 = .ok (.aload_n 0, 1) := by decide +kernel
theorem dX11_count_105 : decode cX11_count 105 = .ok (.getfield 19, 3) := by decide +kernel
theorem dX11_count_108 : decode cX11_count 108 = .ok (.getfield 260, 3) := by decide +kernel
theorem dX11_count_111 : decode cX11_count 111 = .ok (.ireturn, 1) := by decide +kernel
theorem dX11_count_112 : decode cX11_count 112 = .ok (.aload_n 0, 1) := by decide +kernel
theorem dX11_count_113 : decode cX11_count 113 = .ok (.getfield 19, 3) := by decide +kernel
theorem dX11_count_116 : decode cX11_count 116 = .ok (.getfield 263, 3) := by decide +kernel
theorem dX11_count_119 : decode cX11_count 119 = .ok (.ifCond .eq 7, 3) := by decide +kernel
theorem dX11_count_122 : decode cX11_count 122 = .ok (.iconst 1, 1) := by decide +kernel
theorem dX11_count_123 : decode cX11_count 123 = .ok (.goto 4, 3) := by decide +kernel
theorem dX11_count_126 : decode cX11_count 126 = .ok (.iconst 0, 1) := by decide +kernel
theorem dX11_count_127 : decode cX11_count 127 = .ok (.ireturn, 1) := by decide +kernel
theorem dX11_count_128 : decode cX11_count 128 = .ok (.aload_n 0, 1) := by decide +kernel
theorem dX11_count_129 : decode cX11_count 129 = .ok (.getfield 19, 3) := by decide +kernel
theorem dX11_count_132 : decode cX11_count 132 = .ok (.getfield 249, 3) := by decide +kernel
theorem dX11_count_135 : decode cX11_count 135 = .ok (.ireturn, 1) := by decide +kernel
theorem dX11_count_136 : decode cX11_count 136 = .ok (.aload_n 0, 1) := by decide +kernel
theorem dX11_count_137 : decode cX11_count 137 = .ok (.getfield 19, 3) := by decide +kernel
theorem dX11_count_140 : decode cX11_count 140 = .ok (.getfield 113, 3) := by decide +kernel
theorem dX11_count_143 : decode cX11_count 143 = .ok (.ireturn, 1) := by decide +kernel
theorem dX11_count_144 : decode cX11_count 144 = .ok (.aload_n 0, 1) := by decide +kernel
theorem dX11_count_145 : decode cX11_count 145 = .ok (.getfield 19, 3) := by decide +kernel
theorem dX11_count_148 : decode cX11_count 148 = .ok (.getfield 188, 3) := by decide +kernel
theorem dX11_count_151 : decode cX11_count 151 = .ok (.ifCond .eq 7, 3) := by decide +kernel
theorem dX11_count_154 : decode cX11_count 154 = .ok (.iconst 1, 1) := by decide +kernel
theorem dX11_count_155 : decode cX11_count 155 = .ok (.goto 4, 3) := by decide +kernel
theorem dX11_count_158 : decode cX11_count 158 = .ok (.iconst 0, 1) := by decide +kernel
theorem dX11_count_159 : decode cX11_count 159 = .ok (.ireturn, 1) := by decide +kernel
theorem dX11_count_160 : decode cX11_count 160 = .ok (.aload_n 0, 1) := by decide +kernel
theorem dX11_count_161 : decode cX11_count 161 = .ok (.getfield 26, 3) := by decide +kernel
theorem dX11_count_164 : decode cX11_count 164 = .ok (.getfield 266, 3) := by decide +kernel
theorem dX11_count_167 : decode cX11_count 167 = .ok (.ireturn, 1) := by decide +kernel
theorem dX11_count_168 : decode cX11_count 168 = .ok (.aload_n 0, 1) := by decide +kernel
theorem dX11_count_169 : decode cX11_count 169 = .ok (.getfield 10, 3) := by decide +kernel
theorem dX11_count_172 : decode cX11_count 172 = .ok (.getfield 73, 3) := by decide +kernel
theorem dX11_count_175 : decode cX11_count 175 = .ok (.ireturn, 1) := by decide +kernel
theorem dX11_count_176 : decode cX11_count 176 = .ok (.aload_n 0, 1) := by decide +kernel
theorem dX11_count_177 : decode cX11_count 177 = .ok (.getfield 101, 3) := by decide +kernel
theorem dX11_count_180 : decode cX11_count 180 = .ok (.ireturn, 1) := by decide +kernel
theorem dX11_count_181 : decode cX11_count 181 = .ok (.aload_n 0, 1) := by decide +kernel
theorem dX11_count_182 : decode cX11_count 182 = .ok (.getfield 33, 3) := by decide +kernel
theorem dX11_count_185 : decode cX11_count 185 = .ok (.getfield 267, 3) := by decide +kernel
theorem dX11_count_188 : decode cX11_count 188 = .ok (.ireturn, 1) := by decide +kernel
theorem dX11_count_189 : decode cX11_count 189 = .ok (.bipush (-102), 2) := by decide +kernel
theorem dX11_count_191 : decode cX11_count 191 = .ok (.ireturn, 1) := by decide +kernel
theorem dX11_tryHours_0 : decode cX11_tryHours 0 = .ok (.aload_n 0, 1) := by decide +kernel
theorem dX11_tryHours_1 : decode cX11_tryHours 1 = .ok (.getfield 51, 3) := by decide +kernel
theorem dX11_tryHours_4 : decode cX11_tryHours 4 = .ok (.aload_n 0, 1) := by decide +kernel
theorem dX11_tryHours_5 : decode cX11_tryHours 5 = .ok (.getfield 19, 3) := by decide +kernel
theorem dX11_tryHours_8 : decode cX11_tryHours 8 = .ok (.invokevirtual 250, 3) := by decide +kernel
theorem dX11_tryHours_11 : decode cX11_tryHours 11 = .ok (.iload_n 2, 1) := by decide +kernel
theorem dX11_tryHours_12 : decode cX11_tryHours 12 = .ok (.istore_n 3, 1) := by decide +kernel
theorem dX11_tryHours_13 : decode cX11_tryHours 13 = .ok (.iconst 0, 1) := by decide +kernel
theorem dX11_tryHours_14 : decode cX11_tryHours 14 = .ok (.istore 4, 2) := by decide +kernel
theorem dX11_tryHours_16 : decode cX11_tryHours 16 = .ok (.iload 4, 2) := by decide +kernel
theorem dX11_tryHours_18 : decode cX11_tryHours 18 = .ok (.iload_n 1, 1) := by decide +kernel
theorem dX11_tryHours_19 : decode cX11_tryHours 19 = .ok (.if_icmp .ge 70, 3) := by decide +kernel
theorem dX11_tryHours_22 : decode cX11_tryHours 22 = .ok (.aload_n 0, 1) := by decide +kernel
theorem dX11_tryHours_23 : decode cX11_tryHours 23 = .ok (.getfield 51, 3) := by decide +kernel
theorem dX11_tryHours_26 : decode cX11_tryHours 26 = .ok (.getfield 188, 3) := by decide +kernel
theorem dX11_tryHours_29 : decode cX11_tryHours 29 = .ok (.ifCond .ne 60, 3) := by decide +kernel
theorem dX11_tryHours_32 : decode cX11_tryHours 32 = .ok (.iload_n 3, 1) := by decide +kernel
theorem dX11_tryHours_33 : decode cX11_tryHours 33 = .ok (.invokestatic 307, 3) := by decide +kernel
theorem dX11_tryHours_36 : decode cX11_tryHours 36 = .ok (.istore_n 3, 1) := by decide +kernel
theorem dX11_tryHours_37 : decode cX11_tryHours 37 = .ok (.iload_n 3, 1) := by decide +kernel
theorem dX11_tryHours_38 : decode cX11_tryHours 38 = .ok (.ldc_w 310, 3) := by decide +kernel
theorem dX11_tryHours_41 : decode cX11_tryHours 41 = .ok (.idiv, 1) := by decide +kernel
theorem dX11_tryHours_42 : decode cX11_tryHours 42 = .ok (.bipush 7, 2) := by decide +kernel
theorem dX11_tryHours_44 : decode cX11_tryHours 44 = .ok (.irem, 1) := by decide +kernel
theorem dX11_tryHours_45 : decode cX11_tryHours 45 = .ok (.invokestatic 311, 3) := by decide +kernel
theorem dX11_tryHours_48 : decode cX11_tryHours 48 = .ok (.istore 5, 2) := by decide +kernel
theorem dX11_tryHours_50 : decode cX11_tryHours 50 = .ok (.aload_n 0, 1) := by decide +kernel
theorem dX11_tryHours_51 : decode cX11_tryHours 51 = .ok (.getfield 51, 3) := by decide +kernel
theorem dX11_tryHours_54 : decode cX11_tryHours 54 = .ok (.aload_n 0, 1) := by decide +kernel
theorem dX11_tryHours_55 : decode cX11_tryHours 55 = .ok (.getfield 51, 3) := by decide +kernel
theorem dX11_tryHours_58 : decode cX11_tryHours 58 = .ok (.getfield 178, 3) := by decide +kernel
theorem dX11_tryHours_61 : decode cX11_tryHours 61 = .ok (.iload 5, 2) := by decide +kernel
theorem dX11_tryHours_63 : decode cX11_tryHours 63 = .ok (.isub, 1) := by decide +kernel
theorem dX11_tryHours_64 : decode cX11_tryHours 64 = .ok (.invokestatic 181, 3) := by decide +kernel
theorem dX11_tryHours_67 : decode cX11_tryHours 67 = .ok (.ifCond .eq 8, 3) := by decide +kernel
theorem dX11_tryHours_70 : decode cX11_tryHours 70 = .ok (.iload 5, 2) := by decide +kernel
theorem dX11_tryHours_72 : decode cX11_tryHours 72 = .ok (.goto 4, 3) := by decide +kernel
theorem dX11_tryHours_75 : decode cX11_tryHours 75 = .ok (.iconst 0, 1) := by decide +kernel
theorem dX11_tryHours_76 : decode cX11_tryHours 76 = .ok (.aload_n 0, 1) := by decide +kernel
theorem dX11_tryHours_77 : decode cX11_tryHours 77 = .ok (.getfield 26, 3) := by decide +kernel
theorem dX11_tryHours_80 : decode cX11_tryHours 80 = .ok (.invokevirtual 184, 3) := by decide +kernel
theorem dX11_tryHours_83 : decode cX11_tryHours 83 = .ok (.iinc 4 1, 3) := by decide +kernel
theorem dX11_tryHours_86 : decode cX11_tryHours 86 = .ok (.goto (-70), 3) := by decide +kernel
theorem dX11_tryHours_89 : decode cX11_tryHours 89 = .ok (.iload_n 3, 1) := by decide +kernel
theorem dX11_tryHours_90 : decode cX11_tryHours 90 = .ok (.ireturn, 1) := by decide +kernel
theorem dX11_nextSeed_0 : decode cX11_nextSeed 0 = .ok (.ldc2_w 314, 3) := by decide +kernel
theorem dX11_nextSeed_3 : decode cX11_nextSeed 3 = .ok (.iload_n 0, 1) := by decide +kernel
theorem dX11_nextSeed_4 : decode cX11_nextSeed 4 = .ok (.i2l, 1) := by decide +kernel
theorem dX11_nextSeed_5 : decode cX11_nextSeed 5 = .ok (.lmul, 1) := by decide +kernel
theorem dX11_nextSeed_6 : decode cX11_nextSeed 6 = .ok (.ldc2_w 316, 3) := by decide +kernel
theorem dX11_nextSeed_9 : decode cX11_nextSeed 9 = .ok (.ladd, 1) := by decide +kernel
theorem dX11_nextSeed_10 : decode cX11_nextSeed 10 = .ok (.ldc2_w 318, 3) := by decide +kernel
theorem dX11_nextSeed_13 : decode cX11_nextSeed 13 = .ok (.lrem, 1) := by decide +kernel
theorem dX11_nextSeed_14 : decode cX11_nextSeed 14 = .ok (.l2i, 1) := by decide +kernel
theorem dX11_nextSeed_15 : decode cX11_nextSeed 15 = .ok (.ireturn, 1) := by decide +kernel
theorem dX11_byteOf_0 : decode cX11_byteOf 0 = .ok (.lload_n 0, 1) := by decide +kernel
theorem dX11_byteOf_1 : decode cX11_byteOf 1 = .ok (.bipush 8, 2) := by decide +kernel
theorem dX11_byteOf_3 : decode cX11_byteOf 3 = .ok (.iload_n 2, 1) := by decide +kernel
theorem dX11_byteOf_4 : decode cX11_byteOf 4 = .ok (.imul, 1) := by decide +kernel
theorem dX11_byteOf_5 : decode cX11_byteOf 5 = .ok (.lushr, 1) := by decide +kernel
theorem dX11_byteOf_6 : decode cX11_byteOf 6 = .ok (.l2i, 1) := by decide +kernel
theorem dX11_byteOf_7 : decode cX11_byteOf 7 = .ok (.sipush 255, 3) := by decide +kernel
theorem dX11_byteOf_10 : decode cX11_byteOf 10 = .ok (.iand, 1) := by decide +kernel
theorem dX11_byteOf_11 : decode cX11_byteOf 11 = .ok (.ireturn, 1) := by decide +kernel
theorem dX11_lettersIn_0 : decode cX11_lettersIn 0 = .ok (.iconst 0, 1) := by decide +kernel
theorem dX11_lettersIn_1 : decode cX11_lettersIn 1 = .ok (.istore_n 2, 1) := by decide +kernel
theorem dX11_lettersIn_2 : decode cX11_lettersIn 2 = .ok (.iconst 0, 1) := by decide +kernel
theorem dX11_lettersIn_3 : decode cX11_lettersIn 3 = .ok (.istore_n 3, 1) := by decide +kernel
theorem dX11_lettersIn_4 : decode cX11_lettersIn 4 = .ok (.iconst 0, 1) := by decide +kernel
theorem dX11_lettersIn_5 : decode cX11_lettersIn 5 = .ok (.istore 4, 2) := by decide +kernel
theorem dX11_lettersIn_7 : decode cX11_lettersIn 7 = .ok (.iload 4, 2) := by decide +kernel
theorem dX11_lettersIn_9 : decode cX11_lettersIn 9 = .ok (.bipush 8, 2) := by decide +kernel
theorem dX11_lettersIn_11 : decode cX11_lettersIn 11 = .ok (.if_icmp .ge 48, 3) := by decide +kernel
theorem dX11_lettersIn_14 : decode cX11_lettersIn 14 = .ok (.lload_n 0, 1) := by decide +kernel
theorem dX11_lettersIn_15 : decode cX11_lettersIn 15 = .ok (.iload 4, 2) := by decide +kernel
theorem dX11_lettersIn_17 : decode cX11_lettersIn 17 = .ok (.invokestatic 65, 3) := by decide +kernel
theorem dX11_lettersIn_20 : decode cX11_lettersIn 20 = .ok (.istore 5, 2) := by decide +kernel
theorem dX11_lettersIn_22 : decode cX11_lettersIn 22 = .ok (.iload 5, 2) := by decide +kernel
theorem dX11_lettersIn_24 : decode cX11_lettersIn 24 = .ok (.bipush 126, 2) := by decide +kernel
theorem dX11_lettersIn_26 : decode cX11_lettersIn 26 = .ok (.if_icmp .gt 12, 3) := by decide +kernel
theorem dX11_lettersIn_29 : decode cX11_lettersIn 29 = .ok (.iload_n 3, 1) := by decide +kernel
theorem dX11_lettersIn_30 : decode cX11_lettersIn 30 = .ok (.ifCond .eq 10, 3) := by decide +kernel
theorem dX11_lettersIn_33 : decode cX11_lettersIn 33 = .ok (.iload 5, 2) := by decide +kernel
theorem dX11_lettersIn_35 : decode cX11_lettersIn 35 = .ok (.ifCond .eq 5, 3) := by decide +kernel
theorem dX11_lettersIn_38 : decode cX11_lettersIn 38 = .ok (.iconst (-1), 1) := by decide +kernel
theorem dX11_lettersIn_39 : decode cX11_lettersIn 39 = .ok (.ireturn, 1) := by decide +kernel
theorem dX11_lettersIn_40 : decode cX11_lettersIn 40 = .ok (.iload 5, 2) := by decide +kernel
theorem dX11_lettersIn_42 : decode cX11_lettersIn 42 = .ok (.ifCond .ne 8, 3) := by decide +kernel
theorem dX11_lettersIn_45 : decode cX11_lettersIn 45 = .ok (.iconst 1, 1) := by decide +kernel
theorem dX11_lettersIn_46 : decode cX11_lettersIn 46 = .ok (.istore_n 3, 1) := by decide +kernel
theorem dX11_lettersIn_47 : decode cX11_lettersIn 47 = .ok (.goto 6, 3) := by decide +kernel
theorem dX11_lettersIn_50 : decode cX11_lettersIn 50 = .ok (.iinc 2 1, 3) := by decide +kernel
theorem dX11_lettersIn_53 : decode cX11_lettersIn 53 = .ok (.iinc 4 1, 3) := by decide +kernel
theorem dX11_lettersIn_56 : decode cX11_lettersIn 56 = .ok (.goto (-49), 3) := by decide +kernel
theorem dX11_lettersIn_59 : decode cX11_lettersIn 59 = .ok (.iload_n 2, 1) := by decide +kernel
theorem dX11_lettersIn_60 : decode cX11_lettersIn 60 = .ok (.ireturn, 1) := by decide +kernel
theorem dX11_isCabin_0 : decode cX11_isCabin 0 = .ok (.iload_n 0, 1) := by decide +kernel
theorem dX11_isCabin_1 : decode cX11_isCabin 1 = .ok (.ifCond .lt 12, 3) := by decide +kernel
theorem dX11_isCabin_4 : decode cX11_isCabin 4 = .ok (.iload_n 0, 1) := by decide +kernel
theorem dX11_isCabin_5 : decode cX11_isCabin 5 = .ok (.iconst 2, 1) := by decide +kernel
theorem dX11_isCabin_6 : decode cX11_isCabin 6 = .ok (.if_icmp .ge 7, 3) := by decide +kernel
theorem dX11_isCabin_9 : decode cX11_isCabin 9 = .ok (.iconst 1, 1) := by decide +kernel
theorem dX11_isCabin_10 : decode cX11_isCabin 10 = .ok (.goto 4, 3) := by decide +kernel
theorem dX11_isCabin_13 : decode cX11_isCabin 13 = .ok (.iconst 0, 1) := by decide +kernel
theorem dX11_isCabin_14 : decode cX11_isCabin 14 = .ok (.ireturn, 1) := by decide +kernel
theorem dX11_isKind_0 : decode cX11_isKind 0 = .ok (.iload_n 0, 1) := by decide +kernel
theorem dX11_isKind_1 : decode cX11_isKind 1 = .ok (.ifCond .lt 12, 3) := by decide +kernel
theorem dX11_isKind_4 : decode cX11_isKind 4 = .ok (.iload_n 0, 1) := by decide +kernel
theorem dX11_isKind_5 : decode cX11_isKind 5 = .ok (.iconst 4, 1) := by decide +kernel
theorem dX11_isKind_6 : decode cX11_isKind 6 = .ok (.if_icmp .gt 7, 3) := by decide +kernel
theorem dX11_isKind_9 : decode cX11_isKind 9 = .ok (.iconst 1, 1) := by decide +kernel
theorem dX11_isKind_10 : decode cX11_isKind 10 = .ok (.goto 4, 3) := by decide +kernel
theorem dX11_isKind_13 : decode cX11_isKind 13 = .ok (.iconst 0, 1) := by decide +kernel
theorem dX11_isKind_14 : decode cX11_isKind 14 = .ok (.ireturn, 1) := by decide +kernel
theorem dX11_isLength_0 : decode cX11_isLength 0 = .ok (.iload_n 0, 1) := by decide +kernel
theorem dX11_isLength_1 : decode cX11_isLength 1 = .ok (.bipush 10, 2) := by decide +kernel
theorem dX11_isLength_3 : decode cX11_isLength 3 = .ok (.if_icmp .lt 13, 3) := by decide +kernel
theorem dX11_isLength_6 : decode cX11_isLength 6 = .ok (.iload_n 0, 1) := by decide +kernel
theorem dX11_isLength_7 : decode cX11_isLength 7 = .ok (.bipush 40, 2) := by decide +kernel
theorem dX11_isLength_9 : decode cX11_isLength 9 = .ok (.if_icmp .gt 7, 3) := by decide +kernel
theorem dX11_isLength_12 : decode cX11_isLength 12 = .ok (.iconst 1, 1) := by decide +kernel
theorem dX11_isLength_13 : decode cX11_isLength 13 = .ok (.goto 4, 3) := by decide +kernel
theorem dX11_isLength_16 : decode cX11_isLength 16 = .ok (.iconst 0, 1) := by decide +kernel
theorem dX11_isLength_17 : decode cX11_isLength 17 = .ok (.ireturn, 1) := by decide +kernel
theorem dX11_apartOnCircle_0 : decode cX11_apartOnCircle 0 = .ok (.iload_n 0, 1) := by decide +kernel
theorem dX11_apartOnCircle_1 : decode cX11_apartOnCircle 1 = .ok (.iload_n 1, 1) := by decide +kernel
theorem dX11_apartOnCircle_2 : decode cX11_apartOnCircle 2 = .ok (.isub, 1) := by decide +kernel
theorem dX11_apartOnCircle_3 : decode cX11_apartOnCircle 3 = .ok (.sipush 360, 3) := by decide +kernel
theorem dX11_apartOnCircle_6 : decode cX11_apartOnCircle 6 = .ok (.invokestatic 208, 3) := by decide +kernel
theorem dX11_apartOnCircle_9 : decode cX11_apartOnCircle 9 = .ok (.istore_n 2, 1) := by decide +kernel
theorem dX11_apartOnCircle_10 : decode cX11_apartOnCircle 10 = .ok (.iload_n 2, 1) := by decide +kernel
theorem dX11_apartOnCircle_11 : decode cX11_apartOnCircle 11 = .ok (.sipush 360, 3) := by decide +kernel
theorem dX11_apartOnCircle_14 : decode cX11_apartOnCircle 14 = .ok (.iload_n 2, 1) := by decide +kernel
theorem dX11_apartOnCircle_15 : decode cX11_apartOnCircle 15 = .ok (.isub, 1) := by decide +kernel
theorem dX11_apartOnCircle_16 : decode cX11_apartOnCircle 16 = .ok (.invokestatic 322, 3) := by decide +kernel
theorem dX11_apartOnCircle_19 : decode cX11_apartOnCircle 19 = .ok (.ireturn, 1) := by decide +kernel
theorem dX11_windingOf_0 : decode cX11_windingOf 0 = .ok (.iload_n 0, 1) := by decide +kernel
theorem dX11_windingOf_1 : decode cX11_windingOf 1 = .ok (.iconst 3, 1) := by decide +kernel
theorem dX11_windingOf_2 : decode cX11_windingOf 2 = .ok (.if_icmp .gt 7, 3) := by decide +kernel
theorem dX11_windingOf_5 : decode cX11_windingOf 5 = .ok (.iload_n 0, 1) := by decide +kernel
theorem dX11_windingOf_6 : decode cX11_windingOf 6 = .ok (.goto 6, 3) := by decide +kernel
theorem dX11_windingOf_9 : decode cX11_windingOf 9 = .ok (.iconst 3, 1) := by decide +kernel
theorem dX11_windingOf_10 : decode cX11_windingOf 10 = .ok (.iload_n 0, 1) := by decide +kernel
theorem dX11_windingOf_11 : decode cX11_windingOf 11 = .ok (.isub, 1) := by decide +kernel
theorem dX11_windingOf_12 : decode cX11_windingOf 12 = .ok (.ireturn, 1) := by decide +kernel
theorem dX11_newThing_0 : decode cX11_newThing 0 = .ok (.iload_n 0, 1) := by decide +kernel
theorem dX11_newThing_1 : decode cX11_newThing 1 = .ok (.tableswitch 75 1 4 #[31, 42, 53, 64], 31) := by decide +kernel
theorem dX11_newThing_32 : decode cX11_newThing 32 = .ok (.new 325, 3) := by decide +kernel
theorem dX11_newThing_35 : decode cX11_newThing 35 = .ok (.dup, 1) := by decide +kernel
theorem dX11_newThing_36 : decode cX11_newThing 36 = .ok (.iload_n 1, 1) := by decide +kernel
theorem dX11_newThing_37 : decode cX11_newThing 37 = .ok (.iload_n 2, 1) := by decide +kernel
theorem dX11_newThing_38 : decode cX11_newThing 38 = .ok (.iload_n 3, 1) := by decide +kernel
theorem dX11_newThing_39 : decode cX11_newThing 39 = .ok (.invokespecial 327, 3) := by decide +kernel
theorem dX11_newThing_42 : decode cX11_newThing 42 = .ok (.areturn, 1) := by decide +kernel
theorem dX11_newThing_43 : decode cX11_newThing 43 = .ok (.new 330, 3) := by decide +kernel
theorem dX11_newThing_46 : decode cX11_newThing 46 = .ok (.dup, 1) := by decide +kernel
theorem dX11_newThing_47 : decode cX11_newThing 47 = .ok (.iload_n 1, 1) := by decide +kernel
theorem dX11_newThing_48 : decode cX11_newThing 48 = .ok (.iload_n 2, 1) := by decide +kernel
theorem dX11_newThing_49 : decode cX11_newThing 49 = .ok (.iload_n 3, 1) := by decide +kernel
theorem dX11_newThing_50 : decode cX11_newThing 50 = .ok (.invokespecial 332, 3) := by decide +kernel
theorem dX11_newThing_53 : decode cX11_newThing 53 = .ok (.areturn, 1) := by decide +kernel
theorem dX11_newThing_54 : decode cX11_newThing 54 = .ok (.new 333, 3) := by decide +kernel
theorem dX11_newThing_57 : decode cX11_newThing 57 = .ok (.dup, 1) := by decide +kernel
theorem dX11_newThing_58 : decode cX11_newThing 58 = .ok (.iload_n 1, 1) := by decide +kernel
theorem dX11_newThing_59 : decode cX11_newThing 59 = .ok (.iload_n 2, 1) := by decide +kernel
theorem dX11_newThing_60 : decode cX11_newThing 60 = .ok (.iload_n 3, 1) := by decide +kernel
theorem dX11_newThing_61 : decode cX11_newThing 61 = .ok (.invokespecial 335, 3) := by decide +kernel
theorem dX11_newThing_64 : decode cX11_newThing 64 = .ok (.areturn, 1) := by decide +kernel
theorem dX11_newThing_65 : decode cX11_newThing 65 = .ok (.new 336, 3) := by decide +kernel
theorem dX11_newThing_68 : decode cX11_newThing 68 = .ok (.dup, 1) := by decide +kernel
theorem dX11_newThing_69 : decode cX11_newThing 69 = .ok (.iload_n 1, 1) := by decide +kernel
theorem dX11_newThing_70 : decode cX11_newThing 70 = .ok (.iload_n 2, 1) := by decide +kernel
theorem dX11_newThing_71 : decode cX11_newThing 71 = .ok (.iload_n 3, 1) := by decide +kernel
theorem dX11_newThing_72 : decode cX11_newThing 72 = .ok (.invokespecial 338, 3) := by decide +kernel
theorem dX11_newThing_75 : decode cX11_newThing 75 = .ok (.areturn, 1) := by decide +kernel
theorem dX11_newThing_76 : decode cX11_newThing 76 = .ok (.new 149, 3) := by decide +kernel
theorem dX11_newThing_79 : decode cX11_newThing 79 = .ok (.dup, 1) := by decide +kernel
theorem dX11_newThing_80 : decode cX11_newThing 80 = .ok (.iload_n 1, 1) := by decide +kernel
theorem dX11_newThing_81 : decode cX11_newThing 81 = .ok (.iload_n 2, 1) := by decide +kernel
theorem dX11_newThing_82 : decode cX11_newThing 82 = .ok (.iload_n 3, 1) := by decide +kernel
theorem dX11_newThing_83 : decode cX11_newThing 83 = .ok (.invokespecial 339, 3) := by decide +kernel
theorem dX11_newThing_86 : decode cX11_newThing 86 = .ok (.areturn, 1) := by decide +kernel
theorem dX11_isOfKind_0 : decode cX11_isOfKind 0 = .ok (.iload_n 1, 1) := by decide +kernel
theorem dX11_isOfKind_1 : decode cX11_isOfKind 1 = .ok (.tableswitch 51 1 4 #[31, 36, 41, 46], 31) := by decide +kernel
theorem dX11_isOfKind_32 : decode cX11_isOfKind 32 = .ok (.aload_n 0, 1) := by decide +kernel
theorem dX11_isOfKind_33 : decode cX11_isOfKind 33 = .ok (.instanceof 325, 3) := by decide +kernel
theorem dX11_isOfKind_36 : decode cX11_isOfKind 36 = .ok (.ireturn, 1) := by decide +kernel
theorem dX11_isOfKind_37 : decode cX11_isOfKind 37 = .ok (.aload_n 0, 1) := by decide +kernel
theorem dX11_isOfKind_38 : decode cX11_isOfKind 38 = .ok (.instanceof 330, 3) := by decide +kernel
theorem dX11_isOfKind_41 : decode cX11_isOfKind 41 = .ok (.ireturn, 1) := by decide +kernel
theorem dX11_isOfKind_42 : decode cX11_isOfKind 42 = .ok (.aload_n 0, 1) := by decide +kernel
theorem dX11_isOfKind_43 : decode cX11_isOfKind 43 = .ok (.instanceof 333, 3) := by decide +kernel
theorem dX11_isOfKind_46 : decode cX11_isOfKind 46 = .ok (.ireturn, 1) := by decide +kernel
theorem dX11_isOfKind_47 : decode cX11_isOfKind 47 = .ok (.aload_n 0, 1) := by decide +kernel
theorem dX11_isOfKind_48 : decode cX11_isOfKind 48 = .ok (.instanceof 336, 3) := by decide +kernel
theorem dX11_isOfKind_51 : decode cX11_isOfKind 51 = .ok (.ireturn, 1) := by decide +kernel
theorem dX11_isOfKind_52 : decode cX11_isOfKind 52 = .ok (.iload_n 1, 1) := by decide +kernel
theorem dX11_isOfKind_53 : decode cX11_isOfKind 53 = .ok (.ifCond .ne 7, 3) := by decide +kernel
theorem dX11_isOfKind_56 : decode cX11_isOfKind 56 = .ok (.iconst 1, 1) := by decide +kernel
theorem dX11_isOfKind_57 : decode cX11_isOfKind 57 = .ok (.goto 4, 3) := by decide +kernel
theorem dX11_isOfKind_60 : decode cX11_isOfKind 60 = .ok (.iconst 0, 1) := by decide +kernel
theorem dX11_isOfKind_61 : decode cX11_isOfKind 61 = .ok (.ireturn, 1) := by decide +kernel
end
section
/-! THE STATE: V (object's number, place) an int; J a long of the reference; th the row of things; L the things that were made, tk their class, T their fields -/
abbrev St : Type := (Nat → Nat → Int32) × (Nat → Int64) × (Nat → Option Nat) × List Nat × (Nat → Nat) × (Nat → Nat → Int32)
abbrev sL (σ : St) : List Nat := σ.2.2.2.1
abbrev sK (σ : St) : Nat → Nat := σ.2.2.2.2.1
abbrev sF (σ : St) : Nat → Nat → Int32 := σ.2.2.2.2.2
abbrev sR (σ : St) : Nat → Option Nat := σ.2.2.1
def up2 (V : Nat → Nat → Int32) (a b : Nat) (v : Int32) : Nat → Nat → Int32 := va_up V a (va_up (V a) b v)
def sV (σ : St) (a b : Nat) (v : Int32) : St := (up2 σ.1 a b v, σ.2)
def sJ (σ : St) (a : Nat) (v : Int64) : St := (σ.1, va_up σ.2.1 a v, σ.2.2)
def sH (σ : St) (i : Nat) (r : Option Nat) : St := (σ.1, σ.2.1, va_up σ.2.2.1 i r, σ.2.2.2)
def sT (σ : St) (a j : Nat) (v : Int32) : St := (σ.1, σ.2.1, σ.2.2.1, σ.2.2.2.1, σ.2.2.2.2.1, up2 σ.2.2.2.2.2 a j v)
def sN (σ : St) (a kd : Nat) : St := (σ.1, σ.2.1, σ.2.2.1, σ.2.2.2.1 ++ [a], va_up σ.2.2.2.2.1 a kd, va_up σ.2.2.2.2.2 a (fun _ => 0))
/-- a thing that was made, and of one of the five classes -/
def isT (σ : St) (a : Nat) : Prop := a ∈ σ.2.2.2.1 ∧ (σ.2.2.2.2.1 a = 1 ∨ σ.2.2.2.2.1 a = 3 ∨ σ.2.2.2.2.1 a = 4 ∨ σ.2.2.2.2.1 a = 5 ∨ σ.2.2.2.2.1 a = 9)
def isC (k : Nat) : Prop := k = 3 ∨ k = 16 ∨ k = 17

/-! THE WORLD: twenty fixed cells (18, 19: two rows of the law), and the things -/
abbrev tcell (σ : St) : Nat → va_E := fun a => .inr (σ.2.2.2.2.1 a, [.int (σ.2.2.2.2.2 a 0), .int (σ.2.2.2.2.2 a 1), .int (σ.2.2.2.2.2 a 2)])
def gX (cy : Nat → ClassId) (A : Nat → Nat) (σ : St) : va_W := [(A 0, .inr (11, [.ref (A 1), .ref (A 3), .ref (A 4), .ref (A 7), .ref (A 10), .ref (A 13), .ref (A 16), .ref (A 17), .int (σ.1 0 8), .int (σ.1 0 9)])), (A 1, .inr (7, [.ref (A 2), .int (σ.1 1 1)])), (A 2, .inl (cy 1, 12, .inl (σ.1 2))), (A 3, .inr (0, [.int (σ.1 3 0), .int (σ.1 3 1), .int (σ.1 3 2), .int (σ.1 3 3), .int (σ.1 3 4), .int (σ.1 3 5), .int (σ.1 3 6)])), (A 4, .inr (6, [.ref (A 5), .ref (A 6), .int (σ.1 4 2), .int (σ.1 4 3)])), (A 5, .inl (cy 3, 6, .inr (.inr (.inr (.inr σ.2.2.1))))), (A 6, .inl (cy 2, 6, .inl (σ.1 6))), (A 7, .inr (10, [.ref (A 8), .ref (A 9), .int (σ.1 7 2)])), (A 8, .inl (cy 2, 6, .inl (σ.1 8))), (A 9, .inl (cy 2, 6, .inl (σ.1 9))), (A 10, .inr (2, [.ref (A 11), .ref (A 12), .int (σ.1 10 2), .int (σ.1 10 3), .int (σ.1 10 4), .int (σ.1 10 5), .int (σ.1 10 6)])), (A 11, .inl (cy 2, 6, .inl (σ.1 11))), (A 12, .inl (cy 2, 6, .inl (σ.1 12))), (A 13, .inr (8, [.ref (A 14), .ref (A 15), .int (σ.1 13 2), .int (σ.1 13 3)])), (A 14, .inl (cy 2, 41, .inl (σ.1 14))), (A 15, .inl (cy 2, 41, .inl (σ.1 15))), (A 16, .inr (0, [.int (σ.1 16 0), .int (σ.1 16 1), .int (σ.1 16 2), .int (σ.1 16 3), .int (σ.1 16 4), .int (σ.1 16 5), .int (σ.1 16 6)])), (A 17, .inr (0, [.int (σ.1 17 0), .int (σ.1 17 1), .int (σ.1 17 2), .int (σ.1 17 3), .int (σ.1 17 4), .int (σ.1 17 5), .int (σ.1 17 6)])), (A 18, .inl (cy 2, 32, .inl (σ.1 18))), (A 19, .inl (cy 2, 32, .inl (σ.1 19)))]
def gW (cy : Nat → ClassId) (A : Nat → Nat) (σ : St) : va_W := gX cy A σ ++ va_pl σ.2.2.2.1 (tcell σ)
def gty (cy : Nat → ClassId) : List (ClassId × FieldType) := [(cy 0, .int), (cy 1, .char), (cy 2, .int), (cy 3, .object "TwoOnACable$Thing")]
theorem ga_0 (cy : Nat → ClassId) (A : Nat → Nat) (σ : St) : (gW cy A σ)[0]? = some (A 0, .inr (11, [.ref (A 1), .ref (A 3), .ref (A 4), .ref (A 7), .ref (A 10), .ref (A 13), .ref (A 16), .ref (A 17), .int (σ.1 0 8), .int (σ.1 0 9)])) := rfl
theorem ga_1 (cy : Nat → ClassId) (A : Nat → Nat) (σ : St) : (gW cy A σ)[1]? = some (A 1, .inr (7, [.ref (A 2), .int (σ.1 1 1)])) := rfl
theorem ga_2 (cy : Nat → ClassId) (A : Nat → Nat) (σ : St) : (gW cy A σ)[2]? = some (A 2, .inl (cy 1, 12, .inl (σ.1 2))) := rfl
theorem ga_3 (cy : Nat → ClassId) (A : Nat → Nat) (σ : St) : (gW cy A σ)[3]? = some (A 3, .inr (0, [.int (σ.1 3 0), .int (σ.1 3 1), .int (σ.1 3 2), .int (σ.1 3 3), .int (σ.1 3 4), .int (σ.1 3 5), .int (σ.1 3 6)])) := rfl
theorem ga_4 (cy : Nat → ClassId) (A : Nat → Nat) (σ : St) : (gW cy A σ)[4]? = some (A 4, .inr (6, [.ref (A 5), .ref (A 6), .int (σ.1 4 2), .int (σ.1 4 3)])) := rfl
theorem ga_5 (cy : Nat → ClassId) (A : Nat → Nat) (σ : St) : (gW cy A σ)[5]? = some (A 5, .inl (cy 3, 6, .inr (.inr (.inr (.inr σ.2.2.1))))) := rfl
theorem ga_6 (cy : Nat → ClassId) (A : Nat → Nat) (σ : St) : (gW cy A σ)[6]? = some (A 6, .inl (cy 2, 6, .inl (σ.1 6))) := rfl
theorem ga_7 (cy : Nat → ClassId) (A : Nat → Nat) (σ : St) : (gW cy A σ)[7]? = some (A 7, .inr (10, [.ref (A 8), .ref (A 9), .int (σ.1 7 2)])) := rfl
theorem ga_8 (cy : Nat → ClassId) (A : Nat → Nat) (σ : St) : (gW cy A σ)[8]? = some (A 8, .inl (cy 2, 6, .inl (σ.1 8))) := rfl
theorem ga_9 (cy : Nat → ClassId) (A : Nat → Nat) (σ : St) : (gW cy A σ)[9]? = some (A 9, .inl (cy 2, 6, .inl (σ.1 9))) := rfl
theorem ga_10 (cy : Nat → ClassId) (A : Nat → Nat) (σ : St) : (gW cy A σ)[10]? = some (A 10, .inr (2, [.ref (A 11), .ref (A 12), .int (σ.1 10 2), .int (σ.1 10 3), .int (σ.1 10 4), .int (σ.1 10 5), .int (σ.1 10 6)])) := rfl
theorem ga_11 (cy : Nat → ClassId) (A : Nat → Nat) (σ : St) : (gW cy A σ)[11]? = some (A 11, .inl (cy 2, 6, .inl (σ.1 11))) := rfl
theorem ga_12 (cy : Nat → ClassId) (A : Nat → Nat) (σ : St) : (gW cy A σ)[12]? = some (A 12, .inl (cy 2, 6, .inl (σ.1 12))) := rfl
theorem ga_13 (cy : Nat → ClassId) (A : Nat → Nat) (σ : St) : (gW cy A σ)[13]? = some (A 13, .inr (8, [.ref (A 14), .ref (A 15), .int (σ.1 13 2), .int (σ.1 13 3)])) := rfl
theorem ga_14 (cy : Nat → ClassId) (A : Nat → Nat) (σ : St) : (gW cy A σ)[14]? = some (A 14, .inl (cy 2, 41, .inl (σ.1 14))) := rfl
theorem ga_15 (cy : Nat → ClassId) (A : Nat → Nat) (σ : St) : (gW cy A σ)[15]? = some (A 15, .inl (cy 2, 41, .inl (σ.1 15))) := rfl
theorem ga_16 (cy : Nat → ClassId) (A : Nat → Nat) (σ : St) : (gW cy A σ)[16]? = some (A 16, .inr (0, [.int (σ.1 16 0), .int (σ.1 16 1), .int (σ.1 16 2), .int (σ.1 16 3), .int (σ.1 16 4), .int (σ.1 16 5), .int (σ.1 16 6)])) := rfl
theorem ga_17 (cy : Nat → ClassId) (A : Nat → Nat) (σ : St) : (gW cy A σ)[17]? = some (A 17, .inr (0, [.int (σ.1 17 0), .int (σ.1 17 1), .int (σ.1 17 2), .int (σ.1 17 3), .int (σ.1 17 4), .int (σ.1 17 5), .int (σ.1 17 6)])) := rfl
theorem ga_18 (cy : Nat → ClassId) (A : Nat → Nat) (σ : St) : (gW cy A σ)[18]? = some (A 18, .inl (cy 2, 32, .inl (σ.1 18))) := rfl
theorem ga_19 (cy : Nat → ClassId) (A : Nat → Nat) (σ : St) : (gW cy A σ)[19]? = some (A 19, .inl (cy 2, 32, .inl (σ.1 19))) := rfl
theorem ga_c (cy : Nat → ClassId) (A : Nat → Nat) (σ : St) {k : Nat} (h : isC k) : (gW cy A σ)[k]? = some (A k, .inr (0, [.int (σ.1 k 0), .int (σ.1 k 1), .int (σ.1 k 2), .int (σ.1 k 3), .int (σ.1 k 4), .int (σ.1 k 5), .int (σ.1 k 6)])) := by
  rcases h with rfl | rfl | rfl <;> rfl
theorem gp_0_8 (cy : Nat → ClassId) (A : Nat → Nat) (σ : St) (v : Int32) : (gW cy A σ).set 0 (A 0, .inr (11, [.ref (A 1), .ref (A 3), .ref (A 4), .ref (A 7), .ref (A 10), .ref (A 13), .ref (A 16), .ref (A 17), .int v, .int (σ.1 0 9)])) = gW cy A (sV σ 0 8 v) := rfl
theorem gp_0_9 (cy : Nat → ClassId) (A : Nat → Nat) (σ : St) (v : Int32) : (gW cy A σ).set 0 (A 0, .inr (11, [.ref (A 1), .ref (A 3), .ref (A 4), .ref (A 7), .ref (A 10), .ref (A 13), .ref (A 16), .ref (A 17), .int (σ.1 0 8), .int v])) = gW cy A (sV σ 0 9 v) := rfl
theorem gp_1_1 (cy : Nat → ClassId) (A : Nat → Nat) (σ : St) (v : Int32) : (gW cy A σ).set 1 (A 1, .inr (7, [.ref (A 2), .int v])) = gW cy A (sV σ 1 1 v) := rfl
theorem gp_4_2 (cy : Nat → ClassId) (A : Nat → Nat) (σ : St) (v : Int32) : (gW cy A σ).set 4 (A 4, .inr (6, [.ref (A 5), .ref (A 6), .int v, .int (σ.1 4 3)])) = gW cy A (sV σ 4 2 v) := rfl
theorem gp_4_3 (cy : Nat → ClassId) (A : Nat → Nat) (σ : St) (v : Int32) : (gW cy A σ).set 4 (A 4, .inr (6, [.ref (A 5), .ref (A 6), .int (σ.1 4 2), .int v])) = gW cy A (sV σ 4 3 v) := rfl
theorem gp_7_2 (cy : Nat → ClassId) (A : Nat → Nat) (σ : St) (v : Int32) : (gW cy A σ).set 7 (A 7, .inr (10, [.ref (A 8), .ref (A 9), .int v])) = gW cy A (sV σ 7 2 v) := rfl
theorem gp_10_2 (cy : Nat → ClassId) (A : Nat → Nat) (σ : St) (v : Int32) : (gW cy A σ).set 10 (A 10, .inr (2, [.ref (A 11), .ref (A 12), .int v, .int (σ.1 10 3), .int (σ.1 10 4), .int (σ.1 10 5), .int (σ.1 10 6)])) = gW cy A (sV σ 10 2 v) := rfl
theorem gp_10_3 (cy : Nat → ClassId) (A : Nat → Nat) (σ : St) (v : Int32) : (gW cy A σ).set 10 (A 10, .inr (2, [.ref (A 11), .ref (A 12), .int (σ.1 10 2), .int v, .int (σ.1 10 4), .int (σ.1 10 5), .int (σ.1 10 6)])) = gW cy A (sV σ 10 3 v) := rfl
theorem gp_10_4 (cy : Nat → ClassId) (A : Nat → Nat) (σ : St) (v : Int32) : (gW cy A σ).set 10 (A 10, .inr (2, [.ref (A 11), .ref (A 12), .int (σ.1 10 2), .int (σ.1 10 3), .int v, .int (σ.1 10 5), .int (σ.1 10 6)])) = gW cy A (sV σ 10 4 v) := rfl
theorem gp_10_5 (cy : Nat → ClassId) (A : Nat → Nat) (σ : St) (v : Int32) : (gW cy A σ).set 10 (A 10, .inr (2, [.ref (A 11), .ref (A 12), .int (σ.1 10 2), .int (σ.1 10 3), .int (σ.1 10 4), .int v, .int (σ.1 10 6)])) = gW cy A (sV σ 10 5 v) := rfl
theorem gp_10_6 (cy : Nat → ClassId) (A : Nat → Nat) (σ : St) (v : Int32) : (gW cy A σ).set 10 (A 10, .inr (2, [.ref (A 11), .ref (A 12), .int (σ.1 10 2), .int (σ.1 10 3), .int (σ.1 10 4), .int (σ.1 10 5), .int v])) = gW cy A (sV σ 10 6 v) := rfl
theorem gp_13_2 (cy : Nat → ClassId) (A : Nat → Nat) (σ : St) (v : Int32) : (gW cy A σ).set 13 (A 13, .inr (8, [.ref (A 14), .ref (A 15), .int v, .int (σ.1 13 3)])) = gW cy A (sV σ 13 2 v) := rfl
theorem gp_13_3 (cy : Nat → ClassId) (A : Nat → Nat) (σ : St) (v : Int32) : (gW cy A σ).set 13 (A 13, .inr (8, [.ref (A 14), .ref (A 15), .int (σ.1 13 2), .int v])) = gW cy A (sV σ 13 3 v) := rfl
theorem gp_c_0 (cy : Nat → ClassId) (A : Nat → Nat) (σ : St) (v : Int32) {k : Nat} (h : isC k) : (gW cy A σ).set k (A k, .inr (0, [.int v, .int (σ.1 k 1), .int (σ.1 k 2), .int (σ.1 k 3), .int (σ.1 k 4), .int (σ.1 k 5), .int (σ.1 k 6)])) = gW cy A (sV σ k 0 v) := by
  rcases h with rfl | rfl | rfl <;> rfl
theorem gp_c_1 (cy : Nat → ClassId) (A : Nat → Nat) (σ : St) (v : Int32) {k : Nat} (h : isC k) : (gW cy A σ).set k (A k, .inr (0, [.int (σ.1 k 0), .int v, .int (σ.1 k 2), .int (σ.1 k 3), .int (σ.1 k 4), .int (σ.1 k 5), .int (σ.1 k 6)])) = gW cy A (sV σ k 1 v) := by
  rcases h with rfl | rfl | rfl <;> rfl
theorem gp_c_2 (cy : Nat → ClassId) (A : Nat → Nat) (σ : St) (v : Int32) {k : Nat} (h : isC k) : (gW cy A σ).set k (A k, .inr (0, [.int (σ.1 k 0), .int (σ.1 k 1), .int v, .int (σ.1 k 3), .int (σ.1 k 4), .int (σ.1 k 5), .int (σ.1 k 6)])) = gW cy A (sV σ k 2 v) := by
  rcases h with rfl | rfl | rfl <;> rfl
theorem gp_c_3 (cy : Nat → ClassId) (A : Nat → Nat) (σ : St) (v : Int32) {k : Nat} (h : isC k) : (gW cy A σ).set k (A k, .inr (0, [.int (σ.1 k 0), .int (σ.1 k 1), .int (σ.1 k 2), .int v, .int (σ.1 k 4), .int (σ.1 k 5), .int (σ.1 k 6)])) = gW cy A (sV σ k 3 v) := by
  rcases h with rfl | rfl | rfl <;> rfl
theorem gp_c_4 (cy : Nat → ClassId) (A : Nat → Nat) (σ : St) (v : Int32) {k : Nat} (h : isC k) : (gW cy A σ).set k (A k, .inr (0, [.int (σ.1 k 0), .int (σ.1 k 1), .int (σ.1 k 2), .int (σ.1 k 3), .int v, .int (σ.1 k 5), .int (σ.1 k 6)])) = gW cy A (sV σ k 4 v) := by
  rcases h with rfl | rfl | rfl <;> rfl
theorem gp_c_5 (cy : Nat → ClassId) (A : Nat → Nat) (σ : St) (v : Int32) {k : Nat} (h : isC k) : (gW cy A σ).set k (A k, .inr (0, [.int (σ.1 k 0), .int (σ.1 k 1), .int (σ.1 k 2), .int (σ.1 k 3), .int (σ.1 k 4), .int v, .int (σ.1 k 6)])) = gW cy A (sV σ k 5 v) := by
  rcases h with rfl | rfl | rfl <;> rfl
theorem gp_c_6 (cy : Nat → ClassId) (A : Nat → Nat) (σ : St) (v : Int32) {k : Nat} (h : isC k) : (gW cy A σ).set k (A k, .inr (0, [.int (σ.1 k 0), .int (σ.1 k 1), .int (σ.1 k 2), .int (σ.1 k 3), .int (σ.1 k 4), .int (σ.1 k 5), .int v])) = gW cy A (sV σ k 6 v) := by
  rcases h with rfl | rfl | rfl <;> rfl
theorem gs_2 (cy : Nat → ClassId) (A : Nat → Nat) (σ : St) (b : Nat) (v : Int32) : (gW cy A σ).set 2 (A 2, .inl (cy 1, 12, .inl (upd (σ.1 2) b v))) = gW cy A (sV σ 2 b v) := rfl
theorem gs_6 (cy : Nat → ClassId) (A : Nat → Nat) (σ : St) (b : Nat) (v : Int32) : (gW cy A σ).set 6 (A 6, .inl (cy 2, 6, .inl (upd (σ.1 6) b v))) = gW cy A (sV σ 6 b v) := rfl
theorem gs_8 (cy : Nat → ClassId) (A : Nat → Nat) (σ : St) (b : Nat) (v : Int32) : (gW cy A σ).set 8 (A 8, .inl (cy 2, 6, .inl (upd (σ.1 8) b v))) = gW cy A (sV σ 8 b v) := rfl
theorem gs_9 (cy : Nat → ClassId) (A : Nat → Nat) (σ : St) (b : Nat) (v : Int32) : (gW cy A σ).set 9 (A 9, .inl (cy 2, 6, .inl (upd (σ.1 9) b v))) = gW cy A (sV σ 9 b v) := rfl
theorem gs_11 (cy : Nat → ClassId) (A : Nat → Nat) (σ : St) (b : Nat) (v : Int32) : (gW cy A σ).set 11 (A 11, .inl (cy 2, 6, .inl (upd (σ.1 11) b v))) = gW cy A (sV σ 11 b v) := rfl
theorem gs_12 (cy : Nat → ClassId) (A : Nat → Nat) (σ : St) (b : Nat) (v : Int32) : (gW cy A σ).set 12 (A 12, .inl (cy 2, 6, .inl (upd (σ.1 12) b v))) = gW cy A (sV σ 12 b v) := rfl
theorem gs_14 (cy : Nat → ClassId) (A : Nat → Nat) (σ : St) (b : Nat) (v : Int32) : (gW cy A σ).set 14 (A 14, .inl (cy 2, 41, .inl (upd (σ.1 14) b v))) = gW cy A (sV σ 14 b v) := rfl
theorem gs_15 (cy : Nat → ClassId) (A : Nat → Nat) (σ : St) (b : Nat) (v : Int32) : (gW cy A σ).set 15 (A 15, .inl (cy 2, 41, .inl (upd (σ.1 15) b v))) = gW cy A (sV σ 15 b v) := rfl
theorem gs_18 (cy : Nat → ClassId) (A : Nat → Nat) (σ : St) (b : Nat) (v : Int32) : (gW cy A σ).set 18 (A 18, .inl (cy 2, 32, .inl (upd (σ.1 18) b v))) = gW cy A (sV σ 18 b v) := rfl
theorem gs_19 (cy : Nat → ClassId) (A : Nat → Nat) (σ : St) (b : Nat) (v : Int32) : (gW cy A σ).set 19 (A 19, .inl (cy 2, 32, .inl (upd (σ.1 19) b v))) = gW cy A (sV σ 19 b v) := rfl
theorem gs_5 (cy : Nat → ClassId) (A : Nat → Nat) (σ : St) (b : Nat) (r : Option Nat) : (gW cy A σ).set 5 (A 5, .inl (cy 3, 6, .inr (.inr (.inr (.inr (va_up σ.2.2.1 b r)))))) = gW cy A (sH σ b r) := rfl
theorem gt_0 (cy : Nat → ClassId) (A : Nat → Nat) (σ : St) (A0 : Nat → Prop) {a k : Nat} (v : Int32) (hD : va_D A0 (gW cy A σ)) (h : a ∈ σ.2.2.2.1) (hk : (gW cy A σ)[k]? = some (a, tcell σ a)) : (gW cy A σ).set k (a, .inr (σ.2.2.2.2.1 a, [.int v, .int (σ.2.2.2.2.2 a 1), .int (σ.2.2.2.2.2 a 2)])) = gW cy A (sT σ a 0 v) := by
  refine (va_pl_set (X := gX cy A σ) hD h hk).trans ?_
  refine congrArg (fun l => gX cy A σ ++ l) (va_pl_congr fun b => ?_)
  by_cases hb : b = a
  · subst hb
    simp [va_up, sT, up2, tcell]
  · simp [va_up, sT, up2, hb, tcell]
theorem gt_1 (cy : Nat → ClassId) (A : Nat → Nat) (σ : St) (A0 : Nat → Prop) {a k : Nat} (v : Int32) (hD : va_D A0 (gW cy A σ)) (h : a ∈ σ.2.2.2.1) (hk : (gW cy A σ)[k]? = some (a, tcell σ a)) : (gW cy A σ).set k (a, .inr (σ.2.2.2.2.1 a, [.int (σ.2.2.2.2.2 a 0), .int v, .int (σ.2.2.2.2.2 a 2)])) = gW cy A (sT σ a 1 v) := by
  refine (va_pl_set (X := gX cy A σ) hD h hk).trans ?_
  refine congrArg (fun l => gX cy A σ ++ l) (va_pl_congr fun b => ?_)
  by_cases hb : b = a
  · subst hb
    simp [va_up, sT, up2, tcell]
  · simp [va_up, sT, up2, hb, tcell]
theorem gt_2 (cy : Nat → ClassId) (A : Nat → Nat) (σ : St) (A0 : Nat → Prop) {a k : Nat} (v : Int32) (hD : va_D A0 (gW cy A σ)) (h : a ∈ σ.2.2.2.1) (hk : (gW cy A σ)[k]? = some (a, tcell σ a)) : (gW cy A σ).set k (a, .inr (σ.2.2.2.2.1 a, [.int (σ.2.2.2.2.2 a 0), .int (σ.2.2.2.2.2 a 1), .int v])) = gW cy A (sT σ a 2 v) := by
  refine (va_pl_set (X := gX cy A σ) hD h hk).trans ?_
  refine congrArg (fun l => gX cy A σ ++ l) (va_pl_congr fun b => ?_)
  by_cases hb : b = a
  · subst hb
    simp [va_up, sT, up2, tcell]
  · simp [va_up, sT, up2, hb, tcell]
theorem gn_T (cy : Nat → ClassId) (A : Nat → Nat) (σ : St) {a : Nat} (kd : Nat) (h : a ∉ σ.2.2.2.1) : gW cy A σ ++ [(a, .inr (kd, [.int 0, .int 0, .int 0]))] = gW cy A (sN σ a kd) := by
  unfold gW
  rw [List.append_assoc, va_pl_push h]
  refine congrArg (fun l => gX cy A σ ++ l) ?_
  show va_pl (σ.2.2.2.1 ++ [a]) _ = va_pl (σ.2.2.2.1 ++ [a]) _
  refine va_pl_congr fun b => ?_
  by_cases hb : b = a
  · subst hb
    simp [va_up, sN, tcell]
  · simp [va_up, sN, hb, tcell]

/-! words that ride beside the tables' -/
def nwM : List Cond := [.methodLinkNest RX11 9 yX7_init RX11, .methodLinkNest RX11 18 yX0_init RX11, .methodLinkNest RX11 25 yX6_init RX11, .methodLinkNest RX11 32 yX10_init RX11, .methodLinkNest RX11 39 yX2_init RX11, .methodLinkNest RX11 46 yX8_init RX11]
def nwC : List (String × String) := [(RX1, RX9), (RX3, RX9), (RX4, RX9), (RX5, RX9), (RX4, RX5)]
def nwN : List (String × String) := [(RX9, RX1), (RX9, RX3), (RX9, RX5), (RX9, RX4), (RX1, RX3), (RX1, RX5), (RX1, RX4), (RX3, RX1), (RX3, RX5), (RX3, RX4), (RX5, RX1), (RX5, RX3), (RX5, RX4), (RX4, RX1), (RX4, RX3)]
def NW (U : State) : Prop := (∀ w ∈ nwM, va_Nw w U) ∧ (∀ q ∈ nwC, va_Nw (.castable q.1 q.2) U) ∧ (∀ q ∈ nwN, va_Nc q.1 q.2 U) ∧ va_AO RX9 U
theorem NW.warm {s U : State} (hW : s.WarmedH U.vm) (h : NW s) : NW U := by
  refine ⟨fun w hw => ?_, fun q hq => va_Nw.warmC hW (h.2.1 q hq), fun q hq => va_Nc.moved hW.alike (h.2.2.1 q hq), va_AO.moved hW.alike h.2.2.2⟩
  have h1 := h.1 w hw
  simp only [nwM, List.mem_cons, List.mem_nil_iff, or_false, List.not_mem_nil] at hw
  rcases hw with rfl | rfl | rfl | rfl | rfl | rfl <;> exact va_Nw.warmM hW h1
theorem NW.calling {U : State} {g : JFrame} {mk : MethodId} {a : Array Value} (h : NW U) : NW (U.calling g mk a) := by
  refine ⟨fun w hw => ?_, fun q hq => va_Nw.same rfl (u := U) rfl (h.2.1 q hq), fun q hq => va_Nc.moved (u := U) (U := U.calling g mk a) (Vm.Alike.refl U.vm) (h.2.2.1 q hq), va_AO.moved (u := U) (U := U.calling g mk a) (Vm.Alike.refl U.vm) h.2.2.2⟩
  have h1 := h.1 w hw
  simp only [nwM, List.mem_cons, List.mem_nil_iff, or_false, List.not_mem_nil] at hw
  rcases hw with rfl | rfl | rfl | rfl | rfl | rfl <;> exact va_Nw.same rfl (u := U) rfl h1

/-! THE CONTEXT of a walk, in one row -/
abbrev qC : Type := Program × Launch × Env × Room × State × MethodId × Array Value × List Frame × Method × Code × (Nat → Prop) × va_G × (State → Prop) × Nat
abbrev q_p (κ : qC) : Program := κ.1
abbrev q_l (κ : qC) : Launch := κ.2.1
abbrev q_e (κ : qC) : Env := κ.2.2.1
abbrev q_R (κ : qC) : Room := κ.2.2.2.1
abbrev q_s (κ : qC) : State := κ.2.2.2.2.1
abbrev q_m (κ : qC) : MethodId := κ.2.2.2.2.2.1
abbrev q_a (κ : qC) : Array Value := κ.2.2.2.2.2.2.1
abbrev q_b (κ : qC) : List Frame := κ.2.2.2.2.2.2.2.1
abbrev q_M (κ : qC) : Method := κ.2.2.2.2.2.2.2.2.1
abbrev q_c (κ : qC) : Code := κ.2.2.2.2.2.2.2.2.2.1
abbrev q_A (κ : qC) : Nat → Prop := κ.2.2.2.2.2.2.2.2.2.2.1
abbrev q_D (κ : qC) : va_G := κ.2.2.2.2.2.2.2.2.2.2.2.1
abbrev q_Q (κ : qC) : State → Prop := κ.2.2.2.2.2.2.2.2.2.2.2.2.1
abbrev q_n (κ : qC) : Nat := κ.2.2.2.2.2.2.2.2.2.2.2.2.2
def GW (κ : qC) (k n : Nat) (ws : va_W) (pc : Nat) (lv : List (Nat × Value)) (st : List Value) : Prop :=
  ∀ (H : Heap) (locs : List Loc), va_P (q_D κ) vwCl ws H → va_D (q_A κ) ws → va_S (q_A κ) (q_s κ).heap H locs → ∀ ls : Array Slot, lv_has ls (q_n κ) lv → W (q_p κ) (q_l κ) (q_e κ) (q_R κ) (q_s κ) (q_m κ) (q_a κ) (q_b κ) (q_M κ) (q_c κ) H locs k n (q_Q κ) (F0 (q_m κ) pc ls st)
/-- what holds all along a walk -/
def Cx (κ : qC) (cc : ByteArray) (own : String) (Ts : List Cond) (Rm : Room) : Prop :=
  (q_p κ).tables.exec = Jvm.exec ∧ (q_c κ).code = cc ∧ (q_c κ).maxLocals = q_n κ ∧ (q_s κ).vm.findClass own = some (q_m κ).cls ∧ (∀ w ∈ Ts, w.before (q_a κ) (q_s κ) = true) ∧ (∀ q, (q_s κ).heap.size ≤ q → q_A κ q) ∧ NW (q_s κ) ∧ (q_M κ).locks = false ∧ q_R κ = Rm
section GR
variable {κ : qC} {cc : ByteArray} {own : String} {Ts : List Cond} {Rm : Room} {k n : Nat} {ws : va_W} {pc : Nat} {lv : List (Nat × Value)} {st : List Value}
theorem g_widen {k' n' : Nat} (h1 : k ≤ k') (h2 : n ≤ n') (h : GW κ k' n' ws pc lv st) : GW κ k n ws pc lv st := fun H locs hP hD hS ls hl => W.widen h1 h2 (h H locs hP hD hS ls hl)
theorem g_eqs {ws' : va_W} (e : ws = ws') (h : GW κ k n ws' pc lv st) : GW κ k n ws pc lv st := e ▸ h
theorem g_eqv {st' : List Value} (e : st = st') (h : GW κ k n ws pc lv st') : GW κ k n ws pc lv st := e ▸ h
theorem g_eql {lv' : List (Nat × Value)} (ks : List Nat) (e : lv_pick lv ks = lv') (h : GW κ k n ws pc lv' st) : GW κ k n ws pc lv st := fun H locs hP hD hS ls hl => h H locs hP hD hS ls (lv_sub hl ks e)

theorem g_iconst (C : Cx κ cc own Ts Rm) {i : Int} {v : Int32} (hdg : decode cc pc = .ok (.iconst i, 1)) (hv : Int32.ofInt i = v) (h : GW κ k n ws (pc + 1) lv (.int v :: st)) : GW κ k n ws pc lv (st) := fun H locs hP hD hS ls hl => lv_iconst C.1 C.2.1 hdg hv (h H locs hP hD hS ls hl)
theorem g_bipush (C : Cx κ cc own Ts Rm) {i : Int} {v : Int32} (hdg : decode cc pc = .ok (.bipush i, 2)) (hv : (Int8.ofInt i).toInt32 = v) (h : GW κ k n ws (pc + 2) lv (.int v :: st)) : GW κ k n ws pc lv (st) := fun H locs hP hD hS ls hl => lv_bipush C.1 C.2.1 hdg hv (h H locs hP hD hS ls hl)
theorem g_sipush (C : Cx κ cc own Ts Rm) {i : Int} {v : Int32} (hdg : decode cc pc = .ok (.sipush i, 3)) (hv : (Int16.ofInt i).toInt32 = v) (h : GW κ k n ws (pc + 3) lv (.int v :: st)) : GW κ k n ws pc lv (st) := fun H locs hP hD hS ls hl => lv_sipush C.1 C.2.1 hdg hv (h H locs hP hD hS ls hl)
theorem g_lconst (C : Cx κ cc own Ts Rm) {i : Fin 2} {v : Int64} (hdg : decode cc pc = .ok (.lconst i, 1)) (hv : Int64.ofNat (i : Nat) = v) (h : GW κ k n ws (pc + 1) lv (.long v :: st)) : GW κ k n ws pc lv (st) := fun H locs hP hD hS ls hl => lv_lconst C.1 C.2.1 hdg hv (h H locs hP hD hS ls hl)
theorem g_null (C : Cx κ cc own Ts Rm)  (hdg : decode cc pc = .ok (.aconst_null, 1)) (h : GW κ k n ws (pc + 1) lv (.null :: st)) : GW κ k n ws pc lv (st) := fun H locs hP hD hS ls hl => lv_null C.1 C.2.1 hdg (h H locs hP hD hS ls hl)
theorem g_ldc (C : Cx κ cc own Ts Rm) {i : Nat} {v : Int32} (hdg : decode cc pc = .ok (.ldc i, 2)) (hw : Cond.constant own i v ∈ Ts) (h : GW κ k n ws (pc + 2) lv (.int v :: st)) : GW κ k n ws pc lv (st) := fun H locs hP hD hS ls hl => lv_ldc C.1 C.2.1 C.2.2.2.1 (C.2.2.2.2.1 _ hw) hdg (h H locs hP hD hS ls hl)
theorem g_ldcw (C : Cx κ cc own Ts Rm) {i : Nat} {v : Int32} (hdg : decode cc pc = .ok (.ldc_w i, 3)) (hw : Cond.constant own i v ∈ Ts) (h : GW κ k n ws (pc + 3) lv (.int v :: st)) : GW κ k n ws pc lv (st) := fun H locs hP hD hS ls hl => lv_ldcw C.1 C.2.1 C.2.2.2.1 (C.2.2.2.2.1 _ hw) hdg (h H locs hP hD hS ls hl)
theorem g_ldc2 (C : Cx κ cc own Ts Rm) {i : Nat} {v : Int64} (hdg : decode cc pc = .ok (.ldc2_w i, 3)) (hw : Cond.constantLong own i v ∈ Ts) (h : GW κ k n ws (pc + 3) lv (.long v :: st)) : GW κ k n ws pc lv (st) := fun H locs hP hD hS ls hl => lv_ldc2 C.1 C.2.1 C.2.2.2.1 (C.2.2.2.2.1 _ hw) hdg (h H locs hP hD hS ls hl)
theorem g_iload_n (C : Cx κ cc own Ts Rm) {f : Fin 4} {i : Nat} {x : Int32} (j : Nat) (hj : lv[j]? = some (i, .int x)) (hi : (f : Nat) = i) (hdg : decode cc pc = .ok (.iload_n f, 1)) (h : GW κ k n ws (pc + 1) lv (.int x :: st)) : GW κ k n ws pc lv (st) := fun H locs hP hD hS ls hl => lv_iload_n C.1 C.2.1 hdg hi (lv_at hl j hj) (h H locs hP hD hS ls hl)
theorem g_iload (C : Cx κ cc own Ts Rm) {i : Nat} {x : Int32} (j : Nat) (hj : lv[j]? = some (i, .int x)) (hdg : decode cc pc = .ok (.iload i, 2)) (h : GW κ k n ws (pc + 2) lv (.int x :: st)) : GW κ k n ws pc lv (st) := fun H locs hP hD hS ls hl => lv_iload C.1 C.2.1 hdg (lv_at hl j hj) (h H locs hP hD hS ls hl)
theorem g_istore_n (C : Cx κ cc own Ts Rm) {f : Fin 4} {i N : Nat} {x : Int32} (lv' : List (Nat × Value)) (hN : q_n κ = N) (hi : (f : Nat) = i) (hn : i < N) (hl' : (i, Value.int x) :: lv.filter (fun q => !(q.1 == i) && !(q.1 + 1 == i && q.2.category == 2)) = lv') (hdg : decode cc pc = .ok (.istore_n f, 1)) (h : GW κ k n ws (pc + 1) lv' st) : GW κ k n ws pc lv (.int x :: st) := fun H locs hP hD hS ls hl => lv_istore_n C.1 C.2.1 hdg hi hl (by rw [hN]; exact hn) hl' (fun ls' hls => h H locs hP hD hS ls' hls)
theorem g_istore (C : Cx κ cc own Ts Rm) {i N : Nat} {x : Int32} (lv' : List (Nat × Value)) (hN : q_n κ = N) (hn : i < N) (hl' : (i, Value.int x) :: lv.filter (fun q => !(q.1 == i) && !(q.1 + 1 == i && q.2.category == 2)) = lv') (hdg : decode cc pc = .ok (.istore i, 2)) (h : GW κ k n ws (pc + 2) lv' st) : GW κ k n ws pc lv (.int x :: st) := fun H locs hP hD hS ls hl => lv_istore C.1 C.2.1 hdg hl (by rw [hN]; exact hn) hl' (fun ls' hls => h H locs hP hD hS ls' hls)
theorem g_lload_n (C : Cx κ cc own Ts Rm) {f : Fin 4} {i : Nat} {x : Int64} (j : Nat) (hj : lv[j]? = some (i, .long x)) (hi : (f : Nat) = i) (hdg : decode cc pc = .ok (.lload_n f, 1)) (h : GW κ k n ws (pc + 1) lv (.long x :: st)) : GW κ k n ws pc lv (st) := fun H locs hP hD hS ls hl => lv_lload_n C.1 C.2.1 hdg hi (lv_at hl j hj) (h H locs hP hD hS ls hl)
theorem g_lload (C : Cx κ cc own Ts Rm) {i : Nat} {x : Int64} (j : Nat) (hj : lv[j]? = some (i, .long x)) (hdg : decode cc pc = .ok (.lload i, 2)) (h : GW κ k n ws (pc + 2) lv (.long x :: st)) : GW κ k n ws pc lv (st) := fun H locs hP hD hS ls hl => lv_lload C.1 C.2.1 hdg (lv_at hl j hj) (h H locs hP hD hS ls hl)
theorem g_lstore_n (C : Cx κ cc own Ts Rm) {f : Fin 4} {i N : Nat} {x : Int64} (lv' : List (Nat × Value)) (hN : q_n κ = N) (hi : (f : Nat) = i) (hn : i + 1 < N) (hl' : (i, Value.long x) :: lv.filter (fun q => !(q.1 == i) && (!(q.1 == i + 1) && !(q.1 + 1 == i && q.2.category == 2))) = lv') (hdg : decode cc pc = .ok (.lstore_n f, 1)) (h : GW κ k n ws (pc + 1) lv' st) : GW κ k n ws pc lv (.long x :: st) := fun H locs hP hD hS ls hl => lv_lstore_n C.1 C.2.1 hdg hi hl (by rw [hN]; exact hn) hl' (fun ls' hls => h H locs hP hD hS ls' hls)
theorem g_lstore (C : Cx κ cc own Ts Rm) {i N : Nat} {x : Int64} (lv' : List (Nat × Value)) (hN : q_n κ = N) (hn : i + 1 < N) (hl' : (i, Value.long x) :: lv.filter (fun q => !(q.1 == i) && (!(q.1 == i + 1) && !(q.1 + 1 == i && q.2.category == 2))) = lv') (hdg : decode cc pc = .ok (.lstore i, 2)) (h : GW κ k n ws (pc + 2) lv' st) : GW κ k n ws pc lv (.long x :: st) := fun H locs hP hD hS ls hl => lv_lstore C.1 C.2.1 hdg hl (by rw [hN]; exact hn) hl' (fun ls' hls => h H locs hP hD hS ls' hls)
theorem g_aload_n (C : Cx κ cc own Ts Rm) {f : Fin 4} {i : Nat} {x : Nat} (j : Nat) (hj : lv[j]? = some (i, .ref x)) (hi : (f : Nat) = i) (hdg : decode cc pc = .ok (.aload_n f, 1)) (h : GW κ k n ws (pc + 1) lv (.ref x :: st)) : GW κ k n ws pc lv (st) := fun H locs hP hD hS ls hl => lv_aload_n C.1 C.2.1 hdg hi (lv_at hl j hj) (h H locs hP hD hS ls hl)
theorem g_aload (C : Cx κ cc own Ts Rm) {i : Nat} {x : Nat} (j : Nat) (hj : lv[j]? = some (i, .ref x)) (hdg : decode cc pc = .ok (.aload i, 2)) (h : GW κ k n ws (pc + 2) lv (.ref x :: st)) : GW κ k n ws pc lv (st) := fun H locs hP hD hS ls hl => lv_aload C.1 C.2.1 hdg (lv_at hl j hj) (h H locs hP hD hS ls hl)
theorem g_astore_n (C : Cx κ cc own Ts Rm) {f : Fin 4} {i N : Nat} {x : Nat} (lv' : List (Nat × Value)) (hN : q_n κ = N) (hi : (f : Nat) = i) (hn : i < N) (hl' : (i, Value.ref x) :: lv.filter (fun q => !(q.1 == i) && !(q.1 + 1 == i && q.2.category == 2)) = lv') (hdg : decode cc pc = .ok (.astore_n f, 1)) (h : GW κ k n ws (pc + 1) lv' st) : GW κ k n ws pc lv (.ref x :: st) := fun H locs hP hD hS ls hl => lv_astore_n C.1 C.2.1 hdg hi hl (by rw [hN]; exact hn) hl' (fun ls' hls => h H locs hP hD hS ls' hls)
theorem g_astore (C : Cx κ cc own Ts Rm) {i N : Nat} {x : Nat} (lv' : List (Nat × Value)) (hN : q_n κ = N) (hn : i < N) (hl' : (i, Value.ref x) :: lv.filter (fun q => !(q.1 == i) && !(q.1 + 1 == i && q.2.category == 2)) = lv') (hdg : decode cc pc = .ok (.astore i, 2)) (h : GW κ k n ws (pc + 2) lv' st) : GW κ k n ws pc lv (.ref x :: st) := fun H locs hP hD hS ls hl => lv_astore C.1 C.2.1 hdg hl (by rw [hN]; exact hn) hl' (fun ls' hls => h H locs hP hD hS ls' hls)
theorem g_rload_n (C : Cx κ cc own Ts Rm) {f : Fin 4} {i : Nat} {r : Option Nat} (j : Nat) (hj : lv[j]? = some (i, va_rf r)) (hi : (f : Nat) = i) (hdg : decode cc pc = .ok (.aload_n f, 1)) (h : GW κ k n ws (pc + 1) lv (va_rf r :: st)) : GW κ k n ws pc lv st := by
  intro H locs hP hD hS ls hl
  have h1 := h H locs hP hD hS ls hl
  cases r with
  | none => exact lv_aload_nN C.1 C.2.1 hdg hi (lv_at hl j hj) h1
  | some a => exact lv_aload_n C.1 C.2.1 hdg hi (lv_at hl j hj) h1
theorem g_rload (C : Cx κ cc own Ts Rm) {i : Nat} {r : Option Nat} (j : Nat) (hj : lv[j]? = some (i, va_rf r)) (hdg : decode cc pc = .ok (.aload i, 2)) (h : GW κ k n ws (pc + 2) lv (va_rf r :: st)) : GW κ k n ws pc lv st := by
  intro H locs hP hD hS ls hl
  have h1 := h H locs hP hD hS ls hl
  cases r with
  | none => exact lv_aloadN C.1 C.2.1 hdg (lv_at hl j hj) h1
  | some a => exact lv_aload C.1 C.2.1 hdg (lv_at hl j hj) h1
theorem g_rstore_n (C : Cx κ cc own Ts Rm) {f : Fin 4} {i N : Nat} {r : Option Nat} (lv' : List (Nat × Value)) (hN : q_n κ = N) (hi : (f : Nat) = i) (hn : i < N) (hl' : (i, va_rf r) :: lv.filter (fun q => !(q.1 == i) && !(q.1 + 1 == i && q.2.category == 2)) = lv') (hdg : decode cc pc = .ok (.astore_n f, 1)) (h : GW κ k n ws (pc + 1) lv' st) : GW κ k n ws pc lv (va_rf r :: st) := by
  intro H locs hP hD hS ls hl
  cases r with
  | none => exact lv_astore_nN C.1 C.2.1 hdg hi hl (by rw [hN]; exact hn) hl' (fun ls' hls => h H locs hP hD hS ls' hls)
  | some a => exact lv_astore_n C.1 C.2.1 hdg hi hl (by rw [hN]; exact hn) hl' (fun ls' hls => h H locs hP hD hS ls' hls)
theorem g_rstore (C : Cx κ cc own Ts Rm) {i N : Nat} {r : Option Nat} (lv' : List (Nat × Value)) (hN : q_n κ = N) (hn : i < N) (hl' : (i, va_rf r) :: lv.filter (fun q => !(q.1 == i) && !(q.1 + 1 == i && q.2.category == 2)) = lv') (hdg : decode cc pc = .ok (.astore i, 2)) (h : GW κ k n ws (pc + 2) lv' st) : GW κ k n ws pc lv (va_rf r :: st) := by
  intro H locs hP hD hS ls hl
  cases r with
  | none => exact lv_astoreN C.1 C.2.1 hdg hl (by rw [hN]; exact hn) hl' (fun ls' hls => h H locs hP hD hS ls' hls)
  | some a => exact lv_astore C.1 C.2.1 hdg hl (by rw [hN]; exact hn) hl' (fun ls' hls => h H locs hP hD hS ls' hls)
theorem g_iinc (C : Cx κ cc own Ts Rm) {i N j : Nat} {d : Int} {x v : Int32} (lv' : List (Nat × Value)) (hN : q_n κ = N) (hj : lv[j]? = some (i, .int x)) (hv : x + Int32.ofInt d = v) (hn : i < N) (hl' : (i, Value.int v) :: lv.filter (fun q => !(q.1 == i) && !(q.1 + 1 == i && q.2.category == 2)) = lv') (hdg : decode cc pc = .ok (.iinc i d, 3)) (h : GW κ k n ws (pc + 3) lv' st) : GW κ k n ws pc lv st := fun H locs hP hD hS ls hl => lv_iinc C.1 C.2.1 hdg hl hj hv (by rw [hN]; exact hn) hl' (fun ls' hls => h H locs hP hD hS ls' hls)
theorem g_iadd (C : Cx κ cc own Ts Rm) {x y : Int32} (hdg : decode cc pc = .ok (.iadd, 1)) (h : GW κ k n ws (pc + 1) lv (.int (x + y) :: st)) : GW κ k n ws pc lv (.int y :: .int x :: st) := fun H locs hP hD hS ls hl => lv_iadd C.1 C.2.1 hdg (h H locs hP hD hS ls hl)
theorem g_isub (C : Cx κ cc own Ts Rm) {x y : Int32} (hdg : decode cc pc = .ok (.isub, 1)) (h : GW κ k n ws (pc + 1) lv (.int (x - y) :: st)) : GW κ k n ws pc lv (.int y :: .int x :: st) := fun H locs hP hD hS ls hl => lv_isub C.1 C.2.1 hdg (h H locs hP hD hS ls hl)
theorem g_imul (C : Cx κ cc own Ts Rm) {x y : Int32} (hdg : decode cc pc = .ok (.imul, 1)) (h : GW κ k n ws (pc + 1) lv (.int (x * y) :: st)) : GW κ k n ws pc lv (.int y :: .int x :: st) := fun H locs hP hD hS ls hl => lv_imul C.1 C.2.1 hdg (h H locs hP hD hS ls hl)
theorem g_iand (C : Cx κ cc own Ts Rm) {x y : Int32} (hdg : decode cc pc = .ok (.iand, 1)) (h : GW κ k n ws (pc + 1) lv (.int (x &&& y) :: st)) : GW κ k n ws pc lv (.int y :: .int x :: st) := fun H locs hP hD hS ls hl => lv_iand C.1 C.2.1 hdg (h H locs hP hD hS ls hl)
theorem g_ior (C : Cx κ cc own Ts Rm) {x y : Int32} (hdg : decode cc pc = .ok (.ior, 1)) (h : GW κ k n ws (pc + 1) lv (.int (x ||| y) :: st)) : GW κ k n ws pc lv (.int y :: .int x :: st) := fun H locs hP hD hS ls hl => lv_ior C.1 C.2.1 hdg (h H locs hP hD hS ls hl)
theorem g_ixor (C : Cx κ cc own Ts Rm) {x y : Int32} (hdg : decode cc pc = .ok (.ixor, 1)) (h : GW κ k n ws (pc + 1) lv (.int (x ^^^ y) :: st)) : GW κ k n ws pc lv (.int y :: .int x :: st) := fun H locs hP hD hS ls hl => lv_ixor C.1 C.2.1 hdg (h H locs hP hD hS ls hl)
theorem g_ishl (C : Cx κ cc own Ts Rm) {x y : Int32} (hdg : decode cc pc = .ok (.ishl, 1)) (h : GW κ k n ws (pc + 1) lv (.int (x <<< (y &&& 31)) :: st)) : GW κ k n ws pc lv (.int y :: .int x :: st) := fun H locs hP hD hS ls hl => lv_ishl C.1 C.2.1 hdg (h H locs hP hD hS ls hl)
theorem g_ishr (C : Cx κ cc own Ts Rm) {x y : Int32} (hdg : decode cc pc = .ok (.ishr, 1)) (h : GW κ k n ws (pc + 1) lv (.int (x >>> (y &&& 31)) :: st)) : GW κ k n ws pc lv (.int y :: .int x :: st) := fun H locs hP hD hS ls hl => lv_ishr C.1 C.2.1 hdg (h H locs hP hD hS ls hl)
theorem g_ladd (C : Cx κ cc own Ts Rm) {x y : Int64} (hdg : decode cc pc = .ok (.ladd, 1)) (h : GW κ k n ws (pc + 1) lv (.long (x + y) :: st)) : GW κ k n ws pc lv (.long y :: .long x :: st) := fun H locs hP hD hS ls hl => lv_ladd C.1 C.2.1 hdg (h H locs hP hD hS ls hl)
theorem g_lsub (C : Cx κ cc own Ts Rm) {x y : Int64} (hdg : decode cc pc = .ok (.lsub, 1)) (h : GW κ k n ws (pc + 1) lv (.long (x - y) :: st)) : GW κ k n ws pc lv (.long y :: .long x :: st) := fun H locs hP hD hS ls hl => lv_lsub C.1 C.2.1 hdg (h H locs hP hD hS ls hl)
theorem g_lmul (C : Cx κ cc own Ts Rm) {x y : Int64} (hdg : decode cc pc = .ok (.lmul, 1)) (h : GW κ k n ws (pc + 1) lv (.long (x * y) :: st)) : GW κ k n ws pc lv (.long y :: .long x :: st) := fun H locs hP hD hS ls hl => lv_lmul C.1 C.2.1 hdg (h H locs hP hD hS ls hl)
theorem g_land (C : Cx κ cc own Ts Rm) {x y : Int64} (hdg : decode cc pc = .ok (.land, 1)) (h : GW κ k n ws (pc + 1) lv (.long (x &&& y) :: st)) : GW κ k n ws pc lv (.long y :: .long x :: st) := fun H locs hP hD hS ls hl => lv_land C.1 C.2.1 hdg (h H locs hP hD hS ls hl)
theorem g_lor (C : Cx κ cc own Ts Rm) {x y : Int64} (hdg : decode cc pc = .ok (.lor, 1)) (h : GW κ k n ws (pc + 1) lv (.long (x ||| y) :: st)) : GW κ k n ws pc lv (.long y :: .long x :: st) := fun H locs hP hD hS ls hl => lv_lor C.1 C.2.1 hdg (h H locs hP hD hS ls hl)
theorem g_idiv (C : Cx κ cc own Ts Rm) {x y : Int32} (hne : ¬ y = 0) (hdg : decode cc pc = .ok (.idiv, 1)) (h : GW κ k n ws (pc + 1) lv (.int (x / y) :: st)) : GW κ k n ws pc lv (.int y :: .int x :: st) := fun H locs hP hD hS ls hl => lv_idiv C.1 C.2.1 hdg hne (h H locs hP hD hS ls hl)
theorem g_irem (C : Cx κ cc own Ts Rm) {x y : Int32} (hne : ¬ y = 0) (hdg : decode cc pc = .ok (.irem, 1)) (h : GW κ k n ws (pc + 1) lv (.int (x - x / y * y) :: st)) : GW κ k n ws pc lv (.int y :: .int x :: st) := fun H locs hP hD hS ls hl => lv_irem C.1 C.2.1 hdg hne (h H locs hP hD hS ls hl)
theorem g_ldiv (C : Cx κ cc own Ts Rm) {x y : Int64} (hne : ¬ y = 0) (hdg : decode cc pc = .ok (.ldiv, 1)) (h : GW κ k n ws (pc + 1) lv (.long (x / y) :: st)) : GW κ k n ws pc lv (.long y :: .long x :: st) := fun H locs hP hD hS ls hl => lv_ldiv C.1 C.2.1 hdg hne (h H locs hP hD hS ls hl)
theorem g_lrem (C : Cx κ cc own Ts Rm) {x y : Int64} (hne : ¬ y = 0) (hdg : decode cc pc = .ok (.lrem, 1)) (h : GW κ k n ws (pc + 1) lv (.long (x - x / y * y) :: st)) : GW κ k n ws pc lv (.long y :: .long x :: st) := fun H locs hP hD hS ls hl => lv_lrem C.1 C.2.1 hdg hne (h H locs hP hD hS ls hl)
theorem g_ineg (C : Cx κ cc own Ts Rm) {x : Int32} (hdg : decode cc pc = .ok (.ineg, 1)) (h : GW κ k n ws (pc + 1) lv (.int (-x) :: st)) : GW κ k n ws pc lv (.int x :: st) := fun H locs hP hD hS ls hl => lv_ineg C.1 C.2.1 hdg (h H locs hP hD hS ls hl)
theorem g_i2l (C : Cx κ cc own Ts Rm) {x : Int32} (hdg : decode cc pc = .ok (.i2l, 1)) (h : GW κ k n ws (pc + 1) lv (.long x.toInt64 :: st)) : GW κ k n ws pc lv (.int x :: st) := fun H locs hP hD hS ls hl => lv_i2l C.1 C.2.1 hdg rfl (h H locs hP hD hS ls hl)
theorem g_l2i (C : Cx κ cc own Ts Rm) {x : Int64} (hdg : decode cc pc = .ok (.l2i, 1)) (h : GW κ k n ws (pc + 1) lv (.int x.toInt32 :: st)) : GW κ k n ws pc lv (.long x :: st) := fun H locs hP hD hS ls hl => lv_l2i C.1 C.2.1 hdg rfl (h H locs hP hD hS ls hl)
theorem g_i2b (C : Cx κ cc own Ts Rm) {x : Int32} (hdg : decode cc pc = .ok (.i2b, 1)) (h : GW κ k n ws (pc + 1) lv (.int x.toInt8.toInt32 :: st)) : GW κ k n ws pc lv (.int x :: st) := fun H locs hP hD hS ls hl => lv_i2b C.1 C.2.1 hdg rfl (h H locs hP hD hS ls hl)
theorem g_i2c (C : Cx κ cc own Ts Rm) {x : Int32} (hdg : decode cc pc = .ok (.i2c, 1)) (h : GW κ k n ws (pc + 1) lv (.int (x.toUInt32 % 65536).toInt32 :: st)) : GW κ k n ws pc lv (.int x :: st) := fun H locs hP hD hS ls hl => lv_i2c C.1 C.2.1 hdg rfl (h H locs hP hD hS ls hl)
theorem g_lushr (C : Cx κ cc own Ts Rm) {x : Int64} {y : Int32} (hdg : decode cc pc = .ok (.lushr, 1)) (h : GW κ k n ws (pc + 1) lv (.long (x.toUInt64 >>> (y.toInt64.toUInt64 &&& Int64.toUInt64 63)).toInt64 :: st)) : GW κ k n ws pc lv (.int y :: .long x :: st) := fun H locs hP hD hS ls hl => lv_lushr C.1 C.2.1 hdg rfl (h H locs hP hD hS ls hl)
theorem g_lshl (C : Cx κ cc own Ts Rm) {x : Int64} {y : Int32} (hdg : decode cc pc = .ok (.lshl, 1)) (h : GW κ k n ws (pc + 1) lv (.long (x <<< (y.toInt64 &&& 63)) :: st)) : GW κ k n ws pc lv (.int y :: .long x :: st) := fun H locs hP hD hS ls hl => lv_lshl C.1 C.2.1 hdg rfl (h H locs hP hD hS ls hl)
theorem g_lshr (C : Cx κ cc own Ts Rm) {x : Int64} {y : Int32} (hdg : decode cc pc = .ok (.lshr, 1)) (h : GW κ k n ws (pc + 1) lv (.long (x >>> (y.toInt64 &&& 63)) :: st)) : GW κ k n ws pc lv (.int y :: .long x :: st) := fun H locs hP hD hS ls hl => lv_lshr C.1 C.2.1 hdg rfl (h H locs hP hD hS ls hl)
theorem g_dup (C : Cx κ cc own Ts Rm) {v : Value} (hv : v.category = 1) (hdg : decode cc pc = .ok (.dup, 1)) (h : GW κ k n ws (pc + 1) lv (v :: v :: st)) : GW κ k n ws pc lv (v :: st) := fun H locs hP hD hS ls hl => lv_dup C.1 C.2.1 hdg hv (h H locs hP hD hS ls hl)
theorem g_dup2 (C : Cx κ cc own Ts Rm) {va vb : Value} (hva : va.category = 1) (hvb : vb.category = 1) (hdg : decode cc pc = .ok (.dup2, 1)) (h : GW κ k n ws (pc + 1) lv (va :: vb :: va :: vb :: st)) : GW κ k n ws pc lv (va :: vb :: st) := fun H locs hP hD hS ls hl => lv_dup2_11 C.1 C.2.1 hdg hva hvb (h H locs hP hD hS ls hl)
theorem g_pop (C : Cx κ cc own Ts Rm) {v : Value} (hv : v.category = 1) (hdg : decode cc pc = .ok (.pop, 1)) (h : GW κ k n ws (pc + 1) lv (st)) : GW κ k n ws pc lv (v :: st) := fun H locs hP hD hS ls hl => lv_pop C.1 C.2.1 hdg hv (h H locs hP hD hS ls hl)
theorem g_goto (C : Cx κ cc own Ts Rm) {off : Int} (tgt : Nat) (ht : (pc : Int) + off = (tgt : Int)) (hdg : decode cc pc = .ok (.goto off, 3)) (h : GW κ k n ws tgt lv st) : GW κ k n ws pc lv st := fun H locs hP hD hS ls hl => lv_goto C.1 C.2.1 hdg ht (h H locs hP hD hS ls hl)
theorem g_if_eq (C : Cx κ cc own Ts Rm) {x : Int32} {off : Int} {wa wb : Prop} (tgt : Nat) (ht : (pc : Int) + off = (tgt : Int)) (hw : if x = 0 then wa else wb) (hdg : decode cc pc = .ok (.ifCond .eq off, 3)) (kt : wa → GW κ k n ws tgt lv st) (kf : wb → GW κ k n ws (pc + 3) lv st) : GW κ k n ws pc lv (.int x :: st) := fun H locs hP hD hS ls hl => lv_if_eq C.1 C.2.1 hdg ht (fun e => kt (by rw [if_pos e] at hw; exact hw) H locs hP hD hS ls hl) (fun e => kf (by rw [if_neg e] at hw; exact hw) H locs hP hD hS ls hl)
theorem g_icmp_eq (C : Cx κ cc own Ts Rm) {x y : Int32} {off : Int} {wa wb : Prop} (tgt : Nat) (ht : (pc : Int) + off = (tgt : Int)) (hw : if x = y then wa else wb) (hdg : decode cc pc = .ok (.if_icmp .eq off, 3)) (kt : wa → GW κ k n ws tgt lv st) (kf : wb → GW κ k n ws (pc + 3) lv st) : GW κ k n ws pc lv (.int y :: .int x :: st) := fun H locs hP hD hS ls hl => lv_icmp_eq C.1 C.2.1 hdg ht (fun e => kt (by rw [if_pos e] at hw; exact hw) H locs hP hD hS ls hl) (fun e => kf (by rw [if_neg e] at hw; exact hw) H locs hP hD hS ls hl)
theorem g_if_ne (C : Cx κ cc own Ts Rm) {x : Int32} {off : Int} {wa wb : Prop} (tgt : Nat) (ht : (pc : Int) + off = (tgt : Int)) (hw : if x = 0 then wa else wb) (hdg : decode cc pc = .ok (.ifCond .ne off, 3)) (kt : wb → GW κ k n ws tgt lv st) (kf : wa → GW κ k n ws (pc + 3) lv st) : GW κ k n ws pc lv (.int x :: st) := fun H locs hP hD hS ls hl => lv_if_ne C.1 C.2.1 hdg ht (fun e => kt (by rw [if_neg e] at hw; exact hw) H locs hP hD hS ls hl) (fun e => kf (by rw [if_pos e] at hw; exact hw) H locs hP hD hS ls hl)
theorem g_icmp_ne (C : Cx κ cc own Ts Rm) {x y : Int32} {off : Int} {wa wb : Prop} (tgt : Nat) (ht : (pc : Int) + off = (tgt : Int)) (hw : if x = y then wa else wb) (hdg : decode cc pc = .ok (.if_icmp .ne off, 3)) (kt : wb → GW κ k n ws tgt lv st) (kf : wa → GW κ k n ws (pc + 3) lv st) : GW κ k n ws pc lv (.int y :: .int x :: st) := fun H locs hP hD hS ls hl => lv_icmp_ne C.1 C.2.1 hdg ht (fun e => kt (by rw [if_neg e] at hw; exact hw) H locs hP hD hS ls hl) (fun e => kf (by rw [if_pos e] at hw; exact hw) H locs hP hD hS ls hl)
theorem g_if_lt (C : Cx κ cc own Ts Rm) {x : Int32} {off : Int} {wa wb : Prop} (tgt : Nat) (ht : (pc : Int) + off = (tgt : Int)) (hw : if x < 0 then wa else wb) (hdg : decode cc pc = .ok (.ifCond .lt off, 3)) (kt : wa → GW κ k n ws tgt lv st) (kf : wb → GW κ k n ws (pc + 3) lv st) : GW κ k n ws pc lv (.int x :: st) := fun H locs hP hD hS ls hl => lv_if_lt C.1 C.2.1 hdg ht (fun e => kt (by rw [if_pos e] at hw; exact hw) H locs hP hD hS ls hl) (fun e => kf (by rw [if_neg e] at hw; exact hw) H locs hP hD hS ls hl)
theorem g_icmp_lt (C : Cx κ cc own Ts Rm) {x y : Int32} {off : Int} {wa wb : Prop} (tgt : Nat) (ht : (pc : Int) + off = (tgt : Int)) (hw : if x < y then wa else wb) (hdg : decode cc pc = .ok (.if_icmp .lt off, 3)) (kt : wa → GW κ k n ws tgt lv st) (kf : wb → GW κ k n ws (pc + 3) lv st) : GW κ k n ws pc lv (.int y :: .int x :: st) := fun H locs hP hD hS ls hl => lv_icmp_lt C.1 C.2.1 hdg ht (fun e => kt (by rw [if_pos e] at hw; exact hw) H locs hP hD hS ls hl) (fun e => kf (by rw [if_neg e] at hw; exact hw) H locs hP hD hS ls hl)
theorem g_if_ge (C : Cx κ cc own Ts Rm) {x : Int32} {off : Int} {wa wb : Prop} (tgt : Nat) (ht : (pc : Int) + off = (tgt : Int)) (hw : if 0 ≤ x then wa else wb) (hdg : decode cc pc = .ok (.ifCond .ge off, 3)) (kt : wa → GW κ k n ws tgt lv st) (kf : wb → GW κ k n ws (pc + 3) lv st) : GW κ k n ws pc lv (.int x :: st) := fun H locs hP hD hS ls hl => lv_if_ge C.1 C.2.1 hdg ht (fun e => kt (by rw [if_pos e] at hw; exact hw) H locs hP hD hS ls hl) (fun e => kf (by rw [if_neg e] at hw; exact hw) H locs hP hD hS ls hl)
theorem g_icmp_ge (C : Cx κ cc own Ts Rm) {x y : Int32} {off : Int} {wa wb : Prop} (tgt : Nat) (ht : (pc : Int) + off = (tgt : Int)) (hw : if y ≤ x then wa else wb) (hdg : decode cc pc = .ok (.if_icmp .ge off, 3)) (kt : wa → GW κ k n ws tgt lv st) (kf : wb → GW κ k n ws (pc + 3) lv st) : GW κ k n ws pc lv (.int y :: .int x :: st) := fun H locs hP hD hS ls hl => lv_icmp_ge C.1 C.2.1 hdg ht (fun e => kt (by rw [if_pos e] at hw; exact hw) H locs hP hD hS ls hl) (fun e => kf (by rw [if_neg e] at hw; exact hw) H locs hP hD hS ls hl)
theorem g_if_gt (C : Cx κ cc own Ts Rm) {x : Int32} {off : Int} {wa wb : Prop} (tgt : Nat) (ht : (pc : Int) + off = (tgt : Int)) (hw : if 0 < x then wa else wb) (hdg : decode cc pc = .ok (.ifCond .gt off, 3)) (kt : wa → GW κ k n ws tgt lv st) (kf : wb → GW κ k n ws (pc + 3) lv st) : GW κ k n ws pc lv (.int x :: st) := fun H locs hP hD hS ls hl => lv_if_gt C.1 C.2.1 hdg ht (fun e => kt (by rw [if_pos e] at hw; exact hw) H locs hP hD hS ls hl) (fun e => kf (by rw [if_neg e] at hw; exact hw) H locs hP hD hS ls hl)
theorem g_icmp_gt (C : Cx κ cc own Ts Rm) {x y : Int32} {off : Int} {wa wb : Prop} (tgt : Nat) (ht : (pc : Int) + off = (tgt : Int)) (hw : if y < x then wa else wb) (hdg : decode cc pc = .ok (.if_icmp .gt off, 3)) (kt : wa → GW κ k n ws tgt lv st) (kf : wb → GW κ k n ws (pc + 3) lv st) : GW κ k n ws pc lv (.int y :: .int x :: st) := fun H locs hP hD hS ls hl => lv_icmp_gt C.1 C.2.1 hdg ht (fun e => kt (by rw [if_pos e] at hw; exact hw) H locs hP hD hS ls hl) (fun e => kf (by rw [if_neg e] at hw; exact hw) H locs hP hD hS ls hl)
theorem g_if_le (C : Cx κ cc own Ts Rm) {x : Int32} {off : Int} {wa wb : Prop} (tgt : Nat) (ht : (pc : Int) + off = (tgt : Int)) (hw : if x ≤ 0 then wa else wb) (hdg : decode cc pc = .ok (.ifCond .le off, 3)) (kt : wa → GW κ k n ws tgt lv st) (kf : wb → GW κ k n ws (pc + 3) lv st) : GW κ k n ws pc lv (.int x :: st) := fun H locs hP hD hS ls hl => lv_if_le C.1 C.2.1 hdg ht (fun e => kt (by rw [if_pos e] at hw; exact hw) H locs hP hD hS ls hl) (fun e => kf (by rw [if_neg e] at hw; exact hw) H locs hP hD hS ls hl)
theorem g_icmp_le (C : Cx κ cc own Ts Rm) {x y : Int32} {off : Int} {wa wb : Prop} (tgt : Nat) (ht : (pc : Int) + off = (tgt : Int)) (hw : if x ≤ y then wa else wb) (hdg : decode cc pc = .ok (.if_icmp .le off, 3)) (kt : wa → GW κ k n ws tgt lv st) (kf : wb → GW κ k n ws (pc + 3) lv st) : GW κ k n ws pc lv (.int y :: .int x :: st) := fun H locs hP hD hS ls hl => lv_icmp_le C.1 C.2.1 hdg ht (fun e => kt (by rw [if_pos e] at hw; exact hw) H locs hP hD hS ls hl) (fun e => kf (by rw [if_neg e] at hw; exact hw) H locs hP hD hS ls hl)
theorem g_lcmp (C : Cx κ cc own Ts Rm) {x y : Int64} (hdg : decode cc pc = .ok (.lcmp, 1)) (h : GW κ k n ws (pc + 1) lv (.int (lg_cmp x y) :: st)) : GW κ k n ws pc lv (.long y :: .long x :: st) := fun H locs hP hD hS ls hl => W.lcmp C.1 C.2.1 hdg (h H locs hP hD hS ls hl)
/-- a reference to a thing, or null -/
theorem g_ifnull (C : Cx κ cc own Ts Rm) {r : Option Nat} {off : Int} {wa : Prop} {wb : Nat → Prop} (tgt : Nat) (ht : (pc : Int) + off = (tgt : Int)) (hw : (r = none → wa) ∧ ∀ a, r = some a → wb a) (hdg : decode cc pc = .ok (.ifnull off, 3)) (kt : wa → r = none → GW κ k n ws tgt lv st) (kf : ∀ a, r = some a → wb a → GW κ k n ws (pc + 3) lv st) : GW κ k n ws pc lv (va_rf r :: st) := by
  intro H locs hP hD hS ls hl
  cases r with
  | none => exact lv_ifnullN C.1 C.2.1 hdg ht (kt (hw.1 rfl) rfl H locs hP hD hS ls hl)
  | some a => exact lv_ifnull C.1 C.2.1 hdg (kf a rfl (hw.2 a rfl) H locs hP hD hS ls hl)
theorem g_ifnonnull (C : Cx κ cc own Ts Rm) {r : Option Nat} {off : Int} {wa : Prop} {wb : Nat → Prop} (tgt : Nat) (ht : (pc : Int) + off = (tgt : Int)) (hw : (r = none → wa) ∧ ∀ a, r = some a → wb a) (hdg : decode cc pc = .ok (.ifnonnull off, 3)) (kt : ∀ a, r = some a → wb a → GW κ k n ws tgt lv st) (kf : wa → r = none → GW κ k n ws (pc + 3) lv st) : GW κ k n ws pc lv (va_rf r :: st) := by
  intro H locs hP hD hS ls hl
  cases r with
  | none => exact lv_ifnonnullN C.1 C.2.1 hdg (kf (hw.1 rfl) rfl H locs hP hD hS ls hl)
  | some a => exact lv_ifnonnull C.1 C.2.1 hdg ht (kt a rfl (hw.2 a rfl) H locs hP hD hS ls hl)
/-- a switch: out of its range, or at one of its numbers -/
theorem g_swOut (C : Cx κ cc own Ts Rm) {dflt lo hi : Int} {offs : Array Int} {len : Nat} {x : Int32} (tgt : Nat) (h : x.toInt < lo ∨ hi < x.toInt) (ht : (pc : Int) + dflt = (tgt : Int)) (hdg : decode cc pc = .ok (.tableswitch dflt lo hi offs, len)) (hk : GW κ k n ws tgt lv st) : GW κ k n ws pc lv (.int x :: st) := fun H locs hP hD hS ls hl => lv_tableOut C.1 C.2.1 hdg h ht (hk H locs hP hD hS ls hl)
theorem g_swIn (C : Cx κ cc own Ts Rm) {dflt lo hi off : Int} {offs : Array Int} {len : Nat} {x : Int32} (y : Int) (tgt : Nat) (h : x.toInt = y) (h1 : ¬ y < lo) (h2 : ¬ hi < y) (ho : offs[(y - lo).toNat]? = some off) (ht : (pc : Int) + off = (tgt : Int)) (hdg : decode cc pc = .ok (.tableswitch dflt lo hi offs, len)) (hk : GW κ k n ws tgt lv st) : GW κ k n ws pc lv (.int x :: st) := by
  subst h
  exact fun H locs hP hD hS ls hl => lv_tableIn C.1 C.2.1 hdg h1 h2 ho ht (hk H locs hP hD hS ls hl)
/-! fields -/
variable {tys : List (ClassId × FieldType)} {Cn ref : String} {T : u_T} {N ci idx : Nat} {a : Nat} {fs : List Value}
theorem g_get (C : Cx κ cc own Ts Rm) (hK : va_K (q_D κ) vwCl tys (q_s κ)) (hin : ∀ w ∈ u_ws Cn T N, w ∈ Ts) (hc : vwCl[ci]? = some (Cn, T, N)) (q0 : Nat) (he : ws[q0]? = some (a, .inr (ci, fs))) (f : Nat) (hf : f < N) (hsame : ∀ x, (q_s κ).fieldFound? (T f).1 (T f).2.1 (T f).2.2.1 = some x → (q_s κ).fieldFound? ref (T f).2.1 (T f).2.2.1 = some x) (hlk : Cond.fieldLink own idx ref (T f).2.1 (T f).2.2.1 ∈ Ts) {v : Value} (hv : fs[f]? = some v) (hdg : decode cc pc = .ok (.getfield idx, 3)) (h : GW κ k n ws (pc + 3) lv (v :: st)) : GW κ k n ws pc lv (.ref a :: st) :=
  fun H locs hP hD hS ls hl => va_get C.1 C.2.1 C.2.2.2.2.1 hin C.2.2.2.1 hK hP q0 he hc f hf (C.2.2.2.2.1 _ hlk) hsame hv hdg (h H locs hP hD hS ls hl)
theorem g_put (C : Cx κ cc own Ts Rm) (hK : va_K (q_D κ) vwCl tys (q_s κ)) (hin : ∀ w ∈ u_ws Cn T N, w ∈ Ts) (hc : vwCl[ci]? = some (Cn, T, N)) (ty0 : Nat → FieldType) (hty : ∀ k, k < N → parseFieldDescriptor (T k).2.2.1 = some (ty0 k)) (hnm : ∀ a, a < N → ∀ b, b < N → a ≠ b → (T a).2.1 ≠ (T b).2.1) (q0 : Nat) (he : ws[q0]? = some (a, .inr (ci, fs))) (f : Nat) (hf : f < N) (hsame : ∀ x, (q_s κ).fieldFound? (T f).1 (T f).2.1 (T f).2.2.1 = some x → (q_s κ).fieldFound? ref (T f).2.1 (T f).2.2.1 = some x) (hlk : Cond.fieldLink own idx ref (T f).2.1 (T f).2.2.1 ∈ Ts) (hfin : (T f).2.2.2 = false) {v : Value} (hn : narrow (ty0 f) v = v) (hfit : fits (ty0 f) v = true) (hlen : f < fs.length) {ws' : va_W} (e : ws.set q0 (a, .inr (ci, fs.set f v)) = ws') (hdg : decode cc pc = .ok (.putfield idx, 3)) (h : GW κ k n ws' (pc + 3) lv st) : GW κ k n ws pc lv (v :: .ref a :: st) :=
  fun H locs hP hD hS ls hl => va_put C.1 C.2.1 C.2.2.2.2.1 hin ty0 hty hnm C.2.2.2.1 hK hP hD hS q0 he hc f hf (C.2.2.2.2.1 _ hlk) hsame hfin (hty f hf) hn hfit hlen hdg (fun H1 locs1 hP1 hD1 hS1 => h H1 locs1 (e ▸ hP1) (e ▸ hD1) hS1 ls hl)
theorem g_putF (C : Cx κ cc own Ts Rm) (hK : va_K (q_D κ) vwCl tys (q_s κ)) (hin : ∀ w ∈ u_ws Cn T N, w ∈ Ts) (hc : vwCl[ci]? = some (Cn, T, N)) (ty0 : Nat → FieldType) (hty : ∀ k, k < N → parseFieldDescriptor (T k).2.2.1 = some (ty0 k)) (hnm : ∀ a, a < N → ∀ b, b < N → a ≠ b → (T a).2.1 ≠ (T b).2.1) (hi : (q_M κ).name = "<init>") (q0 : Nat) (he : ws[q0]? = some (a, .inr (ci, fs))) (f : Nat) (hf : f < N) (hdecl : (T f).1 = own) (hsame : ∀ x, (q_s κ).fieldFound? (T f).1 (T f).2.1 (T f).2.2.1 = some x → (q_s κ).fieldFound? ref (T f).2.1 (T f).2.2.1 = some x) (hlk : Cond.fieldLink own idx ref (T f).2.1 (T f).2.2.1 ∈ Ts) (hfin : (T f).2.2.2 = true) {v : Value} (hn : narrow (ty0 f) v = v) (hfit : fits (ty0 f) v = true) (hlen : f < fs.length) {ws' : va_W} (e : ws.set q0 (a, .inr (ci, fs.set f v)) = ws') (hdg : decode cc pc = .ok (.putfield idx, 3)) (h : GW κ k n ws' (pc + 3) lv st) : GW κ k n ws pc lv (v :: .ref a :: st) :=
  fun H locs hP hD hS ls hl => va_putF C.1 C.2.1 C.2.2.2.2.1 hin ty0 hty hnm C.2.2.2.1 hK hP hD hS q0 he hc f hf (C.2.2.2.2.1 _ hlk) hsame hfin hi hdecl (hty f hf) hn hfit hlen hdg (fun H1 locs1 hP1 hD1 hS1 => h H1 locs1 (e ▸ hP1) (e ▸ hD1) hS1 ls hl)
/-! arrays -/
variable {cA : ClassId} {L : Nat} {i : Int32}
theorem g_iald (C : Cx κ cc own Ts Rm) (hK : va_K (q_D κ) vwCl tys (q_s κ)) (q0 t0 : Nat) {f : Nat → Int32} (ha : ws[q0]? = some (a, .inl (cA, L, .inl f))) (ht : tys[t0]? = some (cA, .int)) (hin : vp_in i L) (hdg : decode cc pc = .ok (.iaload, 1)) (h : GW κ k n ws (pc + 1) lv (.int (f i.toNatClampNeg) :: st)) : GW κ k n ws pc lv (.int i :: .ref a :: st) := fun H locs hP hD hS ls hl => va_iald C.1 C.2.1 hK hP q0 t0 ha ht hin hdg (h H locs hP hD hS ls hl)
theorem g_bald (C : Cx κ cc own Ts Rm) (hK : va_K (q_D κ) vwCl tys (q_s κ)) (q0 t0 : Nat) {f : Nat → Int32} (ha : ws[q0]? = some (a, .inl (cA, L, .inl f))) (ht : tys[t0]? = some (cA, .byte)) (hin : vp_in i L) (hdg : decode cc pc = .ok (.baload, 1)) (h : GW κ k n ws (pc + 1) lv (.int (f i.toNatClampNeg) :: st)) : GW κ k n ws pc lv (.int i :: .ref a :: st) := fun H locs hP hD hS ls hl => va_bald C.1 C.2.1 hK hP q0 t0 ha ht hin hdg (h H locs hP hD hS ls hl)
theorem g_cald (C : Cx κ cc own Ts Rm) (hK : va_K (q_D κ) vwCl tys (q_s κ)) (q0 t0 : Nat) {f : Nat → Int32} (ha : ws[q0]? = some (a, .inl (cA, L, .inl f))) (ht : tys[t0]? = some (cA, .char)) (hin : vp_in i L) (hdg : decode cc pc = .ok (.caload, 1)) (h : GW κ k n ws (pc + 1) lv (.int (f i.toNatClampNeg) :: st)) : GW κ k n ws pc lv (.int i :: .ref a :: st) := fun H locs hP hD hS ls hl => va_cald C.1 C.2.1 hK hP q0 t0 ha ht hin hdg (h H locs hP hD hS ls hl)
theorem g_aald (C : Cx κ cc own Ts Rm) (hK : va_K (q_D κ) vwCl tys (q_s κ)) (q0 t0 : Nat) {E : String} {f : Nat → Option Nat} (ha : ws[q0]? = some (a, .inl (cA, L, .inr (.inr (.inr (.inr f)))))) (ht : tys[t0]? = some (cA, .object E)) (hin : vp_in i L) (hdg : decode cc pc = .ok (.aaload, 1)) (h : GW κ k n ws (pc + 1) lv (va_rf (f i.toNatClampNeg) :: st)) : GW κ k n ws pc lv (.int i :: .ref a :: st) := fun H locs hP hD hS ls hl => va_aldq C.1 C.2.1 hK hP q0 t0 ha ht hin hdg (h H locs hP hD hS ls hl)
theorem g_iast (C : Cx κ cc own Ts Rm) (hK : va_K (q_D κ) vwCl tys (q_s κ)) (q0 t0 : Nat) {x : Int32} {f : Nat → Int32} (ha : ws[q0]? = some (a, .inl (cA, L, .inl f))) (ht : tys[t0]? = some (cA, .int)) (hin : vp_in i L) {ws' : va_W} (e : ws.set q0 (a, .inl (cA, L, .inl (upd f i.toNatClampNeg x))) = ws') (hdg : decode cc pc = .ok (.iastore, 1)) (h : GW κ k n ws' (pc + 1) lv st) : GW κ k n ws pc lv (.int x :: .int i :: .ref a :: st) := fun H locs hP hD hS ls hl => va_iast C.1 C.2.1 hK hP hD hS q0 t0 ha ht hin hdg (fun H1 locs1 hP1 hD1 hS1 => h H1 locs1 (e ▸ hP1) (e ▸ hD1) hS1 ls hl)
theorem g_bast (C : Cx κ cc own Ts Rm) (hK : va_K (q_D κ) vwCl tys (q_s κ)) (q0 t0 : Nat) {x : Int32} {f : Nat → Int32} (ha : ws[q0]? = some (a, .inl (cA, L, .inl f))) (ht : tys[t0]? = some (cA, .byte)) (hin : vp_in i L) {ws' : va_W} (e : ws.set q0 (a, .inl (cA, L, .inl (upd f i.toNatClampNeg (vp_nar .byte x)))) = ws') (hdg : decode cc pc = .ok (.bastore, 1)) (h : GW κ k n ws' (pc + 1) lv st) : GW κ k n ws pc lv (.int x :: .int i :: .ref a :: st) := fun H locs hP hD hS ls hl => va_bast C.1 C.2.1 hK hP hD hS q0 t0 ha ht hin hdg (fun H1 locs1 hP1 hD1 hS1 => h H1 locs1 (e ▸ hP1) (e ▸ hD1) hS1 ls hl)
theorem g_cast (C : Cx κ cc own Ts Rm) (hK : va_K (q_D κ) vwCl tys (q_s κ)) (q0 t0 : Nat) {x : Int32} {f : Nat → Int32} (ha : ws[q0]? = some (a, .inl (cA, L, .inl f))) (ht : tys[t0]? = some (cA, .char)) (hin : vp_in i L) {ws' : va_W} (e : ws.set q0 (a, .inl (cA, L, .inl (upd f i.toNatClampNeg (vp_nar .char x)))) = ws') (hdg : decode cc pc = .ok (.castore, 1)) (h : GW κ k n ws' (pc + 1) lv st) : GW κ k n ws pc lv (.int x :: .int i :: .ref a :: st) := fun H locs hP hD hS ls hl => va_cast C.1 C.2.1 hK hP hD hS q0 t0 ha ht hin hdg (fun H1 locs1 hP1 hD1 hS1 => h H1 locs1 (e ▸ hP1) (e ▸ hD1) hS1 ls hl)
theorem g_aastN (C : Cx κ cc own Ts Rm) (hK : va_K (q_D κ) vwCl tys (q_s κ)) (q0 t0 : Nat) {E : String} {f : Nat → Option Nat} (ha : ws[q0]? = some (a, .inl (cA, L, .inr (.inr (.inr (.inr f)))))) (ht : tys[t0]? = some (cA, .object E)) (hin : vp_in i L) {ws' : va_W} (e : ws.set q0 (a, .inl (cA, L, .inr (.inr (.inr (.inr (va_up f i.toNatClampNeg none)))))) = ws') (hdg : decode cc pc = .ok (.aastore, 1)) (h : GW κ k n ws' (pc + 1) lv st) : GW κ k n ws pc lv (.null :: .int i :: .ref a :: st) := fun H locs hP hD hS ls hl => va_astqN C.1 C.2.1 hK hP hD hS q0 t0 ha ht hin hdg (fun H1 locs1 hP1 hD1 hS1 => h H1 locs1 (e ▸ hP1) (e ▸ hD1) hS1 ls hl)
theorem g_alen (C : Cx κ cc own Ts Rm) (hK : va_K (q_D κ) vwCl tys (q_s κ)) (q0 t0 : Nat) {x : vp_A} (ha : ws[q0]? = some (a, .inl (cA, x))) {ty : FieldType} (ht : tys[t0]? = some (cA, ty)) {v : Int32} (hv : Int32.ofNat x.1 = v) (hdg : decode cc pc = .ok (.arraylength, 1)) (h : GW κ k n ws (pc + 1) lv (.int v :: st)) : GW κ k n ws pc lv (.ref a :: st) := fun H locs hP hD hS ls hl => va_alen C.1 C.2.1 hK hP q0 t0 ha ht hv hdg (h H locs hP hD hS ls hl)
end GR
end
section
/-! CONTRACTS over the world, calls and ends over the context -/
def HG (D : va_G) (cy : Nat → ClassId) (A : Nat → Nat) (σ : St) (U : State) : Prop := va_P D vwCl (gW cy A σ) U.heap ∧ va_K D vwCl (gty cy) U ∧ va_D (fun _ => True) (gW cy A σ) ∧ NW U
def HE (D : va_G) (cy : Nat → ClassId) (A : Nat → Nat) (Z : Nat → Prop) (σ : St) (t : State) : Prop := va_P D vwCl (gW cy A σ) t.heap ∧ va_D Z (gW cy A σ)
def gPc (D : va_G) (cy : Nat → ClassId) (A : Nat → Nat) (σ : St) (sz : Nat) (av : List Value) : Array Value → State → Prop := va_Pc av (fun U => U.heap.size = sz ∧ HG D cy A σ U)
def gZ (cy : Nat → ClassId) (A : Nat → Nat) (σ : St) (sz : Nat) : Nat → Prop := va_A (gW cy A σ) sz
def CtI (l : Launch) (y : MethodName) (ws : List Cond) (rm : Room) (mc ms : Nat) (av : List Value) (D : va_G) (cy : Nat → ClassId) (A : Nat → Nat) (σ : St) (Φ : Int32 → St → Prop) : Prop := ∀ sz, Met l y ws rm (gPc D cy A σ sz av) (va_Qi Φ (HE D cy A (gZ cy A σ sz)) (gZ cy A σ sz)) mc ms (gZ cy A σ sz)
def CtL (l : Launch) (y : MethodName) (ws : List Cond) (rm : Room) (mc ms : Nat) (av : List Value) (D : va_G) (cy : Nat → ClassId) (A : Nat → Nat) (σ : St) (Φ : Int64 → St → Prop) : Prop := ∀ sz, Met l y ws rm (gPc D cy A σ sz av) (va_Ql Φ (HE D cy A (gZ cy A σ sz)) (gZ cy A σ sz)) mc ms (gZ cy A σ sz)
def CtV (l : Launch) (y : MethodName) (ws : List Cond) (rm : Room) (mc ms : Nat) (av : List Value) (D : va_G) (cy : Nat → ClassId) (A : Nat → Nat) (σ : St) (Φ : St → Prop) : Prop := ∀ sz, Met l y ws rm (gPc D cy A σ sz av) (va_Qv Φ (HE D cy A (gZ cy A σ sz)) (gZ cy A σ sz)) mc ms (gZ cy A σ sz)
def CtQ (l : Launch) (y : MethodName) (ws : List Cond) (rm : Room) (mc ms : Nat) (av : List Value) (D : va_G) (cy : Nat → ClassId) (A : Nat → Nat) (σ : St) (Φ : Option Nat → St → Prop) : Prop := ∀ sz, Met l y ws rm (gPc D cy A σ sz av) (va_Qq Φ (HE D cy A (gZ cy A σ sz)) (gZ cy A σ sz)) mc ms (gZ cy A σ sz)
theorem gPc_blind {D : va_G} {cy : Nat → ClassId} {A : Nat → Nat} {σ : St} {sz : Nat} {av : List Value} : FrameBlind (gPc D cy A σ sz av) := fun a U g mk q => ⟨q.1, q.2.1, q.2.2.1, va_K.moved (u := U) (U := U.calling g mk a) (Vm.Alike.refl U.vm) q.2.2.2.1, q.2.2.2.2.1, NW.calling q.2.2.2.2.2⟩
theorem gPc_at {D : va_G} {cy : Nat → ClassId} {A : Nat → Nat} {σ : St} {av : List Value} {s : State} {H : Heap} {Z : Nat → Prop} (hP : va_P D vwCl (gW cy A σ) H) (hK : va_K D vwCl (gty cy) s) (hD : va_D Z (gW cy A σ)) (hN : NW s) : ∀ U : State, U.heap = H → s.WarmedH U.vm → gPc D cy A σ H.size av av.toArray U := fun U hU hW => ⟨rfl, by rw [hU], by rw [hU]; exact hP, va_K.moved hW.alike hK, hD.weaken (fun _ _ _ _ => trivial), NW.warm hW hN⟩
theorem gF {Z : Nat → Prop} {ws : va_W} {H0 H : Heap} {locs : List Loc} (hD : va_D Z ws) (hS : va_S Z H0 H locs) (hA : ∀ q, H0.size ≤ q → Z q) : ∀ q, va_A ws H.size q → Z q := by
  intro q h
  rcases h with ⟨k, e, h⟩ | h
  · exact hD.2 k (q, e) h
  · exact hA q (Nat.le_trans hS.1 h)
theorem ga_T (cy : Nat → ClassId) (A : Nat → Nat) (σ : St) {a kd : Nat} (h : a ∈ σ.2.2.2.1) (hk : σ.2.2.2.2.1 a = kd) : ∃ q0 : Nat, (gW cy A σ)[q0]? = some (a, tcell σ a) ∧ (gW cy A σ)[q0]? = some (a, .inr (kd, [.int (σ.2.2.2.2.2 a 0), .int (σ.2.2.2.2.2 a 1), .int (σ.2.2.2.2.2 a 2)])) := by
  subst hk
  obtain ⟨k, hk⟩ := va_pl_get (X := gX cy A σ) (f := tcell σ) h
  exact ⟨k, hk, hk⟩
def Fx (κ : qC) (D : va_G) (Z : Nat → Prop) (ret : Option FieldType) (maxL : Nat) (Qc : Array Value → State → Outcome → State → Prop) (mc ms : Nat) : Prop := q_D κ = D ∧ q_A κ = Z ∧ (q_M κ).sig.returnType = ret ∧ q_n κ = maxL ∧ q_Q κ = MQ (q_b κ) Qc (q_a κ) (q_s κ) mc ms Z
theorem ct_any {l : Launch} {y : MethodName} {ws : List Cond} {rm : Room} {mc ms : Nat} {av : List Value} {D : va_G} {cy : Nat → ClassId} {A : Nat → Nat} {σ : St} {cc : ByteArray} {maxL : Nat} {own : String} {ret : Option FieldType} (Qc : Nat → Array Value → State → Outcome → State → Prop) (hy : plainFor y = true) (hw : ws = Cond.code y cc maxL ret :: gL) (hcl : y.cls = own) (lv0 : List (Nat × Value)) (hlv : lv_args 0 av = lv0) (hlen : (lg_sl av).length ≤ maxL)
    (body : ∀ κ : qC, q_l κ = l → (q_M κ).name = y.name → Cx κ cc own gL rm → va_K (q_D κ) vwCl (gty cy) (q_s κ) → ∀ sz, Fx κ D (gZ cy A σ sz) ret maxL (Qc sz) mc ms → GW κ 0 0 (gW cy A σ) 0 lv0 []) : ∀ sz, Met l y ws rm (gPc D cy A σ sz av) (Qc sz) mc ms (gZ cy A σ sz) := by
  intro sz
  refine va_MetF (cc := cc) (maxL := maxL) (ret := ret) hy hw ?_
  intro p e s m args below meth c s₁ B hml hv
  obtain ⟨rfl, hsz, hP, hK, hD0, hN⟩ := hv
  have hts := atoms_spec (ws := ws) B.pre
  subst hsz
  have hD := hD0.self (sz := s.heap.size)
  have hA : ∀ q : Nat, s.heap.size ≤ q → gZ cy A σ s.heap.size q := fun q h => Or.inr h
  have hl := lv_entry av (n := maxL) hlen
  rw [lg_entry_eq]
  generalize (lg_sl av ++ List.replicate (maxL - (lg_sl av).length) Slot.unset).toArray = ls at hl ⊢
  rw [hlv] at hl
  exact body (p, l, e, (headSpec ws rm).room, s, m, av.toArray, below, meth, c, gZ cy A σ s.heap.size, D, MQ below (Qc s.heap.size) av.toArray s mc ms (gZ cy A σ s.heap.size), maxL) rfl (name_of_methodNamed B.named B.method).1 ⟨B.exec, B.bytes, hml, by rw [← hcl]; exact findClass_of_methodNamed B.named, fun w h => hts w (by rw [hw]; exact List.mem_cons_of_mem _ h), hA, hN, B.notSynchronized, rfl⟩ hK s.heap.size ⟨rfl, rfl, B.returns, rfl, rfl⟩ s.heap [] hP hD va_S.rf ls hl
section GC
variable {κ : qC} {cc : ByteArray} {own : String} {Rm : Room} {k n mc ms : Nat} {cy : Nat → ClassId} {A : Nat → Nat} {σ : St} {pc : Nat} {lv : List (Nat × Value)} {st0 rest av : List Value}
def GRun (κ : qC) (k n mc ms : Nat) (cy : Nat → ClassId) (A : Nat → Nat) (σ : St) (pc : Nat) (lv : List (Nat × Value)) (st0 rest av : List Value) (Qc : Nat → Array Value → State → Outcome → State → Prop) : Prop :=
  ∀ (H : Heap) (locs : List Loc), va_P (q_D κ) vwCl (gW cy A σ) H → va_D (q_A κ) (gW cy A σ) → va_S (q_A κ) (q_s κ).heap H locs → ∀ ls : Array Slot, lv_has ls (q_n κ) lv → va_Run (q_p κ) (q_l κ) (q_e κ) (q_R κ) (q_s κ) (q_m κ) (q_a κ) (q_b κ) (q_M κ) (q_c κ) H locs k n mc ms (F0 (q_m κ) pc ls st0) rest (Qc H.size av.toArray) (gZ cy A σ H.size)
theorem gc_I (C : Cx κ cc own gL Rm) {Φ : Int32 → St → Prop} (hr : GRun κ k n mc ms cy A σ pc lv st0 rest av (fun sz => va_Qi Φ (HE (q_D κ) cy A (gZ cy A σ sz)) (gZ cy A σ sz))) (h : ∀ r σ', Φ r σ' → GW κ (k + mc) (n + ms) (gW cy A σ') (pc + 3) lv (.int r :: rest)) : GW κ k n (gW cy A σ) pc lv st0 := by
  intro H locs hP hD hS ls hl
  have hF := gF hD hS C.2.2.2.2.2.1
  refine va_calli (hr H locs hP hD hS ls hl) hS (fun q _ h => hF q h) hF (fun r u t H1 locs1 ht hvm hw hB hz hk1 hS1 => ?_)
  exact h r u hw H1 locs1 (ht ▸ hB.1) (hB.2.weaken (fun k q _ h => hF q.1 h)) hS1 ls hl
theorem gc_L (C : Cx κ cc own gL Rm) {Φ : Int64 → St → Prop} (hr : GRun κ k n mc ms cy A σ pc lv st0 rest av (fun sz => va_Ql Φ (HE (q_D κ) cy A (gZ cy A σ sz)) (gZ cy A σ sz))) (h : ∀ r σ', Φ r σ' → GW κ (k + mc) (n + ms) (gW cy A σ') (pc + 3) lv (.long r :: rest)) : GW κ k n (gW cy A σ) pc lv st0 := by
  intro H locs hP hD hS ls hl
  have hF := gF hD hS C.2.2.2.2.2.1
  refine va_calll (hr H locs hP hD hS ls hl) hS (fun q _ h => hF q h) hF (fun r u t H1 locs1 ht hvm hw hB hz hk1 hS1 => ?_)
  exact h r u hw H1 locs1 (ht ▸ hB.1) (hB.2.weaken (fun k q _ h => hF q.1 h)) hS1 ls hl
theorem gc_V (C : Cx κ cc own gL Rm) {Φ : St → Prop} (hr : GRun κ k n mc ms cy A σ pc lv st0 rest av (fun sz => va_Qv Φ (HE (q_D κ) cy A (gZ cy A σ sz)) (gZ cy A σ sz))) (h : ∀ σ', Φ σ' → GW κ (k + mc) (n + ms) (gW cy A σ') (pc + 3) lv rest) : GW κ k n (gW cy A σ) pc lv st0 := by
  intro H locs hP hD hS ls hl
  have hF := gF hD hS C.2.2.2.2.2.1
  refine va_callv (hr H locs hP hD hS ls hl) hS (fun q _ h => hF q h) hF (fun u t H1 locs1 ht hvm hw hB hz hk1 hS1 => ?_)
  exact h u hw H1 locs1 (ht ▸ hB.1) (hB.2.weaken (fun k q _ h => hF q.1 h)) hS1 ls hl
theorem gc_Q (C : Cx κ cc own gL Rm) {Φ : Option Nat → St → Prop} (hr : GRun κ k n mc ms cy A σ pc lv st0 rest av (fun sz => va_Qq Φ (HE (q_D κ) cy A (gZ cy A σ sz)) (gZ cy A σ sz))) (h : ∀ r σ', Φ r σ' → GW κ (k + mc) (n + ms) (gW cy A σ') (pc + 3) lv (va_rf r :: rest)) : GW κ k n (gW cy A σ) pc lv st0 := by
  intro H locs hP hD hS ls hl
  have hF := gF hD hS C.2.2.2.2.2.1
  refine va_callq (hr H locs hP hD hS ls hl) hS (fun q _ h => hF q h) hF (fun r u t H1 locs1 ht hvm hw hB hz hk1 hS1 => ?_)
  exact h r u hw H1 locs1 (ht ▸ hB.1) (hB.2.weaken (fun k q _ h => hF q.1 h)) hS1 ls hl
variable {y : MethodName} {bytes : ByteArray} {maxL idx : Nat} {ret : Option FieldType} {ws ws' : List Cond} {rm : Room} {Qc : Nat → Array Value → State → Outcome → State → Prop}
theorem gr_V (C : Cx κ cc own gL Rm) (hK : va_K (q_D κ) vwCl (gty cy) (q_s κ)) {Cn : String} (nA : Nat) (hg : GoodIn gL (wsV own idx Cn y ws)) (hw : ws = Cond.code y bytes maxL ret :: ws') (hrc : rm.cells = mc) (hrs : rm.slots = ms) (hd : y.cls = Cn ∧ y.cls ≠ "java/lang/invoke/MethodHandle" ∧ y.cls ≠ "java/lang/invoke/VarHandle" ∧ (parseMethodDescriptor y.desc).map (fun d => d.parameters.length) = some nA) (hroom : (rm.frames + 1 ≤ Rm.frames ∧ 8 + (maxL + 11) + rm.locals ≤ Rm.locals) ∧ k + mc ≤ Rm.cells ∧ n + ms ≤ Rm.slots) {As : List Value} {b : Nat} (hn : As.length = nA) (q0 : Nat) {ci : Nat} {fs : List Value} {T : u_T} {N : Nat} (he : (gW cy A σ)[q0]? = some (b, .inr (ci, fs))) (hc : vwCl[ci]? = some (Cn, T, N)) (hst : st0 = As.reverse ++ .ref b :: rest) (hcat : (rest.map fun v => v.category).sum ≤ 8) (hdg : decode cc pc = .ok (.invokevirtual idx, 3)) (hM : ∀ sz, Met (q_l κ) y ws rm (gPc (q_D κ) cy A σ sz (.ref b :: As)) (Qc sz) mc ms (gZ cy A σ sz)) : GRun κ k n mc ms cy A σ pc lv st0 rest (.ref b :: As) Qc := by
  intro H locs hP hD hS ls hl
  obtain ⟨c1, c2, c3, c4, c5, c6, c7, c8, c9⟩ := C
  rw [← c9] at hroom
  exact va_runV (Ts := gL) ⟨c1, c2, c3, c4, c5⟩ (hM H.size) (cwV nA c5 hg hw hrc hrs hd hroom.1) ⟨gPc_blind, va_recv hK hP hc he, gPc_at hP hK hD c7⟩ rfl hn hl.1 hst (lv_room hcat) hdg hroom.2
theorem gr_U (C : Cx κ cc own gL Rm) (hK : va_K (q_D κ) vwCl (gty cy) (q_s κ)) {Cn owner : String} {x : MethodName} (nA : Nat) (hg : GoodIn gL (va_wsU own idx Cn owner x y ws)) (hw : ws = Cond.code y bytes maxL ret :: ws') (hrc : rm.cells = mc) (hrs : rm.slots = ms) (hyx : y = ⟨owner, x.name, x.desc⟩) (hd : owner ≠ "java/lang/invoke/MethodHandle" ∧ owner ≠ "java/lang/invoke/VarHandle" ∧ (parseMethodDescriptor x.desc).map (fun d => d.parameters.length) = some nA) (hroom : (rm.frames + 1 ≤ Rm.frames ∧ 8 + (maxL + 11) + rm.locals ≤ Rm.locals) ∧ k + mc ≤ Rm.cells ∧ n + ms ≤ Rm.slots) {As : List Value} {b : Nat} (hn : As.length = nA) (q0 : Nat) {ci : Nat} {fs : List Value} {T : u_T} {N : Nat} (he : (gW cy A σ)[q0]? = some (b, .inr (ci, fs))) (hc : vwCl[ci]? = some (Cn, T, N)) (hst : st0 = As.reverse ++ .ref b :: rest) (hcat : (rest.map fun v => v.category).sum ≤ 8) (hdg : decode cc pc = .ok (.invokevirtual idx, 3)) (hM : ∀ sz, Met (q_l κ) y ws rm (gPc (q_D κ) cy A σ sz (.ref b :: As)) (Qc sz) mc ms (gZ cy A σ sz)) : GRun κ k n mc ms cy A σ pc lv st0 rest (.ref b :: As) Qc := by
  intro H locs hP hD hS ls hl
  obtain ⟨c1, c2, c3, c4, c5, c6, c7, c8, c9⟩ := C
  rw [← c9] at hroom
  exact va_runU (Ts := gL) ⟨c1, c2, c3, c4, c5⟩ (hM H.size) (va_cwU nA c5 hg hw hrc hrs hyx hd hroom.1) ⟨gPc_blind, va_recv hK hP hc he, gPc_at hP hK hD c7⟩ rfl hn hl.1 hst (lv_room hcat) hdg hroom.2
theorem gr_O (C : Cx κ cc own gL Rm) (hK : va_K (q_D κ) vwCl (gty cy) (q_s κ)) {Cn owner : String} {x : MethodName} (nA : Nat) (hg : GoodIn gL (va_wsO own idx Cn owner x y ws)) (hw : ws = Cond.code y bytes maxL ret :: ws') (hrc : rm.cells = mc) (hrs : rm.slots = ms) {b0 : ByteArray} {m0 : Nat} {r0 : Option FieldType} (h0 : Cond.code ⟨owner, x.name, x.desc⟩ b0 m0 r0 ∈ gL) (hd : owner ≠ "java/lang/invoke/MethodHandle" ∧ owner ≠ "java/lang/invoke/VarHandle" ∧ (parseMethodDescriptor x.desc).map (fun d => d.parameters.length) = some nA) (hroom : (rm.frames + 1 ≤ Rm.frames ∧ 8 + (maxL + 11) + rm.locals ≤ Rm.locals) ∧ k + mc ≤ Rm.cells ∧ n + ms ≤ Rm.slots) {As : List Value} {b : Nat} (hn : As.length = nA) (q0 : Nat) {ci : Nat} {fs : List Value} {T : u_T} {N : Nat} (he : (gW cy A σ)[q0]? = some (b, .inr (ci, fs))) (hc : vwCl[ci]? = some (Cn, T, N)) (hst : st0 = As.reverse ++ .ref b :: rest) (hcat : (rest.map fun v => v.category).sum ≤ 8) (hdg : decode cc pc = .ok (.invokevirtual idx, 3)) (hM : ∀ sz, Met (q_l κ) y ws rm (gPc (q_D κ) cy A σ sz (.ref b :: As)) (Qc sz) mc ms (gZ cy A σ sz)) : GRun κ k n mc ms cy A σ pc lv st0 rest (.ref b :: As) Qc := by
  intro H locs hP hD hS ls hl
  obtain ⟨c1, c2, c3, c4, c5, c6, c7, c8, c9⟩ := C
  rw [← c9] at hroom
  exact va_runU (Ts := gL) ⟨c1, c2, c3, c4, c5⟩ (hM H.size) (va_cwO nA c5 hg hw hrc hrs h0 hd hroom.1) ⟨gPc_blind, va_recv hK hP hc he, gPc_at hP hK hD c7⟩ rfl hn hl.1 hst (lv_room hcat) hdg hroom.2
theorem gr_S (C : Cx κ cc own gL Rm) (hK : va_K (q_D κ) vwCl (gty cy) (q_s κ)) (nA : Nat) (hg : GoodIn gL (va_wsS own idx y ws)) (hw : ws = Cond.code y bytes maxL ret :: ws') (hrc : rm.cells = mc) (hrs : rm.slots = ms) (hd : y.cls ≠ "java/lang/invoke/MethodHandle" ∧ y.cls ≠ "java/lang/invoke/VarHandle" ∧ (parseMethodDescriptor y.desc).map (fun d => d.parameters.length) = some nA) (hroom : (rm.frames + 1 ≤ Rm.frames ∧ 8 + (maxL + 11) + rm.locals ≤ Rm.locals) ∧ k + mc ≤ Rm.cells ∧ n + ms ≤ Rm.slots) {As : List Value} (hn : As.length = nA) (hst : st0 = As.reverse ++ rest) (hcat : (rest.map fun v => v.category).sum ≤ 8) (hdg : decode cc pc = .ok (.invokestatic idx, 3)) (hM : ∀ sz, Met (q_l κ) y ws rm (gPc (q_D κ) cy A σ sz As) (Qc sz) mc ms (gZ cy A σ sz)) : GRun κ k n mc ms cy A σ pc lv st0 rest As Qc := by
  intro H locs hP hD hS ls hl
  obtain ⟨c1, c2, c3, c4, c5, c6, c7, c8, c9⟩ := C
  rw [← c9] at hroom
  exact va_runS (Ts := gL) ⟨c1, c2, c3, c4, c5⟩ (hM H.size) (va_cwS nA c5 hg hw hrc hrs hd hroom.1) ⟨gPc_blind, gPc_at hP hK hD c7⟩ rfl hn hl.1 hst (lv_room hcat) hdg hroom.2
theorem gr_SN (C : Cx κ cc own gL Rm) (hK : va_K (q_D κ) vwCl (gty cy) (q_s κ)) {host : String} (nA : Nat) (hg : GoodIn gL ws) (hw : ws = Cond.code y bytes maxL ret :: ws') (hrc : rm.cells = mc) (hrs : rm.slots = ms) (hl0 : Cond.methodLinkNest own idx y host ∈ nwM) (hini : Cond.initialized y.cls ∈ gL) (hst1 : Cond.static y ∈ gL) (hd : y.cls ≠ "java/lang/invoke/MethodHandle" ∧ y.cls ≠ "java/lang/invoke/VarHandle" ∧ (parseMethodDescriptor y.desc).map (fun d => d.parameters.length) = some nA) (hroom : (rm.frames + 1 ≤ Rm.frames ∧ 8 + (maxL + 11) + rm.locals ≤ Rm.locals) ∧ k + mc ≤ Rm.cells ∧ n + ms ≤ Rm.slots) {As : List Value} (hn : As.length = nA) (hst : st0 = As.reverse ++ rest) (hcat : (rest.map fun v => v.category).sum ≤ 8) (hdg : decode cc pc = .ok (.invokestatic idx, 3)) (hM : ∀ sz, Met (q_l κ) y ws rm (gPc (q_D κ) cy A σ sz As) (Qc sz) mc ms (gZ cy A σ sz)) : GRun κ k n mc ms cy A σ pc lv st0 rest As Qc := by
  intro H locs hP hD hS ls hl
  obtain ⟨c1, c2, c3, c4, c5, c6, c7, c8, c9⟩ := C
  rw [← c9] at hroom
  exact va_runSN (Ts := gL) ⟨c1, c2, c3, c4, c5⟩ (hM H.size) ⟨va_cnB nA c5 hg hw hrc hrs (c7.1 _ hl0) (c5 _ hini) hd hroom.1, c5 _ hst1, trivial⟩ ⟨gPc_blind, gPc_at hP hK hD c7⟩ rfl hn hl.1 hst (lv_room hcat) hdg hroom.2
theorem gr_N (C : Cx κ cc own gL Rm) (hK : va_K (q_D κ) vwCl (gty cy) (q_s κ)) (nA : Nat) (hg : GoodIn gL ws) (hw : ws = Cond.code y bytes maxL none :: ws') (hrc : rm.cells = mc) (hrs : rm.slots = ms) (hini : Cond.initialized y.cls ∈ gL) (hlk : Cond.methodLink own idx y ∈ gL) (hin : Cond.instanceMethod y ∈ gL) (hy1 : y.name = "<init>") (hd : y.cls ≠ "java/lang/invoke/MethodHandle" ∧ y.cls ≠ "java/lang/invoke/VarHandle" ∧ (parseMethodDescriptor y.desc).map (fun d => d.parameters.length) = some nA) (hroom : (rm.frames + 1 ≤ Rm.frames ∧ 8 + (maxL + 11) + rm.locals ≤ Rm.locals) ∧ k + mc ≤ Rm.cells ∧ n + ms ≤ Rm.slots) {As : List Value} {b : Nat} (hn : As.length = nA) (hst : st0 = As.reverse ++ .ref b :: rest) (hcat : (rest.map fun v => v.category).sum ≤ 8) (hdg : decode cc pc = .ok (.invokespecial idx, 3)) (hM : ∀ sz, Met (q_l κ) y ws rm (gPc (q_D κ) cy A σ sz (.ref b :: As)) (Qc sz) mc ms (gZ cy A σ sz)) : GRun κ k n mc ms cy A σ pc lv st0 rest (.ref b :: As) Qc := by
  intro H locs hP hD hS ls hl
  obtain ⟨c1, c2, c3, c4, c5, c6, c7, c8, c9⟩ := C
  rw [← c9] at hroom
  exact va_runI (Ts := gL) ⟨c1, c2, c3, c4, c5⟩ (hM H.size) (cwI nA c5 hg hw hrc hrs (c5 _ hini) (c5 _ hlk) (c5 _ hin) hy1 hd hroom.1) ⟨gPc_blind, gPc_at hP hK hD c7⟩ rfl hn hl.1 hst (lv_room hcat) hdg hroom.2
/-! ends -/
variable {D : va_G} {Z : Nat → Prop}
theorem gq_I (C : Cx κ cc own gL Rm) {Φ : Int32 → St → Prop} (F : Fx κ D Z (some .int) maxL (va_Qi Φ (HE D cy A Z) Z) mc ms) (hk : k ≤ mc) (hn : n ≤ ms) {v : Int32} (hw : Φ v σ) (hdg : decode cc pc = .ok (.ireturn, 1)) : GW κ k n (gW cy A σ) pc lv [.int v] := by
  intro H locs hP hD hS ls hl
  obtain ⟨rfl, rfl, f3, f4, f5⟩ := F
  rw [f5]
  refine W.widen hk hn ?_
  exact W.iret (hlocks := C.2.2.2.2.2.2.2.1) C.1 C.2.1 f3 (fun t ht hW => ⟨⟨v, σ, rfl, hw, by rw [ht]; exact hP, hD⟩, hS.F ht⟩) hS.2.2 hdg
theorem gq_Z (C : Cx κ cc own gL Rm) {Φ : Int32 → St → Prop} (F : Fx κ D Z (some .boolean) maxL (va_Qi Φ (HE D cy A Z) Z) mc ms) (hk : k ≤ mc) (hn : n ≤ ms) {v : Int32} (hw : (v = 0 ∨ v = 1) ∧ Φ v σ) (hdg : decode cc pc = .ok (.ireturn, 1)) : GW κ k n (gW cy A σ) pc lv [.int v] := by
  intro H locs hP hD hS ls hl
  obtain ⟨rfl, rfl, f3, f4, f5⟩ := F
  rw [f5]
  refine W.widen hk hn ?_
  exact W.zret (hlocks := C.2.2.2.2.2.2.2.1) C.1 C.2.1 f3 (by rcases hw.1 with rfl | rfl <;> rfl) (fun t ht hW => ⟨⟨v, σ, rfl, hw.2, by rw [ht]; exact hP, hD⟩, hS.F ht⟩) hS.2.2 hdg
theorem gq_L (C : Cx κ cc own gL Rm) {Φ : Int64 → St → Prop} (F : Fx κ D Z (some .long) maxL (va_Ql Φ (HE D cy A Z) Z) mc ms) (hk : k ≤ mc) (hn : n ≤ ms) {v : Int64} (hw : Φ v σ) (hdg : decode cc pc = .ok (.lreturn, 1)) : GW κ k n (gW cy A σ) pc lv [.long v] := by
  intro H locs hP hD hS ls hl
  obtain ⟨rfl, rfl, f3, f4, f5⟩ := F
  rw [f5]
  refine W.widen hk hn ?_
  exact W.lret (hlocks := C.2.2.2.2.2.2.2.1) C.1 C.2.1 f3 (fun t ht hW => ⟨⟨v, σ, rfl, hw, by rw [ht]; exact hP, hD⟩, hS.F ht⟩) hS.2.2 hdg
theorem gq_V (C : Cx κ cc own gL Rm) {Φ : St → Prop} (F : Fx κ D Z none maxL (va_Qv Φ (HE D cy A Z) Z) mc ms) (hk : k ≤ mc) (hn : n ≤ ms) (hw : Φ σ) (hdg : decode cc pc = .ok (.return_, 1)) : GW κ k n (gW cy A σ) pc lv [] := by
  intro H locs hP hD hS ls hl
  obtain ⟨rfl, rfl, f3, f4, f5⟩ := F
  rw [f5]
  refine W.widen hk hn ?_
  exact W.vret (hlocks := C.2.2.2.2.2.2.2.1) C.1 C.2.1 f3 (fun t ht hW => ⟨⟨σ, rfl, hw, by rw [ht]; exact hP, hD⟩, hS.F ht⟩) hS.2.2 hdg
theorem gq_Q (C : Cx κ cc own gL Rm) {Φ : Option Nat → St → Prop} {nm : String} (F : Fx κ D Z (some (.object nm)) maxL (va_Qq Φ (HE D cy A Z) Z) mc ms) (hk : k ≤ mc) (hn : n ≤ ms) {r : Option Nat} (hw : Φ r σ) (hdg : decode cc pc = .ok (.areturn, 1)) : GW κ k n (gW cy A σ) pc lv [va_rf r] := by
  intro H locs hP hD hS ls hl
  obtain ⟨rfl, rfl, f3, f4, f5⟩ := F
  rw [f5]
  refine W.widen hk hn ?_
  exact W.aret (hlocks := C.2.2.2.2.2.2.2.1) C.1 C.2.1 f3 (Or.inl ⟨_, rfl⟩) (by cases r with | none => exact Or.inl rfl | some a => exact Or.inr ⟨a, rfl⟩) (fun t ht hW => ⟨⟨r, σ, rfl, hw, by rw [ht]; exact hP, hD⟩, hS.F ht⟩) hS.2.2 hdg
/-! things: their fields, their classes, a new one -/
variable {st : List Value} {a : Nat} {ref : String}
theorem g_getT0 (C : Cx κ cc own gL Rm) (hK : va_K (q_D κ) vwCl (gty cy) (q_s κ)) (hT : isT σ a) (hsame : ∀ x, (q_s κ).fieldFound? "TwoOnACable$Thing" "weight" "I" = some x → (q_s κ).fieldFound? ref "weight" "I" = some x) (hlk : Cond.fieldLink own idx ref "weight" "I" ∈ gL) (hdg : decode cc pc = .ok (.getfield idx, 3)) (h : GW κ k n (gW cy A σ) (pc + 3) lv (.int (σ.2.2.2.2.2 a 0) :: st)) : GW κ k n (gW cy A σ) pc lv (.ref a :: st) := by
  obtain ⟨ha, hk⟩ := hT
  rcases hk with hk | hk | hk | hk | hk <;> obtain ⟨q0, -, he⟩ := ga_T cy A σ ha hk
  · exact g_get C hK inX1 rfl q0 he 0 (by decide) hsame hlk rfl hdg h
  · exact g_get C hK inX3 rfl q0 he 0 (by decide) hsame hlk rfl hdg h
  · exact g_get C hK inX4 rfl q0 he 0 (by decide) hsame hlk rfl hdg h
  · exact g_get C hK inX5 rfl q0 he 0 (by decide) hsame hlk rfl hdg h
  · exact g_get C hK inX9 rfl q0 he 0 (by decide) hsame hlk rfl hdg h
theorem g_getT1 (C : Cx κ cc own gL Rm) (hK : va_K (q_D κ) vwCl (gty cy) (q_s κ)) (hT : isT σ a) (hsame : ∀ x, (q_s κ).fieldFound? "TwoOnACable$Thing" "came" "I" = some x → (q_s κ).fieldFound? ref "came" "I" = some x) (hlk : Cond.fieldLink own idx ref "came" "I" ∈ gL) (hdg : decode cc pc = .ok (.getfield idx, 3)) (h : GW κ k n (gW cy A σ) (pc + 3) lv (.int (σ.2.2.2.2.2 a 1) :: st)) : GW κ k n (gW cy A σ) pc lv (.ref a :: st) := by
  obtain ⟨ha, hk⟩ := hT
  rcases hk with hk | hk | hk | hk | hk <;> obtain ⟨q0, -, he⟩ := ga_T cy A σ ha hk
  · exact g_get C hK inX1 rfl q0 he 1 (by decide) hsame hlk rfl hdg h
  · exact g_get C hK inX3 rfl q0 he 1 (by decide) hsame hlk rfl hdg h
  · exact g_get C hK inX4 rfl q0 he 1 (by decide) hsame hlk rfl hdg h
  · exact g_get C hK inX5 rfl q0 he 1 (by decide) hsame hlk rfl hdg h
  · exact g_get C hK inX9 rfl q0 he 1 (by decide) hsame hlk rfl hdg h
theorem g_getT2 (C : Cx κ cc own gL Rm) (hK : va_K (q_D κ) vwCl (gty cy) (q_s κ)) (hT : isT σ a) (hsame : ∀ x, (q_s κ).fieldFound? "TwoOnACable$Thing" "place" "I" = some x → (q_s κ).fieldFound? ref "place" "I" = some x) (hlk : Cond.fieldLink own idx ref "place" "I" ∈ gL) (hdg : decode cc pc = .ok (.getfield idx, 3)) (h : GW κ k n (gW cy A σ) (pc + 3) lv (.int (σ.2.2.2.2.2 a 2) :: st)) : GW κ k n (gW cy A σ) pc lv (.ref a :: st) := by
  obtain ⟨ha, hk⟩ := hT
  rcases hk with hk | hk | hk | hk | hk <;> obtain ⟨q0, -, he⟩ := ga_T cy A σ ha hk
  · exact g_get C hK inX1 rfl q0 he 2 (by decide) hsame hlk rfl hdg h
  · exact g_get C hK inX3 rfl q0 he 2 (by decide) hsame hlk rfl hdg h
  · exact g_get C hK inX4 rfl q0 he 2 (by decide) hsame hlk rfl hdg h
  · exact g_get C hK inX5 rfl q0 he 2 (by decide) hsame hlk rfl hdg h
  · exact g_get C hK inX9 rfl q0 he 2 (by decide) hsame hlk rfl hdg h
/-- a put on a thing: the world behind it, whatever the class -/
theorem g_putT2 (C : Cx κ cc own gL Rm) (hK : va_K (q_D κ) vwCl (gty cy) (q_s κ)) (hT : isT σ a) (hsame : ∀ x, (q_s κ).fieldFound? "TwoOnACable$Thing" "place" "I" = some x → (q_s κ).fieldFound? ref "place" "I" = some x) (hlk : Cond.fieldLink own idx ref "place" "I" ∈ gL) (hdg : decode cc pc = .ok (.putfield idx, 3)) {v : Int32} (h : GW κ k n (gW cy A (sT σ a 2 v)) (pc + 3) lv st) : GW κ k n (gW cy A σ) pc lv (.int v :: .ref a :: st) := by
  intro H locs hP hD hS ls hl
  obtain ⟨ha, hk⟩ := hT
  rcases hk with hk | hk | hk | hk | hk <;> obtain ⟨q0, he0, he⟩ := ga_T cy A σ ha hk
  · exact g_put C hK inX1 rfl tyX1 tyX1_ok nmX1 q0 he 2 (by decide) hsame hlk rfl rfl rfl (Nat.le_of_ble_eq_true rfl) (by have e := gt_2 cy A σ _ v hD ha he0; rw [hk] at e; exact e) hdg h H locs hP hD hS ls hl
  · exact g_put C hK inX3 rfl tyX3 tyX3_ok nmX3 q0 he 2 (by decide) hsame hlk rfl rfl rfl (Nat.le_of_ble_eq_true rfl) (by have e := gt_2 cy A σ _ v hD ha he0; rw [hk] at e; exact e) hdg h H locs hP hD hS ls hl
  · exact g_put C hK inX4 rfl tyX4 tyX4_ok nmX4 q0 he 2 (by decide) hsame hlk rfl rfl rfl (Nat.le_of_ble_eq_true rfl) (by have e := gt_2 cy A σ _ v hD ha he0; rw [hk] at e; exact e) hdg h H locs hP hD hS ls hl
  · exact g_put C hK inX5 rfl tyX5 tyX5_ok nmX5 q0 he 2 (by decide) hsame hlk rfl rfl rfl (Nat.le_of_ble_eq_true rfl) (by have e := gt_2 cy A σ _ v hD ha he0; rw [hk] at e; exact e) hdg h H locs hP hD hS ls hl
  · exact g_put C hK inX9 rfl tyX9 tyX9_ok nmX9 q0 he 2 (by decide) hsame hlk rfl rfl rfl (Nat.le_of_ble_eq_true rfl) (by have e := gt_2 cy A σ _ v hD ha he0; rw [hk] at e; exact e) hdg h H locs hP hD hS ls hl
theorem g_putT0 (C : Cx κ cc "TwoOnACable$Thing" gL Rm) (hK : va_K (q_D κ) vwCl (gty cy) (q_s κ)) (hi : (q_M κ).name = "<init>") (hT : isT σ a) (hlk : Cond.fieldLink "TwoOnACable$Thing" idx "TwoOnACable$Thing" "weight" "I" ∈ gL) (hdg : decode cc pc = .ok (.putfield idx, 3)) {v : Int32} (h : GW κ k n (gW cy A (sT σ a 0 v)) (pc + 3) lv st) : GW κ k n (gW cy A σ) pc lv (.int v :: .ref a :: st) := by
  intro H locs hP hD hS ls hl
  obtain ⟨ha, hk⟩ := hT
  rcases hk with hk | hk | hk | hk | hk <;> obtain ⟨q0, he0, he⟩ := ga_T cy A σ ha hk
  · exact g_putF C hK inX1 rfl tyX1 tyX1_ok nmX1 hi q0 he 0 (by decide) rfl (fun _ h => h) hlk rfl rfl rfl (Nat.le_of_ble_eq_true rfl) (by have e := gt_0 cy A σ _ v hD ha he0; rw [hk] at e; exact e) hdg h H locs hP hD hS ls hl
  · exact g_putF C hK inX3 rfl tyX3 tyX3_ok nmX3 hi q0 he 0 (by decide) rfl (fun _ h => h) hlk rfl rfl rfl (Nat.le_of_ble_eq_true rfl) (by have e := gt_0 cy A σ _ v hD ha he0; rw [hk] at e; exact e) hdg h H locs hP hD hS ls hl
  · exact g_putF C hK inX4 rfl tyX4 tyX4_ok nmX4 hi q0 he 0 (by decide) rfl (fun _ h => h) hlk rfl rfl rfl (Nat.le_of_ble_eq_true rfl) (by have e := gt_0 cy A σ _ v hD ha he0; rw [hk] at e; exact e) hdg h H locs hP hD hS ls hl
  · exact g_putF C hK inX5 rfl tyX5 tyX5_ok nmX5 hi q0 he 0 (by decide) rfl (fun _ h => h) hlk rfl rfl rfl (Nat.le_of_ble_eq_true rfl) (by have e := gt_0 cy A σ _ v hD ha he0; rw [hk] at e; exact e) hdg h H locs hP hD hS ls hl
  · exact g_putF C hK inX9 rfl tyX9 tyX9_ok nmX9 hi q0 he 0 (by decide) rfl (fun _ h => h) hlk rfl rfl rfl (Nat.le_of_ble_eq_true rfl) (by have e := gt_0 cy A σ _ v hD ha he0; rw [hk] at e; exact e) hdg h H locs hP hD hS ls hl
theorem g_putT1 (C : Cx κ cc "TwoOnACable$Thing" gL Rm) (hK : va_K (q_D κ) vwCl (gty cy) (q_s κ)) (hi : (q_M κ).name = "<init>") (hT : isT σ a) (hlk : Cond.fieldLink "TwoOnACable$Thing" idx "TwoOnACable$Thing" "came" "I" ∈ gL) (hdg : decode cc pc = .ok (.putfield idx, 3)) {v : Int32} (h : GW κ k n (gW cy A (sT σ a 1 v)) (pc + 3) lv st) : GW κ k n (gW cy A σ) pc lv (.int v :: .ref a :: st) := by
  intro H locs hP hD hS ls hl
  obtain ⟨ha, hk⟩ := hT
  rcases hk with hk | hk | hk | hk | hk <;> obtain ⟨q0, he0, he⟩ := ga_T cy A σ ha hk
  · exact g_putF C hK inX1 rfl tyX1 tyX1_ok nmX1 hi q0 he 1 (by decide) rfl (fun _ h => h) hlk rfl rfl rfl (Nat.le_of_ble_eq_true rfl) (by have e := gt_1 cy A σ _ v hD ha he0; rw [hk] at e; exact e) hdg h H locs hP hD hS ls hl
  · exact g_putF C hK inX3 rfl tyX3 tyX3_ok nmX3 hi q0 he 1 (by decide) rfl (fun _ h => h) hlk rfl rfl rfl (Nat.le_of_ble_eq_true rfl) (by have e := gt_1 cy A σ _ v hD ha he0; rw [hk] at e; exact e) hdg h H locs hP hD hS ls hl
  · exact g_putF C hK inX4 rfl tyX4 tyX4_ok nmX4 hi q0 he 1 (by decide) rfl (fun _ h => h) hlk rfl rfl rfl (Nat.le_of_ble_eq_true rfl) (by have e := gt_1 cy A σ _ v hD ha he0; rw [hk] at e; exact e) hdg h H locs hP hD hS ls hl
  · exact g_putF C hK inX5 rfl tyX5 tyX5_ok nmX5 hi q0 he 1 (by decide) rfl (fun _ h => h) hlk rfl rfl rfl (Nat.le_of_ble_eq_true rfl) (by have e := gt_1 cy A σ _ v hD ha he0; rw [hk] at e; exact e) hdg h H locs hP hD hS ls hl
  · exact g_putF C hK inX9 rfl tyX9 tyX9_ok nmX9 hi q0 he 1 (by decide) rfl (fun _ h => h) hlk rfl rfl rfl (Nat.le_of_ble_eq_true rfl) (by have e := gt_1 cy A σ _ v hD ha he0; rw [hk] at e; exact e) hdg h H locs hP hD hS ls hl
theorem g_newT (C : Cx κ cc own gL Rm) (hK : va_K (q_D κ) vwCl (gty cy) (q_s κ)) {Cn : String} {T : u_T} (kd : Nat) (hin : ∀ w ∈ u_ws Cn T 3, w ∈ gL) (ty : Nat → FieldType) (hty : ∀ k, k < 3 → parseFieldDescriptor (T k).2.2.1 = some (ty k)) (hc : vwCl[kd]? = some (Cn, T, 3)) (h0 : ty 0 = .int ∧ ty 1 = .int ∧ ty 2 = .int) (hcl : Cond.classLink own idx Cn ∈ gL) (hinst : Cond.instantiable Cn 3 ∈ gL) (hini : Cond.initialized Cn ∈ gL) (hcs : k + 1 ≤ Rm.cells ∧ n + 3 ≤ Rm.slots) (hdg : decode cc pc = .ok (.new idx, 3)) (h : ∀ a, a ∉ σ.2.2.2.1 → GW κ (k + 1) (n + 3) (gW cy A (sN σ a kd)) (pc + 3) lv (.ref a :: st)) : GW κ k n (gW cy A σ) pc lv st := by
  intro H locs hP hD hS ls hl
  obtain ⟨c1, c2, c3, c4, c5, c6, c7, c8, c9⟩ := C
  rw [← c9] at hcs
  refine va_new (ci := kd) (fs := [.int 0, .int 0, .int 0]) (N := 3) c1 c2 c5 hin ty hty c4 (c5 _ hcl) (c5 _ hinst) (c5 _ hini) hK hP hD hS c6 hc (fun j hj => by
    rcases (show j = 0 ∨ j = 1 ∨ j = 2 by omega) with rfl | rfl | rfl
    · rw [h0.1]; rfl
    · rw [h0.2.1]; rfl
    · rw [h0.2.2]; rfl) hcs.1 hcs.2 hdg (fun q H1 hP1 hD1 hS1 => ?_)
  have hq : q ∉ σ.2.2.2.1 := by
    intro hm
    obtain ⟨i, hi⟩ := va_pl_get (X := gX cy A σ) (f := tcell σ) hm
    have hil : i < (gW cy A σ).length := (List.getElem?_eq_some_iff.mp hi).1
    have e1 : (gW cy A σ ++ [(q, (.inr (kd, [.int 0, .int 0, .int 0]) : va_E))])[i]? = some (q, tcell σ q) := by rw [List.getElem?_append_left hil]; exact hi
    have e2 : (gW cy A σ ++ [(q, (.inr (kd, [.int 0, .int 0, .int 0]) : va_E))])[(gW cy A σ).length]? = some (q, .inr (kd, [.int 0, .int 0, .int 0])) := by rw [List.getElem?_append_right (Nat.le_refl _), Nat.sub_self]; rfl
    have := hD1.1 _ _ _ _ e1 e2 rfl
    omega
  rw [gn_T cy A σ kd hq] at hP1 hD1
  exact h q hq H1 locs hP1 hD1 hS1 ls hl
/-- a thing is put into the row of things -/
theorem g_aastT (C : Cx κ cc own gL Rm) (hK : va_K (q_D κ) vwCl (gty cy) (q_s κ)) (hT : isT σ a) {i : Int32} (hin : vp_in i 6) (hdg : decode cc pc = .ok (.aastore, 1)) (h : GW κ k n (gW cy A (sH σ i.toNatClampNeg (some a))) (pc + 1) lv st) : GW κ k n (gW cy A σ) pc lv (.ref a :: .int i :: .ref (A 5) :: st) := by
  intro H locs hP hD hS ls hl
  obtain ⟨c1, c2, c3, c4, c5, c6, c7, c8, c9⟩ := C
  obtain ⟨ha, hk⟩ := hT
  rcases hk with hk | hk | hk | hk | hk <;> obtain ⟨q0, -, he⟩ := ga_T cy A σ ha hk
  · exact va_astqO (r := (RX1, TX1, 3)) c1 c2 hK hP hD hS 5 3 q0 1 (ga_5 cy A σ) rfl (c7.2.1 (RX1, RX9) (by decide)) he rfl hin hdg (fun H1 locs1 hP1 hD1 hS1 => h H1 locs1 hP1 hD1 hS1 ls hl)
  · exact va_astqO (r := (RX3, TX3, 3)) c1 c2 hK hP hD hS 5 3 q0 3 (ga_5 cy A σ) rfl (c7.2.1 (RX3, RX9) (by decide)) he rfl hin hdg (fun H1 locs1 hP1 hD1 hS1 => h H1 locs1 hP1 hD1 hS1 ls hl)
  · exact va_astqO (r := (RX4, TX4, 3)) c1 c2 hK hP hD hS 5 3 q0 4 (ga_5 cy A σ) rfl (c7.2.1 (RX4, RX9) (by decide)) he rfl hin hdg (fun H1 locs1 hP1 hD1 hS1 => h H1 locs1 hP1 hD1 hS1 ls hl)
  · exact va_astqO (r := (RX5, TX5, 3)) c1 c2 hK hP hD hS 5 3 q0 5 (ga_5 cy A σ) rfl (c7.2.1 (RX5, RX9) (by decide)) he rfl hin hdg (fun H1 locs1 hP1 hD1 hS1 => h H1 locs1 hP1 hD1 hS1 ls hl)
  · exact va_astq (r := (RX9, TX9, 3)) c1 c2 hK hP hD hS 5 3 q0 9 (ga_5 cy A σ) rfl he rfl hin hdg (fun H1 locs1 hP1 hD1 hS1 => h H1 locs1 hP1 hD1 hS1 ls hl)
end GC
end
section
/-! further rows: Object's constructor, instanceof's answers, the two rows of the law -/
def isQ (q : Nat) : Prop := q = 18 ∨ q = 19
theorem hQ18 : isQ 18 := Or.inl rfl
theorem hQ19 : isQ 19 := Or.inr rfl
theorem hC3 : isC 3 := Or.inl rfl
theorem hC16 : isC 16 := Or.inr (Or.inl rfl)
theorem hC17 : isC 17 := Or.inr (Or.inr rfl)
theorem ga_q (cy : Nat → ClassId) (A : Nat → Nat) (σ : St) {q : Nat} (h : isQ q) : (gW cy A σ)[q]? = some (A q, .inl (cy 2, 32, .inl (σ.1 q))) := by
  rcases h with rfl | rfl <;> rfl
theorem gs_q (cy : Nat → ClassId) (A : Nat → Nat) (σ : St) (b : Nat) (v : Int32) {q : Nat} (h : isQ q) : (gW cy A σ).set q (A q, .inl (cy 2, 32, .inl (upd (σ.1 q) b v))) = gW cy A (sV σ q b v) := by
  rcases h with rfl | rfl <;> rfl
section GM
variable {κ : qC} {cc : ByteArray} {own : String} {Rm : Room} {k n : Nat} {ws : va_W} {pc : Nat} {lv : List (Nat × Value)} {st : List Value}
theorem g_objInit (C : Cx κ cc own gL Rm) {idx a : Nat} (hroom : 1 ≤ Rm.frames ∧ (st.map fun v => v.category).sum + 12 ≤ Rm.locals) (h1 : Cond.methodLink own idx objectInit ∈ gL) (h2 : Cond.instanceMethod objectInit ∈ gL) (h3 : Cond.code objectInit object_method_1_code 1 (none : Option FieldType) ∈ gL) (hdg : decode cc pc = .ok (.invokespecial idx, 3)) (h : GW κ k n ws (pc + 3) lv st) : GW κ k n ws pc lv (.ref a :: st) := by
  intro H locs hP hD hS ls hl
  obtain ⟨c1, c2, c3, c4, c5, c6, c7, c8, c9⟩ := C
  rw [← c9] at hroom
  refine W.objInit c1 c2 c4 (c5 _ h1) (c5 _ h2) (c5 _ h3) rfl (hl.1.trans c3.symm) rfl hdg hroom.1 (by show 2 * 0 + _ + 12 ≤ _; omega) ?_
  exact h H locs hP hD hS ls hl
end GM
def instR (nm : String) (ct : Nat) (v : Int32) (kd : Nat) (Cn : String) : Prop := (v = 1 ∧ (Cn = nm ∧ kd = ct ∨ (Cn, nm) ∈ nwC)) ∨ (v = 0 ∧ (Cn, nm) ∈ nwN)
section GI
variable {κ : qC} {cc : ByteArray} {own : String} {Rm : Room} {k n : Nat} {cy : Nat → ClassId} {A : Nat → Nat} {σ : St} {pc a idx : Nat} {lv : List (Nat × Value)} {st : List Value}
theorem g_instT (C : Cx κ cc own gL Rm) (hK : va_K (q_D κ) vwCl (gty cy) (q_s κ)) {ct : Nat} {nm : String} {T : u_T} (hct : vwCl[ct]? = some (nm, T, 3)) (hlk : Cond.classLink own idx nm ∈ gL) (hT : isT σ a) (v : Int32)
    (hv : (σ.2.2.2.2.1 a = 1 → instR nm ct v 1 RX1) ∧ (σ.2.2.2.2.1 a = 3 → instR nm ct v 3 RX3) ∧ (σ.2.2.2.2.1 a = 4 → instR nm ct v 4 RX4) ∧ (σ.2.2.2.2.1 a = 5 → instR nm ct v 5 RX5) ∧ (σ.2.2.2.2.1 a = 9 → instR nm ct v 9 RX9)) (hdg : decode cc pc = .ok (.instanceof idx, 3)) (h : GW κ k n (gW cy A σ) (pc + 3) lv (.int v :: st)) : GW κ k n (gW cy A σ) pc lv (.ref a :: st) := by
  intro H locs hP hD hS ls hl
  obtain ⟨c1, c2, c3, c4, c5, c6, c7, c8, c9⟩ := C
  obtain ⟨ha, hk⟩ := hT
  have key : ∀ kd Cn Tn, σ.2.2.2.2.1 a = kd → vwCl[kd]? = some (Cn, Tn, 3) → instR nm ct v kd Cn → W (q_p κ) (q_l κ) (q_e κ) (q_R κ) (q_s κ) (q_m κ) (q_a κ) (q_b κ) (q_M κ) (q_c κ) H locs k n (q_Q κ) (F0 (q_m κ) pc ls (.ref a :: st)) := by
    intro kd Cn Tn hkd hcl hR
    obtain ⟨q0, -, he⟩ := ga_T cy A σ ha hkd
    have hr := va_recv hK hP hcl he
    rcases hR with ⟨rfl, h1⟩ | ⟨rfl, h1⟩
    · rcases h1 with ⟨rfl, rfl⟩ | h1
      · exact va_instS c1 c2 c4 (c5 _ hlk) (hK.1 _ _ hct).2 hr hdg (h H locs hP hD hS ls hl)
      · exact va_instY c1 c2 c4 (c5 _ hlk) (c7.2.1 _ h1) hr hdg (h H locs hP hD hS ls hl)
    · exact va_instNo c1 c2 c4 (c5 _ hlk) (c7.2.2.1 _ h1) hr hdg (h H locs hP hD hS ls hl)
  rcases hk with hk | hk | hk | hk | hk
  · exact key 1 RX1 TX1 hk rfl (hv.1 hk)
  · exact key 3 RX3 TX3 hk rfl (hv.2.1 hk)
  · exact key 4 RX4 TX4 hk rfl (hv.2.2.1 hk)
  · exact key 5 RX5 TX5 hk rfl (hv.2.2.2.1 hk)
  · exact key 9 RX9 TX9 hk rfl (hv.2.2.2.2 hk)
end GI
theorem inst_1 (σ : St) (a : Nat) : (σ.2.2.2.2.1 a = 1 → instR RX1 1 (if σ.2.2.2.2.1 a = 1 then (1 : Int32) else 0) 1 RX1) ∧ (σ.2.2.2.2.1 a = 3 → instR RX1 1 (if σ.2.2.2.2.1 a = 1 then (1 : Int32) else 0) 3 RX3) ∧ (σ.2.2.2.2.1 a = 4 → instR RX1 1 (if σ.2.2.2.2.1 a = 1 then (1 : Int32) else 0) 4 RX4) ∧ (σ.2.2.2.2.1 a = 5 → instR RX1 1 (if σ.2.2.2.2.1 a = 1 then (1 : Int32) else 0) 5 RX5) ∧ (σ.2.2.2.2.1 a = 9 → instR RX1 1 (if σ.2.2.2.2.1 a = 1 then (1 : Int32) else 0) 9 RX9) := ⟨fun e => Or.inl ⟨by rw [e]; rfl, Or.inl ⟨rfl, rfl⟩⟩, fun e => Or.inr ⟨by rw [e]; rfl, by decide⟩, fun e => Or.inr ⟨by rw [e]; rfl, by decide⟩, fun e => Or.inr ⟨by rw [e]; rfl, by decide⟩, fun e => Or.inr ⟨by rw [e]; rfl, by decide⟩⟩
theorem inst_3 (σ : St) (a : Nat) : (σ.2.2.2.2.1 a = 1 → instR RX3 3 (if σ.2.2.2.2.1 a = 3 then (1 : Int32) else 0) 1 RX1) ∧ (σ.2.2.2.2.1 a = 3 → instR RX3 3 (if σ.2.2.2.2.1 a = 3 then (1 : Int32) else 0) 3 RX3) ∧ (σ.2.2.2.2.1 a = 4 → instR RX3 3 (if σ.2.2.2.2.1 a = 3 then (1 : Int32) else 0) 4 RX4) ∧ (σ.2.2.2.2.1 a = 5 → instR RX3 3 (if σ.2.2.2.2.1 a = 3 then (1 : Int32) else 0) 5 RX5) ∧ (σ.2.2.2.2.1 a = 9 → instR RX3 3 (if σ.2.2.2.2.1 a = 3 then (1 : Int32) else 0) 9 RX9) := ⟨fun e => Or.inr ⟨by rw [e]; rfl, by decide⟩, fun e => Or.inl ⟨by rw [e]; rfl, Or.inl ⟨rfl, rfl⟩⟩, fun e => Or.inr ⟨by rw [e]; rfl, by decide⟩, fun e => Or.inr ⟨by rw [e]; rfl, by decide⟩, fun e => Or.inr ⟨by rw [e]; rfl, by decide⟩⟩
theorem inst_5 (σ : St) (a : Nat) : (σ.2.2.2.2.1 a = 1 → instR RX5 5 (if σ.2.2.2.2.1 a = 5 ∨ σ.2.2.2.2.1 a = 4 then (1 : Int32) else 0) 1 RX1) ∧ (σ.2.2.2.2.1 a = 3 → instR RX5 5 (if σ.2.2.2.2.1 a = 5 ∨ σ.2.2.2.2.1 a = 4 then (1 : Int32) else 0) 3 RX3) ∧ (σ.2.2.2.2.1 a = 4 → instR RX5 5 (if σ.2.2.2.2.1 a = 5 ∨ σ.2.2.2.2.1 a = 4 then (1 : Int32) else 0) 4 RX4) ∧ (σ.2.2.2.2.1 a = 5 → instR RX5 5 (if σ.2.2.2.2.1 a = 5 ∨ σ.2.2.2.2.1 a = 4 then (1 : Int32) else 0) 5 RX5) ∧ (σ.2.2.2.2.1 a = 9 → instR RX5 5 (if σ.2.2.2.2.1 a = 5 ∨ σ.2.2.2.2.1 a = 4 then (1 : Int32) else 0) 9 RX9) := ⟨fun e => Or.inr ⟨by rw [e]; rfl, by decide⟩, fun e => Or.inr ⟨by rw [e]; rfl, by decide⟩, fun e => Or.inl ⟨by rw [e]; rfl, Or.inr (by decide)⟩, fun e => Or.inl ⟨by rw [e]; rfl, Or.inl ⟨rfl, rfl⟩⟩, fun e => Or.inr ⟨by rw [e]; rfl, by decide⟩⟩
theorem inst_4 (σ : St) (a : Nat) : (σ.2.2.2.2.1 a = 1 → instR RX4 4 (if σ.2.2.2.2.1 a = 4 then (1 : Int32) else 0) 1 RX1) ∧ (σ.2.2.2.2.1 a = 3 → instR RX4 4 (if σ.2.2.2.2.1 a = 4 then (1 : Int32) else 0) 3 RX3) ∧ (σ.2.2.2.2.1 a = 4 → instR RX4 4 (if σ.2.2.2.2.1 a = 4 then (1 : Int32) else 0) 4 RX4) ∧ (σ.2.2.2.2.1 a = 5 → instR RX4 4 (if σ.2.2.2.2.1 a = 4 then (1 : Int32) else 0) 5 RX5) ∧ (σ.2.2.2.2.1 a = 9 → instR RX4 4 (if σ.2.2.2.2.1 a = 4 then (1 : Int32) else 0) 9 RX9) := ⟨fun e => Or.inr ⟨by rw [e]; rfl, by decide⟩, fun e => Or.inr ⟨by rw [e]; rfl, by decide⟩, fun e => Or.inl ⟨by rw [e]; rfl, Or.inl ⟨rfl, rfl⟩⟩, fun e => Or.inr ⟨by rw [e]; rfl, by decide⟩, fun e => Or.inr ⟨by rw [e]; rfl, by decide⟩⟩
end
section
/-! THE SCRIPT'S CELLS: read by a method of its own, which changes nothing -/
def cellV (xs : Nat → Int32) (L : Nat) (k : Int32) : Int32 := (if nI L ≤ k then 7919 * k + 13 else xs k.toNatClampNeg) &&& 2147483647
/-! the weakest preconditions of the methods, by program out of the bytecode (gen.py) -/
def wX7_at (σ : St) (v1 : Int32) (Φ : Int32 → St → Prop) : Prop := (if v1 < 0 then Φ (0 : Int32) σ else (if (σ.1 1 1) ≤ v1 then Φ (0 : Int32) σ else (if (12 : Int32) ≤ v1 then Φ (0 : Int32) σ else vp_in v1 12 ∧ Φ (σ.1 2 v1.toNatClampNeg) σ)))
def wX7_digitAt (σ : St) (v1 : Int32) (Φ : Int32 → St → Prop) : Prop := wX7_at σ v1 (fun r2 σ1 => Φ (r2 - (48 : Int32)) σ1)
def wX0_hang_81 (k : Nat) (Φ : St → Prop) (σ : St) (s0 : Int32) : Prop := (s0 = 0 ∨ s0 = 1) ∧ ((0 : Int32) = 0 ∨ (0 : Int32) = 1) ∧ Φ (sV (sV (sV (sV σ k 5 s0) k 3 (0 : Int32)) k 4 (0 : Int32)) k 6 (0 : Int32))
def wX0_hang (σ : St) (k : Nat) (Φ : St → Prop) : Prop := wX7_digitAt σ (0 : Int32) (fun r2 σ1 => wX7_digitAt σ1 (1 : Int32) (fun r4 σ3 => wX7_digitAt (sV σ3 k 0 (((10 : Int32) * r2) + r4)) (3 : Int32) (fun r6 σ5 => wX7_digitAt (sV σ5 k 1 ((((sV σ3 k 0 (((10 : Int32) * r2) + r4)).1 k 0) * ((sV σ3 k 0 (((10 : Int32) * r2) + r4)).1 k 0)) * r6)) (5 : Int32) (fun r8 σ7 => wX7_digitAt σ7 (6 : Int32) (fun r10 σ9 => wX7_digitAt σ9 (7 : Int32) (fun r12 σ11 => (if ((sV σ11 k 2 ((((100 : Int32) * r8) + ((10 : Int32) * r10)) + r12)).1 1 1) ≤ (8 : Int32) then wX0_hang_81 k Φ (sV σ11 k 2 ((((100 : Int32) * r8) + ((10 : Int32) * r10)) + r12)) (0 : Int32) else wX0_hang_81 k Φ (sV σ11 k 2 ((((100 : Int32) * r8) + ((10 : Int32) * r10)) + r12)) (1 : Int32))))))))
def wX0_becomeLike (σ : St) (k : Nat) (k2 : Nat) (Φ : St → Prop) : Prop := (((sV (sV (sV (sV (sV σ k 0 (σ.1 k2 0)) k 1 ((sV σ k 0 (σ.1 k2 0)).1 k2 1)) k 2 ((sV (sV σ k 0 (σ.1 k2 0)) k 1 ((sV σ k 0 (σ.1 k2 0)).1 k2 1)).1 k2 2)) k 3 ((sV (sV (sV σ k 0 (σ.1 k2 0)) k 1 ((sV σ k 0 (σ.1 k2 0)).1 k2 1)) k 2 ((sV (sV σ k 0 (σ.1 k2 0)) k 1 ((sV σ k 0 (σ.1 k2 0)).1 k2 1)).1 k2 2)).1 k2 3)) k 4 ((sV (sV (sV (sV σ k 0 (σ.1 k2 0)) k 1 ((sV σ k 0 (σ.1 k2 0)).1 k2 1)) k 2 ((sV (sV σ k 0 (σ.1 k2 0)) k 1 ((sV σ k 0 (σ.1 k2 0)).1 k2 1)).1 k2 2)) k 3 ((sV (sV (sV σ k 0 (σ.1 k2 0)) k 1 ((sV σ k 0 (σ.1 k2 0)).1 k2 1)) k 2 ((sV (sV σ k 0 (σ.1 k2 0)) k 1 ((sV σ k 0 (σ.1 k2 0)).1 k2 1)).1 k2 2)).1 k2 3)).1 k2 4)).1 k2 5) = 0 ∨ ((sV (sV (sV (sV (sV σ k 0 (σ.1 k2 0)) k 1 ((sV σ k 0 (σ.1 k2 0)).1 k2 1)) k 2 ((sV (sV σ k 0 (σ.1 k2 0)) k 1 ((sV σ k 0 (σ.1 k2 0)).1 k2 1)).1 k2 2)) k 3 ((sV (sV (sV σ k 0 (σ.1 k2 0)) k 1 ((sV σ k 0 (σ.1 k2 0)).1 k2 1)) k 2 ((sV (sV σ k 0 (σ.1 k2 0)) k 1 ((sV σ k 0 (σ.1 k2 0)).1 k2 1)).1 k2 2)).1 k2 3)) k 4 ((sV (sV (sV (sV σ k 0 (σ.1 k2 0)) k 1 ((sV σ k 0 (σ.1 k2 0)).1 k2 1)) k 2 ((sV (sV σ k 0 (σ.1 k2 0)) k 1 ((sV σ k 0 (σ.1 k2 0)).1 k2 1)).1 k2 2)) k 3 ((sV (sV (sV σ k 0 (σ.1 k2 0)) k 1 ((sV σ k 0 (σ.1 k2 0)).1 k2 1)) k 2 ((sV (sV σ k 0 (σ.1 k2 0)) k 1 ((sV σ k 0 (σ.1 k2 0)).1 k2 1)).1 k2 2)).1 k2 3)).1 k2 4)).1 k2 5) = 1) ∧ (((sV (sV (sV (sV (sV (sV σ k 0 (σ.1 k2 0)) k 1 ((sV σ k 0 (σ.1 k2 0)).1 k2 1)) k 2 ((sV (sV σ k 0 (σ.1 k2 0)) k 1 ((sV σ k 0 (σ.1 k2 0)).1 k2 1)).1 k2 2)) k 3 ((sV (sV (sV σ k 0 (σ.1 k2 0)) k 1 ((sV σ k 0 (σ.1 k2 0)).1 k2 1)) k 2 ((sV (sV σ k 0 (σ.1 k2 0)) k 1 ((sV σ k 0 (σ.1 k2 0)).1 k2 1)).1 k2 2)).1 k2 3)) k 4 ((sV (sV (sV (sV σ k 0 (σ.1 k2 0)) k 1 ((sV σ k 0 (σ.1 k2 0)).1 k2 1)) k 2 ((sV (sV σ k 0 (σ.1 k2 0)) k 1 ((sV σ k 0 (σ.1 k2 0)).1 k2 1)).1 k2 2)) k 3 ((sV (sV (sV σ k 0 (σ.1 k2 0)) k 1 ((sV σ k 0 (σ.1 k2 0)).1 k2 1)) k 2 ((sV (sV σ k 0 (σ.1 k2 0)) k 1 ((sV σ k 0 (σ.1 k2 0)).1 k2 1)).1 k2 2)).1 k2 3)).1 k2 4)) k 5 ((sV (sV (sV (sV (sV σ k 0 (σ.1 k2 0)) k 1 ((sV σ k 0 (σ.1 k2 0)).1 k2 1)) k 2 ((sV (sV σ k 0 (σ.1 k2 0)) k 1 ((sV σ k 0 (σ.1 k2 0)).1 k2 1)).1 k2 2)) k 3 ((sV (sV (sV σ k 0 (σ.1 k2 0)) k 1 ((sV σ k 0 (σ.1 k2 0)).1 k2 1)) k 2 ((sV (sV σ k 0 (σ.1 k2 0)) k 1 ((sV σ k 0 (σ.1 k2 0)).1 k2 1)).1 k2 2)).1 k2 3)) k 4 ((sV (sV (sV (sV σ k 0 (σ.1 k2 0)) k 1 ((sV σ k 0 (σ.1 k2 0)).1 k2 1)) k 2 ((sV (sV σ k 0 (σ.1 k2 0)) k 1 ((sV σ k 0 (σ.1 k2 0)).1 k2 1)).1 k2 2)) k 3 ((sV (sV (sV σ k 0 (σ.1 k2 0)) k 1 ((sV σ k 0 (σ.1 k2 0)).1 k2 1)) k 2 ((sV (sV σ k 0 (σ.1 k2 0)) k 1 ((sV σ k 0 (σ.1 k2 0)).1 k2 1)).1 k2 2)).1 k2 3)).1 k2 4)).1 k2 5)).1 k2 6) = 0 ∨ ((sV (sV (sV (sV (sV (sV σ k 0 (σ.1 k2 0)) k 1 ((sV σ k 0 (σ.1 k2 0)).1 k2 1)) k 2 ((sV (sV σ k 0 (σ.1 k2 0)) k 1 ((sV σ k 0 (σ.1 k2 0)).1 k2 1)).1 k2 2)) k 3 ((sV (sV (sV σ k 0 (σ.1 k2 0)) k 1 ((sV σ k 0 (σ.1 k2 0)).1 k2 1)) k 2 ((sV (sV σ k 0 (σ.1 k2 0)) k 1 ((sV σ k 0 (σ.1 k2 0)).1 k2 1)).1 k2 2)).1 k2 3)) k 4 ((sV (sV (sV (sV σ k 0 (σ.1 k2 0)) k 1 ((sV σ k 0 (σ.1 k2 0)).1 k2 1)) k 2 ((sV (sV σ k 0 (σ.1 k2 0)) k 1 ((sV σ k 0 (σ.1 k2 0)).1 k2 1)).1 k2 2)) k 3 ((sV (sV (sV σ k 0 (σ.1 k2 0)) k 1 ((sV σ k 0 (σ.1 k2 0)).1 k2 1)) k 2 ((sV (sV σ k 0 (σ.1 k2 0)) k 1 ((sV σ k 0 (σ.1 k2 0)).1 k2 1)).1 k2 2)).1 k2 3)).1 k2 4)) k 5 ((sV (sV (sV (sV (sV σ k 0 (σ.1 k2 0)) k 1 ((sV σ k 0 (σ.1 k2 0)).1 k2 1)) k 2 ((sV (sV σ k 0 (σ.1 k2 0)) k 1 ((sV σ k 0 (σ.1 k2 0)).1 k2 1)).1 k2 2)) k 3 ((sV (sV (sV σ k 0 (σ.1 k2 0)) k 1 ((sV σ k 0 (σ.1 k2 0)).1 k2 1)) k 2 ((sV (sV σ k 0 (σ.1 k2 0)) k 1 ((sV σ k 0 (σ.1 k2 0)).1 k2 1)).1 k2 2)).1 k2 3)) k 4 ((sV (sV (sV (sV σ k 0 (σ.1 k2 0)) k 1 ((sV σ k 0 (σ.1 k2 0)).1 k2 1)) k 2 ((sV (sV σ k 0 (σ.1 k2 0)) k 1 ((sV σ k 0 (σ.1 k2 0)).1 k2 1)).1 k2 2)) k 3 ((sV (sV (sV σ k 0 (σ.1 k2 0)) k 1 ((sV σ k 0 (σ.1 k2 0)).1 k2 1)) k 2 ((sV (sV σ k 0 (σ.1 k2 0)) k 1 ((sV σ k 0 (σ.1 k2 0)).1 k2 1)).1 k2 2)).1 k2 3)).1 k2 4)).1 k2 5)).1 k2 6) = 1) ∧ Φ (sV (sV (sV (sV (sV (sV (sV σ k 0 (σ.1 k2 0)) k 1 ((sV σ k 0 (σ.1 k2 0)).1 k2 1)) k 2 ((sV (sV σ k 0 (σ.1 k2 0)) k 1 ((sV σ k 0 (σ.1 k2 0)).1 k2 1)).1 k2 2)) k 3 ((sV (sV (sV σ k 0 (σ.1 k2 0)) k 1 ((sV σ k 0 (σ.1 k2 0)).1 k2 1)) k 2 ((sV (sV σ k 0 (σ.1 k2 0)) k 1 ((sV σ k 0 (σ.1 k2 0)).1 k2 1)).1 k2 2)).1 k2 3)) k 4 ((sV (sV (sV (sV σ k 0 (σ.1 k2 0)) k 1 ((sV σ k 0 (σ.1 k2 0)).1 k2 1)) k 2 ((sV (sV σ k 0 (σ.1 k2 0)) k 1 ((sV σ k 0 (σ.1 k2 0)).1 k2 1)).1 k2 2)) k 3 ((sV (sV (sV σ k 0 (σ.1 k2 0)) k 1 ((sV σ k 0 (σ.1 k2 0)).1 k2 1)) k 2 ((sV (sV σ k 0 (σ.1 k2 0)) k 1 ((sV σ k 0 (σ.1 k2 0)).1 k2 1)).1 k2 2)).1 k2 3)).1 k2 4)) k 5 ((sV (sV (sV (sV (sV σ k 0 (σ.1 k2 0)) k 1 ((sV σ k 0 (σ.1 k2 0)).1 k2 1)) k 2 ((sV (sV σ k 0 (σ.1 k2 0)) k 1 ((sV σ k 0 (σ.1 k2 0)).1 k2 1)).1 k2 2)) k 3 ((sV (sV (sV σ k 0 (σ.1 k2 0)) k 1 ((sV σ k 0 (σ.1 k2 0)).1 k2 1)) k 2 ((sV (sV σ k 0 (σ.1 k2 0)) k 1 ((sV σ k 0 (σ.1 k2 0)).1 k2 1)).1 k2 2)).1 k2 3)) k 4 ((sV (sV (sV (sV σ k 0 (σ.1 k2 0)) k 1 ((sV σ k 0 (σ.1 k2 0)).1 k2 1)) k 2 ((sV (sV σ k 0 (σ.1 k2 0)) k 1 ((sV σ k 0 (σ.1 k2 0)).1 k2 1)).1 k2 2)) k 3 ((sV (sV (sV σ k 0 (σ.1 k2 0)) k 1 ((sV σ k 0 (σ.1 k2 0)).1 k2 1)) k 2 ((sV (sV σ k 0 (σ.1 k2 0)) k 1 ((sV σ k 0 (σ.1 k2 0)).1 k2 1)).1 k2 2)).1 k2 3)).1 k2 4)).1 k2 5)) k 6 ((sV (sV (sV (sV (sV (sV σ k 0 (σ.1 k2 0)) k 1 ((sV σ k 0 (σ.1 k2 0)).1 k2 1)) k 2 ((sV (sV σ k 0 (σ.1 k2 0)) k 1 ((sV σ k 0 (σ.1 k2 0)).1 k2 1)).1 k2 2)) k 3 ((sV (sV (sV σ k 0 (σ.1 k2 0)) k 1 ((sV σ k 0 (σ.1 k2 0)).1 k2 1)) k 2 ((sV (sV σ k 0 (σ.1 k2 0)) k 1 ((sV σ k 0 (σ.1 k2 0)).1 k2 1)).1 k2 2)).1 k2 3)) k 4 ((sV (sV (sV (sV σ k 0 (σ.1 k2 0)) k 1 ((sV σ k 0 (σ.1 k2 0)).1 k2 1)) k 2 ((sV (sV σ k 0 (σ.1 k2 0)) k 1 ((sV σ k 0 (σ.1 k2 0)).1 k2 1)).1 k2 2)) k 3 ((sV (sV (sV σ k 0 (σ.1 k2 0)) k 1 ((sV σ k 0 (σ.1 k2 0)).1 k2 1)) k 2 ((sV (sV σ k 0 (σ.1 k2 0)) k 1 ((sV σ k 0 (σ.1 k2 0)).1 k2 1)).1 k2 2)).1 k2 3)).1 k2 4)) k 5 ((sV (sV (sV (sV (sV σ k 0 (σ.1 k2 0)) k 1 ((sV σ k 0 (σ.1 k2 0)).1 k2 1)) k 2 ((sV (sV σ k 0 (σ.1 k2 0)) k 1 ((sV σ k 0 (σ.1 k2 0)).1 k2 1)).1 k2 2)) k 3 ((sV (sV (sV σ k 0 (σ.1 k2 0)) k 1 ((sV σ k 0 (σ.1 k2 0)).1 k2 1)) k 2 ((sV (sV σ k 0 (σ.1 k2 0)) k 1 ((sV σ k 0 (σ.1 k2 0)).1 k2 1)).1 k2 2)).1 k2 3)) k 4 ((sV (sV (sV (sV σ k 0 (σ.1 k2 0)) k 1 ((sV σ k 0 (σ.1 k2 0)).1 k2 1)) k 2 ((sV (sV σ k 0 (σ.1 k2 0)) k 1 ((sV σ k 0 (σ.1 k2 0)).1 k2 1)).1 k2 2)) k 3 ((sV (sV (sV σ k 0 (σ.1 k2 0)) k 1 ((sV σ k 0 (σ.1 k2 0)).1 k2 1)) k 2 ((sV (sV σ k 0 (σ.1 k2 0)) k 1 ((sV σ k 0 (σ.1 k2 0)).1 k2 1)).1 k2 2)).1 k2 3)).1 k2 4)).1 k2 5)).1 k2 6))
def wX0_isThere (σ : St) (k : Nat) (Φ : Int32 → St → Prop) : Prop := (if (σ.1 k 0) ≤ 0 then (((0 : Int32) = 0 ∨ (0 : Int32) = 1) ∧ Φ (0 : Int32) σ) else (((1 : Int32) = 0 ∨ (1 : Int32) = 1) ∧ Φ (1 : Int32) σ))
def wX0_isWhole (σ : St) (k : Nat) (Φ : Int32 → St → Prop) : Prop := (if (σ.1 k 0) ≤ 0 then (((0 : Int32) = 0 ∨ (0 : Int32) = 1) ∧ Φ (0 : Int32) σ) else (if (σ.1 k 6) = 0 then (((1 : Int32) = 0 ∨ (1 : Int32) = 1) ∧ Φ (1 : Int32) σ) else (((0 : Int32) = 0 ∨ (0 : Int32) = 1) ∧ Φ (0 : Int32) σ)))
def wX0_turnsAt (σ : St) (k : Nat) (v1 : Int32) (Φ : Int32 → St → Prop) : Prop := (if v1 < (10 : Int32) then Φ (0 : Int32) σ else (if (40 : Int32) < v1 then Φ (0 : Int32) σ else (¬ (v1 * v1) = 0) ∧ Φ ((σ.1 k 1) / (v1 * v1)) σ))
def wX0_turnsNow (σ : St) (k : Nat) (Φ : Int32 → St → Prop) : Prop := wX0_turnsAt σ k (σ.1 k 0) (fun r2 σ1 => Φ r2 σ1)
def wX0_armAt_22 (k : Nat) (Φ : Int32 → St → Prop) (σ : St) (v1 : Int32) (v2 : Int32) (s0 : Int32) : Prop := (if v1 = 0 then Φ s0 σ else Φ (v2 - s0) σ)
def wX0_armAt (σ : St) (k : Nat) (v1 : Int32) (v2 : Int32) (v3 : Int32) (v4 : Int32) (Φ : Int32 → St → Prop) : Prop := (if (v3 + v4) ≤ 0 then wX0_armAt_22 k Φ σ v1 v2 (0 : Int32) else (¬ (v3 + v4) = 0) ∧ wX0_armAt_22 k Φ σ v1 v2 ((v2 * v4) / (v3 + v4)))
def wX0_floorAt (σ : St) (k : Nat) (v1 : Int32) (v2 : Int32) (v3 : Int32) (v4 : Int32) (Φ : Int32 → St → Prop) : Prop := wX0_turnsAt σ k v2 (fun r2 σ1 => wX0_armAt σ1 k v1 v2 v3 v4 (fun r4 σ3 => Φ ((r4 * r2) * r2) σ3))
def wX0_strainBy (σ : St) (k : Nat) (v1 : Int32) (v2 : Int32) (Φ : Int32 → St → Prop) : Prop := (¬ (100 : Int32) = 0) ∧ Φ ((v1 * v2) / (100 : Int32)) σ
def wX1_weighs (σ : St) (a0 : Nat) (v1 : Int32) (Φ : Int32 → St → Prop) : Prop := isT σ a0 ∧ Φ ((σ.2.2.2.2.2 a0 0) + (2 : Int32)) σ
def wX4_weighs (σ : St) (a0 : Nat) (v1 : Int32) (Φ : Int32 → St → Prop) : Prop := isT σ a0 ∧ isT σ a0 ∧ (¬ (6 : Int32) = 0) ∧ Φ ((σ.2.2.2.2.2 a0 0) + ((2 : Int32) * ((v1 - (σ.2.2.2.2.2 a0 1)) / (6 : Int32)))) σ
def wX5_weighs (σ : St) (a0 : Nat) (v1 : Int32) (Φ : Int32 → St → Prop) : Prop := isT σ a0 ∧ isT σ a0 ∧ (¬ (6 : Int32) = 0) ∧ Φ ((σ.2.2.2.2.2 a0 0) + ((v1 - (σ.2.2.2.2.2 a0 1)) / (6 : Int32))) σ
def wX6_at (σ : St) (v1 : Int32) (Φ : Option Nat → St → Prop) : Prop := (if v1 < 0 then Φ none σ else (if (σ.1 4 2) ≤ v1 then Φ none σ else (if (6 : Int32) ≤ v1 then Φ none σ else vp_in v1 6 ∧ Φ (σ.2.2.1 v1.toNatClampNeg) σ)))
def wX9_weighs (σ : St) (a0 : Nat) (v1 : Int32) (Φ : Int32 → St → Prop) : Prop := isT σ a0 ∧ Φ (σ.2.2.2.2.2 a0 0) σ
def wT_weighs_13459 (σ : St) (a : Nat) (v1 : Int32) (Φ : Int32 → St → Prop) : Prop := a ∈ σ.2.2.2.1 ∧ ((σ.2.2.2.2.1 a = 1 ∧ wX1_weighs σ a v1 Φ) ∨ (σ.2.2.2.2.1 a = 3 ∧ wX9_weighs σ a v1 Φ) ∨ (σ.2.2.2.2.1 a = 4 ∧ wX4_weighs σ a v1 Φ) ∨ (σ.2.2.2.2.1 a = 5 ∧ wX5_weighs σ a v1 Φ) ∨ (σ.2.2.2.2.1 a = 9 ∧ wX9_weighs σ a v1 Φ))
def wX6_weighsIn_46 (K6 : St → Int32 → Int32 → Int32 → Int32 → Prop) (Φ : Int32 → St → Prop) (σ : St) (v1 : Int32) (v2 : Int32) (v3 : Int32) (v4 : Int32) : Prop := K6 σ v1 v2 v3 (v4 + 1)
def wX6_weighsIn_6 (Φ : Int32 → St → Prop) : Nat → St → Int32 → Int32 → Int32 → Int32 → Prop
  | 0, _, _, _, _, _ => False
  | n + 1, σ, v1, v2, v3, v4 => (if (σ.1 4 2) ≤ v4 then Φ v3 σ else wX6_at σ v4 (fun r2 σ1 => ((r2 = none → wX6_weighsIn_46 (wX6_weighsIn_6 Φ n) Φ σ1 v1 v2 v3 v4) ∧ ∀ b3, r2 = some b3 → isT σ1 b3 ∧ (if (σ1.2.2.2.2.2 b3 2) = v1 then wT_weighs_13459 σ1 b3 v2 (fun r4 σ5 => wX6_weighsIn_46 (wX6_weighsIn_6 Φ n) Φ σ5 v1 v2 (v3 + r4) v4) else wX6_weighsIn_46 (wX6_weighsIn_6 Φ n) Φ σ1 v1 v2 v3 v4))))
def wX6_weighsIn (σ : St) (v1 : Int32) (v2 : Int32) (Φ : Int32 → St → Prop) : Prop := ∃ n0, wX6_weighsIn_6 Φ n0 σ v1 v2 (10 : Int32) (0 : Int32)
def wX0_armNow (σ : St) (k : Nat) (v1 : Int32) (Φ : Int32 → St → Prop) : Prop := wX6_weighsIn σ (0 : Int32) (σ.1 k 4) (fun r2 σ1 => wX6_weighsIn σ1 (1 : Int32) (σ1.1 k 4) (fun r4 σ3 => wX0_armAt σ3 k v1 (σ.1 k 0) r2 r4 (fun r6 σ5 => Φ r6 σ5)))
def wX0_floorNow (σ : St) (k : Nat) (v1 : Int32) (Φ : Int32 → St → Prop) : Prop := wX6_weighsIn σ (0 : Int32) (σ.1 k 4) (fun r2 σ1 => wX6_weighsIn σ1 (1 : Int32) (σ1.1 k 4) (fun r4 σ3 => wX0_floorAt σ3 k v1 (σ.1 k 0) r2 r4 (fun r6 σ5 => Φ r6 σ5)))
def wX0_strainNow (σ : St) (k : Nat) (Φ : Int32 → St → Prop) : Prop := wX6_weighsIn σ (0 : Int32) (σ.1 k 4) (fun r2 σ1 => wX6_weighsIn σ1 (1 : Int32) (σ1.1 k 4) (fun r4 σ3 => wX0_floorAt σ3 k (0 : Int32) (σ1.1 k 0) r2 r4 (fun r6 σ5 => wX0_strainBy σ5 k r2 r6 (fun r8 σ7 => Φ r8 σ7))))
def wJ9_floorMod_7cf53 (σ : St) (v0 : Int32) (v1 : Int32) (Φ : Int32 → St → Prop) : Prop := (¬ v1 = 0) ∧ (if 0 ≤ (v0 ^^^ v1) then Φ (v0 - v0 / v1 * v1) σ else (if (v0 - v0 / v1 * v1) = 0 then Φ (v0 - v0 / v1 * v1) σ else Φ ((v0 - v0 / v1 * v1) + v1) σ))
def wX0_placeAfter (σ : St) (k : Nat) (v1 : Int32) (Φ : Int32 → St → Prop) : Prop := wX0_turnsNow σ k (fun r2 σ1 => wJ9_floorMod_7cf53 σ1 ((σ.1 k 3) + ((v1 * r2) * (10 : Int32))) (360 : Int32) (fun r4 σ3 => Φ r4 σ3))
def wX0_goHour (σ : St) (k : Nat) (v1 : Int32) (Φ : St → Prop) : Prop := wX0_placeAfter (sV (sV σ k 0 ((σ.1 k 0) - v1)) k 4 (((sV σ k 0 ((σ.1 k 0) - v1)).1 k 4) + (1 : Int32))) k (1 : Int32) (fun r2 σ1 => wX0_strainNow (sV σ1 k 3 r2) k (fun r4 σ3 => (if r4 ≤ (σ3.1 k 2) then ((0 : Int32) = 0 ∨ (0 : Int32) = 1) ∧ Φ (sV σ3 k 6 (0 : Int32)) else ((1 : Int32) = 0 ∨ (1 : Int32) = 1) ∧ Φ (sV σ3 k 6 (1 : Int32)))))
def wX9_init (σ : St) (a0 : Nat) (v1 : Int32) (v2 : Int32) (v3 : Int32) (Φ : St → Prop) : Prop := isT σ a0 ∧ isT (sT σ a0 0 v1) a0 ∧ isT (sT (sT σ a0 0 v1) a0 2 v2) a0 ∧ Φ (sT (sT (sT σ a0 0 v1) a0 2 v2) a0 1 v3)
def wX1_init (σ : St) (a0 : Nat) (v1 : Int32) (v2 : Int32) (v3 : Int32) (Φ : St → Prop) : Prop := wX9_init σ a0 v1 v2 v3 (fun σ1 => Φ σ1)
def wX1_kind (σ : St) (a0 : Nat) (Φ : Int32 → St → Prop) : Prop := Φ (1 : Int32) σ
def wX3_init (σ : St) (a0 : Nat) (v1 : Int32) (v2 : Int32) (v3 : Int32) (Φ : St → Prop) : Prop := wX9_init σ a0 v1 v2 v3 (fun σ1 => Φ σ1)
def wX3_kind (σ : St) (a0 : Nat) (Φ : Int32 → St → Prop) : Prop := Φ (2 : Int32) σ
def wX3_goesAcross (σ : St) (a0 : Nat) (v1 : Int32) (Φ : Int32 → St → Prop) : Prop := (if (2 : Int32) < v1 then (((0 : Int32) = 0 ∨ (0 : Int32) = 1) ∧ Φ (0 : Int32) σ) else (((1 : Int32) = 0 ∨ (1 : Int32) = 1) ∧ Φ (1 : Int32) σ))
def wX5_init (σ : St) (a0 : Nat) (v1 : Int32) (v2 : Int32) (v3 : Int32) (Φ : St → Prop) : Prop := wX9_init σ a0 v1 v2 v3 (fun σ1 => Φ σ1)
def wX4_init (σ : St) (a0 : Nat) (v1 : Int32) (v2 : Int32) (v3 : Int32) (Φ : St → Prop) : Prop := wX5_init σ a0 v1 v2 v3 (fun σ1 => Φ σ1)
def wX4_kind (σ : St) (a0 : Nat) (Φ : Int32 → St → Prop) : Prop := Φ (4 : Int32) σ
def wX5_kind (σ : St) (a0 : Nat) (Φ : Int32 → St → Prop) : Prop := Φ (3 : Int32) σ
def wX6_isFull (σ : St) (Φ : Int32 → St → Prop) : Prop := (if (σ.1 4 2) < (6 : Int32) then (((0 : Int32) = 0 ∨ (0 : Int32) = 1) ∧ Φ (0 : Int32) σ) else (((1 : Int32) = 0 ∨ (1 : Int32) = 1) ∧ Φ (1 : Int32) σ))
def wX6_put (σ : St) (a1 : Nat) (Φ : Int32 → St → Prop) : Prop := (if (σ.1 4 2) < 0 then Φ (-104 : Int32) σ else (if (σ.1 4 2) < (6 : Int32) then isT σ a1 ∧ vp_in (σ.1 4 2) 6 ∧ Φ (((sV (sH σ (σ.1 4 2).toNatClampNeg (some a1)) 4 2 (((sH σ (σ.1 4 2).toNatClampNeg (some a1)).1 4 2) + (1 : Int32))).1 4 2) - (1 : Int32)) (sV (sH σ (σ.1 4 2).toNatClampNeg (some a1)) 4 2 (((sH σ (σ.1 4 2).toNatClampNeg (some a1)).1 4 2) + (1 : Int32))) else Φ (-104 : Int32) σ))
def wJ9_min_7cf53 (σ : St) (v0 : Int32) (v1 : Int32) (Φ : Int32 → St → Prop) : Prop := (if v1 < v0 then Φ v1 σ else Φ v0 σ)
def wX6_cutTo_23 (K2 : St → Int32 → Int32 → Prop) (Φ : St → Prop) (σ : St) (v1 : Int32) (v2 : Int32) : Prop := K2 σ v1 (v2 + 1)
def wX6_cutTo_2 (Φ : St → Prop) : Nat → St → Int32 → Int32 → Prop
  | 0, _, _, _ => False
  | n + 1, σ, v1, v2 => (if (6 : Int32) ≤ v2 then wJ9_min_7cf53 σ (σ.1 4 2) v1 (fun r2 σ1 => Φ (sV σ1 4 2 r2)) else (if v2 < v1 then wX6_cutTo_23 (wX6_cutTo_2 Φ n) Φ σ v1 v2 else vp_in v2 6 ∧ wX6_cutTo_23 (wX6_cutTo_2 Φ n) Φ (sH σ v2.toNatClampNeg none) v1 v2))
def wX6_cutTo (σ : St) (v1 : Int32) (Φ : St → Prop) : Prop := ∃ n0, wX6_cutTo_2 Φ n0 σ v1 (0 : Int32)
def wX6_sizeIn_36 (K4 : St → Int32 → Int32 → Int32 → Prop) (Φ : Int32 → St → Prop) (σ : St) (v1 : Int32) (v2 : Int32) (v3 : Int32) : Prop := K4 σ v1 v2 (v3 + 1)
def wX6_sizeIn_4 (Φ : Int32 → St → Prop) : Nat → St → Int32 → Int32 → Int32 → Prop
  | 0, _, _, _, _ => False
  | n + 1, σ, v1, v2, v3 => (if (σ.1 4 2) ≤ v3 then Φ v2 σ else wX6_at σ v3 (fun r2 σ1 => ((r2 = none → wX6_sizeIn_36 (wX6_sizeIn_4 Φ n) Φ σ1 v1 v2 v3) ∧ ∀ b3, r2 = some b3 → isT σ1 b3 ∧ (if (σ1.2.2.2.2.2 b3 2) = v1 then wX6_sizeIn_36 (wX6_sizeIn_4 Φ n) Φ σ1 v1 (v2 + 1) v3 else wX6_sizeIn_36 (wX6_sizeIn_4 Φ n) Φ σ1 v1 v2 v3))))
def wX6_sizeIn (σ : St) (v1 : Int32) (Φ : Int32 → St → Prop) : Prop := ∃ n0, wX6_sizeIn_4 Φ n0 σ v1 (0 : Int32) (0 : Int32)
def wX7_hasRoomFor (σ : St) (v1 : Int32) (Φ : Int32 → St → Prop) : Prop := (if (12 : Int32) < ((σ.1 1 1) + v1) then (((0 : Int32) = 0 ∨ (0 : Int32) = 1) ∧ Φ (0 : Int32) σ) else (((1 : Int32) = 0 ∨ (1 : Int32) = 1) ∧ Φ (1 : Int32) σ))
def wX7_put (σ : St) (v1 : Int32) (Φ : St → Prop) : Prop := (if (σ.1 1 1) < 0 then Φ σ else (if (12 : Int32) ≤ (σ.1 1 1) then Φ σ else vp_in (σ.1 1 1) 12 ∧ Φ (sV (sV σ 2 (σ.1 1 1).toNatClampNeg (vp_nar .char v1)) 1 1 (((sV σ 2 (σ.1 1 1).toNatClampNeg (vp_nar .char v1)).1 1 1) + (1 : Int32)))))
def wX7_emptied (σ : St) (Φ : Int32 → St → Prop) : Prop := Φ (σ.1 1 1) (sV σ 1 1 (0 : Int32))
def wX7_isBetween (σ : St) (v1 : Int32) (v2 : Int32) (v3 : Int32) (Φ : Int32 → St → Prop) : Prop := wX7_at σ v1 (fun r2 σ1 => (if r2 < v2 then (((0 : Int32) = 0 ∨ (0 : Int32) = 1) ∧ Φ (0 : Int32) σ1) else wX7_at σ1 v1 (fun r4 σ3 => (if v3 < r4 then (((0 : Int32) = 0 ∨ (0 : Int32) = 1) ∧ Φ (0 : Int32) σ3) else (((1 : Int32) = 0 ∨ (1 : Int32) = 1) ∧ Φ (1 : Int32) σ3)))))
def wX7_isWireLetter_113 (Φ : Int32 → St → Prop) (σ : St) (v1 : Int32) : Prop := wX7_isBetween σ v1 (48 : Int32) (57 : Int32) (fun r14 σ13 => ((r14 = 0 ∨ r14 = 1) ∧ Φ r14 σ13))
def wX7_isWireLetter_103 (Φ : Int32 → St → Prop) (σ : St) (v1 : Int32) : Prop := wX7_isBetween σ v1 (49 : Int32) (57 : Int32) (fun r12 σ11 => ((r12 = 0 ∨ r12 = 1) ∧ Φ r12 σ11))
def wX7_isWireLetter_87 (Φ : Int32 → St → Prop) (σ : St) (v1 : Int32) : Prop := wX7_at σ v1 (fun r10 σ9 => (if r10 = (58 : Int32) then (((1 : Int32) = 0 ∨ (1 : Int32) = 1) ∧ Φ (1 : Int32) σ9) else (((0 : Int32) = 0 ∨ (0 : Int32) = 1) ∧ Φ (0 : Int32) σ9)))
def wX7_isWireLetter_83 (Φ : Int32 → St → Prop) (σ : St) (s0 : Int32) (s1 : Int32) (s2 : Int32) : Prop := wX7_isBetween σ s2 s1 s0 (fun r8 σ7 => ((r8 = 0 ∨ r8 = 1) ∧ Φ r8 σ7))
def wX7_isWireLetter (σ : St) (v1 : Int32) (Φ : Int32 → St → Prop) : Prop := ((v1 = 0 → wX7_isBetween σ v1 (49 : Int32) (52 : Int32) (fun r2 σ1 => ((r2 = 0 ∨ r2 = 1) ∧ Φ r2 σ1))) ∧ (v1 = 1 → wX7_at σ (0 : Int32) (fun r4 σ3 => (if r4 = (52 : Int32) then wX7_isWireLetter_83 Φ σ3 (48 : Int32) (48 : Int32) v1 else wX7_isWireLetter_83 Φ σ3 (57 : Int32) (48 : Int32) v1))) ∧ (v1 = 2 → wX7_isWireLetter_87 Φ σ v1) ∧ (v1 = 3 → wX7_isWireLetter_103 Φ σ v1) ∧ (v1 = 4 → wX7_isWireLetter_87 Φ σ v1) ∧ (v1 = 5 → wX7_isWireLetter_103 Φ σ v1) ∧ (v1 = 6 → wX7_isWireLetter_113 Φ σ v1) ∧ (v1 = 7 → wX7_isWireLetter_113 Φ σ v1) ∧ (v1 = 8 → wX7_at σ v1 (fun r6 σ5 => (if r6 = (111 : Int32) then (((1 : Int32) = 0 ∨ (1 : Int32) = 1) ∧ Φ (1 : Int32) σ5) else (((0 : Int32) = 0 ∨ (0 : Int32) = 1) ∧ Φ (0 : Int32) σ5)))) ∧ ((v1.toInt < 0 ∨ 8 < v1.toInt) → (((0 : Int32) = 0 ∨ (0 : Int32) = 1) ∧ Φ (0 : Int32) σ)))
def wX7_firstWrong_2 (Φ : Int32 → St → Prop) : Nat → St → Int32 → Prop
  | 0, _, _ => False
  | n + 1, σ, v1 => (if (σ.1 1 1) ≤ v1 then Φ (σ.1 1 1) σ else wX7_isWireLetter σ v1 (fun r2 σ1 => (if r2 = 0 then Φ v1 σ1 else wX7_firstWrong_2 Φ n σ1 (v1 + 1))))
def wX7_firstWrong (σ : St) (Φ : Int32 → St → Prop) : Prop := ∃ n0, wX7_firstWrong_2 Φ n0 σ (0 : Int32)
def wX7_isWire (σ : St) (Φ : Int32 → St → Prop) : Prop := (if (σ.1 1 1) < (8 : Int32) then (((0 : Int32) = 0 ∨ (0 : Int32) = 1) ∧ Φ (0 : Int32) σ) else wX7_firstWrong σ (fun r2 σ1 => (if r2 = (σ1.1 1 1) then (((1 : Int32) = 0 ∨ (1 : Int32) = 1) ∧ Φ (1 : Int32) σ1) else (((0 : Int32) = 0 ∨ (0 : Int32) = 1) ∧ Φ (0 : Int32) σ1))))
def wX9_kind (σ : St) (a0 : Nat) (Φ : Int32 → St → Prop) : Prop := Φ (0 : Int32) σ
def wT_kind_13459 (σ : St) (a : Nat) (Φ : Int32 → St → Prop) : Prop := a ∈ σ.2.2.2.1 ∧ ((σ.2.2.2.2.1 a = 1 ∧ wX1_kind σ a Φ) ∨ (σ.2.2.2.2.1 a = 3 ∧ wX3_kind σ a Φ) ∨ (σ.2.2.2.2.1 a = 4 ∧ wX4_kind σ a Φ) ∨ (σ.2.2.2.2.1 a = 5 ∧ wX5_kind σ a Φ) ∨ (σ.2.2.2.2.1 a = 9 ∧ wX9_kind σ a Φ))
def wX9_goesAcross (σ : St) (a0 : Nat) (v1 : Int32) (Φ : Int32 → St → Prop) : Prop := (((1 : Int32) = 0 ∨ (1 : Int32) = 1) ∧ Φ (1 : Int32) σ)
def wT_goesAcross_13459 (σ : St) (a : Nat) (v1 : Int32) (Φ : Int32 → St → Prop) : Prop := a ∈ σ.2.2.2.1 ∧ ((σ.2.2.2.2.1 a = 1 ∧ wX9_goesAcross σ a v1 Φ) ∨ (σ.2.2.2.2.1 a = 3 ∧ wX3_goesAcross σ a v1 Φ) ∨ (σ.2.2.2.2.1 a = 4 ∧ wX9_goesAcross σ a v1 Φ) ∨ (σ.2.2.2.2.1 a = 5 ∧ wX9_goesAcross σ a v1 Φ) ∨ (σ.2.2.2.2.1 a = 9 ∧ wX9_goesAcross σ a v1 Φ))
def wX9_hoursHere (σ : St) (a0 : Nat) (v1 : Int32) (Φ : Int32 → St → Prop) : Prop := isT σ a0 ∧ Φ (v1 - (σ.2.2.2.2.2 a0 1)) σ
def wT_hoursHere_13459 (σ : St) (a : Nat) (v1 : Int32) (Φ : Int32 → St → Prop) : Prop := a ∈ σ.2.2.2.1 ∧ ((σ.2.2.2.2.1 a = 1 ∧ wX9_hoursHere σ a v1 Φ) ∨ (σ.2.2.2.2.1 a = 3 ∧ wX9_hoursHere σ a v1 Φ) ∨ (σ.2.2.2.2.1 a = 4 ∧ wX9_hoursHere σ a v1 Φ) ∨ (σ.2.2.2.2.1 a = 5 ∧ wX9_hoursHere σ a v1 Φ) ∨ (σ.2.2.2.2.1 a = 9 ∧ wX9_hoursHere σ a v1 Φ))
def wX10_emptied (σ : St) (Φ : Int32 → St → Prop) : Prop := Φ (σ.1 7 2) (sV σ 7 2 (0 : Int32))
def wX11_byteOf (σ : St) (v0 : Int64) (v2 : Int32) (Φ : Int32 → St → Prop) : Prop := Φ ((v0.toUInt64 >>> (((8 : Int32) * v2).toInt64.toUInt64 &&& Int64.toUInt64 63)).toInt64.toInt32 &&& (255 : Int32)) σ
def wX11_lettersIn_53 (K7 : St → Int64 → Int32 → Int32 → Int32 → Prop) (Φ : Int32 → St → Prop) (σ : St) (v0 : Int64) (v2 : Int32) (v3 : Int32) (v4 : Int32) : Prop := K7 σ v0 v2 v3 (v4 + 1)
def wX11_lettersIn_40 (K7 : St → Int64 → Int32 → Int32 → Int32 → Prop) (Φ : Int32 → St → Prop) (σ : St) (v0 : Int64) (v2 : Int32) (v3 : Int32) (v4 : Int32) (v5 : Int32) : Prop := (if v5 = 0 then wX11_lettersIn_53 K7 Φ σ v0 v2 (1 : Int32) v4 else wX11_lettersIn_53 K7 Φ σ v0 (v2 + 1) v3 v4)
def wX11_lettersIn_7 (Φ : Int32 → St → Prop) : Nat → St → Int64 → Int32 → Int32 → Int32 → Prop
  | 0, _, _, _, _, _ => False
  | n + 1, σ, v0, v2, v3, v4 => (if (8 : Int32) ≤ v4 then Φ v2 σ else wX11_byteOf σ v0 v4 (fun r2 σ1 => (if (126 : Int32) < r2 then Φ (-1 : Int32) σ1 else (if v3 = 0 then wX11_lettersIn_40 (wX11_lettersIn_7 Φ n) Φ σ1 v0 v2 v3 v4 r2 else (if r2 = 0 then wX11_lettersIn_40 (wX11_lettersIn_7 Φ n) Φ σ1 v0 v2 v3 v4 r2 else Φ (-1 : Int32) σ1)))))
def wX11_lettersIn (σ : St) (v0 : Int64) (Φ : Int32 → St → Prop) : Prop := ∃ n0, wX11_lettersIn_7 Φ n0 σ v0 (0 : Int32) (0 : Int32) (0 : Int32)
def wX11_letters_29 (Φ : Int32 → St → Prop) : Nat → St → Int64 → Int32 → Int32 → Prop
  | 0, _, _, _, _ => False
  | n + 1, σ, v1, v3, v4 => (if v3 ≤ v4 then Φ (σ.1 1 1) σ else wX11_byteOf σ v1 v4 (fun r6 σ5 => wX7_put σ5 (r6.toUInt32 % 65536).toInt32 (fun σ7 => wX11_letters_29 Φ n σ7 v1 v3 (v4 + 1))))
def wX11_letters (σ : St) (v1 : Int64) (Φ : Int32 → St → Prop) : Prop := wX11_lettersIn σ v1 (fun r2 σ1 => (if 0 ≤ r2 then wX7_hasRoomFor σ1 r2 (fun r4 σ3 => (if r4 = 0 then Φ (-104 : Int32) σ3 else ∃ n0, wX11_letters_29 Φ n0 σ3 v1 r2 (0 : Int32))) else Φ (-102 : Int32) σ1))
def wX11_fault (σ : St) (Φ : Int32 → St → Prop) : Prop := wX7_firstWrong σ (fun r2 σ1 => Φ r2 σ1)
def wX11_wire (σ : St) (Φ : Int32 → St → Prop) : Prop := wX7_isWire σ (fun r2 σ1 => (if r2 = 0 then Φ (-103 : Int32) σ1 else wX0_hang σ1 3 (fun σ3 => wX7_emptied σ3 (fun r5 σ4 => wX6_cutTo σ4 (0 : Int32) (fun σ6 => wX10_emptied σ6 (fun r8 σ7 => ((0 : Int32) = 0 ∨ (0 : Int32) = 1) ∧ Φ ((sV (sV σ7 0 8 (0 : Int32)) 0 9 (((sV σ7 0 8 (0 : Int32)).1 0 9) + (1 : Int32))).1 3 1) (sV (sV σ7 0 8 (0 : Int32)) 0 9 (((sV σ7 0 8 (0 : Int32)).1 0 9) + (1 : Int32)))))))))
def wX11_isCabin (σ : St) (v0 : Int32) (Φ : Int32 → St → Prop) : Prop := (if v0 < 0 then (((0 : Int32) = 0 ∨ (0 : Int32) = 1) ∧ Φ (0 : Int32) σ) else (if (2 : Int32) ≤ v0 then (((0 : Int32) = 0 ∨ (0 : Int32) = 1) ∧ Φ (0 : Int32) σ) else (((1 : Int32) = 0 ∨ (1 : Int32) = 1) ∧ Φ (1 : Int32) σ)))
def wX11_cabin (σ : St) (v1 : Int32) (v2 : Int32) (Φ : Int32 → St → Prop) : Prop := wX11_isCabin σ v1 (fun r2 σ1 => (if r2 = 0 then Φ (-101 : Int32) σ1 else (if v2 < 0 then Φ (-102 : Int32) σ1 else (if v2 ≤ (3 : Int32) then wX0_isThere σ1 3 (fun r4 σ3 => (if r4 = 0 then Φ (-103 : Int32) σ3 else ((v2 = 0 → wX6_weighsIn σ3 v1 (σ3.1 3 4) (fun r6 σ5 => Φ r6 σ5)) ∧ (v2 = 1 → wX0_armNow σ3 3 v1 (fun r8 σ7 => Φ r8 σ7)) ∧ (v2 = 2 → wX0_floorNow σ3 3 v1 (fun r10 σ9 => Φ r10 σ9)) ∧ ((v2.toInt < 0 ∨ 2 < v2.toInt) → wX6_sizeIn σ3 v1 (fun r12 σ11 => Φ r12 σ11))))) else Φ (-102 : Int32) σ1))))
def wX11_isKind (σ : St) (v0 : Int32) (Φ : Int32 → St → Prop) : Prop := (if v0 < 0 then (((0 : Int32) = 0 ∨ (0 : Int32) = 1) ∧ Φ (0 : Int32) σ) else (if (4 : Int32) < v0 then (((0 : Int32) = 0 ∨ (0 : Int32) = 1) ∧ Φ (0 : Int32) σ) else (((1 : Int32) = 0 ∨ (1 : Int32) = 1) ∧ Φ (1 : Int32) σ)))
def wX11_newThing (σ : St) (v0 : Int32) (v1 : Int32) (v2 : Int32) (v3 : Int32) (Φ : Option Nat → St → Prop) : Prop := ((v0 = 1 → (∀ b1, b1 ∉ σ.2.2.2.1 → wX1_init (sN σ b1 1) b1 v1 v2 v3 (fun σ2 => Φ (some b1) σ2))) ∧ (v0 = 2 → (∀ b3, b3 ∉ σ.2.2.2.1 → wX3_init (sN σ b3 3) b3 v1 v2 v3 (fun σ4 => Φ (some b3) σ4))) ∧ (v0 = 3 → (∀ b5, b5 ∉ σ.2.2.2.1 → wX5_init (sN σ b5 5) b5 v1 v2 v3 (fun σ6 => Φ (some b5) σ6))) ∧ (v0 = 4 → (∀ b7, b7 ∉ σ.2.2.2.1 → wX4_init (sN σ b7 4) b7 v1 v2 v3 (fun σ8 => Φ (some b7) σ8))) ∧ ((v0.toInt < 1 ∨ 4 < v0.toInt) → (∀ b9, b9 ∉ σ.2.2.2.1 → wX9_init (sN σ b9 9) b9 v1 v2 v3 (fun σ10 => Φ (some b9) σ10))))
def wX11_thing (σ : St) (v1 : Int32) (v2 : Int32) (v3 : Int32) (Φ : Int32 → St → Prop) : Prop := wX11_isCabin σ v3 (fun r2 σ1 => (if r2 = 0 then Φ (-101 : Int32) σ1 else wX11_isKind σ1 v1 (fun r4 σ3 => (if r4 = 0 then Φ (-102 : Int32) σ3 else (if v2 < (1 : Int32) then Φ (-102 : Int32) σ3 else (if v2 ≤ (20 : Int32) then wX0_isThere σ3 3 (fun r6 σ5 => (if r6 = 0 then Φ (-103 : Int32) σ5 else wX6_isFull σ5 (fun r8 σ7 => (if r8 = 0 then wX11_newThing σ7 v1 v2 v3 (σ7.1 3 4) (fun r10 σ9 => ∃ b11, r10 = some b11 ∧ wX6_put σ9 b11 (fun r13 σ12 => Φ r13 σ12)) else Φ (-104 : Int32) σ7)))) else Φ (-102 : Int32) σ3))))))
def wX11_about (σ : St) (v1 : Int32) (v2 : Int32) (Φ : Int32 → St → Prop) : Prop := wX6_at σ v1 (fun r2 σ1 => ((r2 = none → Φ (-101 : Int32) σ1) ∧ ∀ b3, r2 = some b3 → ((v2 = 0 → wT_kind_13459 σ1 b3 (fun r4 σ5 => Φ r4 σ5)) ∧ (v2 = 1 → isT σ1 b3 ∧ Φ (σ1.2.2.2.2.2 b3 0) σ1) ∧ (v2 = 2 → isT σ1 b3 ∧ Φ (σ1.2.2.2.2.2 b3 2) σ1) ∧ (v2 = 3 → wT_weighs_13459 σ1 b3 (σ1.1 3 4) (fun r6 σ7 => Φ r6 σ7)) ∧ (v2 = 4 → wT_hoursHere_13459 σ1 b3 (σ1.1 3 4) (fun r8 σ9 => Φ r8 σ9)) ∧ ((v2.toInt < 0 ∨ 4 < v2.toInt) → Φ (-102 : Int32) σ1))))
def wX11_isOfKind (σ : St) (a0 : Nat) (v1 : Int32) (Φ : Int32 → St → Prop) : Prop := ((v1 = 1 → isT σ a0 ∧ (((if σ.2.2.2.2.1 a0 = 1 then (1 : Int32) else 0) = 0 ∨ (if σ.2.2.2.2.1 a0 = 1 then (1 : Int32) else 0) = 1) ∧ Φ (if σ.2.2.2.2.1 a0 = 1 then (1 : Int32) else 0) σ)) ∧ (v1 = 2 → isT σ a0 ∧ (((if σ.2.2.2.2.1 a0 = 3 then (1 : Int32) else 0) = 0 ∨ (if σ.2.2.2.2.1 a0 = 3 then (1 : Int32) else 0) = 1) ∧ Φ (if σ.2.2.2.2.1 a0 = 3 then (1 : Int32) else 0) σ)) ∧ (v1 = 3 → isT σ a0 ∧ (((if σ.2.2.2.2.1 a0 = 5 ∨ σ.2.2.2.2.1 a0 = 4 then (1 : Int32) else 0) = 0 ∨ (if σ.2.2.2.2.1 a0 = 5 ∨ σ.2.2.2.2.1 a0 = 4 then (1 : Int32) else 0) = 1) ∧ Φ (if σ.2.2.2.2.1 a0 = 5 ∨ σ.2.2.2.2.1 a0 = 4 then (1 : Int32) else 0) σ)) ∧ (v1 = 4 → isT σ a0 ∧ (((if σ.2.2.2.2.1 a0 = 4 then (1 : Int32) else 0) = 0 ∨ (if σ.2.2.2.2.1 a0 = 4 then (1 : Int32) else 0) = 1) ∧ Φ (if σ.2.2.2.2.1 a0 = 4 then (1 : Int32) else 0) σ)) ∧ ((v1.toInt < 1 ∨ 4 < v1.toInt) → (if v1 = 0 then (((1 : Int32) = 0 ∨ (1 : Int32) = 1) ∧ Φ (1 : Int32) σ) else (((0 : Int32) = 0 ∨ (0 : Int32) = 1) ∧ Φ (0 : Int32) σ))))
def wX11_as (σ : St) (v1 : Int32) (v2 : Int32) (Φ : Int32 → St → Prop) : Prop := wX6_at σ v1 (fun r2 σ1 => ((r2 = none → Φ (-101 : Int32) σ1) ∧ ∀ b3, r2 = some b3 → wX11_isKind σ1 v2 (fun r5 σ4 => (if r5 = 0 then Φ (-102 : Int32) σ4 else wX11_isOfKind σ4 b3 v2 (fun r7 σ6 => (if r7 = 0 then Φ (-1 : Int32) σ6 else Φ v1 σ6))))))
def wX11_carry (σ : St) (v1 : Int32) (Φ : Int32 → St → Prop) : Prop := wX6_at σ v1 (fun r2 σ1 => ((r2 = none → Φ (-101 : Int32) σ1) ∧ ∀ b3, r2 = some b3 → wX0_isWhole σ1 3 (fun r5 σ4 => (if r5 = 0 then Φ (-103 : Int32) σ4 else wX0_turnsNow σ4 3 (fun r7 σ6 => wT_goesAcross_13459 σ6 b3 r7 (fun r8 σ9 => (if r8 = 0 then Φ (-103 : Int32) σ9 else isT σ9 b3 ∧ isT σ9 b3 ∧ isT (sT σ9 b3 2 ((1 : Int32) - (σ9.2.2.2.2.2 b3 2))) b3 ∧ Φ ((sT σ9 b3 2 ((1 : Int32) - (σ9.2.2.2.2.2 b3 2))).2.2.2.2.2 b3 2) (sT σ9 b3 2 ((1 : Int32) - (σ9.2.2.2.2.2 b3 2))))))))))
def wX11_isLength (σ : St) (v0 : Int32) (Φ : Int32 → St → Prop) : Prop := (if v0 < (10 : Int32) then (((0 : Int32) = 0 ∨ (0 : Int32) = 1) ∧ Φ (0 : Int32) σ) else (if (40 : Int32) < v0 then (((0 : Int32) = 0 ∨ (0 : Int32) = 1) ∧ Φ (0 : Int32) σ) else (((1 : Int32) = 0 ∨ (1 : Int32) = 1) ∧ Φ (1 : Int32) σ)))
def wX11_hour (σ : St) (v1 : Int32) (Φ : Int32 → St → Prop) : Prop := (if v1 < (-3 : Int32) then Φ (-102 : Int32) σ else (if v1 ≤ (3 : Int32) then wX0_isWhole σ 3 (fun r2 σ1 => (if r2 = 0 then Φ (-103 : Int32) σ1 else wX11_isLength σ1 ((σ1.1 3 0) - v1) (fun r4 σ3 => (if r4 = 0 then Φ (-103 : Int32) σ3 else wX0_goHour σ3 3 v1 (fun σ5 => (if (σ5.1 3 6) = 0 then Φ (σ5.1 3 0) σ5 else Φ (-1 : Int32) σ5)))))) else Φ (-102 : Int32) σ))
def wX11_apartOnCircle (σ : St) (v0 : Int32) (v1 : Int32) (Φ : Int32 → St → Prop) : Prop := wJ9_floorMod_7cf53 σ (v0 - v1) (360 : Int32) (fun r2 σ1 => wJ9_min_7cf53 σ1 r2 ((360 : Int32) - r2) (fun r4 σ3 => Φ r4 σ3))
def wX11_caught_51 (Φ : Int32 → St → Prop) : Nat → St → Int32 → Int32 → Prop
  | 0, _, _, _ => False
  | n + 1, σ, v3, v4 => (if (98 : Int32) < v4 then Φ (-1 : Int32) σ else wX0_placeAfter σ 3 v4 (fun r8 σ7 => wX11_apartOnCircle σ7 r8 v3 (fun r10 σ9 => (if (5 : Int32) < r10 then wX11_caught_51 Φ n σ9 v3 (v4 + 1) else Φ v4 σ9))))
def wX11_caught (σ : St) (v1 : Int32) (Φ : Int32 → St → Prop) : Prop := (if v1 < (1 : Int32) then Φ (-102 : Int32) σ else (if v1 ≤ (99 : Int32) then wX0_isWhole σ 3 (fun r2 σ1 => (if r2 = 0 then Φ (-103 : Int32) σ1 else wX0_turnsNow σ1 3 (fun r4 σ3 => wJ9_floorMod_7cf53 σ3 ((90 : Int32) - (v1 * r4)) (360 : Int32) (fun r6 σ5 => ∃ n0, wX11_caught_51 Φ n0 σ5 r6 (0 : Int32))))) else Φ (-102 : Int32) σ))
def wX11_nextSeed (σ : St) (v0 : Int32) (Φ : Int32 → St → Prop) : Prop := (¬ (2147483648 : Int64) = 0) ∧ Φ ((((1103515245 : Int64) * v0.toInt64) + (12345 : Int64)) - (((1103515245 : Int64) * v0.toInt64) + (12345 : Int64)) / (2147483648 : Int64) * (2147483648 : Int64)).toInt32 σ
def wX11_windingOf (σ : St) (v0 : Int32) (Φ : Int32 → St → Prop) : Prop := (if (3 : Int32) < v0 then Φ ((3 : Int32) - v0) σ else Φ v0 σ)
def wX11_tryHours_76 (K16 : St → Int32 → Int32 → Int32 → Prop) (Φ : Int32 → St → Prop) (σ : St) (v1 : Int32) (v3 : Int32) (v4 : Int32) (s0 : Int32) : Prop := wX0_goHour σ 16 s0 (fun σ8 => K16 σ8 v1 v3 (v4 + 1))
def wX11_tryHours_16 (Φ : Int32 → St → Prop) : Nat → St → Int32 → Int32 → Int32 → Prop
  | 0, _, _, _, _ => False
  | n + 1, σ, v1, v3, v4 => (if v1 ≤ v4 then Φ v3 σ else (if (σ.1 16 6) = 0 then wX11_nextSeed σ v3 (fun r3 σ2 => (¬ (65536 : Int32) = 0) ∧ (¬ (7 : Int32) = 0) ∧ wX11_windingOf σ2 ((r3 / (65536 : Int32)) - (r3 / (65536 : Int32)) / (7 : Int32) * (7 : Int32)) (fun r5 σ4 => wX11_isLength σ4 ((σ4.1 16 0) - r5) (fun r7 σ6 => (if r7 = 0 then wX11_tryHours_76 (wX11_tryHours_16 Φ n) Φ σ6 v1 r3 v4 (0 : Int32) else wX11_tryHours_76 (wX11_tryHours_16 Φ n) Φ σ6 v1 r3 v4 r5)))) else Φ v3 σ))
def wX11_tryHours (σ : St) (v1 : Int32) (v2 : Int32) (Φ : Int32 → St → Prop) : Prop := wX0_becomeLike σ 16 3 (fun σ1 => ∃ n0, wX11_tryHours_16 Φ n0 σ1 v1 v2 (0 : Int32))
def wX11_whirls (σ : St) (v1 : Int32) (v2 : Int32) (v3 : Int32) (Φ : Int32 → St → Prop) : Prop := (if v1 < (1 : Int32) then Φ (-102 : Int32) σ else (if (60 : Int32) < v1 then Φ (-102 : Int32) σ else (if v2 < 0 then Φ (-102 : Int32) σ else (if v3 < 0 then Φ (-102 : Int32) σ else (if v3 ≤ (3 : Int32) then wX0_isWhole σ 3 (fun r2 σ1 => (if r2 = 0 then Φ (-103 : Int32) σ1 else wX11_tryHours σ1 v1 v2 (fun r4 σ3 => ((v3 = 0 → Φ (σ3.1 16 0) σ3) ∧ (v3 = 1 → Φ (σ3.1 16 3) σ3) ∧ (v3 = 2 → Φ ((σ3.1 16 4) - (σ3.1 3 4)) σ3) ∧ ((v3.toInt < 0 ∨ 2 < v3.toInt) → Φ r4 σ3))))) else Φ (-102 : Int32) σ)))))
def wX11_count (σ : St) (v1 : Int32) (Φ : Int32 → St → Prop) : Prop := ((v1 = 0 → Φ (σ.1 3 0) σ) ∧ (v1 = 1 → wX0_turnsNow σ 3 (fun r2 σ1 => Φ r2 σ1)) ∧ (v1 = 2 → Φ (σ.1 3 1) σ) ∧ (v1 = 3 → wX0_strainNow σ 3 (fun r4 σ3 => Φ r4 σ3)) ∧ (v1 = 4 → Φ (σ.1 3 2) σ) ∧ (v1 = 5 → (if (σ.1 3 5) = 0 then Φ (0 : Int32) σ else Φ (1 : Int32) σ)) ∧ (v1 = 6 → Φ (σ.1 3 3) σ) ∧ (v1 = 7 → Φ (σ.1 3 4) σ) ∧ (v1 = 8 → (if (σ.1 3 6) = 0 then Φ (0 : Int32) σ else Φ (1 : Int32) σ)) ∧ (v1 = 9 → Φ (σ.1 4 2) σ) ∧ (v1 = 10 → Φ (σ.1 1 1) σ) ∧ (v1 = 11 → Φ (σ.1 0 9) σ) ∧ (v1 = 12 → Φ (σ.1 7 2) σ) ∧ ((v1.toInt < 0 ∨ 12 < v1.toInt) → Φ (-102 : Int32) σ))
def wL_put (σ : St) (v1 : Int32) (Φ : Int32 → St → Prop) : Prop := wX11_letters σ v1.toInt64 (fun r2 σ1 => (if r2 ≤ 0 then (((0 : Int32) = 0 ∨ (0 : Int32) = 1) ∧ Φ (0 : Int32) σ1) else (((1 : Int32) = 0 ∨ (1 : Int32) = 1) ∧ Φ (1 : Int32) σ1)))
def wL_wire_213 (q : Nat) (Φ : Int32 → St → Prop) (σ : St) (s0 : Int32) : Prop := (if s0 = 0 then (((0 : Int32) = 0 ∨ (0 : Int32) = 1) ∧ Φ (0 : Int32) σ) else wX11_fault σ (fun r20 σ19 => vp_in (3 : Int32) 32 ∧ (if r20 = ((8 : Int32) + (σ19.1 q (3 : Int32).toNatClampNeg)) then wX11_wire σ19 (fun r22 σ21 => vp_in (1 : Int32) 32 ∧ (if r22 = (σ21.1 q (1 : Int32).toNatClampNeg) then (((1 : Int32) = 0 ∨ (1 : Int32) = 1) ∧ Φ (1 : Int32) σ21) else (((0 : Int32) = 0 ∨ (0 : Int32) = 1) ∧ Φ (0 : Int32) σ21))) else (((0 : Int32) = 0 ∨ (0 : Int32) = 1) ∧ Φ (0 : Int32) σ19))))
def wL_wire_212 (q : Nat) (Φ : Int32 → St → Prop) (σ : St) : Prop := wL_wire_213 q Φ σ (0 : Int32)
def wL_wire_208 (q : Nat) (Φ : Int32 → St → Prop) (σ : St) : Prop := wL_wire_213 q Φ σ (1 : Int32)
def wL_wire_42 (q : Nat) (Φ : Int32 → St → Prop) : Nat → St → Int32 → Int32 → Int32 → Int32 → Int32 → Prop
  | 0, _, _, _, _, _, _ => False
  | n + 1, σ, v1, v3, v4, v5, v6 => (if (32 : Int32) ≤ v6 then vp_in (0 : Int32) 32 ∧ vp_in (1 : Int32) 32 ∧ vp_in (2 : Int32) 32 ∧ (¬ (524288 : Int32) = 0) ∧ (¬ (2 : Int32) = 0) ∧ vp_in (3 : Int32) 32 ∧ (¬ (10 : Int32) = 0) ∧ wL_put (sV (sV (sV (sV σ q (0 : Int32).toNatClampNeg v3) q (1 : Int32).toNatClampNeg ((v3 * v3) * v4)) q (2 : Int32).toNatClampNeg v5) q (3 : Int32).toNatClampNeg ((v1 / (524288 : Int32)) - (v1 / (524288 : Int32)) / (2 : Int32) * (2 : Int32))) ((48 : Int32) + (v3 / (10 : Int32))) (fun r2 σ1 => (if r2 = 0 then wL_wire_212 q Φ σ1 else (¬ (10 : Int32) = 0) ∧ wL_put σ1 ((48 : Int32) + (v3 - v3 / (10 : Int32) * (10 : Int32))) (fun r4 σ3 => (if r4 = 0 then wL_wire_212 q Φ σ3 else wL_put σ3 (58 : Int32) (fun r6 σ5 => (if r6 = 0 then wL_wire_212 q Φ σ5 else wL_put σ5 ((48 : Int32) + v4) (fun r8 σ7 => (if r8 = 0 then wL_wire_212 q Φ σ7 else wL_put σ7 (58 : Int32) (fun r10 σ9 => (if r10 = 0 then wL_wire_212 q Φ σ9 else (¬ (100 : Int32) = 0) ∧ wL_put σ9 ((48 : Int32) + (v5 / (100 : Int32))) (fun r12 σ11 => (if r12 = 0 then wL_wire_212 q Φ σ11 else (¬ (10 : Int32) = 0) ∧ (¬ (10 : Int32) = 0) ∧ wL_put σ11 ((48 : Int32) + ((v5 / (10 : Int32)) - (v5 / (10 : Int32)) / (10 : Int32) * (10 : Int32))) (fun r14 σ13 => (if r14 = 0 then wL_wire_212 q Φ σ13 else (¬ (10 : Int32) = 0) ∧ wL_put σ13 ((48 : Int32) + (v5 - v5 / (10 : Int32) * (10 : Int32))) (fun r16 σ15 => (if r16 = 0 then wL_wire_212 q Φ σ15 else vp_in (3 : Int32) 32 ∧ (if (σ15.1 q (3 : Int32).toNatClampNeg) = 0 then wL_wire_208 q Φ σ15 else wL_put σ15 (111 : Int32) (fun r18 σ17 => (if r18 = 0 then wL_wire_212 q Φ σ17 else wL_wire_208 q Φ σ17))))))))))))))))))) else vp_in v6 32 ∧ wL_wire_42 q Φ n (sV σ q v6.toNatClampNeg (0 : Int32)) v1 v3 v4 v5 (v6 + 1))
def wL_wire (σ : St) (v1 : Int32) (q : Nat) (Φ : Int32 → St → Prop) : Prop := (¬ (31 : Int32) = 0) ∧ (¬ (32 : Int32) = 0) ∧ (¬ (9 : Int32) = 0) ∧ (¬ (3 : Int32) = 0) ∧ (¬ ((v1 - v1 / (3 : Int32) * (3 : Int32)) + (1 : Int32)) = 0) ∧ (¬ (512 : Int32) = 0) ∧ (¬ (900 : Int32) = 0) ∧ ∃ n0, wL_wire_42 q Φ n0 σ v1 ((10 : Int32) + (v1 - v1 / (31 : Int32) * (31 : Int32))) ((1 : Int32) + (((v1 / (32 : Int32)) - (v1 / (32 : Int32)) / (9 : Int32) * (9 : Int32)) / ((v1 - v1 / (3 : Int32) * (3 : Int32)) + (1 : Int32)))) ((100 : Int32) + ((v1 / (512 : Int32)) - (v1 / (512 : Int32)) / (900 : Int32) * (900 : Int32))) (0 : Int32)
def wL_thing (σ : St) (v1 : Int32) (q : Nat) (Φ : Int32 → St → Prop) : Prop := vp_in (7 : Int32) 32 ∧ (¬ (5 : Int32) = 0) ∧ vp_in ((8 : Int32) + ((4 : Int32) * (σ.1 q (7 : Int32).toNatClampNeg))) 32 ∧ (¬ (8 : Int32) = 0) ∧ (¬ (20 : Int32) = 0) ∧ vp_in (((8 : Int32) + ((4 : Int32) * (σ.1 q (7 : Int32).toNatClampNeg))) + (1 : Int32)) 32 ∧ (¬ (256 : Int32) = 0) ∧ (¬ (2 : Int32) = 0) ∧ vp_in (((8 : Int32) + ((4 : Int32) * (σ.1 q (7 : Int32).toNatClampNeg))) + (2 : Int32)) 32 ∧ vp_in (5 : Int32) 32 ∧ vp_in (((8 : Int32) + ((4 : Int32) * (σ.1 q (7 : Int32).toNatClampNeg))) + (3 : Int32)) 32 ∧ vp_in (7 : Int32) 32 ∧ vp_in (7 : Int32) 32 ∧ (¬ (5 : Int32) = 0) ∧ vp_in (((8 : Int32) + ((4 : Int32) * (σ.1 q (7 : Int32).toNatClampNeg))) + (1 : Int32)) 32 ∧ vp_in (((8 : Int32) + ((4 : Int32) * (σ.1 q (7 : Int32).toNatClampNeg))) + (2 : Int32)) 32 ∧ wX11_thing (sV (sV (sV (sV (sV σ q ((8 : Int32) + ((4 : Int32) * (σ.1 q (7 : Int32).toNatClampNeg))).toNatClampNeg (v1 - v1 / (5 : Int32) * (5 : Int32))) q (((8 : Int32) + ((4 : Int32) * (σ.1 q (7 : Int32).toNatClampNeg))) + (1 : Int32)).toNatClampNeg ((1 : Int32) + ((v1 / (8 : Int32)) - (v1 / (8 : Int32)) / (20 : Int32) * (20 : Int32)))) q (((8 : Int32) + ((4 : Int32) * (σ.1 q (7 : Int32).toNatClampNeg))) + (2 : Int32)).toNatClampNeg ((v1 / (256 : Int32)) - (v1 / (256 : Int32)) / (2 : Int32) * (2 : Int32))) q (((8 : Int32) + ((4 : Int32) * (σ.1 q (7 : Int32).toNatClampNeg))) + (3 : Int32)).toNatClampNeg ((sV (sV (sV σ q ((8 : Int32) + ((4 : Int32) * (σ.1 q (7 : Int32).toNatClampNeg))).toNatClampNeg (v1 - v1 / (5 : Int32) * (5 : Int32))) q (((8 : Int32) + ((4 : Int32) * (σ.1 q (7 : Int32).toNatClampNeg))) + (1 : Int32)).toNatClampNeg ((1 : Int32) + ((v1 / (8 : Int32)) - (v1 / (8 : Int32)) / (20 : Int32) * (20 : Int32)))) q (((8 : Int32) + ((4 : Int32) * (σ.1 q (7 : Int32).toNatClampNeg))) + (2 : Int32)).toNatClampNeg ((v1 / (256 : Int32)) - (v1 / (256 : Int32)) / (2 : Int32) * (2 : Int32))).1 q (5 : Int32).toNatClampNeg)) q (7 : Int32).toNatClampNeg (((sV (sV (sV (sV σ q ((8 : Int32) + ((4 : Int32) * (σ.1 q (7 : Int32).toNatClampNeg))).toNatClampNeg (v1 - v1 / (5 : Int32) * (5 : Int32))) q (((8 : Int32) + ((4 : Int32) * (σ.1 q (7 : Int32).toNatClampNeg))) + (1 : Int32)).toNatClampNeg ((1 : Int32) + ((v1 / (8 : Int32)) - (v1 / (8 : Int32)) / (20 : Int32) * (20 : Int32)))) q (((8 : Int32) + ((4 : Int32) * (σ.1 q (7 : Int32).toNatClampNeg))) + (2 : Int32)).toNatClampNeg ((v1 / (256 : Int32)) - (v1 / (256 : Int32)) / (2 : Int32) * (2 : Int32))) q (((8 : Int32) + ((4 : Int32) * (σ.1 q (7 : Int32).toNatClampNeg))) + (3 : Int32)).toNatClampNeg ((sV (sV (sV σ q ((8 : Int32) + ((4 : Int32) * (σ.1 q (7 : Int32).toNatClampNeg))).toNatClampNeg (v1 - v1 / (5 : Int32) * (5 : Int32))) q (((8 : Int32) + ((4 : Int32) * (σ.1 q (7 : Int32).toNatClampNeg))) + (1 : Int32)).toNatClampNeg ((1 : Int32) + ((v1 / (8 : Int32)) - (v1 / (8 : Int32)) / (20 : Int32) * (20 : Int32)))) q (((8 : Int32) + ((4 : Int32) * (σ.1 q (7 : Int32).toNatClampNeg))) + (2 : Int32)).toNatClampNeg ((v1 / (256 : Int32)) - (v1 / (256 : Int32)) / (2 : Int32) * (2 : Int32))).1 q (5 : Int32).toNatClampNeg)).1 q (7 : Int32).toNatClampNeg) + (1 : Int32))) (v1 - v1 / (5 : Int32) * (5 : Int32)) ((sV (sV (sV (sV (sV σ q ((8 : Int32) + ((4 : Int32) * (σ.1 q (7 : Int32).toNatClampNeg))).toNatClampNeg (v1 - v1 / (5 : Int32) * (5 : Int32))) q (((8 : Int32) + ((4 : Int32) * (σ.1 q (7 : Int32).toNatClampNeg))) + (1 : Int32)).toNatClampNeg ((1 : Int32) + ((v1 / (8 : Int32)) - (v1 / (8 : Int32)) / (20 : Int32) * (20 : Int32)))) q (((8 : Int32) + ((4 : Int32) * (σ.1 q (7 : Int32).toNatClampNeg))) + (2 : Int32)).toNatClampNeg ((v1 / (256 : Int32)) - (v1 / (256 : Int32)) / (2 : Int32) * (2 : Int32))) q (((8 : Int32) + ((4 : Int32) * (σ.1 q (7 : Int32).toNatClampNeg))) + (3 : Int32)).toNatClampNeg ((sV (sV (sV σ q ((8 : Int32) + ((4 : Int32) * (σ.1 q (7 : Int32).toNatClampNeg))).toNatClampNeg (v1 - v1 / (5 : Int32) * (5 : Int32))) q (((8 : Int32) + ((4 : Int32) * (σ.1 q (7 : Int32).toNatClampNeg))) + (1 : Int32)).toNatClampNeg ((1 : Int32) + ((v1 / (8 : Int32)) - (v1 / (8 : Int32)) / (20 : Int32) * (20 : Int32)))) q (((8 : Int32) + ((4 : Int32) * (σ.1 q (7 : Int32).toNatClampNeg))) + (2 : Int32)).toNatClampNeg ((v1 / (256 : Int32)) - (v1 / (256 : Int32)) / (2 : Int32) * (2 : Int32))).1 q (5 : Int32).toNatClampNeg)) q (7 : Int32).toNatClampNeg (((sV (sV (sV (sV σ q ((8 : Int32) + ((4 : Int32) * (σ.1 q (7 : Int32).toNatClampNeg))).toNatClampNeg (v1 - v1 / (5 : Int32) * (5 : Int32))) q (((8 : Int32) + ((4 : Int32) * (σ.1 q (7 : Int32).toNatClampNeg))) + (1 : Int32)).toNatClampNeg ((1 : Int32) + ((v1 / (8 : Int32)) - (v1 / (8 : Int32)) / (20 : Int32) * (20 : Int32)))) q (((8 : Int32) + ((4 : Int32) * (σ.1 q (7 : Int32).toNatClampNeg))) + (2 : Int32)).toNatClampNeg ((v1 / (256 : Int32)) - (v1 / (256 : Int32)) / (2 : Int32) * (2 : Int32))) q (((8 : Int32) + ((4 : Int32) * (σ.1 q (7 : Int32).toNatClampNeg))) + (3 : Int32)).toNatClampNeg ((sV (sV (sV σ q ((8 : Int32) + ((4 : Int32) * (σ.1 q (7 : Int32).toNatClampNeg))).toNatClampNeg (v1 - v1 / (5 : Int32) * (5 : Int32))) q (((8 : Int32) + ((4 : Int32) * (σ.1 q (7 : Int32).toNatClampNeg))) + (1 : Int32)).toNatClampNeg ((1 : Int32) + ((v1 / (8 : Int32)) - (v1 / (8 : Int32)) / (20 : Int32) * (20 : Int32)))) q (((8 : Int32) + ((4 : Int32) * (σ.1 q (7 : Int32).toNatClampNeg))) + (2 : Int32)).toNatClampNeg ((v1 / (256 : Int32)) - (v1 / (256 : Int32)) / (2 : Int32) * (2 : Int32))).1 q (5 : Int32).toNatClampNeg)).1 q (7 : Int32).toNatClampNeg) + (1 : Int32))).1 q (((8 : Int32) + ((4 : Int32) * (σ.1 q (7 : Int32).toNatClampNeg))) + (1 : Int32)).toNatClampNeg) ((sV (sV (sV (sV (sV σ q ((8 : Int32) + ((4 : Int32) * (σ.1 q (7 : Int32).toNatClampNeg))).toNatClampNeg (v1 - v1 / (5 : Int32) * (5 : Int32))) q (((8 : Int32) + ((4 : Int32) * (σ.1 q (7 : Int32).toNatClampNeg))) + (1 : Int32)).toNatClampNeg ((1 : Int32) + ((v1 / (8 : Int32)) - (v1 / (8 : Int32)) / (20 : Int32) * (20 : Int32)))) q (((8 : Int32) + ((4 : Int32) * (σ.1 q (7 : Int32).toNatClampNeg))) + (2 : Int32)).toNatClampNeg ((v1 / (256 : Int32)) - (v1 / (256 : Int32)) / (2 : Int32) * (2 : Int32))) q (((8 : Int32) + ((4 : Int32) * (σ.1 q (7 : Int32).toNatClampNeg))) + (3 : Int32)).toNatClampNeg ((sV (sV (sV σ q ((8 : Int32) + ((4 : Int32) * (σ.1 q (7 : Int32).toNatClampNeg))).toNatClampNeg (v1 - v1 / (5 : Int32) * (5 : Int32))) q (((8 : Int32) + ((4 : Int32) * (σ.1 q (7 : Int32).toNatClampNeg))) + (1 : Int32)).toNatClampNeg ((1 : Int32) + ((v1 / (8 : Int32)) - (v1 / (8 : Int32)) / (20 : Int32) * (20 : Int32)))) q (((8 : Int32) + ((4 : Int32) * (σ.1 q (7 : Int32).toNatClampNeg))) + (2 : Int32)).toNatClampNeg ((v1 / (256 : Int32)) - (v1 / (256 : Int32)) / (2 : Int32) * (2 : Int32))).1 q (5 : Int32).toNatClampNeg)) q (7 : Int32).toNatClampNeg (((sV (sV (sV (sV σ q ((8 : Int32) + ((4 : Int32) * (σ.1 q (7 : Int32).toNatClampNeg))).toNatClampNeg (v1 - v1 / (5 : Int32) * (5 : Int32))) q (((8 : Int32) + ((4 : Int32) * (σ.1 q (7 : Int32).toNatClampNeg))) + (1 : Int32)).toNatClampNeg ((1 : Int32) + ((v1 / (8 : Int32)) - (v1 / (8 : Int32)) / (20 : Int32) * (20 : Int32)))) q (((8 : Int32) + ((4 : Int32) * (σ.1 q (7 : Int32).toNatClampNeg))) + (2 : Int32)).toNatClampNeg ((v1 / (256 : Int32)) - (v1 / (256 : Int32)) / (2 : Int32) * (2 : Int32))) q (((8 : Int32) + ((4 : Int32) * (σ.1 q (7 : Int32).toNatClampNeg))) + (3 : Int32)).toNatClampNeg ((sV (sV (sV σ q ((8 : Int32) + ((4 : Int32) * (σ.1 q (7 : Int32).toNatClampNeg))).toNatClampNeg (v1 - v1 / (5 : Int32) * (5 : Int32))) q (((8 : Int32) + ((4 : Int32) * (σ.1 q (7 : Int32).toNatClampNeg))) + (1 : Int32)).toNatClampNeg ((1 : Int32) + ((v1 / (8 : Int32)) - (v1 / (8 : Int32)) / (20 : Int32) * (20 : Int32)))) q (((8 : Int32) + ((4 : Int32) * (σ.1 q (7 : Int32).toNatClampNeg))) + (2 : Int32)).toNatClampNeg ((v1 / (256 : Int32)) - (v1 / (256 : Int32)) / (2 : Int32) * (2 : Int32))).1 q (5 : Int32).toNatClampNeg)).1 q (7 : Int32).toNatClampNeg) + (1 : Int32))).1 q (((8 : Int32) + ((4 : Int32) * (σ.1 q (7 : Int32).toNatClampNeg))) + (2 : Int32)).toNatClampNeg) (fun r2 σ1 => vp_in (7 : Int32) 32 ∧ (if r2 = ((σ1.1 q (7 : Int32).toNatClampNeg) - (1 : Int32)) then (((1 : Int32) = 0 ∨ (1 : Int32) = 1) ∧ Φ (1 : Int32) σ1) else (((0 : Int32) = 0 ∨ (0 : Int32) = 1) ∧ Φ (0 : Int32) σ1)))
def wL_weighs (σ : St) (q : Nat) (v1 : Int32) (v2 : Int32) (Φ : Int32 → St → Prop) : Prop := vp_in ((8 : Int32) + ((4 : Int32) * v1)) 32 ∧ vp_in (5 : Int32) 32 ∧ vp_in ((11 : Int32) + ((4 : Int32) * v1)) 32 ∧ (¬ (6 : Int32) = 0) ∧ vp_in ((9 : Int32) + ((4 : Int32) * v1)) 32 ∧ (if (σ.1 q ((8 : Int32) + ((4 : Int32) * v1)).toNatClampNeg) = (1 : Int32) then Φ ((σ.1 q ((9 : Int32) + ((4 : Int32) * v1)).toNatClampNeg) + (2 : Int32)) σ else (if (σ.1 q ((8 : Int32) + ((4 : Int32) * v1)).toNatClampNeg) = (3 : Int32) then Φ ((σ.1 q ((9 : Int32) + ((4 : Int32) * v1)).toNatClampNeg) + ((((σ.1 q (5 : Int32).toNatClampNeg) + v2) - (σ.1 q ((11 : Int32) + ((4 : Int32) * v1)).toNatClampNeg)) / (6 : Int32))) σ else (if (σ.1 q ((8 : Int32) + ((4 : Int32) * v1)).toNatClampNeg) = (4 : Int32) then Φ ((σ.1 q ((9 : Int32) + ((4 : Int32) * v1)).toNatClampNeg) + (((((σ.1 q (5 : Int32).toNatClampNeg) + v2) - (σ.1 q ((11 : Int32) + ((4 : Int32) * v1)).toNatClampNeg)) / (6 : Int32)) + ((((σ.1 q (5 : Int32).toNatClampNeg) + v2) - (σ.1 q ((11 : Int32) + ((4 : Int32) * v1)).toNatClampNeg)) / (6 : Int32)))) σ else Φ ((σ.1 q ((9 : Int32) + ((4 : Int32) * v1)).toNatClampNeg) + (0 : Int32)) σ)))
def wL_cabin_55 (q : Nat) (K7 : St → Int32 → Int32 → Int32 → Int32 → Int32 → Prop) (Φ : Int32 → St → Prop) (σ : St) (v1 : Int32) (v2 : Int32) (v3 : Int32) (v5 : Int32) (s0 : Int32) (s1 : Int32) : Prop := K7 σ v1 v2 v3 (s1 + s0) (v5 + 1)
def wL_cabin_7 (q : Nat) (Φ : Int32 → St → Prop) : Nat → St → Int32 → Int32 → Int32 → Int32 → Int32 → Prop
  | 0, _, _, _, _, _, _ => False
  | n + 1, σ, v1, v2, v3, v4, v5 => vp_in (7 : Int32) 32 ∧ (if (σ.1 q (7 : Int32).toNatClampNeg) ≤ v5 then Φ v4 σ else vp_in ((10 : Int32) + ((4 : Int32) * v5)) 32 ∧ (¬ (2 : Int32) = 0) ∧ (if (((σ.1 q ((10 : Int32) + ((4 : Int32) * v5)).toNatClampNeg) + ((v2 >>> (v5 &&& 31)) &&& (1 : Int32))) - ((σ.1 q ((10 : Int32) + ((4 : Int32) * v5)).toNatClampNeg) + ((v2 >>> (v5 &&& 31)) &&& (1 : Int32))) / (2 : Int32) * (2 : Int32)) = v1 then wL_weighs σ q v5 v3 (fun r2 σ1 => wL_cabin_55 q (wL_cabin_7 q Φ n) Φ σ1 v1 v2 v3 v5 r2 v4) else wL_cabin_55 q (wL_cabin_7 q Φ n) Φ σ v1 v2 v3 v5 (0 : Int32) v4))
def wL_cabin (σ : St) (q : Nat) (v1 : Int32) (v2 : Int32) (v3 : Int32) (Φ : Int32 → St → Prop) : Prop := ∃ n0, wL_cabin_7 q Φ n0 σ v1 v2 v3 (10 : Int32) (0 : Int32)
def wL_turns (σ : St) (q : Nat) (v1 : Int32) (Φ : Int32 → St → Prop) : Prop := vp_in (1 : Int32) 32 ∧ (¬ (v1 * v1) = 0) ∧ Φ ((σ.1 q (1 : Int32).toNatClampNeg) / (v1 * v1)) σ
def wL_arm (σ : St) (q : Nat) (v1 : Int32) (v2 : Int32) (v3 : Int32) (v4 : Int32) (Φ : Int32 → St → Prop) : Prop := wL_cabin σ q (0 : Int32) v2 v4 (fun r2 σ1 => wL_cabin σ1 q (1 : Int32) v2 v4 (fun r4 σ3 => (¬ (r2 + r4) = 0) ∧ (¬ (r2 + r4) = 0) ∧ (if v1 = 0 then Φ (((v3 * r4) - ((v3 * r4) - (v3 * r4) / (r2 + r4) * (r2 + r4))) / (r2 + r4)) σ3 else Φ (v3 - (((v3 * r4) - ((v3 * r4) - (v3 * r4) / (r2 + r4) * (r2 + r4))) / (r2 + r4))) σ3)))
def wL_floor (σ : St) (q : Nat) (v1 : Int32) (v2 : Int32) (v3 : Int32) (v4 : Int32) (Φ : Int32 → St → Prop) : Prop := wL_turns σ q v3 (fun r2 σ1 => wL_arm σ1 q v1 v2 v3 v4 (fun r4 σ3 => Φ ((r2 * r4) * r2) σ3))
def wL_strain (σ : St) (q : Nat) (v1 : Int32) (v2 : Int32) (Φ : Int32 → St → Prop) : Prop := wL_floor σ q (0 : Int32) (0 : Int32) v1 v2 (fun r2 σ1 => wL_cabin σ1 q (0 : Int32) (0 : Int32) v2 (fun r4 σ3 => (¬ (100 : Int32) = 0) ∧ Φ ((r2 * r4) / (100 : Int32)) σ3))
def wL_hour_57 (q : Nat) (Φ : Int32 → St → Prop) (σ : St) (s0 : Int32) (s1 : Int32) : Prop := vp_in s1 32 ∧ vp_in (6 : Int32) 32 ∧ (if ((sV σ q s1.toNatClampNeg s0).1 q (6 : Int32).toNatClampNeg) = (1 : Int32) then Φ (-1 : Int32) (sV σ q s1.toNatClampNeg s0) else vp_in (0 : Int32) 32 ∧ Φ ((sV σ q s1.toNatClampNeg s0).1 q (0 : Int32).toNatClampNeg) (sV σ q s1.toNatClampNeg s0))
def wL_hour (σ : St) (q : Nat) (v1 : Int32) (Φ : Int32 → St → Prop) : Prop := vp_in (0 : Int32) 32 ∧ vp_in (0 : Int32) 32 ∧ vp_in (5 : Int32) 32 ∧ vp_in (5 : Int32) 32 ∧ vp_in (4 : Int32) 32 ∧ vp_in (0 : Int32) 32 ∧ wL_turns (sV (sV σ q (0 : Int32).toNatClampNeg ((σ.1 q (0 : Int32).toNatClampNeg) - v1)) q (5 : Int32).toNatClampNeg (((sV σ q (0 : Int32).toNatClampNeg ((σ.1 q (0 : Int32).toNatClampNeg) - v1)).1 q (5 : Int32).toNatClampNeg) + (1 : Int32))) q ((sV (sV σ q (0 : Int32).toNatClampNeg ((σ.1 q (0 : Int32).toNatClampNeg) - v1)) q (5 : Int32).toNatClampNeg (((sV σ q (0 : Int32).toNatClampNeg ((σ.1 q (0 : Int32).toNatClampNeg) - v1)).1 q (5 : Int32).toNatClampNeg) + (1 : Int32))).1 q (0 : Int32).toNatClampNeg) (fun r2 σ1 => (¬ (360 : Int32) = 0) ∧ vp_in (4 : Int32) 32 ∧ vp_in (0 : Int32) 32 ∧ wL_strain (sV σ1 q (4 : Int32).toNatClampNeg ((((sV (sV σ q (0 : Int32).toNatClampNeg ((σ.1 q (0 : Int32).toNatClampNeg) - v1)) q (5 : Int32).toNatClampNeg (((sV σ q (0 : Int32).toNatClampNeg ((σ.1 q (0 : Int32).toNatClampNeg) - v1)).1 q (5 : Int32).toNatClampNeg) + (1 : Int32))).1 q (4 : Int32).toNatClampNeg) + (r2 * (10 : Int32))) - (((sV (sV σ q (0 : Int32).toNatClampNeg ((σ.1 q (0 : Int32).toNatClampNeg) - v1)) q (5 : Int32).toNatClampNeg (((sV σ q (0 : Int32).toNatClampNeg ((σ.1 q (0 : Int32).toNatClampNeg) - v1)).1 q (5 : Int32).toNatClampNeg) + (1 : Int32))).1 q (4 : Int32).toNatClampNeg) + (r2 * (10 : Int32))) / (360 : Int32) * (360 : Int32))) q ((sV σ1 q (4 : Int32).toNatClampNeg ((((sV (sV σ q (0 : Int32).toNatClampNeg ((σ.1 q (0 : Int32).toNatClampNeg) - v1)) q (5 : Int32).toNatClampNeg (((sV σ q (0 : Int32).toNatClampNeg ((σ.1 q (0 : Int32).toNatClampNeg) - v1)).1 q (5 : Int32).toNatClampNeg) + (1 : Int32))).1 q (4 : Int32).toNatClampNeg) + (r2 * (10 : Int32))) - (((sV (sV σ q (0 : Int32).toNatClampNeg ((σ.1 q (0 : Int32).toNatClampNeg) - v1)) q (5 : Int32).toNatClampNeg (((sV σ q (0 : Int32).toNatClampNeg ((σ.1 q (0 : Int32).toNatClampNeg) - v1)).1 q (5 : Int32).toNatClampNeg) + (1 : Int32))).1 q (4 : Int32).toNatClampNeg) + (r2 * (10 : Int32))) / (360 : Int32) * (360 : Int32))).1 q (0 : Int32).toNatClampNeg) (0 : Int32) (fun r4 σ3 => vp_in (2 : Int32) 32 ∧ (if r4 ≤ (σ3.1 q (2 : Int32).toNatClampNeg) then wL_hour_57 q Φ σ3 (0 : Int32) (6 : Int32) else wL_hour_57 q Φ σ3 (1 : Int32) (6 : Int32))))
def wL_told_381 (q : Nat) (K281 : St → Int32 → Int32 → Int32 → Prop) (Φ : Int32 → St → Prop) (σ : St) (v3 : Int32) (v4 : Int32) (s0 : Int32) : Prop := K281 σ s0 v3 (v4 + 1)
def wL_told_380 (q : Nat) (K281 : St → Int32 → Int32 → Int32 → Prop) (Φ : Int32 → St → Prop) (σ : St) (v3 : Int32) (v4 : Int32) : Prop := wL_told_381 q K281 Φ σ v3 v4 (0 : Int32)
def wL_told_373 (q : Nat) (K281 : St → Int32 → Int32 → Int32 → Prop) (Φ : Int32 → St → Prop) (σ : St) (v3 : Int32) (v4 : Int32) (s0 : Int32) (s1 : Int32) : Prop := (if s1 = s0 then wL_told_381 q K281 Φ σ v3 v4 (1 : Int32) else wL_told_380 q K281 Φ σ v3 v4)
def wL_told_281 (q : Nat) (Φ : Int32 → St → Prop) : Nat → St → Int32 → Int32 → Int32 → Prop
  | 0, _, _, _, _ => False
  | n + 1, σ, v2, v3, v4 => (if (2 : Int32) ≤ v4 then ((v2 = 0 ∨ v2 = 1) ∧ Φ v2 σ) else (if v2 = 0 then wL_told_380 q (wL_told_281 q Φ n) Φ σ v3 v4 else wX11_cabin σ v4 (0 : Int32) (fun r38 σ37 => wL_cabin σ37 q v4 (0 : Int32) (0 : Int32) (fun r40 σ39 => (if r38 = r40 then wX11_cabin σ39 v4 (1 : Int32) (fun r42 σ41 => vp_in (0 : Int32) 32 ∧ wL_arm σ41 q v4 (0 : Int32) (σ41.1 q (0 : Int32).toNatClampNeg) (0 : Int32) (fun r44 σ43 => (if r42 = r44 then wX11_cabin σ43 v4 (2 : Int32) (fun r46 σ45 => vp_in (0 : Int32) 32 ∧ wL_floor σ45 q v4 (0 : Int32) (σ45.1 q (0 : Int32).toNatClampNeg) (0 : Int32) (fun r48 σ47 => (if r46 = r48 then wX11_cabin σ47 v4 (3 : Int32) (fun r50 σ49 => (if v4 = 0 then wL_told_373 q (wL_told_281 q Φ n) Φ σ49 v3 v4 v3 r50 else vp_in (7 : Int32) 32 ∧ wL_told_373 q (wL_told_281 q Φ n) Φ σ49 v3 v4 ((σ49.1 q (7 : Int32).toNatClampNeg) - v3) r50)) else wL_told_380 q (wL_told_281 q Φ n) Φ σ47 v3 v4))) else wL_told_380 q (wL_told_281 q Φ n) Φ σ43 v3 v4))) else wL_told_380 q (wL_told_281 q Φ n) Φ σ39 v3 v4)))))
def wL_told_271 (q : Nat) (K136 : St → Int32 → Int32 → Int32 → Prop) (Φ : Int32 → St → Prop) (σ : St) (v3 : Int32) (v4 : Int32) (s0 : Int32) : Prop := K136 σ s0 v3 (v4 + 1)
def wL_told_270 (q : Nat) (K136 : St → Int32 → Int32 → Int32 → Prop) (Φ : Int32 → St → Prop) (σ : St) (v3 : Int32) (v4 : Int32) : Prop := wL_told_271 q K136 Φ σ v3 v4 (0 : Int32)
def wL_told_163 (q : Nat) (K136 : St → Int32 → Int32 → Int32 → Prop) (Φ : Int32 → St → Prop) (σ : St) (v2 : Int32) (v4 : Int32) (s0 : Int32) (s1 : Int32) : Prop := (if v2 = 0 then wL_told_270 q K136 Φ σ (s1 + s0) v4 else wX11_about σ v4 (0 : Int32) (fun r26 σ25 => vp_in ((8 : Int32) + ((4 : Int32) * v4)) 32 ∧ (if r26 = (σ25.1 q ((8 : Int32) + ((4 : Int32) * v4)).toNatClampNeg) then wX11_about σ25 v4 (1 : Int32) (fun r28 σ27 => vp_in ((9 : Int32) + ((4 : Int32) * v4)) 32 ∧ (if r28 = (σ27.1 q ((9 : Int32) + ((4 : Int32) * v4)).toNatClampNeg) then wX11_about σ27 v4 (2 : Int32) (fun r30 σ29 => vp_in ((10 : Int32) + ((4 : Int32) * v4)) 32 ∧ (if r30 = (σ29.1 q ((10 : Int32) + ((4 : Int32) * v4)).toNatClampNeg) then wX11_about σ29 v4 (3 : Int32) (fun r32 σ31 => wL_weighs σ31 q v4 (0 : Int32) (fun r34 σ33 => (if r32 = r34 then wX11_about σ33 v4 (4 : Int32) (fun r36 σ35 => vp_in (5 : Int32) 32 ∧ vp_in ((11 : Int32) + ((4 : Int32) * v4)) 32 ∧ (if r36 = ((σ35.1 q (5 : Int32).toNatClampNeg) - (σ35.1 q ((11 : Int32) + ((4 : Int32) * v4)).toNatClampNeg)) then wL_told_271 q K136 Φ σ35 (s1 + s0) v4 (1 : Int32) else wL_told_270 q K136 Φ σ35 (s1 + s0) v4)) else wL_told_270 q K136 Φ σ33 (s1 + s0) v4))) else wL_told_270 q K136 Φ σ29 (s1 + s0) v4)) else wL_told_270 q K136 Φ σ27 (s1 + s0) v4)) else wL_told_270 q K136 Φ σ25 (s1 + s0) v4)))
def wL_told_136 (q : Nat) (Φ : Int32 → St → Prop) : Nat → St → Int32 → Int32 → Int32 → Prop
  | 0, _, _, _, _ => False
  | n + 1, σ, v2, v3, v4 => vp_in (7 : Int32) 32 ∧ (if (σ.1 q (7 : Int32).toNatClampNeg) ≤ v4 then ∃ n0, wL_told_281 q Φ n0 σ v2 v3 (0 : Int32) else vp_in ((10 : Int32) + ((4 : Int32) * v4)) 32 ∧ (if (σ.1 q ((10 : Int32) + ((4 : Int32) * v4)).toNatClampNeg) = 0 then wL_told_163 q (wL_told_136 q Φ n) Φ σ v2 v4 (1 : Int32) v3 else wL_told_163 q (wL_told_136 q Φ n) Φ σ v2 v4 (0 : Int32) v3))
def wL_told_130 (q : Nat) (Φ : Int32 → St → Prop) (σ : St) (s0 : Int32) : Prop := ∃ n0, wL_told_136 q Φ n0 σ s0 (0 : Int32) (0 : Int32)
def wL_told_129 (q : Nat) (Φ : Int32 → St → Prop) (σ : St) : Prop := wL_told_130 q Φ σ (0 : Int32)
def wL_told (σ : St) (q : Nat) (Φ : Int32 → St → Prop) : Prop := wX11_count σ (0 : Int32) (fun r2 σ1 => vp_in (0 : Int32) 32 ∧ (if r2 = (σ1.1 q (0 : Int32).toNatClampNeg) then wX11_count σ1 (1 : Int32) (fun r4 σ3 => vp_in (0 : Int32) 32 ∧ wL_turns σ3 q (σ3.1 q (0 : Int32).toNatClampNeg) (fun r6 σ5 => (if r4 = r6 then wX11_count σ5 (2 : Int32) (fun r8 σ7 => vp_in (1 : Int32) 32 ∧ (if r8 = (σ7.1 q (1 : Int32).toNatClampNeg) then wX11_count σ7 (3 : Int32) (fun r10 σ9 => vp_in (0 : Int32) 32 ∧ wL_strain σ9 q (σ9.1 q (0 : Int32).toNatClampNeg) (0 : Int32) (fun r12 σ11 => (if r10 = r12 then wX11_count σ11 (4 : Int32) (fun r14 σ13 => vp_in (2 : Int32) 32 ∧ (if r14 = (σ13.1 q (2 : Int32).toNatClampNeg) then wX11_count σ13 (5 : Int32) (fun r16 σ15 => vp_in (3 : Int32) 32 ∧ (if r16 = (σ15.1 q (3 : Int32).toNatClampNeg) then wX11_count σ15 (6 : Int32) (fun r18 σ17 => vp_in (4 : Int32) 32 ∧ (if r18 = (σ17.1 q (4 : Int32).toNatClampNeg) then wX11_count σ17 (7 : Int32) (fun r20 σ19 => vp_in (5 : Int32) 32 ∧ (if r20 = (σ19.1 q (5 : Int32).toNatClampNeg) then wX11_count σ19 (8 : Int32) (fun r22 σ21 => vp_in (6 : Int32) 32 ∧ (if r22 = (σ21.1 q (6 : Int32).toNatClampNeg) then wX11_count σ21 (9 : Int32) (fun r24 σ23 => vp_in (7 : Int32) 32 ∧ (if r24 = (σ23.1 q (7 : Int32).toNatClampNeg) then wL_told_130 q Φ σ23 (1 : Int32) else wL_told_129 q Φ σ23)) else wL_told_129 q Φ σ21)) else wL_told_129 q Φ σ19)) else wL_told_129 q Φ σ17)) else wL_told_129 q Φ σ15)) else wL_told_129 q Φ σ13)) else wL_told_129 q Φ σ11))) else wL_told_129 q Φ σ7)) else wL_told_129 q Φ σ5))) else wL_told_129 q Φ σ1))
def wL_law_953 (K80 : St → Nat → Int32 → Prop) (L : Nat) (xs : Nat → Int32) (σ : St) (kk : Nat) (v5 : Int32) : Prop := K80 σ kk (v5 + 1)
def wL_law_947 (K80 : St → Nat → Int32 → Prop) (L : Nat) (xs : Nat → Int32) (σ : St) (kk : Nat) (v5 : Int32) (s0 : Int64) (s1 : Int64) : Prop := (if (lg_cmp s1 s0) = 0 then wL_law_953 K80 L xs σ kk v5 else ((0 : Int32) = 1))
def wL_law_921 (K80 : St → Nat → Int32 → Prop) (L : Nat) (xs : Nat → Int32) (σ : St) (kk : Nat) (v5 : Int32) (v13 : Int32) (v14 : Int32) (v15 : Int64) (v18 : Int32) (s0 : Int32) (s1 : Int32) : Prop := (if s1 = s0 then wX11_whirls σ v13 v14 (3 : Int32) (fun r64 σ63 => (if v18 = 0 then wL_law_947 K80 L xs σ63 kk v5 v15 r64.toInt64 else wL_law_947 K80 L xs σ63 kk v5 (-103 : Int64) r64.toInt64)) else ((0 : Int32) = 1))
def wL_law_897 (K80 : St → Nat → Int32 → Prop) (L : Nat) (xs : Nat → Int32) (σ : St) (kk : Nat) (v5 : Int32) (v13 : Int32) (v14 : Int32) (v15 : Int64) (v17 : Int32) (v18 : Int32) (s0 : Int32) (s1 : Int32) : Prop := (if s1 = s0 then wX11_whirls σ v13 v14 (2 : Int32) (fun r62 σ61 => (if v18 = 0 then wL_law_921 K80 L xs σ61 kk v5 v13 v14 v15 v18 v17 r62 else wL_law_921 K80 L xs σ61 kk v5 v13 v14 v15 v18 (-103 : Int32) r62)) else ((0 : Int32) = 1))
def wL_law_872 (K80 : St → Nat → Int32 → Prop) (L : Nat) (xs : Nat → Int32) (σ : St) (kk : Nat) (v5 : Int32) (v13 : Int32) (v14 : Int32) (v15 : Int64) (v17 : Int32) (v18 : Int32) (s0 : Int32) (s1 : Int32) : Prop := (if s1 = s0 then wX11_whirls σ v13 v14 (1 : Int32) (fun r60 σ59 => (if v18 = 0 then vp_in (4 : Int32) 32 ∧ wL_law_897 K80 L xs σ59 kk v5 v13 v14 v15 v17 v18 (σ59.1 19 (4 : Int32).toNatClampNeg) r60 else wL_law_897 K80 L xs σ59 kk v5 v13 v14 v15 v17 v18 (-103 : Int32) r60)) else ((0 : Int32) = 1))
def wL_law_848 (K80 : St → Nat → Int32 → Prop) (L : Nat) (xs : Nat → Int32) (σ : St) (kk : Nat) (v5 : Int32) (v13 : Int32) (v14 : Int32) (v15 : Int64) (v17 : Int32) (s0 : Int32) : Prop := wX11_whirls σ v13 v14 (0 : Int32) (fun r58 σ57 => (if s0 = 0 then vp_in (0 : Int32) 32 ∧ wL_law_872 K80 L xs σ57 kk v5 v13 v14 v15 v17 s0 (σ57.1 19 (0 : Int32).toNatClampNeg) r58 else wL_law_872 K80 L xs σ57 kk v5 v13 v14 v15 v17 s0 (-103 : Int32) r58))
def wL_law_835 (K80 : St → Nat → Int32 → Prop) (L : Nat) (xs : Nat → Int32) (σ : St) (kk : Nat) (v5 : Int32) (v13 : Int32) (v14 : Int32) (v15 : Int64) (v17 : Int32) : Prop := vp_in (6 : Int32) 32 ∧ (if (σ.1 18 (6 : Int32).toNatClampNeg) = (1 : Int32) then wL_law_848 K80 L xs σ kk v5 v13 v14 v15 v17 (1 : Int32) else wL_law_848 K80 L xs σ kk v5 v13 v14 v15 v17 (0 : Int32))
def wL_law_829 (K80 : St → Nat → Int32 → Prop) (K722 : St → Nat → Int32 → Int32 → Int32 → Int64 → Int32 → Prop) (L : Nat) (xs : Nat → Int32) (σ : St) (kk : Nat) (v5 : Int32) (v13 : Int32) (v14 : Int32) (v15 : Int64) (s0 : Int32) (s1 : Int32) : Prop := K722 σ kk v5 v13 v14 v15 (s1 + s0)
def wL_law_810 (K80 : St → Nat → Int32 → Prop) (K722 : St → Nat → Int32 → Int32 → Int32 → Int64 → Int32 → Prop) (L : Nat) (xs : Nat → Int32) (σ : St) (kk : Nat) (v5 : Int32) (v13 : Int32) (v14 : Int32) (v15 : Int64) (v17 : Int32) (s0 : Int32) : Prop := wL_hour σ 19 s0 (fun r56 σ55 => (if (-1 : Int32) ≤ r56 then wL_law_829 K80 K722 L xs σ55 kk v5 v13 v14 v15 (1 : Int32) v17 else wL_law_829 K80 K722 L xs σ55 kk v5 v13 v14 v15 (0 : Int32) v17))
def wL_law_809 (K80 : St → Nat → Int32 → Prop) (K722 : St → Nat → Int32 → Int32 → Int32 → Int64 → Int32 → Prop) (L : Nat) (xs : Nat → Int32) (σ : St) (kk : Nat) (v5 : Int32) (v13 : Int32) (v14 : Int32) (v15 : Int64) (v17 : Int32) : Prop := wL_law_810 K80 K722 L xs σ kk v5 v13 v14 v15 v17 (0 : Int32)
def wL_law_780 (K80 : St → Nat → Int32 → Prop) (K722 : St → Nat → Int32 → Int32 → Int32 → Int64 → Int32 → Prop) (L : Nat) (xs : Nat → Int32) (σ : St) (kk : Nat) (v5 : Int32) (v13 : Int32) (v14 : Int32) (v15 : Int64) (v17 : Int32) (s0 : Int32) : Prop := vp_in (0 : Int32) 32 ∧ (if ((σ.1 19 (0 : Int32).toNatClampNeg) - s0) ≤ (9 : Int32) then wL_law_809 K80 K722 L xs σ kk v5 v13 v14 v15 v17 else vp_in (0 : Int32) 32 ∧ (if (41 : Int32) ≤ ((σ.1 19 (0 : Int32).toNatClampNeg) - s0) then wL_law_809 K80 K722 L xs σ kk v5 v13 v14 v15 v17 else wL_law_810 K80 K722 L xs σ kk v5 v13 v14 v15 v17 s0))
def wL_law_722 (K80 : St → Nat → Int32 → Prop) (L : Nat) (xs : Nat → Int32) : Nat → St → Nat → Int32 → Int32 → Int32 → Int64 → Int32 → Prop
  | 0, _, _, _, _, _, _, _ => False
  | n + 1, σ, kk, v5, v13, v14, v15, v17 => (if v13 ≤ v17 then wL_law_835 K80 L xs σ kk v5 v13 v14 v15 v17 else vp_in (6 : Int32) 32 ∧ (if (σ.1 19 (6 : Int32).toNatClampNeg) = 0 then (¬ (2147483648 : Int64) = 0) ∧ (¬ (65536 : Int64) = 0) ∧ (¬ (7 : Int64) = 0) ∧ (if (4 : Int32) ≤ ((((((1103515245 : Int64) * v15) + (12345 : Int64)) - (((1103515245 : Int64) * v15) + (12345 : Int64)) / (2147483648 : Int64) * (2147483648 : Int64)) / (65536 : Int64)) - (((((1103515245 : Int64) * v15) + (12345 : Int64)) - (((1103515245 : Int64) * v15) + (12345 : Int64)) / (2147483648 : Int64) * (2147483648 : Int64)) / (65536 : Int64)) / (7 : Int64) * (7 : Int64)).toInt32 then wL_law_780 K80 (wL_law_722 K80 L xs n) L xs σ kk v5 v13 v14 ((((1103515245 : Int64) * v15) + (12345 : Int64)) - (((1103515245 : Int64) * v15) + (12345 : Int64)) / (2147483648 : Int64) * (2147483648 : Int64)) v17 ((3 : Int32) - ((((((1103515245 : Int64) * v15) + (12345 : Int64)) - (((1103515245 : Int64) * v15) + (12345 : Int64)) / (2147483648 : Int64) * (2147483648 : Int64)) / (65536 : Int64)) - (((((1103515245 : Int64) * v15) + (12345 : Int64)) - (((1103515245 : Int64) * v15) + (12345 : Int64)) / (2147483648 : Int64) * (2147483648 : Int64)) / (65536 : Int64)) / (7 : Int64) * (7 : Int64)).toInt32) else wL_law_780 K80 (wL_law_722 K80 L xs n) L xs σ kk v5 v13 v14 ((((1103515245 : Int64) * v15) + (12345 : Int64)) - (((1103515245 : Int64) * v15) + (12345 : Int64)) / (2147483648 : Int64) * (2147483648 : Int64)) v17 ((((((1103515245 : Int64) * v15) + (12345 : Int64)) - (((1103515245 : Int64) * v15) + (12345 : Int64)) / (2147483648 : Int64) * (2147483648 : Int64)) / (65536 : Int64)) - (((((1103515245 : Int64) * v15) + (12345 : Int64)) - (((1103515245 : Int64) * v15) + (12345 : Int64)) / (2147483648 : Int64) * (2147483648 : Int64)) / (65536 : Int64)) / (7 : Int64) * (7 : Int64)).toInt32) else wL_law_835 K80 L xs σ kk v5 v13 v14 v15 v17))
def wL_law_698 (K80 : St → Nat → Int32 → Prop) (L : Nat) (xs : Nat → Int32) : Nat → St → Nat → Int32 → Int32 → Int32 → Int64 → Int32 → Prop
  | 0, _, _, _, _, _, _, _ => False
  | n + 1, σ, kk, v5, v13, v14, v15, v17 => (if (32 : Int32) ≤ v17 then ∃ n0, wL_law_722 K80 L xs n0 σ kk v5 v13 v14 v15 (0 : Int32) else vp_in v17 32 ∧ vp_in v17 32 ∧ wL_law_698 K80 L xs n (sV σ 19 v17.toNatClampNeg (σ.1 18 v17.toNatClampNeg)) kk v5 v13 v14 v15 (v17 + 1))
def wL_law_649 (K80 : St → Nat → Int32 → Prop) (L : Nat) (xs : Nat → Int32) (σ : St) (kk : Nat) (v5 : Int32) (v6 : Int32) (s0 : Int32) (s1 : Int32) : Prop := (if s1 = s0 then (¬ (6 : Int32) = 0) ∧ (if (v5 - v5 / (6 : Int32) * (6 : Int32)) = (2 : Int32) then (¬ (512 : Int32) = 0) ∧ (¬ (60 : Int32) = 0) ∧ (¬ (6 : Int32) = 0) ∧ (¬ ((52 : Int32) + (v5 / (6 : Int32))) < 0) ∧ ∃ n0, wL_law_698 K80 L xs n0 σ kk v5 ((1 : Int32) + ((v6 / (512 : Int32)) - (v6 / (512 : Int32)) / (60 : Int32) * (60 : Int32))) (cellV xs L ((52 : Int32) + (v5 / (6 : Int32)))) (cellV xs L ((52 : Int32) + (v5 / (6 : Int32)))).toInt64 (0 : Int32) else wL_law_953 K80 L xs σ kk v5) else ((0 : Int32) = 1))
def wL_law_620 (K80 : St → Nat → Int32 → Prop) (K564 : St → Nat → Int32 → Int32 → Int32 → Int32 → Int32 → Int32 → Int32 → Prop) (L : Nat) (xs : Nat → Int32) (σ : St) (kk : Nat) (v5 : Int32) (v6 : Int32) (v9 : Int32) (v10 : Int32) (v11 : Int32) (v13 : Int32) (s0 : Int32) : Prop := K564 σ kk v5 v6 v9 v10 v11 s0 (v13 + (-1))
def wL_law_613 (K80 : St → Nat → Int32 → Prop) (K564 : St → Nat → Int32 → Int32 → Int32 → Int32 → Int32 → Int32 → Int32 → Prop) (L : Nat) (xs : Nat → Int32) (σ : St) (kk : Nat) (v5 : Int32) (v6 : Int32) (v9 : Int32) (v10 : Int32) (v11 : Int32) (v13 : Int32) : Prop := wL_law_620 K80 K564 L xs σ kk v5 v6 v9 v10 v11 v13 v13
def wL_law_564 (K80 : St → Nat → Int32 → Prop) (L : Nat) (xs : Nat → Int32) : Nat → St → Nat → Int32 → Int32 → Int32 → Int32 → Int32 → Int32 → Int32 → Prop
  | 0, _, _, _, _, _, _, _, _, _ => False
  | n + 1, σ, kk, v5, v6, v9, v10, v11, v12, v13 => (if v13 < 0 then wX11_caught σ v9 (fun r54 σ53 => vp_in (6 : Int32) 32 ∧ (if (σ53.1 18 (6 : Int32).toNatClampNeg) = (1 : Int32) then wL_law_649 K80 L xs σ53 kk v5 v6 (-103 : Int32) r54 else wL_law_649 K80 L xs σ53 kk v5 v6 v12 r54)) else vp_in (4 : Int32) 32 ∧ (¬ (360 : Int32) = 0) ∧ (¬ (360 : Int32) = 0) ∧ (if ((((((σ.1 18 (4 : Int32).toNatClampNeg) + ((v13 * v10) * (10 : Int32))) - v11) - (((σ.1 18 (4 : Int32).toNatClampNeg) + ((v13 * v10) * (10 : Int32))) - v11) / (360 : Int32) * (360 : Int32)) + (360 : Int32)) - (((((σ.1 18 (4 : Int32).toNatClampNeg) + ((v13 * v10) * (10 : Int32))) - v11) - (((σ.1 18 (4 : Int32).toNatClampNeg) + ((v13 * v10) * (10 : Int32))) - v11) / (360 : Int32) * (360 : Int32)) + (360 : Int32)) / (360 : Int32) * (360 : Int32)) < (6 : Int32) then wL_law_613 K80 (wL_law_564 K80 L xs n) L xs σ kk v5 v6 v9 v10 v11 v13 else (if ((((((σ.1 18 (4 : Int32).toNatClampNeg) + ((v13 * v10) * (10 : Int32))) - v11) - (((σ.1 18 (4 : Int32).toNatClampNeg) + ((v13 * v10) * (10 : Int32))) - v11) / (360 : Int32) * (360 : Int32)) + (360 : Int32)) - (((((σ.1 18 (4 : Int32).toNatClampNeg) + ((v13 * v10) * (10 : Int32))) - v11) - (((σ.1 18 (4 : Int32).toNatClampNeg) + ((v13 * v10) * (10 : Int32))) - v11) / (360 : Int32) * (360 : Int32)) + (360 : Int32)) / (360 : Int32) * (360 : Int32)) ≤ (354 : Int32) then wL_law_620 K80 (wL_law_564 K80 L xs n) L xs σ kk v5 v6 v9 v10 v11 v13 v12 else wL_law_613 K80 (wL_law_564 K80 L xs n) L xs σ kk v5 v6 v9 v10 v11 v13)))
def wL_law_496 (K80 : St → Nat → Int32 → Prop) (K429 : St → Nat → Int32 → Int32 → Int32 → Prop) (K441 : St → Nat → Int32 → Int32 → Int32 → Int32 → Prop) (L : Nat) (xs : Nat → Int32) (σ : St) (kk : Nat) (v5 : Int32) (v6 : Int32) (v9 : Int32) (v10 : Int32) (s0 : Int32) (s1 : Int32) : Prop := (if s1 = s0 then K441 σ kk v5 v6 v9 (v10 + 1) else ((0 : Int32) = 1))
def wL_law_495 (K80 : St → Nat → Int32 → Prop) (K429 : St → Nat → Int32 → Int32 → Int32 → Prop) (K441 : St → Nat → Int32 → Int32 → Int32 → Int32 → Prop) (L : Nat) (xs : Nat → Int32) (σ : St) (kk : Nat) (v5 : Int32) (v6 : Int32) (v9 : Int32) (v10 : Int32) (s0 : Int32) : Prop := wL_law_496 K80 K429 K441 L xs σ kk v5 v6 v9 v10 (-1 : Int32) s0
def wL_law_490 (K80 : St → Nat → Int32 → Prop) (K429 : St → Nat → Int32 → Int32 → Int32 → Prop) (K441 : St → Nat → Int32 → Int32 → Int32 → Int32 → Prop) (L : Nat) (xs : Nat → Int32) (σ : St) (kk : Nat) (v5 : Int32) (v6 : Int32) (v9 : Int32) (v10 : Int32) (s0 : Int32) : Prop := wL_law_496 K80 K429 K441 L xs σ kk v5 v6 v9 v10 v9 s0
def wL_law_441 (K80 : St → Nat → Int32 → Prop) (K429 : St → Nat → Int32 → Int32 → Int32 → Prop) (L : Nat) (xs : Nat → Int32) : Nat → St → Nat → Int32 → Int32 → Int32 → Int32 → Prop
  | 0, _, _, _, _, _, _ => False
  | n + 1, σ, kk, v5, v6, v9, v10 => (if (5 : Int32) ≤ v10 then K429 σ kk v5 v6 (v9 + 1) else vp_in ((8 : Int32) + ((4 : Int32) * v9)) 32 ∧ wX11_as σ v9 v10 (fun r52 σ51 => (if v10 = 0 then wL_law_490 K80 K429 (wL_law_441 K80 K429 L xs n) L xs σ51 kk v5 v6 v9 v10 r52 else (if v10 = (σ.1 18 ((8 : Int32) + ((4 : Int32) * v9)).toNatClampNeg) then wL_law_490 K80 K429 (wL_law_441 K80 K429 L xs n) L xs σ51 kk v5 v6 v9 v10 r52 else (if v10 = (3 : Int32) then (if (σ.1 18 ((8 : Int32) + ((4 : Int32) * v9)).toNatClampNeg) = (4 : Int32) then wL_law_490 K80 K429 (wL_law_441 K80 K429 L xs n) L xs σ51 kk v5 v6 v9 v10 r52 else wL_law_495 K80 K429 (wL_law_441 K80 K429 L xs n) L xs σ51 kk v5 v6 v9 v10 r52) else wL_law_495 K80 K429 (wL_law_441 K80 K429 L xs n) L xs σ51 kk v5 v6 v9 v10 r52)))))
def wL_law_429 (K80 : St → Nat → Int32 → Prop) (L : Nat) (xs : Nat → Int32) : Nat → St → Nat → Int32 → Int32 → Int32 → Prop
  | 0, _, _, _, _, _ => False
  | n + 1, σ, kk, v5, v6, v9 => vp_in (7 : Int32) 32 ∧ (if (σ.1 18 (7 : Int32).toNatClampNeg) ≤ v9 then (¬ (4096 : Int32) = 0) ∧ (¬ (99 : Int32) = 0) ∧ vp_in (0 : Int32) 32 ∧ wL_turns σ 18 (σ.1 18 (0 : Int32).toNatClampNeg) (fun r50 σ49 => (¬ (360 : Int32) = 0) ∧ (¬ (360 : Int32) = 0) ∧ ∃ n0, wL_law_564 K80 L xs n0 σ49 kk v5 v6 ((1 : Int32) + ((v6 / (4096 : Int32)) - (v6 / (4096 : Int32)) / (99 : Int32) * (99 : Int32))) r50 (((((90 : Int32) - (((1 : Int32) + ((v6 / (4096 : Int32)) - (v6 / (4096 : Int32)) / (99 : Int32) * (99 : Int32))) * r50)) - ((90 : Int32) - (((1 : Int32) + ((v6 / (4096 : Int32)) - (v6 / (4096 : Int32)) / (99 : Int32) * (99 : Int32))) * r50)) / (360 : Int32) * (360 : Int32)) + (360 : Int32)) - ((((90 : Int32) - (((1 : Int32) + ((v6 / (4096 : Int32)) - (v6 / (4096 : Int32)) / (99 : Int32) * (99 : Int32))) * r50)) - ((90 : Int32) - (((1 : Int32) + ((v6 / (4096 : Int32)) - (v6 / (4096 : Int32)) / (99 : Int32) * (99 : Int32))) * r50)) / (360 : Int32) * (360 : Int32)) + (360 : Int32)) / (360 : Int32) * (360 : Int32)) (-1 : Int32) (98 : Int32)) else ∃ n0, wL_law_441 K80 (wL_law_429 K80 L xs n) L xs n0 σ kk v5 v6 v9 (0 : Int32))
def wL_law_416 (K80 : St → Nat → Int32 → Prop) (L : Nat) (xs : Nat → Int32) (σ : St) (kk : Nat) (v5 : Int32) (v6 : Int32) : Prop := wL_told σ 18 (fun r48 σ47 => (if r48 = 0 then ((0 : Int32) = 1) else ∃ n0, wL_law_429 K80 L xs n0 σ47 kk v5 v6 (0 : Int32)))
def wL_law_386 (K80 : St → Nat → Int32 → Prop) (L : Nat) (xs : Nat → Int32) (σ : St) (kk : Nat) (v5 : Int32) (v6 : Int32) (v7 : Int32) : Prop := vp_in (6 : Int32) 32 ∧ (if (σ.1 18 (6 : Int32).toNatClampNeg) = (1 : Int32) then (if v7 = (15 : Int32) then (¬ (16 : Int32) = 0) ∧ wL_wire σ (v6 / (16 : Int32)) 18 (fun r46 σ45 => (if r46 = 0 then ((0 : Int32) = 1) else wL_law_416 K80 L xs σ45 kk v5 v6)) else wL_law_416 K80 L xs σ kk v5 v6) else wL_law_416 K80 L xs σ kk v5 v6)
def wL_law_355 (K80 : St → Nat → Int32 → Prop) (L : Nat) (xs : Nat → Int32) (σ : St) (kk : Nat) (v5 : Int32) (v6 : Int32) (v7 : Int32) : Prop := (if v7 = (14 : Int32) then vp_in (7 : Int32) 32 ∧ (if (6 : Int32) ≤ (σ.1 18 (7 : Int32).toNatClampNeg) then wL_law_386 K80 L xs σ kk v5 v6 v7 else (¬ (16 : Int32) = 0) ∧ (kk < 600) ∧ wL_thing σ (v6 / (16 : Int32)) 18 (fun r44 σ43 => (if r44 = 0 then ((0 : Int32) = 1) else wL_law_416 K80 L xs σ43 (kk + 1) v5 v6))) else wL_law_386 K80 L xs σ kk v5 v6 v7)
def wL_law_347 (K80 : St → Nat → Int32 → Prop) (L : Nat) (xs : Nat → Int32) (σ : St) (kk : Nat) (v5 : Int32) (v6 : Int32) (s0 : Int32) (s1 : Int32) : Prop := (if s1 = s0 then wL_law_416 K80 L xs σ kk v5 v6 else ((0 : Int32) = 1))
def wL_law_321 (K80 : St → Nat → Int32 → Prop) (L : Nat) (xs : Nat → Int32) (σ : St) (kk : Nat) (v5 : Int32) (v6 : Int32) (v8 : Int32) (v9 : Int32) (s0 : Int32) (s1 : Int32) : Prop := vp_in s1 32 ∧ wX11_carry (sV σ 18 s1.toNatClampNeg s0) v8 (fun r42 σ41 => (if v9 = 0 then wL_law_347 K80 L xs σ41 kk v5 v6 (-103 : Int32) r42 else vp_in ((10 : Int32) + ((4 : Int32) * v8)) 32 ∧ wL_law_347 K80 L xs σ41 kk v5 v6 (σ41.1 18 ((10 : Int32) + ((4 : Int32) * v8)).toNatClampNeg) r42))
def wL_law_283 (K80 : St → Nat → Int32 → Prop) (L : Nat) (xs : Nat → Int32) (σ : St) (kk : Nat) (v5 : Int32) (v6 : Int32) (v8 : Int32) (s0 : Int32) : Prop := (if s0 = 0 then vp_in ((10 : Int32) + ((4 : Int32) * v8)) 32 ∧ wL_law_321 K80 L xs σ kk v5 v6 v8 s0 (σ.1 18 ((10 : Int32) + ((4 : Int32) * v8)).toNatClampNeg) ((10 : Int32) + ((4 : Int32) * v8)) else vp_in ((10 : Int32) + ((4 : Int32) * v8)) 32 ∧ wL_law_321 K80 L xs σ kk v5 v6 v8 s0 ((1 : Int32) - (σ.1 18 ((10 : Int32) + ((4 : Int32) * v8)).toNatClampNeg)) ((10 : Int32) + ((4 : Int32) * v8)))
def wL_law_282 (K80 : St → Nat → Int32 → Prop) (L : Nat) (xs : Nat → Int32) (σ : St) (kk : Nat) (v5 : Int32) (v6 : Int32) (v8 : Int32) : Prop := wL_law_283 K80 L xs σ kk v5 v6 v8 (0 : Int32)
def wL_law_278 (K80 : St → Nat → Int32 → Prop) (L : Nat) (xs : Nat → Int32) (σ : St) (kk : Nat) (v5 : Int32) (v6 : Int32) (v8 : Int32) : Prop := wL_law_283 K80 L xs σ kk v5 v6 v8 (1 : Int32)
def wL_law_225 (K80 : St → Nat → Int32 → Prop) (L : Nat) (xs : Nat → Int32) (σ : St) (kk : Nat) (v5 : Int32) (v6 : Int32) (s0 : Int32) (s1 : Int32) : Prop := (if s1 = s0 then wL_law_416 K80 L xs σ kk v5 v6 else ((0 : Int32) = 1))
def wL_law_201 (K80 : St → Nat → Int32 → Prop) (L : Nat) (xs : Nat → Int32) (σ : St) (kk : Nat) (v5 : Int32) (v6 : Int32) (v9 : Int32) (s0 : Int32) : Prop := wX11_hour σ v9 (fun r38 σ37 => (if s0 = 0 then wL_law_225 K80 L xs σ37 kk v5 v6 (-103 : Int32) r38 else wL_hour σ37 18 v9 (fun r40 σ39 => wL_law_225 K80 L xs σ39 kk v5 v6 r40 r38)))
def wL_law_200 (K80 : St → Nat → Int32 → Prop) (L : Nat) (xs : Nat → Int32) (σ : St) (kk : Nat) (v5 : Int32) (v6 : Int32) (v9 : Int32) : Prop := wL_law_201 K80 L xs σ kk v5 v6 v9 (0 : Int32)
def wL_law_165 (K80 : St → Nat → Int32 → Prop) (L : Nat) (xs : Nat → Int32) (σ : St) (kk : Nat) (v5 : Int32) (v6 : Int32) (s0 : Int32) : Prop := vp_in (6 : Int32) 32 ∧ (if (σ.1 18 (6 : Int32).toNatClampNeg) = 0 then vp_in (0 : Int32) 32 ∧ (if ((σ.1 18 (0 : Int32).toNatClampNeg) - s0) ≤ (9 : Int32) then wL_law_200 K80 L xs σ kk v5 v6 s0 else vp_in (0 : Int32) 32 ∧ (if (41 : Int32) ≤ ((σ.1 18 (0 : Int32).toNatClampNeg) - s0) then wL_law_200 K80 L xs σ kk v5 v6 s0 else wL_law_201 K80 L xs σ kk v5 v6 s0 (1 : Int32))) else wL_law_200 K80 L xs σ kk v5 v6 s0)
def wL_law_126 (K80 : St → Nat → Int32 → Prop) (L : Nat) (xs : Nat → Int32) (σ : St) (kk : Nat) (v5 : Int32) (v6 : Int32) (v7 : Int32) (s0 : Int32) : Prop := (if (9 : Int32) ≤ v7 then (if (14 : Int32) ≤ v7 then wL_law_355 K80 L xs σ kk v5 v6 v7 else vp_in (7 : Int32) 32 ∧ (if (σ.1 18 (7 : Int32).toNatClampNeg) ≤ 0 then wL_law_355 K80 L xs σ kk v5 v6 v7 else vp_in (6 : Int32) 32 ∧ (if (σ.1 18 (6 : Int32).toNatClampNeg) = 0 then vp_in ((8 : Int32) + ((4 : Int32) * s0)) 32 ∧ (if (σ.1 18 ((8 : Int32) + ((4 : Int32) * s0)).toNatClampNeg) = (2 : Int32) then vp_in (0 : Int32) 32 ∧ wL_turns σ 18 (σ.1 18 (0 : Int32).toNatClampNeg) (fun r36 σ35 => (if (3 : Int32) ≤ r36 then wL_law_282 K80 L xs σ35 kk v5 v6 s0 else wL_law_278 K80 L xs σ35 kk v5 v6 s0)) else wL_law_278 K80 L xs σ kk v5 v6 s0) else wL_law_282 K80 L xs σ kk v5 v6 s0))) else (¬ (128 : Int32) = 0) ∧ (¬ (7 : Int32) = 0) ∧ (¬ (1024 : Int32) = 0) ∧ (¬ (3 : Int32) = 0) ∧ (if ((v6 / (1024 : Int32)) - (v6 / (1024 : Int32)) / (3 : Int32) * (3 : Int32)) = 0 then wL_law_165 K80 L xs σ kk v5 v6 (0 : Int32) else wL_law_165 K80 L xs σ kk v5 v6 (((v6 / (128 : Int32)) - (v6 / (128 : Int32)) / (7 : Int32) * (7 : Int32)) - (3 : Int32))))
def wL_law_80 (L : Nat) (xs : Nat → Int32) : Nat → St → Nat → Int32 → Prop
  | 0, _, _, _ => False
  | n + 1, σ, kk, v5 => (if (44 : Int32) ≤ v5 then wX11_cabin σ (2 : Int32) (0 : Int32) (fun r6 σ5 => (if r6 = (-101 : Int32) then wX11_cabin σ5 (0 : Int32) (4 : Int32) (fun r8 σ7 => (if r8 = (-102 : Int32) then vp_in (7 : Int32) 32 ∧ wX11_about σ7 (σ7.1 18 (7 : Int32).toNatClampNeg) (0 : Int32) (fun r10 σ9 => (if r10 = (-101 : Int32) then vp_in (7 : Int32) 32 ∧ wX11_as σ9 (σ9.1 18 (7 : Int32).toNatClampNeg) (0 : Int32) (fun r12 σ11 => (if r12 = (-101 : Int32) then wX11_carry σ11 (6 : Int32) (fun r14 σ13 => (if r14 = (-101 : Int32) then wX11_hour σ13 (4 : Int32) (fun r16 σ15 => (if r16 = (-102 : Int32) then wX11_hour σ15 (-4 : Int32) (fun r18 σ17 => (if r18 = (-102 : Int32) then wX11_caught σ17 (0 : Int32) (fun r20 σ19 => (if r20 = (-102 : Int32) then wX11_caught σ19 (100 : Int32) (fun r22 σ21 => (if r22 = (-102 : Int32) then wX11_whirls σ21 (0 : Int32) (1 : Int32) (0 : Int32) (fun r24 σ23 => (if r24 = (-102 : Int32) then wX11_whirls σ23 (61 : Int32) (1 : Int32) (0 : Int32) (fun r26 σ25 => (if r26 = (-102 : Int32) then wX11_whirls σ25 (1 : Int32) (-1 : Int32) (0 : Int32) (fun r28 σ27 => (if r28 = (-102 : Int32) then wX11_whirls σ27 (1 : Int32) (1 : Int32) (4 : Int32) (fun r30 σ29 => (if r30 = (-102 : Int32) then vp_in (7 : Int32) 32 ∧ (if (σ29.1 18 (7 : Int32).toNatClampNeg) = 0 then ((1 : Int32) = 1) else wX11_about σ29 (0 : Int32) (5 : Int32) (fun r32 σ31 => (if r32 = (-102 : Int32) then wX11_as σ31 (0 : Int32) (5 : Int32) (fun r34 σ33 => (if r34 = (-102 : Int32) then ((1 : Int32) = 1) else ((0 : Int32) = 1))) else ((0 : Int32) = 1)))) else ((0 : Int32) = 1))) else ((0 : Int32) = 1))) else ((0 : Int32) = 1))) else ((0 : Int32) = 1))) else ((0 : Int32) = 1))) else ((0 : Int32) = 1))) else ((0 : Int32) = 1))) else ((0 : Int32) = 1))) else ((0 : Int32) = 1))) else ((0 : Int32) = 1))) else ((0 : Int32) = 1))) else ((0 : Int32) = 1))) else ((0 : Int32) = 1))) else (¬ ((8 : Int32) + v5) < 0) ∧ (¬ (16 : Int32) = 0) ∧ vp_in (7 : Int32) 32 ∧ (if (σ.1 18 (7 : Int32).toNatClampNeg) = 0 then wL_law_126 (wL_law_80 L xs n) L xs σ kk v5 (cellV xs L ((8 : Int32) + v5)) ((cellV xs L ((8 : Int32) + v5)) - (cellV xs L ((8 : Int32) + v5)) / (16 : Int32) * (16 : Int32)) (0 : Int32) else (¬ (16 : Int32) = 0) ∧ vp_in (7 : Int32) 32 ∧ (¬ (σ.1 18 (7 : Int32).toNatClampNeg) = 0) ∧ wL_law_126 (wL_law_80 L xs n) L xs σ kk v5 (cellV xs L ((8 : Int32) + v5)) ((cellV xs L ((8 : Int32) + v5)) - (cellV xs L ((8 : Int32) + v5)) / (16 : Int32) * (16 : Int32)) (((cellV xs L ((8 : Int32) + v5)) / (16 : Int32)) - ((cellV xs L ((8 : Int32) + v5)) / (16 : Int32)) / (σ.1 18 (7 : Int32).toNatClampNeg) * (σ.1 18 (7 : Int32).toNatClampNeg))))
def wL_law_46 (L : Nat) (xs : Nat → Int32) : Nat → St → Nat → Int32 → Int32 → Prop
  | 0, _, _, _, _ => False
  | n + 1, σ, kk, v4, v5 => (if v4 ≤ v5 then ∃ n0, wL_law_80 L xs n0 σ kk (0 : Int32) else (¬ ((2 : Int32) + v5) < 0) ∧ (kk < 600) ∧ wL_thing σ (cellV xs L ((2 : Int32) + v5)) 18 (fun r4 σ3 => (if r4 = 0 then ((0 : Int32) = 1) else wL_law_46 L xs n σ3 (kk + 1) v4 (v5 + 1))))
def wL_law (L : Nat) (xs : Nat → Int32) (σ : St) (kk : Nat) : Prop := (¬ (0 : Int32) < 0) ∧ wL_wire σ (cellV xs L (0 : Int32)) 18 (fun r2 σ1 => (if r2 = 0 then ((0 : Int32) = 1) else (¬ (1 : Int32) < 0) ∧ (¬ (6 : Int32) = 0) ∧ ∃ n0, wL_law_46 L xs n0 σ1 kk ((cellV xs L (1 : Int32)) - (cellV xs L (1 : Int32)) / (6 : Int32) * (6 : Int32)) (0 : Int32)))
end
section
theorem hs_X7_at : yX7_at.cls ≠ "java/lang/invoke/MethodHandle" ∧ yX7_at.cls ≠ "java/lang/invoke/VarHandle" ∧ (parseMethodDescriptor yX7_at.desc).map (fun d => d.parameters.length) = some 1 := by decide +kernel
theorem hs_X7_digitAt : yX7_digitAt.cls ≠ "java/lang/invoke/MethodHandle" ∧ yX7_digitAt.cls ≠ "java/lang/invoke/VarHandle" ∧ (parseMethodDescriptor yX7_digitAt.desc).map (fun d => d.parameters.length) = some 1 := by decide +kernel
theorem hs_X0_hang : yX0_hang.cls ≠ "java/lang/invoke/MethodHandle" ∧ yX0_hang.cls ≠ "java/lang/invoke/VarHandle" ∧ (parseMethodDescriptor yX0_hang.desc).map (fun d => d.parameters.length) = some 1 := by decide +kernel
theorem hs_X0_becomeLike : yX0_becomeLike.cls ≠ "java/lang/invoke/MethodHandle" ∧ yX0_becomeLike.cls ≠ "java/lang/invoke/VarHandle" ∧ (parseMethodDescriptor yX0_becomeLike.desc).map (fun d => d.parameters.length) = some 1 := by decide +kernel
theorem hs_X0_isThere : yX0_isThere.cls ≠ "java/lang/invoke/MethodHandle" ∧ yX0_isThere.cls ≠ "java/lang/invoke/VarHandle" ∧ (parseMethodDescriptor yX0_isThere.desc).map (fun d => d.parameters.length) = some 0 := by decide +kernel
theorem hs_X0_isWhole : yX0_isWhole.cls ≠ "java/lang/invoke/MethodHandle" ∧ yX0_isWhole.cls ≠ "java/lang/invoke/VarHandle" ∧ (parseMethodDescriptor yX0_isWhole.desc).map (fun d => d.parameters.length) = some 0 := by decide +kernel
theorem hs_X0_turnsAt : yX0_turnsAt.cls ≠ "java/lang/invoke/MethodHandle" ∧ yX0_turnsAt.cls ≠ "java/lang/invoke/VarHandle" ∧ (parseMethodDescriptor yX0_turnsAt.desc).map (fun d => d.parameters.length) = some 1 := by decide +kernel
theorem hs_X0_turnsNow : yX0_turnsNow.cls ≠ "java/lang/invoke/MethodHandle" ∧ yX0_turnsNow.cls ≠ "java/lang/invoke/VarHandle" ∧ (parseMethodDescriptor yX0_turnsNow.desc).map (fun d => d.parameters.length) = some 0 := by decide +kernel
theorem hs_X0_armAt : yX0_armAt.cls ≠ "java/lang/invoke/MethodHandle" ∧ yX0_armAt.cls ≠ "java/lang/invoke/VarHandle" ∧ (parseMethodDescriptor yX0_armAt.desc).map (fun d => d.parameters.length) = some 4 := by decide +kernel
theorem hs_X0_floorAt : yX0_floorAt.cls ≠ "java/lang/invoke/MethodHandle" ∧ yX0_floorAt.cls ≠ "java/lang/invoke/VarHandle" ∧ (parseMethodDescriptor yX0_floorAt.desc).map (fun d => d.parameters.length) = some 4 := by decide +kernel
theorem hs_X0_strainBy : yX0_strainBy.cls ≠ "java/lang/invoke/MethodHandle" ∧ yX0_strainBy.cls ≠ "java/lang/invoke/VarHandle" ∧ (parseMethodDescriptor yX0_strainBy.desc).map (fun d => d.parameters.length) = some 2 := by decide +kernel
theorem hs_X1_weighs : yX1_weighs.cls ≠ "java/lang/invoke/MethodHandle" ∧ yX1_weighs.cls ≠ "java/lang/invoke/VarHandle" ∧ (parseMethodDescriptor yX1_weighs.desc).map (fun d => d.parameters.length) = some 1 := by decide +kernel
theorem hs_X4_weighs : yX4_weighs.cls ≠ "java/lang/invoke/MethodHandle" ∧ yX4_weighs.cls ≠ "java/lang/invoke/VarHandle" ∧ (parseMethodDescriptor yX4_weighs.desc).map (fun d => d.parameters.length) = some 1 := by decide +kernel
theorem hs_X5_weighs : yX5_weighs.cls ≠ "java/lang/invoke/MethodHandle" ∧ yX5_weighs.cls ≠ "java/lang/invoke/VarHandle" ∧ (parseMethodDescriptor yX5_weighs.desc).map (fun d => d.parameters.length) = some 1 := by decide +kernel
theorem hs_X6_at : yX6_at.cls ≠ "java/lang/invoke/MethodHandle" ∧ yX6_at.cls ≠ "java/lang/invoke/VarHandle" ∧ (parseMethodDescriptor yX6_at.desc).map (fun d => d.parameters.length) = some 1 := by decide +kernel
theorem hs_X9_weighs : yX9_weighs.cls ≠ "java/lang/invoke/MethodHandle" ∧ yX9_weighs.cls ≠ "java/lang/invoke/VarHandle" ∧ (parseMethodDescriptor yX9_weighs.desc).map (fun d => d.parameters.length) = some 1 := by decide +kernel
theorem hs_X6_weighsIn : yX6_weighsIn.cls ≠ "java/lang/invoke/MethodHandle" ∧ yX6_weighsIn.cls ≠ "java/lang/invoke/VarHandle" ∧ (parseMethodDescriptor yX6_weighsIn.desc).map (fun d => d.parameters.length) = some 2 := by decide +kernel
theorem hs_X0_armNow : yX0_armNow.cls ≠ "java/lang/invoke/MethodHandle" ∧ yX0_armNow.cls ≠ "java/lang/invoke/VarHandle" ∧ (parseMethodDescriptor yX0_armNow.desc).map (fun d => d.parameters.length) = some 2 := by decide +kernel
theorem hs_X0_floorNow : yX0_floorNow.cls ≠ "java/lang/invoke/MethodHandle" ∧ yX0_floorNow.cls ≠ "java/lang/invoke/VarHandle" ∧ (parseMethodDescriptor yX0_floorNow.desc).map (fun d => d.parameters.length) = some 2 := by decide +kernel
theorem hs_X0_strainNow : yX0_strainNow.cls ≠ "java/lang/invoke/MethodHandle" ∧ yX0_strainNow.cls ≠ "java/lang/invoke/VarHandle" ∧ (parseMethodDescriptor yX0_strainNow.desc).map (fun d => d.parameters.length) = some 1 := by decide +kernel
theorem hs_J9_floorMod_7cf53 : yJ9_floorMod_7cf53.cls ≠ "java/lang/invoke/MethodHandle" ∧ yJ9_floorMod_7cf53.cls ≠ "java/lang/invoke/VarHandle" ∧ (parseMethodDescriptor yJ9_floorMod_7cf53.desc).map (fun d => d.parameters.length) = some 2 := by decide +kernel
theorem hs_X0_placeAfter : yX0_placeAfter.cls ≠ "java/lang/invoke/MethodHandle" ∧ yX0_placeAfter.cls ≠ "java/lang/invoke/VarHandle" ∧ (parseMethodDescriptor yX0_placeAfter.desc).map (fun d => d.parameters.length) = some 1 := by decide +kernel
theorem hs_X0_goHour : yX0_goHour.cls ≠ "java/lang/invoke/MethodHandle" ∧ yX0_goHour.cls ≠ "java/lang/invoke/VarHandle" ∧ (parseMethodDescriptor yX0_goHour.desc).map (fun d => d.parameters.length) = some 2 := by decide +kernel
theorem hs_X9_init : yX9_init.cls ≠ "java/lang/invoke/MethodHandle" ∧ yX9_init.cls ≠ "java/lang/invoke/VarHandle" ∧ (parseMethodDescriptor yX9_init.desc).map (fun d => d.parameters.length) = some 3 := by decide +kernel
theorem hs_X1_init : yX1_init.cls ≠ "java/lang/invoke/MethodHandle" ∧ yX1_init.cls ≠ "java/lang/invoke/VarHandle" ∧ (parseMethodDescriptor yX1_init.desc).map (fun d => d.parameters.length) = some 3 := by decide +kernel
theorem hs_X1_kind : yX1_kind.cls ≠ "java/lang/invoke/MethodHandle" ∧ yX1_kind.cls ≠ "java/lang/invoke/VarHandle" ∧ (parseMethodDescriptor yX1_kind.desc).map (fun d => d.parameters.length) = some 0 := by decide +kernel
theorem hs_X3_init : yX3_init.cls ≠ "java/lang/invoke/MethodHandle" ∧ yX3_init.cls ≠ "java/lang/invoke/VarHandle" ∧ (parseMethodDescriptor yX3_init.desc).map (fun d => d.parameters.length) = some 3 := by decide +kernel
theorem hs_X3_kind : yX3_kind.cls ≠ "java/lang/invoke/MethodHandle" ∧ yX3_kind.cls ≠ "java/lang/invoke/VarHandle" ∧ (parseMethodDescriptor yX3_kind.desc).map (fun d => d.parameters.length) = some 0 := by decide +kernel
theorem hs_X3_goesAcross : yX3_goesAcross.cls ≠ "java/lang/invoke/MethodHandle" ∧ yX3_goesAcross.cls ≠ "java/lang/invoke/VarHandle" ∧ (parseMethodDescriptor yX3_goesAcross.desc).map (fun d => d.parameters.length) = some 1 := by decide +kernel
theorem hs_X5_init : yX5_init.cls ≠ "java/lang/invoke/MethodHandle" ∧ yX5_init.cls ≠ "java/lang/invoke/VarHandle" ∧ (parseMethodDescriptor yX5_init.desc).map (fun d => d.parameters.length) = some 3 := by decide +kernel
theorem hs_X4_init : yX4_init.cls ≠ "java/lang/invoke/MethodHandle" ∧ yX4_init.cls ≠ "java/lang/invoke/VarHandle" ∧ (parseMethodDescriptor yX4_init.desc).map (fun d => d.parameters.length) = some 3 := by decide +kernel
theorem hs_X4_kind : yX4_kind.cls ≠ "java/lang/invoke/MethodHandle" ∧ yX4_kind.cls ≠ "java/lang/invoke/VarHandle" ∧ (parseMethodDescriptor yX4_kind.desc).map (fun d => d.parameters.length) = some 0 := by decide +kernel
theorem hs_X5_kind : yX5_kind.cls ≠ "java/lang/invoke/MethodHandle" ∧ yX5_kind.cls ≠ "java/lang/invoke/VarHandle" ∧ (parseMethodDescriptor yX5_kind.desc).map (fun d => d.parameters.length) = some 0 := by decide +kernel
theorem hs_X6_isFull : yX6_isFull.cls ≠ "java/lang/invoke/MethodHandle" ∧ yX6_isFull.cls ≠ "java/lang/invoke/VarHandle" ∧ (parseMethodDescriptor yX6_isFull.desc).map (fun d => d.parameters.length) = some 0 := by decide +kernel
theorem hs_X6_put : yX6_put.cls ≠ "java/lang/invoke/MethodHandle" ∧ yX6_put.cls ≠ "java/lang/invoke/VarHandle" ∧ (parseMethodDescriptor yX6_put.desc).map (fun d => d.parameters.length) = some 1 := by decide +kernel
theorem hs_J9_min_7cf53 : yJ9_min_7cf53.cls ≠ "java/lang/invoke/MethodHandle" ∧ yJ9_min_7cf53.cls ≠ "java/lang/invoke/VarHandle" ∧ (parseMethodDescriptor yJ9_min_7cf53.desc).map (fun d => d.parameters.length) = some 2 := by decide +kernel
theorem hs_X6_cutTo : yX6_cutTo.cls ≠ "java/lang/invoke/MethodHandle" ∧ yX6_cutTo.cls ≠ "java/lang/invoke/VarHandle" ∧ (parseMethodDescriptor yX6_cutTo.desc).map (fun d => d.parameters.length) = some 1 := by decide +kernel
theorem hs_X6_sizeIn : yX6_sizeIn.cls ≠ "java/lang/invoke/MethodHandle" ∧ yX6_sizeIn.cls ≠ "java/lang/invoke/VarHandle" ∧ (parseMethodDescriptor yX6_sizeIn.desc).map (fun d => d.parameters.length) = some 1 := by decide +kernel
theorem hs_X7_hasRoomFor : yX7_hasRoomFor.cls ≠ "java/lang/invoke/MethodHandle" ∧ yX7_hasRoomFor.cls ≠ "java/lang/invoke/VarHandle" ∧ (parseMethodDescriptor yX7_hasRoomFor.desc).map (fun d => d.parameters.length) = some 1 := by decide +kernel
theorem hs_X7_put : yX7_put.cls ≠ "java/lang/invoke/MethodHandle" ∧ yX7_put.cls ≠ "java/lang/invoke/VarHandle" ∧ (parseMethodDescriptor yX7_put.desc).map (fun d => d.parameters.length) = some 1 := by decide +kernel
theorem hs_X7_emptied : yX7_emptied.cls ≠ "java/lang/invoke/MethodHandle" ∧ yX7_emptied.cls ≠ "java/lang/invoke/VarHandle" ∧ (parseMethodDescriptor yX7_emptied.desc).map (fun d => d.parameters.length) = some 0 := by decide +kernel
theorem hs_X7_isBetween : yX7_isBetween.cls ≠ "java/lang/invoke/MethodHandle" ∧ yX7_isBetween.cls ≠ "java/lang/invoke/VarHandle" ∧ (parseMethodDescriptor yX7_isBetween.desc).map (fun d => d.parameters.length) = some 3 := by decide +kernel
theorem hs_X7_isWireLetter : yX7_isWireLetter.cls ≠ "java/lang/invoke/MethodHandle" ∧ yX7_isWireLetter.cls ≠ "java/lang/invoke/VarHandle" ∧ (parseMethodDescriptor yX7_isWireLetter.desc).map (fun d => d.parameters.length) = some 1 := by decide +kernel
theorem hs_X7_firstWrong : yX7_firstWrong.cls ≠ "java/lang/invoke/MethodHandle" ∧ yX7_firstWrong.cls ≠ "java/lang/invoke/VarHandle" ∧ (parseMethodDescriptor yX7_firstWrong.desc).map (fun d => d.parameters.length) = some 0 := by decide +kernel
theorem hs_X7_isWire : yX7_isWire.cls ≠ "java/lang/invoke/MethodHandle" ∧ yX7_isWire.cls ≠ "java/lang/invoke/VarHandle" ∧ (parseMethodDescriptor yX7_isWire.desc).map (fun d => d.parameters.length) = some 0 := by decide +kernel
theorem hs_X9_kind : yX9_kind.cls ≠ "java/lang/invoke/MethodHandle" ∧ yX9_kind.cls ≠ "java/lang/invoke/VarHandle" ∧ (parseMethodDescriptor yX9_kind.desc).map (fun d => d.parameters.length) = some 0 := by decide +kernel
theorem hs_X9_goesAcross : yX9_goesAcross.cls ≠ "java/lang/invoke/MethodHandle" ∧ yX9_goesAcross.cls ≠ "java/lang/invoke/VarHandle" ∧ (parseMethodDescriptor yX9_goesAcross.desc).map (fun d => d.parameters.length) = some 1 := by decide +kernel
theorem hs_X9_hoursHere : yX9_hoursHere.cls ≠ "java/lang/invoke/MethodHandle" ∧ yX9_hoursHere.cls ≠ "java/lang/invoke/VarHandle" ∧ (parseMethodDescriptor yX9_hoursHere.desc).map (fun d => d.parameters.length) = some 1 := by decide +kernel
theorem hs_X10_emptied : yX10_emptied.cls ≠ "java/lang/invoke/MethodHandle" ∧ yX10_emptied.cls ≠ "java/lang/invoke/VarHandle" ∧ (parseMethodDescriptor yX10_emptied.desc).map (fun d => d.parameters.length) = some 0 := by decide +kernel
theorem hs_X11_byteOf : yX11_byteOf.cls ≠ "java/lang/invoke/MethodHandle" ∧ yX11_byteOf.cls ≠ "java/lang/invoke/VarHandle" ∧ (parseMethodDescriptor yX11_byteOf.desc).map (fun d => d.parameters.length) = some 2 := by decide +kernel
theorem hs_X11_lettersIn : yX11_lettersIn.cls ≠ "java/lang/invoke/MethodHandle" ∧ yX11_lettersIn.cls ≠ "java/lang/invoke/VarHandle" ∧ (parseMethodDescriptor yX11_lettersIn.desc).map (fun d => d.parameters.length) = some 1 := by decide +kernel
theorem hs_X11_letters : yX11_letters.cls ≠ "java/lang/invoke/MethodHandle" ∧ yX11_letters.cls ≠ "java/lang/invoke/VarHandle" ∧ (parseMethodDescriptor yX11_letters.desc).map (fun d => d.parameters.length) = some 1 := by decide +kernel
theorem hs_X11_fault : yX11_fault.cls ≠ "java/lang/invoke/MethodHandle" ∧ yX11_fault.cls ≠ "java/lang/invoke/VarHandle" ∧ (parseMethodDescriptor yX11_fault.desc).map (fun d => d.parameters.length) = some 0 := by decide +kernel
theorem hs_X11_wire : yX11_wire.cls ≠ "java/lang/invoke/MethodHandle" ∧ yX11_wire.cls ≠ "java/lang/invoke/VarHandle" ∧ (parseMethodDescriptor yX11_wire.desc).map (fun d => d.parameters.length) = some 0 := by decide +kernel
theorem hs_X11_isCabin : yX11_isCabin.cls ≠ "java/lang/invoke/MethodHandle" ∧ yX11_isCabin.cls ≠ "java/lang/invoke/VarHandle" ∧ (parseMethodDescriptor yX11_isCabin.desc).map (fun d => d.parameters.length) = some 1 := by decide +kernel
theorem hs_X11_cabin : yX11_cabin.cls ≠ "java/lang/invoke/MethodHandle" ∧ yX11_cabin.cls ≠ "java/lang/invoke/VarHandle" ∧ (parseMethodDescriptor yX11_cabin.desc).map (fun d => d.parameters.length) = some 2 := by decide +kernel
theorem hs_X11_isKind : yX11_isKind.cls ≠ "java/lang/invoke/MethodHandle" ∧ yX11_isKind.cls ≠ "java/lang/invoke/VarHandle" ∧ (parseMethodDescriptor yX11_isKind.desc).map (fun d => d.parameters.length) = some 1 := by decide +kernel
theorem hs_X11_newThing : yX11_newThing.cls ≠ "java/lang/invoke/MethodHandle" ∧ yX11_newThing.cls ≠ "java/lang/invoke/VarHandle" ∧ (parseMethodDescriptor yX11_newThing.desc).map (fun d => d.parameters.length) = some 4 := by decide +kernel
theorem hs_X11_thing : yX11_thing.cls ≠ "java/lang/invoke/MethodHandle" ∧ yX11_thing.cls ≠ "java/lang/invoke/VarHandle" ∧ (parseMethodDescriptor yX11_thing.desc).map (fun d => d.parameters.length) = some 3 := by decide +kernel
theorem hs_X11_about : yX11_about.cls ≠ "java/lang/invoke/MethodHandle" ∧ yX11_about.cls ≠ "java/lang/invoke/VarHandle" ∧ (parseMethodDescriptor yX11_about.desc).map (fun d => d.parameters.length) = some 2 := by decide +kernel
theorem hs_X11_isOfKind : yX11_isOfKind.cls ≠ "java/lang/invoke/MethodHandle" ∧ yX11_isOfKind.cls ≠ "java/lang/invoke/VarHandle" ∧ (parseMethodDescriptor yX11_isOfKind.desc).map (fun d => d.parameters.length) = some 2 := by decide +kernel
theorem hs_X11_as : yX11_as.cls ≠ "java/lang/invoke/MethodHandle" ∧ yX11_as.cls ≠ "java/lang/invoke/VarHandle" ∧ (parseMethodDescriptor yX11_as.desc).map (fun d => d.parameters.length) = some 2 := by decide +kernel
theorem hs_X11_carry : yX11_carry.cls ≠ "java/lang/invoke/MethodHandle" ∧ yX11_carry.cls ≠ "java/lang/invoke/VarHandle" ∧ (parseMethodDescriptor yX11_carry.desc).map (fun d => d.parameters.length) = some 1 := by decide +kernel
theorem hs_X11_isLength : yX11_isLength.cls ≠ "java/lang/invoke/MethodHandle" ∧ yX11_isLength.cls ≠ "java/lang/invoke/VarHandle" ∧ (parseMethodDescriptor yX11_isLength.desc).map (fun d => d.parameters.length) = some 1 := by decide +kernel
theorem hs_X11_hour : yX11_hour.cls ≠ "java/lang/invoke/MethodHandle" ∧ yX11_hour.cls ≠ "java/lang/invoke/VarHandle" ∧ (parseMethodDescriptor yX11_hour.desc).map (fun d => d.parameters.length) = some 1 := by decide +kernel
theorem hs_X11_apartOnCircle : yX11_apartOnCircle.cls ≠ "java/lang/invoke/MethodHandle" ∧ yX11_apartOnCircle.cls ≠ "java/lang/invoke/VarHandle" ∧ (parseMethodDescriptor yX11_apartOnCircle.desc).map (fun d => d.parameters.length) = some 2 := by decide +kernel
theorem hs_X11_caught : yX11_caught.cls ≠ "java/lang/invoke/MethodHandle" ∧ yX11_caught.cls ≠ "java/lang/invoke/VarHandle" ∧ (parseMethodDescriptor yX11_caught.desc).map (fun d => d.parameters.length) = some 1 := by decide +kernel
theorem hs_X11_nextSeed : yX11_nextSeed.cls ≠ "java/lang/invoke/MethodHandle" ∧ yX11_nextSeed.cls ≠ "java/lang/invoke/VarHandle" ∧ (parseMethodDescriptor yX11_nextSeed.desc).map (fun d => d.parameters.length) = some 1 := by decide +kernel
theorem hs_X11_windingOf : yX11_windingOf.cls ≠ "java/lang/invoke/MethodHandle" ∧ yX11_windingOf.cls ≠ "java/lang/invoke/VarHandle" ∧ (parseMethodDescriptor yX11_windingOf.desc).map (fun d => d.parameters.length) = some 1 := by decide +kernel
theorem hs_X11_tryHours : yX11_tryHours.cls ≠ "java/lang/invoke/MethodHandle" ∧ yX11_tryHours.cls ≠ "java/lang/invoke/VarHandle" ∧ (parseMethodDescriptor yX11_tryHours.desc).map (fun d => d.parameters.length) = some 2 := by decide +kernel
theorem hs_X11_whirls : yX11_whirls.cls ≠ "java/lang/invoke/MethodHandle" ∧ yX11_whirls.cls ≠ "java/lang/invoke/VarHandle" ∧ (parseMethodDescriptor yX11_whirls.desc).map (fun d => d.parameters.length) = some 3 := by decide +kernel
theorem hs_X11_count : yX11_count.cls ≠ "java/lang/invoke/MethodHandle" ∧ yX11_count.cls ≠ "java/lang/invoke/VarHandle" ∧ (parseMethodDescriptor yX11_count.desc).map (fun d => d.parameters.length) = some 1 := by decide +kernel
theorem hs_L_put : yL_put.cls ≠ "java/lang/invoke/MethodHandle" ∧ yL_put.cls ≠ "java/lang/invoke/VarHandle" ∧ (parseMethodDescriptor yL_put.desc).map (fun d => d.parameters.length) = some 2 := by decide +kernel
theorem hs_L_wire : yL_wire.cls ≠ "java/lang/invoke/MethodHandle" ∧ yL_wire.cls ≠ "java/lang/invoke/VarHandle" ∧ (parseMethodDescriptor yL_wire.desc).map (fun d => d.parameters.length) = some 3 := by decide +kernel
theorem hs_L_thing : yL_thing.cls ≠ "java/lang/invoke/MethodHandle" ∧ yL_thing.cls ≠ "java/lang/invoke/VarHandle" ∧ (parseMethodDescriptor yL_thing.desc).map (fun d => d.parameters.length) = some 3 := by decide +kernel
theorem hs_L_weighs : yL_weighs.cls ≠ "java/lang/invoke/MethodHandle" ∧ yL_weighs.cls ≠ "java/lang/invoke/VarHandle" ∧ (parseMethodDescriptor yL_weighs.desc).map (fun d => d.parameters.length) = some 3 := by decide +kernel
theorem hs_L_cabin : yL_cabin.cls ≠ "java/lang/invoke/MethodHandle" ∧ yL_cabin.cls ≠ "java/lang/invoke/VarHandle" ∧ (parseMethodDescriptor yL_cabin.desc).map (fun d => d.parameters.length) = some 4 := by decide +kernel
theorem hs_L_turns : yL_turns.cls ≠ "java/lang/invoke/MethodHandle" ∧ yL_turns.cls ≠ "java/lang/invoke/VarHandle" ∧ (parseMethodDescriptor yL_turns.desc).map (fun d => d.parameters.length) = some 2 := by decide +kernel
theorem hs_L_arm : yL_arm.cls ≠ "java/lang/invoke/MethodHandle" ∧ yL_arm.cls ≠ "java/lang/invoke/VarHandle" ∧ (parseMethodDescriptor yL_arm.desc).map (fun d => d.parameters.length) = some 5 := by decide +kernel
theorem hs_L_floor : yL_floor.cls ≠ "java/lang/invoke/MethodHandle" ∧ yL_floor.cls ≠ "java/lang/invoke/VarHandle" ∧ (parseMethodDescriptor yL_floor.desc).map (fun d => d.parameters.length) = some 5 := by decide +kernel
theorem hs_L_strain : yL_strain.cls ≠ "java/lang/invoke/MethodHandle" ∧ yL_strain.cls ≠ "java/lang/invoke/VarHandle" ∧ (parseMethodDescriptor yL_strain.desc).map (fun d => d.parameters.length) = some 3 := by decide +kernel
theorem hs_L_hour : yL_hour.cls ≠ "java/lang/invoke/MethodHandle" ∧ yL_hour.cls ≠ "java/lang/invoke/VarHandle" ∧ (parseMethodDescriptor yL_hour.desc).map (fun d => d.parameters.length) = some 2 := by decide +kernel
theorem hs_L_told : yL_told.cls ≠ "java/lang/invoke/MethodHandle" ∧ yL_told.cls ≠ "java/lang/invoke/VarHandle" ∧ (parseMethodDescriptor yL_told.desc).map (fun d => d.parameters.length) = some 2 := by decide +kernel
theorem hs_L_law : yL_law.cls ≠ "java/lang/invoke/MethodHandle" ∧ yL_law.cls ≠ "java/lang/invoke/VarHandle" ∧ (parseMethodDescriptor yL_law.desc).map (fun d => d.parameters.length) = some 1 := by decide +kernel
abbrev rm_X7_at : Room := { frames := 0, cells := 0, slots := 0, locals := 0 }
abbrev rm_X7_digitAt : Room := { frames := 1, cells := 0, slots := 0, locals := 21 }
abbrev rm_X0_hang : Room := { frames := 2, cells := 0, slots := 0, locals := 42 }
abbrev rm_X0_becomeLike : Room := { frames := 0, cells := 0, slots := 0, locals := 0 }
abbrev rm_X0_isThere : Room := { frames := 0, cells := 0, slots := 0, locals := 0 }
abbrev rm_X0_isWhole : Room := { frames := 0, cells := 0, slots := 0, locals := 0 }
abbrev rm_X0_turnsAt : Room := { frames := 0, cells := 0, slots := 0, locals := 0 }
abbrev rm_X0_turnsNow : Room := { frames := 1, cells := 0, slots := 0, locals := 21 }
abbrev rm_X0_armAt : Room := { frames := 0, cells := 0, slots := 0, locals := 0 }
abbrev rm_X0_floorAt : Room := { frames := 1, cells := 0, slots := 0, locals := 26 }
abbrev rm_X0_strainBy : Room := { frames := 0, cells := 0, slots := 0, locals := 0 }
abbrev rm_X1_weighs : Room := { frames := 0, cells := 0, slots := 0, locals := 0 }
abbrev rm_X4_weighs : Room := { frames := 0, cells := 0, slots := 0, locals := 0 }
abbrev rm_X5_weighs : Room := { frames := 0, cells := 0, slots := 0, locals := 0 }
abbrev rm_X6_at : Room := { frames := 0, cells := 0, slots := 0, locals := 0 }
abbrev rm_X9_weighs : Room := { frames := 0, cells := 0, slots := 0, locals := 0 }
abbrev rm_X6_weighsIn : Room := { frames := 1, cells := 0, slots := 0, locals := 21 }
abbrev rm_X0_armNow : Room := { frames := 2, cells := 0, slots := 0, locals := 46 }
abbrev rm_X0_floorNow : Room := { frames := 2, cells := 0, slots := 0, locals := 51 }
abbrev rm_X0_strainNow : Room := { frames := 2, cells := 0, slots := 0, locals := 51 }
abbrev rm_J9_floorMod_7cf53 : Room := { frames := 0, cells := 0, slots := 0, locals := 0 }
abbrev rm_X0_placeAfter : Room := { frames := 2, cells := 0, slots := 0, locals := 41 }
abbrev rm_X0_goHour : Room := { frames := 3, cells := 0, slots := 0, locals := 73 }
abbrev rm_X9_init : Room := { frames := 1, cells := 0, slots := 0, locals := 12 }
abbrev rm_X1_init : Room := { frames := 2, cells := 0, slots := 0, locals := 35 }
abbrev rm_X1_kind : Room := { frames := 0, cells := 0, slots := 0, locals := 0 }
abbrev rm_X3_init : Room := { frames := 2, cells := 0, slots := 0, locals := 35 }
abbrev rm_X3_kind : Room := { frames := 0, cells := 0, slots := 0, locals := 0 }
abbrev rm_X3_goesAcross : Room := { frames := 0, cells := 0, slots := 0, locals := 0 }
abbrev rm_X5_init : Room := { frames := 2, cells := 0, slots := 0, locals := 35 }
abbrev rm_X4_init : Room := { frames := 3, cells := 0, slots := 0, locals := 58 }
abbrev rm_X4_kind : Room := { frames := 0, cells := 0, slots := 0, locals := 0 }
abbrev rm_X5_kind : Room := { frames := 0, cells := 0, slots := 0, locals := 0 }
abbrev rm_X6_isFull : Room := { frames := 0, cells := 0, slots := 0, locals := 0 }
abbrev rm_X6_put : Room := { frames := 0, cells := 0, slots := 0, locals := 0 }
abbrev rm_J9_min_7cf53 : Room := { frames := 0, cells := 0, slots := 0, locals := 0 }
abbrev rm_X6_cutTo : Room := { frames := 1, cells := 0, slots := 0, locals := 21 }
abbrev rm_X6_sizeIn : Room := { frames := 1, cells := 0, slots := 0, locals := 21 }
abbrev rm_X7_hasRoomFor : Room := { frames := 0, cells := 0, slots := 0, locals := 0 }
abbrev rm_X7_put : Room := { frames := 0, cells := 0, slots := 0, locals := 0 }
abbrev rm_X7_emptied : Room := { frames := 0, cells := 0, slots := 0, locals := 0 }
abbrev rm_X7_isBetween : Room := { frames := 1, cells := 0, slots := 0, locals := 21 }
abbrev rm_X7_isWireLetter : Room := { frames := 2, cells := 0, slots := 0, locals := 44 }
abbrev rm_X7_firstWrong : Room := { frames := 3, cells := 0, slots := 0, locals := 65 }
abbrev rm_X7_isWire : Room := { frames := 4, cells := 0, slots := 0, locals := 86 }
abbrev rm_X9_kind : Room := { frames := 0, cells := 0, slots := 0, locals := 0 }
abbrev rm_X9_goesAcross : Room := { frames := 0, cells := 0, slots := 0, locals := 0 }
abbrev rm_X9_hoursHere : Room := { frames := 0, cells := 0, slots := 0, locals := 0 }
abbrev rm_X10_emptied : Room := { frames := 0, cells := 0, slots := 0, locals := 0 }
abbrev rm_X11_byteOf : Room := { frames := 0, cells := 0, slots := 0, locals := 0 }
abbrev rm_X11_lettersIn : Room := { frames := 1, cells := 0, slots := 0, locals := 22 }
abbrev rm_X11_letters : Room := { frames := 2, cells := 0, slots := 0, locals := 47 }
abbrev rm_X11_fault : Room := { frames := 4, cells := 0, slots := 0, locals := 86 }
abbrev rm_X11_wire : Room := { frames := 5, cells := 0, slots := 0, locals := 106 }
abbrev rm_X11_isCabin : Room := { frames := 0, cells := 0, slots := 0, locals := 0 }
abbrev rm_X11_cabin : Room := { frames := 3, cells := 0, slots := 0, locals := 73 }
abbrev rm_X11_isKind : Room := { frames := 0, cells := 0, slots := 0, locals := 0 }
abbrev rm_X11_newThing : Room := { frames := 4, cells := 1, slots := 3, locals := 81 }
abbrev rm_X11_thing : Room := { frames := 5, cells := 1, slots := 3, locals := 104 }
abbrev rm_X11_about : Room := { frames := 1, cells := 0, slots := 0, locals := 21 }
abbrev rm_X11_isOfKind : Room := { frames := 0, cells := 0, slots := 0, locals := 0 }
abbrev rm_X11_as : Room := { frames := 1, cells := 0, slots := 0, locals := 21 }
abbrev rm_X11_carry : Room := { frames := 2, cells := 0, slots := 0, locals := 41 }
abbrev rm_X11_isLength : Room := { frames := 0, cells := 0, slots := 0, locals := 0 }
abbrev rm_X11_hour : Room := { frames := 4, cells := 0, slots := 0, locals := 95 }
abbrev rm_X11_apartOnCircle : Room := { frames := 1, cells := 0, slots := 0, locals := 22 }
abbrev rm_X11_caught : Room := { frames := 3, cells := 0, slots := 0, locals := 62 }
abbrev rm_X11_nextSeed : Room := { frames := 0, cells := 0, slots := 0, locals := 0 }
abbrev rm_X11_windingOf : Room := { frames := 0, cells := 0, slots := 0, locals := 0 }
abbrev rm_X11_tryHours : Room := { frames := 4, cells := 0, slots := 0, locals := 95 }
abbrev rm_X11_whirls : Room := { frames := 5, cells := 0, slots := 0, locals := 120 }
abbrev rm_X11_count : Room := { frames := 3, cells := 0, slots := 0, locals := 73 }
abbrev rm_L_put : Room := { frames := 3, cells := 0, slots := 0, locals := 71 }
abbrev rm_L_wire : Room := { frames := 6, cells := 0, slots := 0, locals := 126 }
abbrev rm_L_thing : Room := { frames := 6, cells := 1, slots := 3, locals := 127 }
abbrev rm_L_weighs : Room := { frames := 0, cells := 0, slots := 0, locals := 0 }
abbrev rm_L_cabin : Room := { frames := 1, cells := 0, slots := 0, locals := 24 }
abbrev rm_L_turns : Room := { frames := 0, cells := 0, slots := 0, locals := 0 }
abbrev rm_L_arm : Room := { frames := 2, cells := 0, slots := 0, locals := 50 }
abbrev rm_L_floor : Room := { frames := 3, cells := 0, slots := 0, locals := 77 }
abbrev rm_L_strain : Room := { frames := 4, cells := 0, slots := 0, locals := 102 }
abbrev rm_L_hour : Room := { frames := 5, cells := 0, slots := 0, locals := 124 }
abbrev rm_L_told : Room := { frames := 5, cells := 0, slots := 0, locals := 124 }
abbrev rm_L_law : Room := { frames := 7, cells := 0, slots := 0, locals := 152 }
set_option maxHeartbeats 4000000 in
set_option maxRecDepth 100000 in
theorem c_X7_at (l : Launch) (D : va_G) (cy : Nat → ClassId) (A : Nat → Nat) {σ : St} {v1 : Int32} {Φ : Int32 → St → Prop} (hw : wX7_at σ v1 Φ) : CtI l yX7_at (.code yX7_at cX7_at 2 (some .int) :: gL) rm_X7_at 0 0 [.ref (A 1), .int v1] D cy A σ Φ := by
  refine ct_any (fun sz => va_Qi Φ (HE D cy A (gZ cy A σ sz)) (gZ cy A σ sz)) (by decide +kernel) rfl rfl [(0, .ref (A 1)), (1, .int v1)] rfl (Nat.le_of_ble_eq_true rfl) ?_
  intro κ hκl hnm C hK sz F
  subst hκl
  unfold wX7_at at hw
  refine g_iload_n C 1 rfl rfl dX7_at_0 ?_
  refine g_if_lt C 30 (by decide) hw dX7_at_1 (fun hw => ?_) (fun hw => ?_)
  · refine g_iconst (v := (0 : Int32)) C dX7_at_30 (by decide) ?_
    exact gq_I C F (by decide) (by decide) hw dX7_at_31
  · refine g_iload_n C 1 rfl rfl dX7_at_4 ?_
    refine g_aload_n C 0 rfl rfl dX7_at_5 ?_
    refine g_get C hK inX7 rfl 1 (ga_1 cy A _) 1 (by decide) (fun _ h => h) wt_28 rfl dX7_at_6 ?_
    refine g_icmp_ge C 30 (by decide) hw dX7_at_9 (fun hw => ?_) (fun hw => ?_)
    · refine g_iconst (v := (0 : Int32)) C dX7_at_30 (by decide) ?_
      exact gq_I C F (by decide) (by decide) hw dX7_at_31
    · refine g_iload_n C 1 rfl rfl dX7_at_12 ?_
      refine g_aload_n C 0 rfl rfl dX7_at_13 ?_
      refine g_get C hK inX7 rfl 1 (ga_1 cy A _) 0 (by decide) (fun _ h => h) wt_27 rfl dX7_at_14 ?_
      refine g_alen (v := 12) C hK 2 1 (ga_2 cy A _) rfl rfl dX7_at_17 ?_
      refine g_icmp_ge C 30 (by decide) hw dX7_at_18 (fun hw => ?_) (fun hw => ?_)
      · refine g_iconst (v := (0 : Int32)) C dX7_at_30 (by decide) ?_
        exact gq_I C F (by decide) (by decide) hw dX7_at_31
      · refine g_aload_n C 0 rfl rfl dX7_at_21 ?_
        refine g_get C hK inX7 rfl 1 (ga_1 cy A _) 0 (by decide) (fun _ h => h) wt_27 rfl dX7_at_22 ?_
        refine g_iload_n C 1 rfl rfl dX7_at_25 ?_
        refine g_cald C hK 2 1 (ga_2 cy A _) rfl hw.1 dX7_at_26 ?_
        replace hw := hw.2
        refine g_goto C 31 (by decide) dX7_at_27 ?_
        exact gq_I C F (by decide) (by decide) hw dX7_at_31
set_option maxHeartbeats 4000000 in
set_option maxRecDepth 100000 in
theorem c_X7_digitAt (l : Launch) (D : va_G) (cy : Nat → ClassId) (A : Nat → Nat) {σ : St} {v1 : Int32} {Φ : Int32 → St → Prop} (hw : wX7_digitAt σ v1 Φ) : CtI l yX7_digitAt (.code yX7_digitAt cX7_digitAt 2 (some .int) :: gL) rm_X7_digitAt 0 0 [.ref (A 1), .int v1] D cy A σ Φ := by
  refine ct_any (fun sz => va_Qi Φ (HE D cy A (gZ cy A σ sz)) (gZ cy A σ sz)) (by decide +kernel) rfl rfl [(0, .ref (A 1)), (1, .int v1)] rfl (Nat.le_of_ble_eq_true rfl) ?_
  intro κ hκl hnm C hK sz F
  subst hκl
  unfold wX7_digitAt at hw
  refine g_aload_n C 0 rfl rfl dX7_digitAt_0 ?_
  refine g_iload_n C 1 rfl rfl dX7_digitAt_1 ?_
  refine gc_I C (gr_V (As := [.int v1]) (rest := []) C hK 1 (gd_V wt_326 wt_327 wt_328 wt_2 wt_329) rfl rfl rfl ⟨rfl, hs_X7_at⟩ ⟨⟨Nat.le_of_ble_eq_true rfl, Nat.le_of_ble_eq_true rfl⟩, Nat.le_of_ble_eq_true rfl, Nat.le_of_ble_eq_true rfl⟩ rfl 1 (ga_1 cy A _) rfl rfl (Nat.le_of_ble_eq_true rfl) dX7_digitAt_2 (c_X7_at (q_l κ) (q_D κ) cy A hw)) (fun r2 σ1 hw => ?_)
  refine g_bipush (v := (48 : Int32)) C dX7_digitAt_5 (by decide) ?_
  refine g_isub C dX7_digitAt_7 ?_
  exact gq_I C F (by decide) (by decide) hw dX7_digitAt_8
set_option maxHeartbeats 4000000 in
set_option maxRecDepth 100000 in
theorem c_X0_hang (l : Launch) (D : va_G) (cy : Nat → ClassId) (A : Nat → Nat) {σ : St} {k : Nat} (hk : isC k) {Φ : St → Prop} (hw : wX0_hang σ k Φ) : CtV l yX0_hang (.code yX0_hang cX0_hang 2 none :: gL) rm_X0_hang 0 0 [.ref (A k), .ref (A 1)] D cy A σ Φ := by
  refine ct_any (fun sz => va_Qv Φ (HE D cy A (gZ cy A σ sz)) (gZ cy A σ sz)) (by decide +kernel) rfl rfl [(0, .ref (A k)), (1, .ref (A 1))] rfl (Nat.le_of_ble_eq_true rfl) ?_
  intro κ hκl hnm C hK sz F
  subst hκl
  have J81 : ∀ (σ : St) (s0 : Int32), wX0_hang_81 k Φ σ s0 → GW κ 0 0 (gW cy A σ) 81 [(0, .ref (A k))] [.int s0, .ref (A k)] := by
    intro σ s0 hw
    unfold wX0_hang_81 at hw
    refine g_put (v := .int s0) C hK inX0 rfl tyX0 tyX0_ok nmX0 k (ga_c cy A _ hk) 5 (by decide) (fun _ h => h) wt_47 rfl (by rcases hw.1 with e | e <;> rw [e] <;> rfl) (by rcases hw.1 with e | e <;> rw [e] <;> rfl) (Nat.le_of_ble_eq_true rfl) (gp_c_5 cy A _ _ hk) dX0_hang_81 ?_
    replace hw := hw.2
    refine g_aload_n C 0 rfl rfl dX0_hang_84 ?_
    refine g_iconst (v := (0 : Int32)) C dX0_hang_85 (by decide) ?_
    refine g_put (v := .int (0 : Int32)) C hK inX0 rfl tyX0 tyX0_ok nmX0 k (ga_c cy A _ hk) 3 (by decide) (fun _ h => h) wt_43 rfl rfl rfl (Nat.le_of_ble_eq_true rfl) (gp_c_3 cy A _ _ hk) dX0_hang_86 ?_
    refine g_aload_n C 0 rfl rfl dX0_hang_89 ?_
    refine g_iconst (v := (0 : Int32)) C dX0_hang_90 (by decide) ?_
    refine g_put (v := .int (0 : Int32)) C hK inX0 rfl tyX0 tyX0_ok nmX0 k (ga_c cy A _ hk) 4 (by decide) (fun _ h => h) wt_45 rfl rfl rfl (Nat.le_of_ble_eq_true rfl) (gp_c_4 cy A _ _ hk) dX0_hang_91 ?_
    refine g_aload_n C 0 rfl rfl dX0_hang_94 ?_
    refine g_iconst (v := (0 : Int32)) C dX0_hang_95 (by decide) ?_
    refine g_put (v := .int (0 : Int32)) C hK inX0 rfl tyX0 tyX0_ok nmX0 k (ga_c cy A _ hk) 6 (by decide) (fun _ h => h) wt_49 rfl (by rcases hw.1 with e | e <;> rw [e] <;> rfl) (by rcases hw.1 with e | e <;> rw [e] <;> rfl) (Nat.le_of_ble_eq_true rfl) (gp_c_6 cy A _ _ hk) dX0_hang_96 ?_
    replace hw := hw.2
    exact gq_V C F (by decide) (by decide) hw dX0_hang_99
  unfold wX0_hang at hw
  refine g_aload_n C 0 rfl rfl dX0_hang_0 ?_
  refine g_bipush (v := (10 : Int32)) C dX0_hang_1 (by decide) ?_
  refine g_aload_n C 1 rfl rfl dX0_hang_3 ?_
  refine g_iconst (v := (0 : Int32)) C dX0_hang_4 (by decide) ?_
  refine gc_I C (gr_V (As := [.int (0 : Int32)]) (rest := [.int (10 : Int32), .ref (A k)]) C hK 1 (gd_V wt_343 wt_344 wt_345 wt_2 wt_346) rfl rfl rfl ⟨rfl, hs_X7_digitAt⟩ ⟨⟨Nat.le_of_ble_eq_true rfl, Nat.le_of_ble_eq_true rfl⟩, Nat.le_of_ble_eq_true rfl, Nat.le_of_ble_eq_true rfl⟩ rfl 1 (ga_1 cy A _) rfl rfl (Nat.le_of_ble_eq_true rfl) dX0_hang_5 (c_X7_digitAt (q_l κ) (q_D κ) cy A hw)) (fun r2 σ1 hw => ?_)
  refine g_imul C dX0_hang_8 ?_
  refine g_aload_n C 1 rfl rfl dX0_hang_9 ?_
  refine g_iconst (v := (1 : Int32)) C dX0_hang_10 (by decide) ?_
  refine gc_I C (gr_V (As := [.int (1 : Int32)]) (rest := [.int ((10 : Int32) * r2), .ref (A k)]) C hK 1 (gd_V wt_343 wt_344 wt_345 wt_2 wt_346) rfl rfl rfl ⟨rfl, hs_X7_digitAt⟩ ⟨⟨Nat.le_of_ble_eq_true rfl, Nat.le_of_ble_eq_true rfl⟩, Nat.le_of_ble_eq_true rfl, Nat.le_of_ble_eq_true rfl⟩ rfl 1 (ga_1 cy A _) rfl rfl (Nat.le_of_ble_eq_true rfl) dX0_hang_11 (c_X7_digitAt (q_l κ) (q_D κ) cy A hw)) (fun r4 σ3 hw => ?_)
  refine g_iadd C dX0_hang_14 ?_
  refine g_put (v := .int (((10 : Int32) * r2) + r4)) C hK inX0 rfl tyX0 tyX0_ok nmX0 k (ga_c cy A _ hk) 0 (by decide) (fun _ h => h) wt_37 rfl rfl rfl (Nat.le_of_ble_eq_true rfl) (gp_c_0 cy A _ _ hk) dX0_hang_15 ?_
  refine g_aload_n C 0 rfl rfl dX0_hang_18 ?_
  refine g_aload_n C 0 rfl rfl dX0_hang_19 ?_
  refine g_get C hK inX0 rfl k (ga_c cy A _ hk) 0 (by decide) (fun _ h => h) wt_37 rfl dX0_hang_20 ?_
  refine g_aload_n C 0 rfl rfl dX0_hang_23 ?_
  refine g_get C hK inX0 rfl k (ga_c cy A _ hk) 0 (by decide) (fun _ h => h) wt_37 rfl dX0_hang_24 ?_
  refine g_imul C dX0_hang_27 ?_
  refine g_aload_n C 1 rfl rfl dX0_hang_28 ?_
  refine g_iconst (v := (3 : Int32)) C dX0_hang_29 (by decide) ?_
  refine gc_I C (gr_V (As := [.int (3 : Int32)]) (rest := [.int (((sV σ3 k 0 (((10 : Int32) * r2) + r4)).1 k 0) * ((sV σ3 k 0 (((10 : Int32) * r2) + r4)).1 k 0)), .ref (A k)]) C hK 1 (gd_V wt_343 wt_344 wt_345 wt_2 wt_346) rfl rfl rfl ⟨rfl, hs_X7_digitAt⟩ ⟨⟨Nat.le_of_ble_eq_true rfl, Nat.le_of_ble_eq_true rfl⟩, Nat.le_of_ble_eq_true rfl, Nat.le_of_ble_eq_true rfl⟩ rfl 1 (ga_1 cy A _) rfl rfl (Nat.le_of_ble_eq_true rfl) dX0_hang_30 (c_X7_digitAt (q_l κ) (q_D κ) cy A hw)) (fun r6 σ5 hw => ?_)
  refine g_imul C dX0_hang_33 ?_
  refine g_put (v := .int ((((sV σ3 k 0 (((10 : Int32) * r2) + r4)).1 k 0) * ((sV σ3 k 0 (((10 : Int32) * r2) + r4)).1 k 0)) * r6)) C hK inX0 rfl tyX0 tyX0_ok nmX0 k (ga_c cy A _ hk) 1 (by decide) (fun _ h => h) wt_39 rfl rfl rfl (Nat.le_of_ble_eq_true rfl) (gp_c_1 cy A _ _ hk) dX0_hang_34 ?_
  refine g_aload_n C 0 rfl rfl dX0_hang_37 ?_
  refine g_bipush (v := (100 : Int32)) C dX0_hang_38 (by decide) ?_
  refine g_aload_n C 1 rfl rfl dX0_hang_40 ?_
  refine g_iconst (v := (5 : Int32)) C dX0_hang_41 (by decide) ?_
  refine gc_I C (gr_V (As := [.int (5 : Int32)]) (rest := [.int (100 : Int32), .ref (A k)]) C hK 1 (gd_V wt_343 wt_344 wt_345 wt_2 wt_346) rfl rfl rfl ⟨rfl, hs_X7_digitAt⟩ ⟨⟨Nat.le_of_ble_eq_true rfl, Nat.le_of_ble_eq_true rfl⟩, Nat.le_of_ble_eq_true rfl, Nat.le_of_ble_eq_true rfl⟩ rfl 1 (ga_1 cy A _) rfl rfl (Nat.le_of_ble_eq_true rfl) dX0_hang_42 (c_X7_digitAt (q_l κ) (q_D κ) cy A hw)) (fun r8 σ7 hw => ?_)
  refine g_imul C dX0_hang_45 ?_
  refine g_bipush (v := (10 : Int32)) C dX0_hang_46 (by decide) ?_
  refine g_aload_n C 1 rfl rfl dX0_hang_48 ?_
  refine g_bipush (v := (6 : Int32)) C dX0_hang_49 (by decide) ?_
  refine gc_I C (gr_V (As := [.int (6 : Int32)]) (rest := [.int (10 : Int32), .int ((100 : Int32) * r8), .ref (A k)]) C hK 1 (gd_V wt_343 wt_344 wt_345 wt_2 wt_346) rfl rfl rfl ⟨rfl, hs_X7_digitAt⟩ ⟨⟨Nat.le_of_ble_eq_true rfl, Nat.le_of_ble_eq_true rfl⟩, Nat.le_of_ble_eq_true rfl, Nat.le_of_ble_eq_true rfl⟩ rfl 1 (ga_1 cy A _) rfl rfl (Nat.le_of_ble_eq_true rfl) dX0_hang_51 (c_X7_digitAt (q_l κ) (q_D κ) cy A hw)) (fun r10 σ9 hw => ?_)
  refine g_imul C dX0_hang_54 ?_
  refine g_iadd C dX0_hang_55 ?_
  refine g_aload_n C 1 rfl rfl dX0_hang_56 ?_
  refine g_bipush (v := (7 : Int32)) C dX0_hang_57 (by decide) ?_
  refine gc_I C (gr_V (As := [.int (7 : Int32)]) (rest := [.int (((100 : Int32) * r8) + ((10 : Int32) * r10)), .ref (A k)]) C hK 1 (gd_V wt_343 wt_344 wt_345 wt_2 wt_346) rfl rfl rfl ⟨rfl, hs_X7_digitAt⟩ ⟨⟨Nat.le_of_ble_eq_true rfl, Nat.le_of_ble_eq_true rfl⟩, Nat.le_of_ble_eq_true rfl, Nat.le_of_ble_eq_true rfl⟩ rfl 1 (ga_1 cy A _) rfl rfl (Nat.le_of_ble_eq_true rfl) dX0_hang_59 (c_X7_digitAt (q_l κ) (q_D κ) cy A hw)) (fun r12 σ11 hw => ?_)
  refine g_iadd C dX0_hang_62 ?_
  refine g_put (v := .int ((((100 : Int32) * r8) + ((10 : Int32) * r10)) + r12)) C hK inX0 rfl tyX0 tyX0_ok nmX0 k (ga_c cy A _ hk) 2 (by decide) (fun _ h => h) wt_41 rfl rfl rfl (Nat.le_of_ble_eq_true rfl) (gp_c_2 cy A _ _ hk) dX0_hang_63 ?_
  refine g_aload_n C 0 rfl rfl dX0_hang_66 ?_
  refine g_aload_n C 1 rfl rfl dX0_hang_67 ?_
  refine g_get C hK inX7 rfl 1 (ga_1 cy A _) 1 (by decide) (fun _ h => h) wt_30 rfl dX0_hang_68 ?_
  refine g_bipush (v := (8 : Int32)) C dX0_hang_71 (by decide) ?_
  refine g_icmp_le C 80 (by decide) hw dX0_hang_73 (fun hw => ?_) (fun hw => ?_)
  · refine g_iconst (v := (0 : Int32)) C dX0_hang_80 (by decide) ?_
    refine g_eql (lv' := [(0, .ref (A k))]) [0] rfl ?_
    exact J81 (sV σ11 k 2 ((((100 : Int32) * r8) + ((10 : Int32) * r10)) + r12)) (0 : Int32) hw
  · refine g_iconst (v := (1 : Int32)) C dX0_hang_76 (by decide) ?_
    refine g_goto C 81 (by decide) dX0_hang_77 ?_
    refine g_eql (lv' := [(0, .ref (A k))]) [0] rfl ?_
    exact J81 (sV σ11 k 2 ((((100 : Int32) * r8) + ((10 : Int32) * r10)) + r12)) (1 : Int32) hw
set_option maxHeartbeats 4000000 in
set_option maxRecDepth 100000 in
theorem c_X0_becomeLike (l : Launch) (D : va_G) (cy : Nat → ClassId) (A : Nat → Nat) {σ : St} {k : Nat} (hk : isC k) {k2 : Nat} (hk2 : isC k2) {Φ : St → Prop} (hw : wX0_becomeLike σ k k2 Φ) : CtV l yX0_becomeLike (.code yX0_becomeLike cX0_becomeLike 2 none :: gL) rm_X0_becomeLike 0 0 [.ref (A k), .ref (A k2)] D cy A σ Φ := by
  refine ct_any (fun sz => va_Qv Φ (HE D cy A (gZ cy A σ sz)) (gZ cy A σ sz)) (by decide +kernel) rfl rfl [(0, .ref (A k)), (1, .ref (A k2))] rfl (Nat.le_of_ble_eq_true rfl) ?_
  intro κ hκl hnm C hK sz F
  subst hκl
  unfold wX0_becomeLike at hw
  refine g_aload_n C 0 rfl rfl dX0_becomeLike_0 ?_
  refine g_aload_n C 1 rfl rfl dX0_becomeLike_1 ?_
  refine g_get C hK inX0 rfl k2 (ga_c cy A _ hk2) 0 (by decide) (fun _ h => h) wt_37 rfl dX0_becomeLike_2 ?_
  refine g_put (v := .int (σ.1 k2 0)) C hK inX0 rfl tyX0 tyX0_ok nmX0 k (ga_c cy A _ hk) 0 (by decide) (fun _ h => h) wt_37 rfl rfl rfl (Nat.le_of_ble_eq_true rfl) (gp_c_0 cy A _ _ hk) dX0_becomeLike_5 ?_
  refine g_aload_n C 0 rfl rfl dX0_becomeLike_8 ?_
  refine g_aload_n C 1 rfl rfl dX0_becomeLike_9 ?_
  refine g_get C hK inX0 rfl k2 (ga_c cy A _ hk2) 1 (by decide) (fun _ h => h) wt_39 rfl dX0_becomeLike_10 ?_
  refine g_put (v := .int ((sV σ k 0 (σ.1 k2 0)).1 k2 1)) C hK inX0 rfl tyX0 tyX0_ok nmX0 k (ga_c cy A _ hk) 1 (by decide) (fun _ h => h) wt_39 rfl rfl rfl (Nat.le_of_ble_eq_true rfl) (gp_c_1 cy A _ _ hk) dX0_becomeLike_13 ?_
  refine g_aload_n C 0 rfl rfl dX0_becomeLike_16 ?_
  refine g_aload_n C 1 rfl rfl dX0_becomeLike_17 ?_
  refine g_get C hK inX0 rfl k2 (ga_c cy A _ hk2) 2 (by decide) (fun _ h => h) wt_41 rfl dX0_becomeLike_18 ?_
  refine g_put (v := .int ((sV (sV σ k 0 (σ.1 k2 0)) k 1 ((sV σ k 0 (σ.1 k2 0)).1 k2 1)).1 k2 2)) C hK inX0 rfl tyX0 tyX0_ok nmX0 k (ga_c cy A _ hk) 2 (by decide) (fun _ h => h) wt_41 rfl rfl rfl (Nat.le_of_ble_eq_true rfl) (gp_c_2 cy A _ _ hk) dX0_becomeLike_21 ?_
  refine g_aload_n C 0 rfl rfl dX0_becomeLike_24 ?_
  refine g_aload_n C 1 rfl rfl dX0_becomeLike_25 ?_
  refine g_get C hK inX0 rfl k2 (ga_c cy A _ hk2) 3 (by decide) (fun _ h => h) wt_43 rfl dX0_becomeLike_26 ?_
  refine g_put (v := .int ((sV (sV (sV σ k 0 (σ.1 k2 0)) k 1 ((sV σ k 0 (σ.1 k2 0)).1 k2 1)) k 2 ((sV (sV σ k 0 (σ.1 k2 0)) k 1 ((sV σ k 0 (σ.1 k2 0)).1 k2 1)).1 k2 2)).1 k2 3)) C hK inX0 rfl tyX0 tyX0_ok nmX0 k (ga_c cy A _ hk) 3 (by decide) (fun _ h => h) wt_43 rfl rfl rfl (Nat.le_of_ble_eq_true rfl) (gp_c_3 cy A _ _ hk) dX0_becomeLike_29 ?_
  refine g_aload_n C 0 rfl rfl dX0_becomeLike_32 ?_
  refine g_aload_n C 1 rfl rfl dX0_becomeLike_33 ?_
  refine g_get C hK inX0 rfl k2 (ga_c cy A _ hk2) 4 (by decide) (fun _ h => h) wt_45 rfl dX0_becomeLike_34 ?_
  refine g_put (v := .int ((sV (sV (sV (sV σ k 0 (σ.1 k2 0)) k 1 ((sV σ k 0 (σ.1 k2 0)).1 k2 1)) k 2 ((sV (sV σ k 0 (σ.1 k2 0)) k 1 ((sV σ k 0 (σ.1 k2 0)).1 k2 1)).1 k2 2)) k 3 ((sV (sV (sV σ k 0 (σ.1 k2 0)) k 1 ((sV σ k 0 (σ.1 k2 0)).1 k2 1)) k 2 ((sV (sV σ k 0 (σ.1 k2 0)) k 1 ((sV σ k 0 (σ.1 k2 0)).1 k2 1)).1 k2 2)).1 k2 3)).1 k2 4)) C hK inX0 rfl tyX0 tyX0_ok nmX0 k (ga_c cy A _ hk) 4 (by decide) (fun _ h => h) wt_45 rfl rfl rfl (Nat.le_of_ble_eq_true rfl) (gp_c_4 cy A _ _ hk) dX0_becomeLike_37 ?_
  refine g_aload_n C 0 rfl rfl dX0_becomeLike_40 ?_
  refine g_aload_n C 1 rfl rfl dX0_becomeLike_41 ?_
  refine g_get C hK inX0 rfl k2 (ga_c cy A _ hk2) 5 (by decide) (fun _ h => h) wt_47 rfl dX0_becomeLike_42 ?_
  refine g_put (v := .int ((sV (sV (sV (sV (sV σ k 0 (σ.1 k2 0)) k 1 ((sV σ k 0 (σ.1 k2 0)).1 k2 1)) k 2 ((sV (sV σ k 0 (σ.1 k2 0)) k 1 ((sV σ k 0 (σ.1 k2 0)).1 k2 1)).1 k2 2)) k 3 ((sV (sV (sV σ k 0 (σ.1 k2 0)) k 1 ((sV σ k 0 (σ.1 k2 0)).1 k2 1)) k 2 ((sV (sV σ k 0 (σ.1 k2 0)) k 1 ((sV σ k 0 (σ.1 k2 0)).1 k2 1)).1 k2 2)).1 k2 3)) k 4 ((sV (sV (sV (sV σ k 0 (σ.1 k2 0)) k 1 ((sV σ k 0 (σ.1 k2 0)).1 k2 1)) k 2 ((sV (sV σ k 0 (σ.1 k2 0)) k 1 ((sV σ k 0 (σ.1 k2 0)).1 k2 1)).1 k2 2)) k 3 ((sV (sV (sV σ k 0 (σ.1 k2 0)) k 1 ((sV σ k 0 (σ.1 k2 0)).1 k2 1)) k 2 ((sV (sV σ k 0 (σ.1 k2 0)) k 1 ((sV σ k 0 (σ.1 k2 0)).1 k2 1)).1 k2 2)).1 k2 3)).1 k2 4)).1 k2 5)) C hK inX0 rfl tyX0 tyX0_ok nmX0 k (ga_c cy A _ hk) 5 (by decide) (fun _ h => h) wt_47 rfl (by rcases hw.1 with e | e <;> rw [e] <;> rfl) (by rcases hw.1 with e | e <;> rw [e] <;> rfl) (Nat.le_of_ble_eq_true rfl) (gp_c_5 cy A _ _ hk) dX0_becomeLike_45 ?_
  replace hw := hw.2
  refine g_aload_n C 0 rfl rfl dX0_becomeLike_48 ?_
  refine g_aload_n C 1 rfl rfl dX0_becomeLike_49 ?_
  refine g_get C hK inX0 rfl k2 (ga_c cy A _ hk2) 6 (by decide) (fun _ h => h) wt_49 rfl dX0_becomeLike_50 ?_
  refine g_put (v := .int ((sV (sV (sV (sV (sV (sV σ k 0 (σ.1 k2 0)) k 1 ((sV σ k 0 (σ.1 k2 0)).1 k2 1)) k 2 ((sV (sV σ k 0 (σ.1 k2 0)) k 1 ((sV σ k 0 (σ.1 k2 0)).1 k2 1)).1 k2 2)) k 3 ((sV (sV (sV σ k 0 (σ.1 k2 0)) k 1 ((sV σ k 0 (σ.1 k2 0)).1 k2 1)) k 2 ((sV (sV σ k 0 (σ.1 k2 0)) k 1 ((sV σ k 0 (σ.1 k2 0)).1 k2 1)).1 k2 2)).1 k2 3)) k 4 ((sV (sV (sV (sV σ k 0 (σ.1 k2 0)) k 1 ((sV σ k 0 (σ.1 k2 0)).1 k2 1)) k 2 ((sV (sV σ k 0 (σ.1 k2 0)) k 1 ((sV σ k 0 (σ.1 k2 0)).1 k2 1)).1 k2 2)) k 3 ((sV (sV (sV σ k 0 (σ.1 k2 0)) k 1 ((sV σ k 0 (σ.1 k2 0)).1 k2 1)) k 2 ((sV (sV σ k 0 (σ.1 k2 0)) k 1 ((sV σ k 0 (σ.1 k2 0)).1 k2 1)).1 k2 2)).1 k2 3)).1 k2 4)) k 5 ((sV (sV (sV (sV (sV σ k 0 (σ.1 k2 0)) k 1 ((sV σ k 0 (σ.1 k2 0)).1 k2 1)) k 2 ((sV (sV σ k 0 (σ.1 k2 0)) k 1 ((sV σ k 0 (σ.1 k2 0)).1 k2 1)).1 k2 2)) k 3 ((sV (sV (sV σ k 0 (σ.1 k2 0)) k 1 ((sV σ k 0 (σ.1 k2 0)).1 k2 1)) k 2 ((sV (sV σ k 0 (σ.1 k2 0)) k 1 ((sV σ k 0 (σ.1 k2 0)).1 k2 1)).1 k2 2)).1 k2 3)) k 4 ((sV (sV (sV (sV σ k 0 (σ.1 k2 0)) k 1 ((sV σ k 0 (σ.1 k2 0)).1 k2 1)) k 2 ((sV (sV σ k 0 (σ.1 k2 0)) k 1 ((sV σ k 0 (σ.1 k2 0)).1 k2 1)).1 k2 2)) k 3 ((sV (sV (sV σ k 0 (σ.1 k2 0)) k 1 ((sV σ k 0 (σ.1 k2 0)).1 k2 1)) k 2 ((sV (sV σ k 0 (σ.1 k2 0)) k 1 ((sV σ k 0 (σ.1 k2 0)).1 k2 1)).1 k2 2)).1 k2 3)).1 k2 4)).1 k2 5)).1 k2 6)) C hK inX0 rfl tyX0 tyX0_ok nmX0 k (ga_c cy A _ hk) 6 (by decide) (fun _ h => h) wt_49 rfl (by rcases hw.1 with e | e <;> rw [e] <;> rfl) (by rcases hw.1 with e | e <;> rw [e] <;> rfl) (Nat.le_of_ble_eq_true rfl) (gp_c_6 cy A _ _ hk) dX0_becomeLike_53 ?_
  replace hw := hw.2
  exact gq_V C F (by decide) (by decide) hw dX0_becomeLike_56
set_option maxHeartbeats 4000000 in
set_option maxRecDepth 100000 in
theorem c_X0_isThere (l : Launch) (D : va_G) (cy : Nat → ClassId) (A : Nat → Nat) {σ : St} {k : Nat} (hk : isC k) {Φ : Int32 → St → Prop} (hw : wX0_isThere σ k Φ) : CtI l yX0_isThere (.code yX0_isThere cX0_isThere 1 (some .boolean) :: gL) rm_X0_isThere 0 0 [.ref (A k)] D cy A σ Φ := by
  refine ct_any (fun sz => va_Qi Φ (HE D cy A (gZ cy A σ sz)) (gZ cy A σ sz)) (by decide +kernel) rfl rfl [(0, .ref (A k))] rfl (Nat.le_of_ble_eq_true rfl) ?_
  intro κ hκl hnm C hK sz F
  subst hκl
  unfold wX0_isThere at hw
  refine g_aload_n C 0 rfl rfl dX0_isThere_0 ?_
  refine g_get C hK inX0 rfl k (ga_c cy A _ hk) 0 (by decide) (fun _ h => h) wt_37 rfl dX0_isThere_1 ?_
  refine g_if_le C 11 (by decide) hw dX0_isThere_4 (fun hw => ?_) (fun hw => ?_)
  · refine g_iconst (v := (0 : Int32)) C dX0_isThere_11 (by decide) ?_
    exact gq_Z C F (by decide) (by decide) hw dX0_isThere_12
  · refine g_iconst (v := (1 : Int32)) C dX0_isThere_7 (by decide) ?_
    refine g_goto C 12 (by decide) dX0_isThere_8 ?_
    exact gq_Z C F (by decide) (by decide) hw dX0_isThere_12
set_option maxHeartbeats 4000000 in
set_option maxRecDepth 100000 in
theorem c_X0_isWhole (l : Launch) (D : va_G) (cy : Nat → ClassId) (A : Nat → Nat) {σ : St} {k : Nat} (hk : isC k) {Φ : Int32 → St → Prop} (hw : wX0_isWhole σ k Φ) : CtI l yX0_isWhole (.code yX0_isWhole cX0_isWhole 1 (some .boolean) :: gL) rm_X0_isWhole 0 0 [.ref (A k)] D cy A σ Φ := by
  refine ct_any (fun sz => va_Qi Φ (HE D cy A (gZ cy A σ sz)) (gZ cy A σ sz)) (by decide +kernel) rfl rfl [(0, .ref (A k))] rfl (Nat.le_of_ble_eq_true rfl) ?_
  intro κ hκl hnm C hK sz F
  subst hκl
  unfold wX0_isWhole at hw
  refine g_aload_n C 0 rfl rfl dX0_isWhole_0 ?_
  refine g_get C hK inX0 rfl k (ga_c cy A _ hk) 0 (by decide) (fun _ h => h) wt_37 rfl dX0_isWhole_1 ?_
  refine g_if_le C 18 (by decide) hw dX0_isWhole_4 (fun hw => ?_) (fun hw => ?_)
  · refine g_iconst (v := (0 : Int32)) C dX0_isWhole_18 (by decide) ?_
    exact gq_Z C F (by decide) (by decide) hw dX0_isWhole_19
  · refine g_aload_n C 0 rfl rfl dX0_isWhole_7 ?_
    refine g_get C hK inX0 rfl k (ga_c cy A _ hk) 6 (by decide) (fun _ h => h) wt_49 rfl dX0_isWhole_8 ?_
    refine g_if_ne C 18 (by decide) hw dX0_isWhole_11 (fun hw => ?_) (fun hw => ?_)
    · refine g_iconst (v := (0 : Int32)) C dX0_isWhole_18 (by decide) ?_
      exact gq_Z C F (by decide) (by decide) hw dX0_isWhole_19
    · refine g_iconst (v := (1 : Int32)) C dX0_isWhole_14 (by decide) ?_
      refine g_goto C 19 (by decide) dX0_isWhole_15 ?_
      exact gq_Z C F (by decide) (by decide) hw dX0_isWhole_19
set_option maxHeartbeats 4000000 in
set_option maxRecDepth 100000 in
theorem c_X0_turnsAt (l : Launch) (D : va_G) (cy : Nat → ClassId) (A : Nat → Nat) {σ : St} {k : Nat} (hk : isC k) {v1 : Int32} {Φ : Int32 → St → Prop} (hw : wX0_turnsAt σ k v1 Φ) : CtI l yX0_turnsAt (.code yX0_turnsAt cX0_turnsAt 2 (some .int) :: gL) rm_X0_turnsAt 0 0 [.ref (A k), .int v1] D cy A σ Φ := by
  refine ct_any (fun sz => va_Qi Φ (HE D cy A (gZ cy A σ sz)) (gZ cy A σ sz)) (by decide +kernel) rfl rfl [(0, .ref (A k)), (1, .int v1)] rfl (Nat.le_of_ble_eq_true rfl) ?_
  intro κ hκl hnm C hK sz F
  subst hκl
  unfold wX0_turnsAt at hw
  refine g_iload_n C 1 rfl rfl dX0_turnsAt_0 ?_
  refine g_bipush (v := (10 : Int32)) C dX0_turnsAt_1 (by decide) ?_
  refine g_icmp_lt C 23 (by decide) hw dX0_turnsAt_3 (fun hw => ?_) (fun hw => ?_)
  · refine g_iconst (v := (0 : Int32)) C dX0_turnsAt_23 (by decide) ?_
    exact gq_I C F (by decide) (by decide) hw dX0_turnsAt_24
  · refine g_iload_n C 1 rfl rfl dX0_turnsAt_6 ?_
    refine g_bipush (v := (40 : Int32)) C dX0_turnsAt_7 (by decide) ?_
    refine g_icmp_gt C 23 (by decide) hw dX0_turnsAt_9 (fun hw => ?_) (fun hw => ?_)
    · refine g_iconst (v := (0 : Int32)) C dX0_turnsAt_23 (by decide) ?_
      exact gq_I C F (by decide) (by decide) hw dX0_turnsAt_24
    · refine g_aload_n C 0 rfl rfl dX0_turnsAt_12 ?_
      refine g_get C hK inX0 rfl k (ga_c cy A _ hk) 1 (by decide) (fun _ h => h) wt_39 rfl dX0_turnsAt_13 ?_
      refine g_iload_n C 1 rfl rfl dX0_turnsAt_16 ?_
      refine g_iload_n C 1 rfl rfl dX0_turnsAt_17 ?_
      refine g_imul C dX0_turnsAt_18 ?_
      refine g_idiv C hw.1 dX0_turnsAt_19 ?_
      replace hw := hw.2
      refine g_goto C 24 (by decide) dX0_turnsAt_20 ?_
      exact gq_I C F (by decide) (by decide) hw dX0_turnsAt_24
set_option maxHeartbeats 4000000 in
set_option maxRecDepth 100000 in
theorem c_X0_turnsNow (l : Launch) (D : va_G) (cy : Nat → ClassId) (A : Nat → Nat) {σ : St} {k : Nat} (hk : isC k) {Φ : Int32 → St → Prop} (hw : wX0_turnsNow σ k Φ) : CtI l yX0_turnsNow (.code yX0_turnsNow cX0_turnsNow 1 (some .int) :: gL) rm_X0_turnsNow 0 0 [.ref (A k)] D cy A σ Φ := by
  refine ct_any (fun sz => va_Qi Φ (HE D cy A (gZ cy A σ sz)) (gZ cy A σ sz)) (by decide +kernel) rfl rfl [(0, .ref (A k))] rfl (Nat.le_of_ble_eq_true rfl) ?_
  intro κ hκl hnm C hK sz F
  subst hκl
  unfold wX0_turnsNow at hw
  refine g_aload_n C 0 rfl rfl dX0_turnsNow_0 ?_
  refine g_aload_n C 0 rfl rfl dX0_turnsNow_1 ?_
  refine g_get C hK inX0 rfl k (ga_c cy A _ hk) 0 (by decide) (fun _ h => h) wt_37 rfl dX0_turnsNow_2 ?_
  refine gc_I C (gr_V (As := [.int (σ.1 k 0)]) (rest := []) C hK 1 (gd_V wt_146 wt_147 wt_148 wt_3 wt_149) rfl rfl rfl ⟨rfl, hs_X0_turnsAt⟩ ⟨⟨Nat.le_of_ble_eq_true rfl, Nat.le_of_ble_eq_true rfl⟩, Nat.le_of_ble_eq_true rfl, Nat.le_of_ble_eq_true rfl⟩ rfl k (ga_c cy A _ hk) rfl rfl (Nat.le_of_ble_eq_true rfl) dX0_turnsNow_5 (c_X0_turnsAt (q_l κ) (q_D κ) cy A hk hw)) (fun r2 σ1 hw => ?_)
  exact gq_I C F (by decide) (by decide) hw dX0_turnsNow_8
set_option maxHeartbeats 4000000 in
set_option maxRecDepth 100000 in
theorem c_X0_armAt (l : Launch) (D : va_G) (cy : Nat → ClassId) (A : Nat → Nat) {σ : St} {k : Nat} (hk : isC k) {v1 : Int32} {v2 : Int32} {v3 : Int32} {v4 : Int32} {Φ : Int32 → St → Prop} (hw : wX0_armAt σ k v1 v2 v3 v4 Φ) : CtI l yX0_armAt (.code yX0_armAt cX0_armAt 7 (some .int) :: gL) rm_X0_armAt 0 0 [.ref (A k), .int v1, .int v2, .int v3, .int v4] D cy A σ Φ := by
  refine ct_any (fun sz => va_Qi Φ (HE D cy A (gZ cy A σ sz)) (gZ cy A σ sz)) (by decide +kernel) rfl rfl [(0, .ref (A k)), (1, .int v1), (2, .int v2), (3, .int v3), (4, .int v4)] rfl (Nat.le_of_ble_eq_true rfl) ?_
  intro κ hκl hnm C hK sz F
  subst hκl
  have J22 : ∀ (σ : St) (v1 : Int32) (v2 : Int32) (s0 : Int32), wX0_armAt_22 k Φ σ v1 v2 s0 → GW κ 0 0 (gW cy A σ) 22 [(1, .int v1), (2, .int v2)] [.int s0] := by
    intro σ v1 v2 s0 hw
    unfold wX0_armAt_22 at hw
    refine g_istore C [(6, .int s0), (1, .int v1), (2, .int v2)] F.2.2.2.1 (by decide) rfl dX0_armAt_22 ?_
    refine g_iload_n C 1 rfl rfl dX0_armAt_24 ?_
    refine g_if_ne C 33 (by decide) hw dX0_armAt_25 (fun hw => ?_) (fun hw => ?_)
    · refine g_iload_n C 2 rfl rfl dX0_armAt_33 ?_
      refine g_iload C 0 rfl dX0_armAt_34 ?_
      refine g_isub C dX0_armAt_36 ?_
      exact gq_I C F (by decide) (by decide) hw dX0_armAt_37
    · refine g_iload C 0 rfl dX0_armAt_28 ?_
      refine g_goto C 37 (by decide) dX0_armAt_30 ?_
      exact gq_I C F (by decide) (by decide) hw dX0_armAt_37
  unfold wX0_armAt at hw
  refine g_iload_n C 3 rfl rfl dX0_armAt_0 ?_
  refine g_iload C 4 rfl dX0_armAt_1 ?_
  refine g_iadd C dX0_armAt_3 ?_
  refine g_istore C [(5, .int (v3 + v4)), (0, .ref (A k)), (1, .int v1), (2, .int v2), (3, .int v3), (4, .int v4)] F.2.2.2.1 (by decide) rfl dX0_armAt_4 ?_
  refine g_iload C 0 rfl dX0_armAt_6 ?_
  refine g_if_le C 21 (by decide) hw dX0_armAt_8 (fun hw => ?_) (fun hw => ?_)
  · refine g_iconst (v := (0 : Int32)) C dX0_armAt_21 (by decide) ?_
    refine g_eql (lv' := [(1, .int v1), (2, .int v2)]) [2, 3] rfl ?_
    exact J22 σ v1 v2 (0 : Int32) hw
  · refine g_iload_n C 3 rfl rfl dX0_armAt_11 ?_
    refine g_iload C 5 rfl dX0_armAt_12 ?_
    refine g_imul C dX0_armAt_14 ?_
    refine g_iload C 0 rfl dX0_armAt_15 ?_
    refine g_idiv C hw.1 dX0_armAt_17 ?_
    replace hw := hw.2
    refine g_goto C 22 (by decide) dX0_armAt_18 ?_
    refine g_eql (lv' := [(1, .int v1), (2, .int v2)]) [2, 3] rfl ?_
    exact J22 σ v1 v2 ((v2 * v4) / (v3 + v4)) hw
set_option maxHeartbeats 4000000 in
set_option maxRecDepth 100000 in
theorem c_X0_floorAt (l : Launch) (D : va_G) (cy : Nat → ClassId) (A : Nat → Nat) {σ : St} {k : Nat} (hk : isC k) {v1 : Int32} {v2 : Int32} {v3 : Int32} {v4 : Int32} {Φ : Int32 → St → Prop} (hw : wX0_floorAt σ k v1 v2 v3 v4 Φ) : CtI l yX0_floorAt (.code yX0_floorAt cX0_floorAt 6 (some .int) :: gL) rm_X0_floorAt 0 0 [.ref (A k), .int v1, .int v2, .int v3, .int v4] D cy A σ Φ := by
  refine ct_any (fun sz => va_Qi Φ (HE D cy A (gZ cy A σ sz)) (gZ cy A σ sz)) (by decide +kernel) rfl rfl [(0, .ref (A k)), (1, .int v1), (2, .int v2), (3, .int v3), (4, .int v4)] rfl (Nat.le_of_ble_eq_true rfl) ?_
  intro κ hκl hnm C hK sz F
  subst hκl
  unfold wX0_floorAt at hw
  refine g_aload_n C 0 rfl rfl dX0_floorAt_0 ?_
  refine g_iload_n C 2 rfl rfl dX0_floorAt_1 ?_
  refine gc_I C (gr_V (As := [.int v2]) (rest := []) C hK 1 (gd_V wt_146 wt_147 wt_148 wt_3 wt_149) rfl rfl rfl ⟨rfl, hs_X0_turnsAt⟩ ⟨⟨Nat.le_of_ble_eq_true rfl, Nat.le_of_ble_eq_true rfl⟩, Nat.le_of_ble_eq_true rfl, Nat.le_of_ble_eq_true rfl⟩ rfl k (ga_c cy A _ hk) rfl rfl (Nat.le_of_ble_eq_true rfl) dX0_floorAt_2 (c_X0_turnsAt (q_l κ) (q_D κ) cy A hk hw)) (fun r2 σ1 hw => ?_)
  refine g_istore C [(5, .int r2), (0, .ref (A k)), (1, .int v1), (2, .int v2), (3, .int v3), (4, .int v4)] F.2.2.2.1 (by decide) rfl dX0_floorAt_5 ?_
  refine g_aload_n C 1 rfl rfl dX0_floorAt_7 ?_
  refine g_iload_n C 2 rfl rfl dX0_floorAt_8 ?_
  refine g_iload_n C 3 rfl rfl dX0_floorAt_9 ?_
  refine g_iload_n C 4 rfl rfl dX0_floorAt_10 ?_
  refine g_iload C 5 rfl dX0_floorAt_11 ?_
  refine gc_I C (gr_V (As := [.int v1, .int v2, .int v3, .int v4]) (rest := []) C hK 4 (gd_V wt_134 wt_135 wt_136 wt_3 wt_137) rfl rfl rfl ⟨rfl, hs_X0_armAt⟩ ⟨⟨Nat.le_of_ble_eq_true rfl, Nat.le_of_ble_eq_true rfl⟩, Nat.le_of_ble_eq_true rfl, Nat.le_of_ble_eq_true rfl⟩ rfl k (ga_c cy A _ hk) rfl rfl (Nat.le_of_ble_eq_true rfl) dX0_floorAt_13 (c_X0_armAt (q_l κ) (q_D κ) cy A hk hw)) (fun r4 σ3 hw => ?_)
  refine g_iload C 0 rfl dX0_floorAt_16 ?_
  refine g_imul C dX0_floorAt_18 ?_
  refine g_iload C 0 rfl dX0_floorAt_19 ?_
  refine g_imul C dX0_floorAt_21 ?_
  exact gq_I C F (by decide) (by decide) hw dX0_floorAt_22
set_option maxHeartbeats 4000000 in
set_option maxRecDepth 100000 in
theorem c_X0_strainBy (l : Launch) (D : va_G) (cy : Nat → ClassId) (A : Nat → Nat) {σ : St} {k : Nat} (hk : isC k) {v1 : Int32} {v2 : Int32} {Φ : Int32 → St → Prop} (hw : wX0_strainBy σ k v1 v2 Φ) : CtI l yX0_strainBy (.code yX0_strainBy cX0_strainBy 3 (some .int) :: gL) rm_X0_strainBy 0 0 [.ref (A k), .int v1, .int v2] D cy A σ Φ := by
  refine ct_any (fun sz => va_Qi Φ (HE D cy A (gZ cy A σ sz)) (gZ cy A σ sz)) (by decide +kernel) rfl rfl [(0, .ref (A k)), (1, .int v1), (2, .int v2)] rfl (Nat.le_of_ble_eq_true rfl) ?_
  intro κ hκl hnm C hK sz F
  subst hκl
  unfold wX0_strainBy at hw
  refine g_iload_n C 1 rfl rfl dX0_strainBy_0 ?_
  refine g_iload_n C 2 rfl rfl dX0_strainBy_1 ?_
  refine g_imul C dX0_strainBy_2 ?_
  refine g_bipush (v := (100 : Int32)) C dX0_strainBy_3 (by decide) ?_
  refine g_idiv C hw.1 dX0_strainBy_5 ?_
  replace hw := hw.2
  exact gq_I C F (by decide) (by decide) hw dX0_strainBy_6
set_option maxHeartbeats 4000000 in
set_option maxRecDepth 100000 in
theorem c_X1_weighs (l : Launch) (D : va_G) (cy : Nat → ClassId) (A : Nat → Nat) {σ : St} {a0 : Nat} {v1 : Int32} {Φ : Int32 → St → Prop} (hw : wX1_weighs σ a0 v1 Φ) : CtI l yX1_weighs (.code yX1_weighs cX1_weighs 2 (some .int) :: gL) rm_X1_weighs 0 0 [.ref a0, .int v1] D cy A σ Φ := by
  refine ct_any (fun sz => va_Qi Φ (HE D cy A (gZ cy A σ sz)) (gZ cy A σ sz)) (by decide +kernel) rfl rfl [(0, .ref a0), (1, .int v1)] rfl (Nat.le_of_ble_eq_true rfl) ?_
  intro κ hκl hnm C hK sz F
  subst hκl
  unfold wX1_weighs at hw
  refine g_aload_n C 0 rfl rfl dX1_weighs_0 ?_
  refine g_getT0 C hK hw.1 (fun x9 h9 => u_same (C.2.2.2.2.1 _ wt_384) x9 h9) wt_383 dX1_weighs_1 ?_
  replace hw := hw.2
  refine g_iconst (v := (2 : Int32)) C dX1_weighs_4 (by decide) ?_
  refine g_iadd C dX1_weighs_5 ?_
  exact gq_I C F (by decide) (by decide) hw dX1_weighs_6
set_option maxHeartbeats 4000000 in
set_option maxRecDepth 100000 in
theorem c_X4_weighs (l : Launch) (D : va_G) (cy : Nat → ClassId) (A : Nat → Nat) {σ : St} {a0 : Nat} {v1 : Int32} {Φ : Int32 → St → Prop} (hw : wX4_weighs σ a0 v1 Φ) : CtI l yX4_weighs (.code yX4_weighs cX4_weighs 2 (some .int) :: gL) rm_X4_weighs 0 0 [.ref a0, .int v1] D cy A σ Φ := by
  refine ct_any (fun sz => va_Qi Φ (HE D cy A (gZ cy A σ sz)) (gZ cy A σ sz)) (by decide +kernel) rfl rfl [(0, .ref a0), (1, .int v1)] rfl (Nat.le_of_ble_eq_true rfl) ?_
  intro κ hκl hnm C hK sz F
  subst hκl
  unfold wX4_weighs at hw
  refine g_aload_n C 0 rfl rfl dX4_weighs_0 ?_
  refine g_getT0 C hK hw.1 (fun x9 h9 => u_same (C.2.2.2.2.1 _ wt_386) x9 h9) wt_385 dX4_weighs_1 ?_
  replace hw := hw.2
  refine g_iconst (v := (2 : Int32)) C dX4_weighs_4 (by decide) ?_
  refine g_iload_n C 1 rfl rfl dX4_weighs_5 ?_
  refine g_aload_n C 0 rfl rfl dX4_weighs_6 ?_
  refine g_getT1 C hK hw.1 (fun x9 h9 => u_same (C.2.2.2.2.1 _ wt_394) x9 h9) wt_393 dX4_weighs_7 ?_
  replace hw := hw.2
  refine g_isub C dX4_weighs_10 ?_
  refine g_bipush (v := (6 : Int32)) C dX4_weighs_11 (by decide) ?_
  refine g_idiv C hw.1 dX4_weighs_13 ?_
  replace hw := hw.2
  refine g_imul C dX4_weighs_14 ?_
  refine g_iadd C dX4_weighs_15 ?_
  exact gq_I C F (by decide) (by decide) hw dX4_weighs_16
set_option maxHeartbeats 4000000 in
set_option maxRecDepth 100000 in
theorem c_X5_weighs (l : Launch) (D : va_G) (cy : Nat → ClassId) (A : Nat → Nat) {σ : St} {a0 : Nat} {v1 : Int32} {Φ : Int32 → St → Prop} (hw : wX5_weighs σ a0 v1 Φ) : CtI l yX5_weighs (.code yX5_weighs cX5_weighs 2 (some .int) :: gL) rm_X5_weighs 0 0 [.ref a0, .int v1] D cy A σ Φ := by
  refine ct_any (fun sz => va_Qi Φ (HE D cy A (gZ cy A σ sz)) (gZ cy A σ sz)) (by decide +kernel) rfl rfl [(0, .ref a0), (1, .int v1)] rfl (Nat.le_of_ble_eq_true rfl) ?_
  intro κ hκl hnm C hK sz F
  subst hκl
  unfold wX5_weighs at hw
  refine g_aload_n C 0 rfl rfl dX5_weighs_0 ?_
  refine g_getT0 C hK hw.1 (fun x9 h9 => u_same (C.2.2.2.2.1 _ wt_388) x9 h9) wt_387 dX5_weighs_1 ?_
  replace hw := hw.2
  refine g_iload_n C 1 rfl rfl dX5_weighs_4 ?_
  refine g_aload_n C 0 rfl rfl dX5_weighs_5 ?_
  refine g_getT1 C hK hw.1 (fun x9 h9 => u_same (C.2.2.2.2.1 _ wt_392) x9 h9) wt_391 dX5_weighs_6 ?_
  replace hw := hw.2
  refine g_isub C dX5_weighs_9 ?_
  refine g_bipush (v := (6 : Int32)) C dX5_weighs_10 (by decide) ?_
  refine g_idiv C hw.1 dX5_weighs_12 ?_
  replace hw := hw.2
  refine g_iadd C dX5_weighs_13 ?_
  exact gq_I C F (by decide) (by decide) hw dX5_weighs_14
set_option maxHeartbeats 4000000 in
set_option maxRecDepth 100000 in
theorem c_X6_at (l : Launch) (D : va_G) (cy : Nat → ClassId) (A : Nat → Nat) {σ : St} {v1 : Int32} {Φ : Option Nat → St → Prop} (hw : wX6_at σ v1 Φ) : CtQ l yX6_at (.code yX6_at cX6_at 2 (some (.object "TwoOnACable$Thing")) :: gL) rm_X6_at 0 0 [.ref (A 4), .int v1] D cy A σ Φ := by
  refine ct_any (fun sz => va_Qq Φ (HE D cy A (gZ cy A σ sz)) (gZ cy A σ sz)) (by decide +kernel) rfl rfl [(0, .ref (A 4)), (1, .int v1)] rfl (Nat.le_of_ble_eq_true rfl) ?_
  intro κ hκl hnm C hK sz F
  subst hκl
  unfold wX6_at at hw
  refine g_iload_n C 1 rfl rfl dX6_at_0 ?_
  refine g_if_lt C 30 (by decide) hw dX6_at_1 (fun hw => ?_) (fun hw => ?_)
  · refine g_null C dX6_at_30 ?_
    exact gq_Q (r := none) C F (by decide) (by decide) hw dX6_at_31
  · refine g_iload_n C 1 rfl rfl dX6_at_4 ?_
    refine g_aload_n C 0 rfl rfl dX6_at_5 ?_
    refine g_get C hK inX6 rfl 4 (ga_4 cy A _) 2 (by decide) (fun _ h => h) wt_59 rfl dX6_at_6 ?_
    refine g_icmp_ge C 30 (by decide) hw dX6_at_9 (fun hw => ?_) (fun hw => ?_)
    · refine g_null C dX6_at_30 ?_
      exact gq_Q (r := none) C F (by decide) (by decide) hw dX6_at_31
    · refine g_iload_n C 1 rfl rfl dX6_at_12 ?_
      refine g_aload_n C 0 rfl rfl dX6_at_13 ?_
      refine g_get C hK inX6 rfl 4 (ga_4 cy A _) 0 (by decide) (fun _ h => h) wt_57 rfl dX6_at_14 ?_
      refine g_alen (v := 6) C hK 5 3 (ga_5 cy A _) rfl rfl dX6_at_17 ?_
      refine g_icmp_ge C 30 (by decide) hw dX6_at_18 (fun hw => ?_) (fun hw => ?_)
      · refine g_null C dX6_at_30 ?_
        exact gq_Q (r := none) C F (by decide) (by decide) hw dX6_at_31
      · refine g_aload_n C 0 rfl rfl dX6_at_21 ?_
        refine g_get C hK inX6 rfl 4 (ga_4 cy A _) 0 (by decide) (fun _ h => h) wt_57 rfl dX6_at_22 ?_
        refine g_iload_n C 1 rfl rfl dX6_at_25 ?_
        refine g_aald C hK 5 3 (ga_5 cy A _) rfl hw.1 dX6_at_26 ?_
        replace hw := hw.2
        refine g_goto C 31 (by decide) dX6_at_27 ?_
        exact gq_Q (r := (σ.2.2.1 v1.toNatClampNeg)) C F (by decide) (by decide) hw dX6_at_31
set_option maxHeartbeats 4000000 in
set_option maxRecDepth 100000 in
theorem c_X9_weighs (l : Launch) (D : va_G) (cy : Nat → ClassId) (A : Nat → Nat) {σ : St} {a0 : Nat} {v1 : Int32} {Φ : Int32 → St → Prop} (hw : wX9_weighs σ a0 v1 Φ) : CtI l yX9_weighs (.code yX9_weighs cX9_weighs 2 (some .int) :: gL) rm_X9_weighs 0 0 [.ref a0, .int v1] D cy A σ Φ := by
  refine ct_any (fun sz => va_Qi Φ (HE D cy A (gZ cy A σ sz)) (gZ cy A σ sz)) (by decide +kernel) rfl rfl [(0, .ref a0), (1, .int v1)] rfl (Nat.le_of_ble_eq_true rfl) ?_
  intro κ hκl hnm C hK sz F
  subst hκl
  unfold wX9_weighs at hw
  refine g_aload_n C 0 rfl rfl dX9_weighs_0 ?_
  refine g_getT0 C hK hw.1 (fun _ h => h) wt_382 dX9_weighs_1 ?_
  replace hw := hw.2
  exact gq_I C F (by decide) (by decide) hw dX9_weighs_4
set_option maxHeartbeats 4000000 in
set_option maxRecDepth 100000 in
theorem c_X6_weighsIn (l : Launch) (D : va_G) (cy : Nat → ClassId) (A : Nat → Nat) {σ : St} {v1 : Int32} {v2 : Int32} {Φ : Int32 → St → Prop} (hw : wX6_weighsIn σ v1 v2 Φ) : CtI l yX6_weighsIn (.code yX6_weighsIn cX6_weighsIn 6 (some .int) :: gL) rm_X6_weighsIn 0 0 [.ref (A 4), .int v1, .int v2] D cy A σ Φ := by
  refine ct_any (fun sz => va_Qi Φ (HE D cy A (gZ cy A σ sz)) (gZ cy A σ sz)) (by decide +kernel) rfl rfl [(0, .ref (A 4)), (1, .int v1), (2, .int v2)] rfl (Nat.le_of_ble_eq_true rfl) ?_
  intro κ hκl hnm C hK sz F
  subst hκl
  have J46 : ∀ (K6 : St → Int32 → Int32 → Int32 → Int32 → Prop) (_ : ∀ (σ : St) (v1 : Int32) (v2 : Int32) (v3 : Int32) (v4 : Int32), K6 σ v1 v2 v3 v4 → GW κ 0 0 (gW cy A σ) 6 [(0, .ref (A 4)), (1, .int v1), (2, .int v2), (3, .int v3), (4, .int v4)] []), ∀ (σ : St) (v1 : Int32) (v2 : Int32) (v3 : Int32) (v4 : Int32), wX6_weighsIn_46 K6 Φ σ v1 v2 v3 v4 → GW κ 0 0 (gW cy A σ) 46 [(0, .ref (A 4)), (1, .int v1), (2, .int v2), (3, .int v3), (4, .int v4)] [] := by
    intro K6 hK6 σ v1 v2 v3 v4 hw
    unfold wX6_weighsIn_46 at hw
    refine g_iinc (j := 4) C [(4, .int (v4 + 1)), (0, .ref (A 4)), (1, .int v1), (2, .int v2), (3, .int v3)] F.2.2.2.1 rfl rfl (by decide) rfl dX6_weighsIn_46 ?_
    refine g_goto C 6 (by decide) dX6_weighsIn_49 ?_
    refine g_eql (lv' := [(0, .ref (A 4)), (1, .int v1), (2, .int v2), (3, .int v3), (4, .int (v4 + 1))]) [1, 2, 3, 4, 0] rfl ?_
    exact hK6 σ v1 v2 v3 (v4 + 1) hw
  have J6 : ∀ (n : Nat) (σ : St) (v1 : Int32) (v2 : Int32) (v3 : Int32) (v4 : Int32), wX6_weighsIn_6 Φ n σ v1 v2 v3 v4 → GW κ 0 0 (gW cy A σ) 6 [(0, .ref (A 4)), (1, .int v1), (2, .int v2), (3, .int v3), (4, .int v4)] [] := by
    intro n
    induction n with
    | zero => intro σ v1 v2 v3 v4 hw; exact hw.elim
    | succ n ih =>
      intro σ v1 v2 v3 v4 hw
      rw [wX6_weighsIn_6] at hw
      refine g_iload C 4 rfl dX6_weighsIn_6 ?_
      refine g_aload_n C 0 rfl rfl dX6_weighsIn_8 ?_
      refine g_get C hK inX6 rfl 4 (ga_4 cy A _) 2 (by decide) (fun _ h => h) wt_59 rfl dX6_weighsIn_9 ?_
      refine g_icmp_ge C 52 (by decide) hw dX6_weighsIn_12 (fun hw => ?_) (fun hw => ?_)
      · refine g_iload_n C 3 rfl rfl dX6_weighsIn_52 ?_
        exact gq_I C F (by decide) (by decide) hw dX6_weighsIn_53
      · refine g_aload_n C 0 rfl rfl dX6_weighsIn_15 ?_
        refine g_iload C 4 rfl dX6_weighsIn_16 ?_
        refine gc_Q C (gr_V (As := [.int v4]) (rest := []) C hK 1 (gd_V wt_110 wt_111 wt_112 wt_4 wt_113) rfl rfl rfl ⟨rfl, hs_X6_at⟩ ⟨⟨Nat.le_of_ble_eq_true rfl, Nat.le_of_ble_eq_true rfl⟩, Nat.le_of_ble_eq_true rfl, Nat.le_of_ble_eq_true rfl⟩ rfl 4 (ga_4 cy A _) rfl rfl (Nat.le_of_ble_eq_true rfl) dX6_weighsIn_18 (c_X6_at (q_l κ) (q_D κ) cy A hw)) (fun r2 σ1 hw => ?_)
        refine g_rstore C [(5, va_rf r2), (0, .ref (A 4)), (1, .int v1), (2, .int v2), (3, .int v3), (4, .int v4)] F.2.2.2.1 (by decide) rfl dX6_weighsIn_21 ?_
        refine g_rload C 0 rfl dX6_weighsIn_23 ?_
        refine g_ifnull C 46 (by decide) hw dX6_weighsIn_25 (fun hw1 e9 => ?_) (fun b3 e9 hw1 => ?_)
        · subst e9
          replace hw := hw1
          refine g_eql (lv' := [(0, .ref (A 4)), (1, .int v1), (2, .int v2), (3, .int v3), (4, .int v4)]) [1, 2, 3, 4, 5] rfl ?_
          exact J46 _ ih σ1 v1 v2 v3 v4 hw
        · subst e9
          replace hw := hw1
          refine g_aload C 0 rfl dX6_weighsIn_28 ?_
          refine g_getT2 C hK hw.1 (fun _ h => h) wt_396 dX6_weighsIn_30 ?_
          replace hw := hw.2
          refine g_iload_n C 2 rfl rfl dX6_weighsIn_33 ?_
          refine g_icmp_ne C 46 (by decide) hw dX6_weighsIn_34 (fun hw => ?_) (fun hw => ?_)
          · refine g_eql (lv' := [(0, .ref (A 4)), (1, .int v1), (2, .int v2), (3, .int v3), (4, .int v4)]) [1, 2, 3, 4, 5] rfl ?_
            exact J46 _ ih σ1 v1 v2 v3 v4 hw
          · refine g_iload_n C 4 rfl rfl dX6_weighsIn_37 ?_
            refine g_aload C 0 rfl dX6_weighsIn_38 ?_
            refine g_iload_n C 3 rfl rfl dX6_weighsIn_40 ?_
            have hn : ∀ (r4 : Int32) (σ5 : St), (wX6_weighsIn_46 (wX6_weighsIn_6 Φ n) Φ σ5 v1 v2 (v3 + r4) v4) → GW κ 0 0 (gW cy A σ5) 44 [(5, .ref b3), (0, .ref (A 4)), (1, .int v1), (2, .int v2), (3, .int v3), (4, .int v4)] [.int r4, .int v3] := by
              intro r4 σ5 hw
              refine g_iadd C dX6_weighsIn_44 ?_
              refine g_istore_n C [(3, .int (v3 + r4)), (5, .ref b3), (0, .ref (A 4)), (1, .int v1), (2, .int v2), (4, .int v4)] F.2.2.2.1 rfl (by decide) rfl dX6_weighsIn_45 ?_
              refine g_eql (lv' := [(0, .ref (A 4)), (1, .int v1), (2, .int v2), (3, .int (v3 + r4)), (4, .int v4)]) [2, 3, 4, 0, 5] rfl ?_
              exact J46 _ ih σ5 v1 v2 (v3 + r4) v4 hw
            obtain ⟨h8, hw⟩ := hw
            rcases hw with ⟨h9, hw⟩ | ⟨h9, hw⟩ | ⟨h9, hw⟩ | ⟨h9, hw⟩ | ⟨h9, hw⟩
            · obtain ⟨q9, -, h9⟩ := ga_T cy A _ h8 h9
              exact gc_I C (gr_O (As := [.int v2]) (rest := [.int v3]) C hK 1 (gd_O wt_114 wt_117 wt_115 wt_118 wt_119 wt_10 wt_120) rfl rfl rfl wt_128 hs_X9_weighs ⟨⟨Nat.le_of_ble_eq_true rfl, Nat.le_of_ble_eq_true rfl⟩, Nat.le_of_ble_eq_true rfl, Nat.le_of_ble_eq_true rfl⟩ rfl q9 h9 rfl rfl (Nat.le_of_ble_eq_true rfl) dX6_weighsIn_41 (c_X1_weighs (q_l κ) (q_D κ) cy A hw)) hn
            · obtain ⟨q9, -, h9⟩ := ga_T cy A _ h8 h9
              exact gc_I C (gr_U (As := [.int v2]) (rest := [.int v3]) C hK 1 (gd_U wt_114 wt_117 wt_121 wt_115 wt_9 wt_128) rfl rfl rfl rfl hs_X9_weighs ⟨⟨Nat.le_of_ble_eq_true rfl, Nat.le_of_ble_eq_true rfl⟩, Nat.le_of_ble_eq_true rfl, Nat.le_of_ble_eq_true rfl⟩ rfl q9 h9 rfl rfl (Nat.le_of_ble_eq_true rfl) dX6_weighsIn_41 (c_X9_weighs (q_l κ) (q_D κ) cy A hw)) hn
            · obtain ⟨q9, -, h9⟩ := ga_T cy A _ h8 h9
              exact gc_I C (gr_O (As := [.int v2]) (rest := [.int v3]) C hK 1 (gd_O wt_114 wt_117 wt_115 wt_122 wt_123 wt_13 wt_124) rfl rfl rfl wt_128 hs_X9_weighs ⟨⟨Nat.le_of_ble_eq_true rfl, Nat.le_of_ble_eq_true rfl⟩, Nat.le_of_ble_eq_true rfl, Nat.le_of_ble_eq_true rfl⟩ rfl q9 h9 rfl rfl (Nat.le_of_ble_eq_true rfl) dX6_weighsIn_41 (c_X4_weighs (q_l κ) (q_D κ) cy A hw)) hn
            · obtain ⟨q9, -, h9⟩ := ga_T cy A _ h8 h9
              exact gc_I C (gr_O (As := [.int v2]) (rest := [.int v3]) C hK 1 (gd_O wt_114 wt_117 wt_115 wt_125 wt_126 wt_12 wt_127) rfl rfl rfl wt_128 hs_X9_weighs ⟨⟨Nat.le_of_ble_eq_true rfl, Nat.le_of_ble_eq_true rfl⟩, Nat.le_of_ble_eq_true rfl, Nat.le_of_ble_eq_true rfl⟩ rfl q9 h9 rfl rfl (Nat.le_of_ble_eq_true rfl) dX6_weighsIn_41 (c_X5_weighs (q_l κ) (q_D κ) cy A hw)) hn
            · obtain ⟨q9, -, h9⟩ := ga_T cy A _ h8 h9
              exact gc_I C (gr_V (As := [.int v2]) (rest := [.int v3]) C hK 1 (gd_V wt_114 wt_115 wt_116 wt_9 wt_128) rfl rfl rfl ⟨rfl, hs_X9_weighs⟩ ⟨⟨Nat.le_of_ble_eq_true rfl, Nat.le_of_ble_eq_true rfl⟩, Nat.le_of_ble_eq_true rfl, Nat.le_of_ble_eq_true rfl⟩ rfl q9 h9 rfl rfl (Nat.le_of_ble_eq_true rfl) dX6_weighsIn_41 (c_X9_weighs (q_l κ) (q_D κ) cy A hw)) hn
  unfold wX6_weighsIn at hw
  refine g_bipush (v := (10 : Int32)) C dX6_weighsIn_0 (by decide) ?_
  refine g_istore_n C [(3, .int (10 : Int32)), (0, .ref (A 4)), (1, .int v1), (2, .int v2)] F.2.2.2.1 rfl (by decide) rfl dX6_weighsIn_2 ?_
  refine g_iconst (v := (0 : Int32)) C dX6_weighsIn_3 (by decide) ?_
  refine g_istore C [(4, .int (0 : Int32)), (3, .int (10 : Int32)), (0, .ref (A 4)), (1, .int v1), (2, .int v2)] F.2.2.2.1 (by decide) rfl dX6_weighsIn_4 ?_
  refine g_eql (lv' := [(0, .ref (A 4)), (1, .int v1), (2, .int v2), (3, .int (10 : Int32)), (4, .int (0 : Int32))]) [2, 3, 4, 1, 0] rfl ?_
  obtain ⟨n0, hw⟩ := hw
  exact J6 n0 σ v1 v2 (10 : Int32) (0 : Int32) hw
set_option maxHeartbeats 4000000 in
set_option maxRecDepth 100000 in
theorem c_X0_armNow (l : Launch) (D : va_G) (cy : Nat → ClassId) (A : Nat → Nat) {σ : St} {k : Nat} (hk : isC k) {v1 : Int32} {Φ : Int32 → St → Prop} (hw : wX0_armNow σ k v1 Φ) : CtI l yX0_armNow (.code yX0_armNow cX0_armNow 3 (some .int) :: gL) rm_X0_armNow 0 0 [.ref (A k), .int v1, .ref (A 4)] D cy A σ Φ := by
  refine ct_any (fun sz => va_Qi Φ (HE D cy A (gZ cy A σ sz)) (gZ cy A σ sz)) (by decide +kernel) rfl rfl [(0, .ref (A k)), (1, .int v1), (2, .ref (A 4))] rfl (Nat.le_of_ble_eq_true rfl) ?_
  intro κ hκl hnm C hK sz F
  subst hκl
  unfold wX0_armNow at hw
  refine g_aload_n C 0 rfl rfl dX0_armNow_0 ?_
  refine g_iload_n C 1 rfl rfl dX0_armNow_1 ?_
  refine g_aload_n C 0 rfl rfl dX0_armNow_2 ?_
  refine g_get C hK inX0 rfl k (ga_c cy A _ hk) 0 (by decide) (fun _ h => h) wt_37 rfl dX0_armNow_3 ?_
  refine g_aload_n C 2 rfl rfl dX0_armNow_6 ?_
  refine g_iconst (v := (0 : Int32)) C dX0_armNow_7 (by decide) ?_
  refine g_aload_n C 0 rfl rfl dX0_armNow_8 ?_
  refine g_get C hK inX0 rfl k (ga_c cy A _ hk) 4 (by decide) (fun _ h => h) wt_45 rfl dX0_armNow_9 ?_
  refine gc_I C (gr_V (As := [.int (0 : Int32), .int (σ.1 k 4)]) (rest := [.int (σ.1 k 0), .int v1, .ref (A k)]) C hK 2 (gd_V wt_133 wt_107 wt_108 wt_4 wt_109) rfl rfl rfl ⟨rfl, hs_X6_weighsIn⟩ ⟨⟨Nat.le_of_ble_eq_true rfl, Nat.le_of_ble_eq_true rfl⟩, Nat.le_of_ble_eq_true rfl, Nat.le_of_ble_eq_true rfl⟩ rfl 4 (ga_4 cy A _) rfl rfl (Nat.le_of_ble_eq_true rfl) dX0_armNow_12 (c_X6_weighsIn (q_l κ) (q_D κ) cy A hw)) (fun r2 σ1 hw => ?_)
  refine g_aload_n C 2 rfl rfl dX0_armNow_15 ?_
  refine g_iconst (v := (1 : Int32)) C dX0_armNow_16 (by decide) ?_
  refine g_aload_n C 0 rfl rfl dX0_armNow_17 ?_
  refine g_get C hK inX0 rfl k (ga_c cy A _ hk) 4 (by decide) (fun _ h => h) wt_45 rfl dX0_armNow_18 ?_
  refine gc_I C (gr_V (As := [.int (1 : Int32), .int (σ1.1 k 4)]) (rest := [.int r2, .int (σ.1 k 0), .int v1, .ref (A k)]) C hK 2 (gd_V wt_133 wt_107 wt_108 wt_4 wt_109) rfl rfl rfl ⟨rfl, hs_X6_weighsIn⟩ ⟨⟨Nat.le_of_ble_eq_true rfl, Nat.le_of_ble_eq_true rfl⟩, Nat.le_of_ble_eq_true rfl, Nat.le_of_ble_eq_true rfl⟩ rfl 4 (ga_4 cy A _) rfl rfl (Nat.le_of_ble_eq_true rfl) dX0_armNow_21 (c_X6_weighsIn (q_l κ) (q_D κ) cy A hw)) (fun r4 σ3 hw => ?_)
  refine gc_I C (gr_V (As := [.int v1, .int (σ.1 k 0), .int r2, .int r4]) (rest := []) C hK 4 (gd_V wt_134 wt_135 wt_136 wt_3 wt_137) rfl rfl rfl ⟨rfl, hs_X0_armAt⟩ ⟨⟨Nat.le_of_ble_eq_true rfl, Nat.le_of_ble_eq_true rfl⟩, Nat.le_of_ble_eq_true rfl, Nat.le_of_ble_eq_true rfl⟩ rfl k (ga_c cy A _ hk) rfl rfl (Nat.le_of_ble_eq_true rfl) dX0_armNow_24 (c_X0_armAt (q_l κ) (q_D κ) cy A hk hw)) (fun r6 σ5 hw => ?_)
  exact gq_I C F (by decide) (by decide) hw dX0_armNow_27
set_option maxHeartbeats 4000000 in
set_option maxRecDepth 100000 in
theorem c_X0_floorNow (l : Launch) (D : va_G) (cy : Nat → ClassId) (A : Nat → Nat) {σ : St} {k : Nat} (hk : isC k) {v1 : Int32} {Φ : Int32 → St → Prop} (hw : wX0_floorNow σ k v1 Φ) : CtI l yX0_floorNow (.code yX0_floorNow cX0_floorNow 3 (some .int) :: gL) rm_X0_floorNow 0 0 [.ref (A k), .int v1, .ref (A 4)] D cy A σ Φ := by
  refine ct_any (fun sz => va_Qi Φ (HE D cy A (gZ cy A σ sz)) (gZ cy A σ sz)) (by decide +kernel) rfl rfl [(0, .ref (A k)), (1, .int v1), (2, .ref (A 4))] rfl (Nat.le_of_ble_eq_true rfl) ?_
  intro κ hκl hnm C hK sz F
  subst hκl
  unfold wX0_floorNow at hw
  refine g_aload_n C 0 rfl rfl dX0_floorNow_0 ?_
  refine g_iload_n C 1 rfl rfl dX0_floorNow_1 ?_
  refine g_aload_n C 0 rfl rfl dX0_floorNow_2 ?_
  refine g_get C hK inX0 rfl k (ga_c cy A _ hk) 0 (by decide) (fun _ h => h) wt_37 rfl dX0_floorNow_3 ?_
  refine g_aload_n C 2 rfl rfl dX0_floorNow_6 ?_
  refine g_iconst (v := (0 : Int32)) C dX0_floorNow_7 (by decide) ?_
  refine g_aload_n C 0 rfl rfl dX0_floorNow_8 ?_
  refine g_get C hK inX0 rfl k (ga_c cy A _ hk) 4 (by decide) (fun _ h => h) wt_45 rfl dX0_floorNow_9 ?_
  refine gc_I C (gr_V (As := [.int (0 : Int32), .int (σ.1 k 4)]) (rest := [.int (σ.1 k 0), .int v1, .ref (A k)]) C hK 2 (gd_V wt_133 wt_107 wt_108 wt_4 wt_109) rfl rfl rfl ⟨rfl, hs_X6_weighsIn⟩ ⟨⟨Nat.le_of_ble_eq_true rfl, Nat.le_of_ble_eq_true rfl⟩, Nat.le_of_ble_eq_true rfl, Nat.le_of_ble_eq_true rfl⟩ rfl 4 (ga_4 cy A _) rfl rfl (Nat.le_of_ble_eq_true rfl) dX0_floorNow_12 (c_X6_weighsIn (q_l κ) (q_D κ) cy A hw)) (fun r2 σ1 hw => ?_)
  refine g_aload_n C 2 rfl rfl dX0_floorNow_15 ?_
  refine g_iconst (v := (1 : Int32)) C dX0_floorNow_16 (by decide) ?_
  refine g_aload_n C 0 rfl rfl dX0_floorNow_17 ?_
  refine g_get C hK inX0 rfl k (ga_c cy A _ hk) 4 (by decide) (fun _ h => h) wt_45 rfl dX0_floorNow_18 ?_
  refine gc_I C (gr_V (As := [.int (1 : Int32), .int (σ1.1 k 4)]) (rest := [.int r2, .int (σ.1 k 0), .int v1, .ref (A k)]) C hK 2 (gd_V wt_133 wt_107 wt_108 wt_4 wt_109) rfl rfl rfl ⟨rfl, hs_X6_weighsIn⟩ ⟨⟨Nat.le_of_ble_eq_true rfl, Nat.le_of_ble_eq_true rfl⟩, Nat.le_of_ble_eq_true rfl, Nat.le_of_ble_eq_true rfl⟩ rfl 4 (ga_4 cy A _) rfl rfl (Nat.le_of_ble_eq_true rfl) dX0_floorNow_21 (c_X6_weighsIn (q_l κ) (q_D κ) cy A hw)) (fun r4 σ3 hw => ?_)
  refine gc_I C (gr_V (As := [.int v1, .int (σ.1 k 0), .int r2, .int r4]) (rest := []) C hK 4 (gd_V wt_142 wt_143 wt_144 wt_3 wt_145) rfl rfl rfl ⟨rfl, hs_X0_floorAt⟩ ⟨⟨Nat.le_of_ble_eq_true rfl, Nat.le_of_ble_eq_true rfl⟩, Nat.le_of_ble_eq_true rfl, Nat.le_of_ble_eq_true rfl⟩ rfl k (ga_c cy A _ hk) rfl rfl (Nat.le_of_ble_eq_true rfl) dX0_floorNow_24 (c_X0_floorAt (q_l κ) (q_D κ) cy A hk hw)) (fun r6 σ5 hw => ?_)
  exact gq_I C F (by decide) (by decide) hw dX0_floorNow_27
set_option maxHeartbeats 4000000 in
set_option maxRecDepth 100000 in
theorem c_X0_strainNow (l : Launch) (D : va_G) (cy : Nat → ClassId) (A : Nat → Nat) {σ : St} {k : Nat} (hk : isC k) {Φ : Int32 → St → Prop} (hw : wX0_strainNow σ k Φ) : CtI l yX0_strainNow (.code yX0_strainNow cX0_strainNow 3 (some .int) :: gL) rm_X0_strainNow 0 0 [.ref (A k), .ref (A 4)] D cy A σ Φ := by
  refine ct_any (fun sz => va_Qi Φ (HE D cy A (gZ cy A σ sz)) (gZ cy A σ sz)) (by decide +kernel) rfl rfl [(0, .ref (A k)), (1, .ref (A 4))] rfl (Nat.le_of_ble_eq_true rfl) ?_
  intro κ hκl hnm C hK sz F
  subst hκl
  unfold wX0_strainNow at hw
  refine g_aload_n C 1 rfl rfl dX0_strainNow_0 ?_
  refine g_iconst (v := (0 : Int32)) C dX0_strainNow_1 (by decide) ?_
  refine g_aload_n C 0 rfl rfl dX0_strainNow_2 ?_
  refine g_get C hK inX0 rfl k (ga_c cy A _ hk) 4 (by decide) (fun _ h => h) wt_45 rfl dX0_strainNow_3 ?_
  refine gc_I C (gr_V (As := [.int (0 : Int32), .int (σ.1 k 4)]) (rest := []) C hK 2 (gd_V wt_133 wt_107 wt_108 wt_4 wt_109) rfl rfl rfl ⟨rfl, hs_X6_weighsIn⟩ ⟨⟨Nat.le_of_ble_eq_true rfl, Nat.le_of_ble_eq_true rfl⟩, Nat.le_of_ble_eq_true rfl, Nat.le_of_ble_eq_true rfl⟩ rfl 4 (ga_4 cy A _) rfl rfl (Nat.le_of_ble_eq_true rfl) dX0_strainNow_6 (c_X6_weighsIn (q_l κ) (q_D κ) cy A hw)) (fun r2 σ1 hw => ?_)
  refine g_istore_n C [(2, .int r2), (0, .ref (A k)), (1, .ref (A 4))] F.2.2.2.1 rfl (by decide) rfl dX0_strainNow_9 ?_
  refine g_aload_n C 1 rfl rfl dX0_strainNow_10 ?_
  refine g_iload_n C 0 rfl rfl dX0_strainNow_11 ?_
  refine g_aload_n C 1 rfl rfl dX0_strainNow_12 ?_
  refine g_iconst (v := (0 : Int32)) C dX0_strainNow_13 (by decide) ?_
  refine g_aload_n C 1 rfl rfl dX0_strainNow_14 ?_
  refine g_get C hK inX0 rfl k (ga_c cy A _ hk) 0 (by decide) (fun _ h => h) wt_37 rfl dX0_strainNow_15 ?_
  refine g_iload_n C 0 rfl rfl dX0_strainNow_18 ?_
  refine g_aload_n C 2 rfl rfl dX0_strainNow_19 ?_
  refine g_iconst (v := (1 : Int32)) C dX0_strainNow_20 (by decide) ?_
  refine g_aload_n C 1 rfl rfl dX0_strainNow_21 ?_
  refine g_get C hK inX0 rfl k (ga_c cy A _ hk) 4 (by decide) (fun _ h => h) wt_45 rfl dX0_strainNow_22 ?_
  refine gc_I C (gr_V (As := [.int (1 : Int32), .int (σ1.1 k 4)]) (rest := [.int r2, .int (σ1.1 k 0), .int (0 : Int32), .ref (A k), .int r2, .ref (A k)]) C hK 2 (gd_V wt_133 wt_107 wt_108 wt_4 wt_109) rfl rfl rfl ⟨rfl, hs_X6_weighsIn⟩ ⟨⟨Nat.le_of_ble_eq_true rfl, Nat.le_of_ble_eq_true rfl⟩, Nat.le_of_ble_eq_true rfl, Nat.le_of_ble_eq_true rfl⟩ rfl 4 (ga_4 cy A _) rfl rfl (Nat.le_of_ble_eq_true rfl) dX0_strainNow_25 (c_X6_weighsIn (q_l κ) (q_D κ) cy A hw)) (fun r4 σ3 hw => ?_)
  refine gc_I C (gr_V (As := [.int (0 : Int32), .int (σ1.1 k 0), .int r2, .int r4]) (rest := [.int r2, .ref (A k)]) C hK 4 (gd_V wt_142 wt_143 wt_144 wt_3 wt_145) rfl rfl rfl ⟨rfl, hs_X0_floorAt⟩ ⟨⟨Nat.le_of_ble_eq_true rfl, Nat.le_of_ble_eq_true rfl⟩, Nat.le_of_ble_eq_true rfl, Nat.le_of_ble_eq_true rfl⟩ rfl k (ga_c cy A _ hk) rfl rfl (Nat.le_of_ble_eq_true rfl) dX0_strainNow_28 (c_X0_floorAt (q_l κ) (q_D κ) cy A hk hw)) (fun r6 σ5 hw => ?_)
  refine gc_I C (gr_V (As := [.int r2, .int r6]) (rest := []) C hK 2 (gd_V wt_246 wt_247 wt_248 wt_3 wt_249) rfl rfl rfl ⟨rfl, hs_X0_strainBy⟩ ⟨⟨Nat.le_of_ble_eq_true rfl, Nat.le_of_ble_eq_true rfl⟩, Nat.le_of_ble_eq_true rfl, Nat.le_of_ble_eq_true rfl⟩ rfl k (ga_c cy A _ hk) rfl rfl (Nat.le_of_ble_eq_true rfl) dX0_strainNow_31 (c_X0_strainBy (q_l κ) (q_D κ) cy A hk hw)) (fun r8 σ7 hw => ?_)
  exact gq_I C F (by decide) (by decide) hw dX0_strainNow_34
set_option maxHeartbeats 4000000 in
set_option maxRecDepth 100000 in
theorem c_J9_floorMod_7cf53 (l : Launch) (D : va_G) (cy : Nat → ClassId) (A : Nat → Nat) {σ : St} {v0 : Int32} {v1 : Int32} {Φ : Int32 → St → Prop} (hw : wJ9_floorMod_7cf53 σ v0 v1 Φ) : CtI l yJ9_floorMod_7cf53 (.code yJ9_floorMod_7cf53 cJ9_floorMod_7cf53 3 (some .int) :: gL) rm_J9_floorMod_7cf53 0 0 [.int v0, .int v1] D cy A σ Φ := by
  refine ct_any (fun sz => va_Qi Φ (HE D cy A (gZ cy A σ sz)) (gZ cy A σ sz)) (by decide +kernel) rfl rfl [(0, .int v0), (1, .int v1)] rfl (Nat.le_of_ble_eq_true rfl) ?_
  intro κ hκl hnm C hK sz F
  subst hκl
  unfold wJ9_floorMod_7cf53 at hw
  refine g_iload_n C 0 rfl rfl dJ9_floorMod_7cf53_0 ?_
  refine g_iload_n C 1 rfl rfl dJ9_floorMod_7cf53_1 ?_
  refine g_irem C hw.1 dJ9_floorMod_7cf53_2 ?_
  replace hw := hw.2
  refine g_istore_n C [(2, .int (v0 - v0 / v1 * v1)), (0, .int v0), (1, .int v1)] F.2.2.2.1 rfl (by decide) rfl dJ9_floorMod_7cf53_3 ?_
  refine g_iload_n C 1 rfl rfl dJ9_floorMod_7cf53_4 ?_
  refine g_iload_n C 2 rfl rfl dJ9_floorMod_7cf53_5 ?_
  refine g_ixor C dJ9_floorMod_7cf53_6 ?_
  refine g_if_ge C 18 (by decide) hw dJ9_floorMod_7cf53_7 (fun hw => ?_) (fun hw => ?_)
  · refine g_iload_n C 0 rfl rfl dJ9_floorMod_7cf53_18 ?_
    exact gq_I C F (by decide) (by decide) hw dJ9_floorMod_7cf53_19
  · refine g_iload_n C 0 rfl rfl dJ9_floorMod_7cf53_10 ?_
    refine g_if_eq C 18 (by decide) hw dJ9_floorMod_7cf53_11 (fun hw => ?_) (fun hw => ?_)
    · refine g_iload_n C 0 rfl rfl dJ9_floorMod_7cf53_18 ?_
      exact gq_I C F (by decide) (by decide) hw dJ9_floorMod_7cf53_19
    · refine g_iload_n C 0 rfl rfl dJ9_floorMod_7cf53_14 ?_
      refine g_iload_n C 2 rfl rfl dJ9_floorMod_7cf53_15 ?_
      refine g_iadd C dJ9_floorMod_7cf53_16 ?_
      exact gq_I C F (by decide) (by decide) hw dJ9_floorMod_7cf53_17
set_option maxHeartbeats 4000000 in
set_option maxRecDepth 100000 in
theorem c_X0_placeAfter (l : Launch) (D : va_G) (cy : Nat → ClassId) (A : Nat → Nat) {σ : St} {k : Nat} (hk : isC k) {v1 : Int32} {Φ : Int32 → St → Prop} (hw : wX0_placeAfter σ k v1 Φ) : CtI l yX0_placeAfter (.code yX0_placeAfter cX0_placeAfter 2 (some .int) :: gL) rm_X0_placeAfter 0 0 [.ref (A k), .int v1] D cy A σ Φ := by
  refine ct_any (fun sz => va_Qi Φ (HE D cy A (gZ cy A σ sz)) (gZ cy A σ sz)) (by decide +kernel) rfl rfl [(0, .ref (A k)), (1, .int v1)] rfl (Nat.le_of_ble_eq_true rfl) ?_
  intro κ hκl hnm C hK sz F
  subst hκl
  unfold wX0_placeAfter at hw
  refine g_aload_n C 0 rfl rfl dX0_placeAfter_0 ?_
  refine g_get C hK inX0 rfl k (ga_c cy A _ hk) 3 (by decide) (fun _ h => h) wt_43 rfl dX0_placeAfter_1 ?_
  refine g_iload_n C 1 rfl rfl dX0_placeAfter_4 ?_
  refine g_aload_n C 0 rfl rfl dX0_placeAfter_5 ?_
  refine gc_I C (gr_V (As := []) (rest := [.int v1, .int (σ.1 k 3)]) C hK 0 (gd_V wt_238 wt_209 wt_210 wt_3 wt_211) rfl rfl rfl ⟨rfl, hs_X0_turnsNow⟩ ⟨⟨Nat.le_of_ble_eq_true rfl, Nat.le_of_ble_eq_true rfl⟩, Nat.le_of_ble_eq_true rfl, Nat.le_of_ble_eq_true rfl⟩ rfl k (ga_c cy A _ hk) rfl rfl (Nat.le_of_ble_eq_true rfl) dX0_placeAfter_6 (c_X0_turnsNow (q_l κ) (q_D κ) cy A hk hw)) (fun r2 σ1 hw => ?_)
  refine g_imul C dX0_placeAfter_9 ?_
  refine g_bipush (v := (10 : Int32)) C dX0_placeAfter_10 (by decide) ?_
  refine g_imul C dX0_placeAfter_12 ?_
  refine g_iadd C dX0_placeAfter_13 ?_
  refine g_sipush (v := (360 : Int32)) C dX0_placeAfter_14 (by decide) ?_
  refine gc_I C (gr_S (As := [.int ((σ.1 k 3) + ((v1 * r2) * (10 : Int32))), .int (360 : Int32)]) (rest := []) C hK 2 (gd_S wt_239 wt_240 wt_8 wt_241) rfl rfl rfl hs_J9_floorMod_7cf53 ⟨⟨Nat.le_of_ble_eq_true rfl, Nat.le_of_ble_eq_true rfl⟩, Nat.le_of_ble_eq_true rfl, Nat.le_of_ble_eq_true rfl⟩ rfl rfl (Nat.le_of_ble_eq_true rfl) dX0_placeAfter_17 (c_J9_floorMod_7cf53 (q_l κ) (q_D κ) cy A hw)) (fun r4 σ3 hw => ?_)
  exact gq_I C F (by decide) (by decide) hw dX0_placeAfter_20
set_option maxHeartbeats 4000000 in
set_option maxRecDepth 100000 in
theorem c_X0_goHour (l : Launch) (D : va_G) (cy : Nat → ClassId) (A : Nat → Nat) {σ : St} {k : Nat} (hk : isC k) {v1 : Int32} {Φ : St → Prop} (hw : wX0_goHour σ k v1 Φ) : CtV l yX0_goHour (.code yX0_goHour cX0_goHour 3 none :: gL) rm_X0_goHour 0 0 [.ref (A k), .int v1, .ref (A 4)] D cy A σ Φ := by
  refine ct_any (fun sz => va_Qv Φ (HE D cy A (gZ cy A σ sz)) (gZ cy A σ sz)) (by decide +kernel) rfl rfl [(0, .ref (A k)), (1, .int v1), (2, .ref (A 4))] rfl (Nat.le_of_ble_eq_true rfl) ?_
  intro κ hκl hnm C hK sz F
  subst hκl
  unfold wX0_goHour at hw
  refine g_aload_n C 0 rfl rfl dX0_goHour_0 ?_
  refine g_dup C rfl dX0_goHour_1 ?_
  refine g_get C hK inX0 rfl k (ga_c cy A _ hk) 0 (by decide) (fun _ h => h) wt_37 rfl dX0_goHour_2 ?_
  refine g_iload_n C 1 rfl rfl dX0_goHour_5 ?_
  refine g_isub C dX0_goHour_6 ?_
  refine g_put (v := .int ((σ.1 k 0) - v1)) C hK inX0 rfl tyX0 tyX0_ok nmX0 k (ga_c cy A _ hk) 0 (by decide) (fun _ h => h) wt_37 rfl rfl rfl (Nat.le_of_ble_eq_true rfl) (gp_c_0 cy A _ _ hk) dX0_goHour_7 ?_
  refine g_aload_n C 0 rfl rfl dX0_goHour_10 ?_
  refine g_dup C rfl dX0_goHour_11 ?_
  refine g_get C hK inX0 rfl k (ga_c cy A _ hk) 4 (by decide) (fun _ h => h) wt_45 rfl dX0_goHour_12 ?_
  refine g_iconst (v := (1 : Int32)) C dX0_goHour_15 (by decide) ?_
  refine g_iadd C dX0_goHour_16 ?_
  refine g_put (v := .int (((sV σ k 0 ((σ.1 k 0) - v1)).1 k 4) + (1 : Int32))) C hK inX0 rfl tyX0 tyX0_ok nmX0 k (ga_c cy A _ hk) 4 (by decide) (fun _ h => h) wt_45 rfl rfl rfl (Nat.le_of_ble_eq_true rfl) (gp_c_4 cy A _ _ hk) dX0_goHour_17 ?_
  refine g_aload_n C 0 rfl rfl dX0_goHour_20 ?_
  refine g_aload_n C 0 rfl rfl dX0_goHour_21 ?_
  refine g_iconst (v := (1 : Int32)) C dX0_goHour_22 (by decide) ?_
  refine gc_I C (gr_V (As := [.int (1 : Int32)]) (rest := [.ref (A k)]) C hK 1 (gd_V wt_234 wt_235 wt_236 wt_3 wt_237) rfl rfl rfl ⟨rfl, hs_X0_placeAfter⟩ ⟨⟨Nat.le_of_ble_eq_true rfl, Nat.le_of_ble_eq_true rfl⟩, Nat.le_of_ble_eq_true rfl, Nat.le_of_ble_eq_true rfl⟩ rfl k (ga_c cy A _ hk) rfl rfl (Nat.le_of_ble_eq_true rfl) dX0_goHour_23 (c_X0_placeAfter (q_l κ) (q_D κ) cy A hk hw)) (fun r2 σ1 hw => ?_)
  refine g_put (v := .int r2) C hK inX0 rfl tyX0 tyX0_ok nmX0 k (ga_c cy A _ hk) 3 (by decide) (fun _ h => h) wt_43 rfl rfl rfl (Nat.le_of_ble_eq_true rfl) (gp_c_3 cy A _ _ hk) dX0_goHour_26 ?_
  refine g_aload_n C 0 rfl rfl dX0_goHour_29 ?_
  refine g_aload_n C 0 rfl rfl dX0_goHour_30 ?_
  refine g_aload_n C 2 rfl rfl dX0_goHour_31 ?_
  refine gc_I C (gr_V (As := [.ref (A 4)]) (rest := [.ref (A k)]) C hK 1 (gd_V wt_242 wt_243 wt_244 wt_3 wt_245) rfl rfl rfl ⟨rfl, hs_X0_strainNow⟩ ⟨⟨Nat.le_of_ble_eq_true rfl, Nat.le_of_ble_eq_true rfl⟩, Nat.le_of_ble_eq_true rfl, Nat.le_of_ble_eq_true rfl⟩ rfl k (ga_c cy A _ hk) rfl rfl (Nat.le_of_ble_eq_true rfl) dX0_goHour_32 (c_X0_strainNow (q_l κ) (q_D κ) cy A hk hw)) (fun r4 σ3 hw => ?_)
  refine g_aload_n C 0 rfl rfl dX0_goHour_35 ?_
  refine g_get C hK inX0 rfl k (ga_c cy A _ hk) 2 (by decide) (fun _ h => h) wt_41 rfl dX0_goHour_36 ?_
  refine g_icmp_le C 46 (by decide) hw dX0_goHour_39 (fun hw => ?_) (fun hw => ?_)
  · refine g_iconst (v := (0 : Int32)) C dX0_goHour_46 (by decide) ?_
    refine g_put (v := .int (0 : Int32)) C hK inX0 rfl tyX0 tyX0_ok nmX0 k (ga_c cy A _ hk) 6 (by decide) (fun _ h => h) wt_49 rfl (by rcases hw.1 with e | e <;> rw [e] <;> rfl) (by rcases hw.1 with e | e <;> rw [e] <;> rfl) (Nat.le_of_ble_eq_true rfl) (gp_c_6 cy A _ _ hk) dX0_goHour_47 ?_
    replace hw := hw.2
    exact gq_V C F (by decide) (by decide) hw dX0_goHour_50
  · refine g_iconst (v := (1 : Int32)) C dX0_goHour_42 (by decide) ?_
    refine g_goto C 47 (by decide) dX0_goHour_43 ?_
    refine g_put (v := .int (1 : Int32)) C hK inX0 rfl tyX0 tyX0_ok nmX0 k (ga_c cy A _ hk) 6 (by decide) (fun _ h => h) wt_49 rfl (by rcases hw.1 with e | e <;> rw [e] <;> rfl) (by rcases hw.1 with e | e <;> rw [e] <;> rfl) (Nat.le_of_ble_eq_true rfl) (gp_c_6 cy A _ _ hk) dX0_goHour_47 ?_
    replace hw := hw.2
    exact gq_V C F (by decide) (by decide) hw dX0_goHour_50
set_option maxHeartbeats 4000000 in
set_option maxRecDepth 100000 in
theorem c_X9_init (l : Launch) (D : va_G) (cy : Nat → ClassId) (A : Nat → Nat) {σ : St} {a0 : Nat} {v1 : Int32} {v2 : Int32} {v3 : Int32} {Φ : St → Prop} (hw : wX9_init σ a0 v1 v2 v3 Φ) : CtV l yX9_init (.code yX9_init cX9_init 4 none :: gL) rm_X9_init 0 0 [.ref a0, .int v1, .int v2, .int v3] D cy A σ Φ := by
  refine ct_any (fun sz => va_Qv Φ (HE D cy A (gZ cy A σ sz)) (gZ cy A σ sz)) (by decide +kernel) rfl rfl [(0, .ref a0), (1, .int v1), (2, .int v2), (3, .int v3)] rfl (Nat.le_of_ble_eq_true rfl) ?_
  intro κ hκl hnm C hK sz F
  subst hκl
  unfold wX9_init at hw
  refine g_aload_n C 0 rfl rfl dX9_init_0 ?_
  refine g_objInit C ⟨Nat.le_of_ble_eq_true rfl, Nat.le_of_ble_eq_true rfl⟩ wt_381 wt_20 wt_21 dX9_init_1 ?_
  refine g_aload_n C 0 rfl rfl dX9_init_4 ?_
  refine g_iload_n C 1 rfl rfl dX9_init_5 ?_
  refine g_putT0 C hK hnm hw.1 wt_382 dX9_init_6 ?_
  replace hw := hw.2
  refine g_aload_n C 0 rfl rfl dX9_init_9 ?_
  refine g_iload_n C 2 rfl rfl dX9_init_10 ?_
  refine g_putT2 C hK hw.1 (fun _ h => h) wt_395 dX9_init_11 ?_
  replace hw := hw.2
  refine g_aload_n C 0 rfl rfl dX9_init_14 ?_
  refine g_iload_n C 3 rfl rfl dX9_init_15 ?_
  refine g_putT1 C hK hnm hw.1 wt_390 dX9_init_16 ?_
  replace hw := hw.2
  exact gq_V C F (by decide) (by decide) hw dX9_init_19
set_option maxHeartbeats 4000000 in
set_option maxRecDepth 100000 in
theorem c_X1_init (l : Launch) (D : va_G) (cy : Nat → ClassId) (A : Nat → Nat) {σ : St} {a0 : Nat} {v1 : Int32} {v2 : Int32} {v3 : Int32} {Φ : St → Prop} (hw : wX1_init σ a0 v1 v2 v3 Φ) : CtV l yX1_init (.code yX1_init cX1_init 4 none :: gL) rm_X1_init 0 0 [.ref a0, .int v1, .int v2, .int v3] D cy A σ Φ := by
  refine ct_any (fun sz => va_Qv Φ (HE D cy A (gZ cy A σ sz)) (gZ cy A σ sz)) (by decide +kernel) rfl rfl [(0, .ref a0), (1, .int v1), (2, .int v2), (3, .int v3)] rfl (Nat.le_of_ble_eq_true rfl) ?_
  intro κ hκl hnm C hK sz F
  subst hκl
  unfold wX1_init at hw
  refine g_aload_n C 0 rfl rfl dX1_init_0 ?_
  refine g_iload_n C 1 rfl rfl dX1_init_1 ?_
  refine g_iload_n C 2 rfl rfl dX1_init_2 ?_
  refine g_iload_n C 3 rfl rfl dX1_init_3 ?_
  refine gc_V C (gr_N (As := [.int v1, .int v2, .int v3]) (rest := []) C hK 3 (gd_N wt_380) rfl rfl rfl wt_9 wt_378 wt_379 rfl hs_X9_init ⟨⟨Nat.le_of_ble_eq_true rfl, Nat.le_of_ble_eq_true rfl⟩, Nat.le_of_ble_eq_true rfl, Nat.le_of_ble_eq_true rfl⟩ rfl rfl (Nat.le_of_ble_eq_true rfl) dX1_init_4 (c_X9_init (q_l κ) (q_D κ) cy A hw)) (fun σ1 hw => ?_)
  exact gq_V C F (by decide) (by decide) hw dX1_init_7
set_option maxHeartbeats 4000000 in
set_option maxRecDepth 100000 in
theorem c_X1_kind (l : Launch) (D : va_G) (cy : Nat → ClassId) (A : Nat → Nat) {σ : St} {a0 : Nat} {Φ : Int32 → St → Prop} (hw : wX1_kind σ a0 Φ) : CtI l yX1_kind (.code yX1_kind cX1_kind 1 (some .int) :: gL) rm_X1_kind 0 0 [.ref a0] D cy A σ Φ := by
  refine ct_any (fun sz => va_Qi Φ (HE D cy A (gZ cy A σ sz)) (gZ cy A σ sz)) (by decide +kernel) rfl rfl [(0, .ref a0)] rfl (Nat.le_of_ble_eq_true rfl) ?_
  intro κ hκl hnm C hK sz F
  subst hκl
  unfold wX1_kind at hw
  refine g_iconst (v := (1 : Int32)) C dX1_kind_0 (by decide) ?_
  exact gq_I C F (by decide) (by decide) hw dX1_kind_1
set_option maxHeartbeats 4000000 in
set_option maxRecDepth 100000 in
theorem c_X3_init (l : Launch) (D : va_G) (cy : Nat → ClassId) (A : Nat → Nat) {σ : St} {a0 : Nat} {v1 : Int32} {v2 : Int32} {v3 : Int32} {Φ : St → Prop} (hw : wX3_init σ a0 v1 v2 v3 Φ) : CtV l yX3_init (.code yX3_init cX3_init 4 none :: gL) rm_X3_init 0 0 [.ref a0, .int v1, .int v2, .int v3] D cy A σ Φ := by
  refine ct_any (fun sz => va_Qv Φ (HE D cy A (gZ cy A σ sz)) (gZ cy A σ sz)) (by decide +kernel) rfl rfl [(0, .ref a0), (1, .int v1), (2, .int v2), (3, .int v3)] rfl (Nat.le_of_ble_eq_true rfl) ?_
  intro κ hκl hnm C hK sz F
  subst hκl
  unfold wX3_init at hw
  refine g_aload_n C 0 rfl rfl dX3_init_0 ?_
  refine g_iload_n C 1 rfl rfl dX3_init_1 ?_
  refine g_iload_n C 2 rfl rfl dX3_init_2 ?_
  refine g_iload_n C 3 rfl rfl dX3_init_3 ?_
  refine gc_V C (gr_N (As := [.int v1, .int v2, .int v3]) (rest := []) C hK 3 (gd_N wt_380) rfl rfl rfl wt_9 wt_402 wt_379 rfl hs_X9_init ⟨⟨Nat.le_of_ble_eq_true rfl, Nat.le_of_ble_eq_true rfl⟩, Nat.le_of_ble_eq_true rfl, Nat.le_of_ble_eq_true rfl⟩ rfl rfl (Nat.le_of_ble_eq_true rfl) dX3_init_4 (c_X9_init (q_l κ) (q_D κ) cy A hw)) (fun σ1 hw => ?_)
  exact gq_V C F (by decide) (by decide) hw dX3_init_7
set_option maxHeartbeats 4000000 in
set_option maxRecDepth 100000 in
theorem c_X3_kind (l : Launch) (D : va_G) (cy : Nat → ClassId) (A : Nat → Nat) {σ : St} {a0 : Nat} {Φ : Int32 → St → Prop} (hw : wX3_kind σ a0 Φ) : CtI l yX3_kind (.code yX3_kind cX3_kind 1 (some .int) :: gL) rm_X3_kind 0 0 [.ref a0] D cy A σ Φ := by
  refine ct_any (fun sz => va_Qi Φ (HE D cy A (gZ cy A σ sz)) (gZ cy A σ sz)) (by decide +kernel) rfl rfl [(0, .ref a0)] rfl (Nat.le_of_ble_eq_true rfl) ?_
  intro κ hκl hnm C hK sz F
  subst hκl
  unfold wX3_kind at hw
  refine g_iconst (v := (2 : Int32)) C dX3_kind_0 (by decide) ?_
  exact gq_I C F (by decide) (by decide) hw dX3_kind_1
set_option maxHeartbeats 4000000 in
set_option maxRecDepth 100000 in
theorem c_X3_goesAcross (l : Launch) (D : va_G) (cy : Nat → ClassId) (A : Nat → Nat) {σ : St} {a0 : Nat} {v1 : Int32} {Φ : Int32 → St → Prop} (hw : wX3_goesAcross σ a0 v1 Φ) : CtI l yX3_goesAcross (.code yX3_goesAcross cX3_goesAcross 2 (some .boolean) :: gL) rm_X3_goesAcross 0 0 [.ref a0, .int v1] D cy A σ Φ := by
  refine ct_any (fun sz => va_Qi Φ (HE D cy A (gZ cy A σ sz)) (gZ cy A σ sz)) (by decide +kernel) rfl rfl [(0, .ref a0), (1, .int v1)] rfl (Nat.le_of_ble_eq_true rfl) ?_
  intro κ hκl hnm C hK sz F
  subst hκl
  unfold wX3_goesAcross at hw
  refine g_iload_n C 1 rfl rfl dX3_goesAcross_0 ?_
  refine g_iconst (v := (2 : Int32)) C dX3_goesAcross_1 (by decide) ?_
  refine g_icmp_gt C 9 (by decide) hw dX3_goesAcross_2 (fun hw => ?_) (fun hw => ?_)
  · refine g_iconst (v := (0 : Int32)) C dX3_goesAcross_9 (by decide) ?_
    exact gq_Z C F (by decide) (by decide) hw dX3_goesAcross_10
  · refine g_iconst (v := (1 : Int32)) C dX3_goesAcross_5 (by decide) ?_
    refine g_goto C 10 (by decide) dX3_goesAcross_6 ?_
    exact gq_Z C F (by decide) (by decide) hw dX3_goesAcross_10
end
section
set_option maxHeartbeats 4000000 in
set_option maxRecDepth 100000 in
theorem c_X5_init (l : Launch) (D : va_G) (cy : Nat → ClassId) (A : Nat → Nat) {σ : St} {a0 : Nat} {v1 : Int32} {v2 : Int32} {v3 : Int32} {Φ : St → Prop} (hw : wX5_init σ a0 v1 v2 v3 Φ) : CtV l yX5_init (.code yX5_init cX5_init 4 none :: gL) rm_X5_init 0 0 [.ref a0, .int v1, .int v2, .int v3] D cy A σ Φ := by
  refine ct_any (fun sz => va_Qv Φ (HE D cy A (gZ cy A σ sz)) (gZ cy A σ sz)) (by decide +kernel) rfl rfl [(0, .ref a0), (1, .int v1), (2, .int v2), (3, .int v3)] rfl (Nat.le_of_ble_eq_true rfl) ?_
  intro κ hκl hnm C hK sz F
  subst hκl
  unfold wX5_init at hw
  refine g_aload_n C 0 rfl rfl dX5_init_0 ?_
  refine g_iload_n C 1 rfl rfl dX5_init_1 ?_
  refine g_iload_n C 2 rfl rfl dX5_init_2 ?_
  refine g_iload_n C 3 rfl rfl dX5_init_3 ?_
  refine gc_V C (gr_N (As := [.int v1, .int v2, .int v3]) (rest := []) C hK 3 (gd_N wt_380) rfl rfl rfl wt_9 wt_407 wt_379 rfl hs_X9_init ⟨⟨Nat.le_of_ble_eq_true rfl, Nat.le_of_ble_eq_true rfl⟩, Nat.le_of_ble_eq_true rfl, Nat.le_of_ble_eq_true rfl⟩ rfl rfl (Nat.le_of_ble_eq_true rfl) dX5_init_4 (c_X9_init (q_l κ) (q_D κ) cy A hw)) (fun σ1 hw => ?_)
  exact gq_V C F (by decide) (by decide) hw dX5_init_7
set_option maxHeartbeats 4000000 in
set_option maxRecDepth 100000 in
theorem c_X4_init (l : Launch) (D : va_G) (cy : Nat → ClassId) (A : Nat → Nat) {σ : St} {a0 : Nat} {v1 : Int32} {v2 : Int32} {v3 : Int32} {Φ : St → Prop} (hw : wX4_init σ a0 v1 v2 v3 Φ) : CtV l yX4_init (.code yX4_init cX4_init 4 none :: gL) rm_X4_init 0 0 [.ref a0, .int v1, .int v2, .int v3] D cy A σ Φ := by
  refine ct_any (fun sz => va_Qv Φ (HE D cy A (gZ cy A σ sz)) (gZ cy A σ sz)) (by decide +kernel) rfl rfl [(0, .ref a0), (1, .int v1), (2, .int v2), (3, .int v3)] rfl (Nat.le_of_ble_eq_true rfl) ?_
  intro κ hκl hnm C hK sz F
  subst hκl
  unfold wX4_init at hw
  refine g_aload_n C 0 rfl rfl dX4_init_0 ?_
  refine g_iload_n C 1 rfl rfl dX4_init_1 ?_
  refine g_iload_n C 2 rfl rfl dX4_init_2 ?_
  refine g_iload_n C 3 rfl rfl dX4_init_3 ?_
  refine gc_V C (gr_N (As := [.int v1, .int v2, .int v3]) (rest := []) C hK 3 (gd_N wt_406) rfl rfl rfl wt_12 wt_412 wt_405 rfl hs_X5_init ⟨⟨Nat.le_of_ble_eq_true rfl, Nat.le_of_ble_eq_true rfl⟩, Nat.le_of_ble_eq_true rfl, Nat.le_of_ble_eq_true rfl⟩ rfl rfl (Nat.le_of_ble_eq_true rfl) dX4_init_4 (c_X5_init (q_l κ) (q_D κ) cy A hw)) (fun σ1 hw => ?_)
  exact gq_V C F (by decide) (by decide) hw dX4_init_7
set_option maxHeartbeats 4000000 in
set_option maxRecDepth 100000 in
theorem c_X4_kind (l : Launch) (D : va_G) (cy : Nat → ClassId) (A : Nat → Nat) {σ : St} {a0 : Nat} {Φ : Int32 → St → Prop} (hw : wX4_kind σ a0 Φ) : CtI l yX4_kind (.code yX4_kind cX4_kind 1 (some .int) :: gL) rm_X4_kind 0 0 [.ref a0] D cy A σ Φ := by
  refine ct_any (fun sz => va_Qi Φ (HE D cy A (gZ cy A σ sz)) (gZ cy A σ sz)) (by decide +kernel) rfl rfl [(0, .ref a0)] rfl (Nat.le_of_ble_eq_true rfl) ?_
  intro κ hκl hnm C hK sz F
  subst hκl
  unfold wX4_kind at hw
  refine g_iconst (v := (4 : Int32)) C dX4_kind_0 (by decide) ?_
  exact gq_I C F (by decide) (by decide) hw dX4_kind_1
set_option maxHeartbeats 4000000 in
set_option maxRecDepth 100000 in
theorem c_X5_kind (l : Launch) (D : va_G) (cy : Nat → ClassId) (A : Nat → Nat) {σ : St} {a0 : Nat} {Φ : Int32 → St → Prop} (hw : wX5_kind σ a0 Φ) : CtI l yX5_kind (.code yX5_kind cX5_kind 1 (some .int) :: gL) rm_X5_kind 0 0 [.ref a0] D cy A σ Φ := by
  refine ct_any (fun sz => va_Qi Φ (HE D cy A (gZ cy A σ sz)) (gZ cy A σ sz)) (by decide +kernel) rfl rfl [(0, .ref a0)] rfl (Nat.le_of_ble_eq_true rfl) ?_
  intro κ hκl hnm C hK sz F
  subst hκl
  unfold wX5_kind at hw
  refine g_iconst (v := (3 : Int32)) C dX5_kind_0 (by decide) ?_
  exact gq_I C F (by decide) (by decide) hw dX5_kind_1
set_option maxHeartbeats 4000000 in
set_option maxRecDepth 100000 in
theorem c_X6_isFull (l : Launch) (D : va_G) (cy : Nat → ClassId) (A : Nat → Nat) {σ : St} {Φ : Int32 → St → Prop} (hw : wX6_isFull σ Φ) : CtI l yX6_isFull (.code yX6_isFull cX6_isFull 1 (some .boolean) :: gL) rm_X6_isFull 0 0 [.ref (A 4)] D cy A σ Φ := by
  refine ct_any (fun sz => va_Qi Φ (HE D cy A (gZ cy A σ sz)) (gZ cy A σ sz)) (by decide +kernel) rfl rfl [(0, .ref (A 4))] rfl (Nat.le_of_ble_eq_true rfl) ?_
  intro κ hκl hnm C hK sz F
  subst hκl
  unfold wX6_isFull at hw
  refine g_aload_n C 0 rfl rfl dX6_isFull_0 ?_
  refine g_get C hK inX6 rfl 4 (ga_4 cy A _) 2 (by decide) (fun _ h => h) wt_59 rfl dX6_isFull_1 ?_
  refine g_aload_n C 0 rfl rfl dX6_isFull_4 ?_
  refine g_get C hK inX6 rfl 4 (ga_4 cy A _) 0 (by decide) (fun _ h => h) wt_57 rfl dX6_isFull_5 ?_
  refine g_alen (v := 6) C hK 5 3 (ga_5 cy A _) rfl rfl dX6_isFull_8 ?_
  refine g_icmp_lt C 16 (by decide) hw dX6_isFull_9 (fun hw => ?_) (fun hw => ?_)
  · refine g_iconst (v := (0 : Int32)) C dX6_isFull_16 (by decide) ?_
    exact gq_Z C F (by decide) (by decide) hw dX6_isFull_17
  · refine g_iconst (v := (1 : Int32)) C dX6_isFull_12 (by decide) ?_
    refine g_goto C 17 (by decide) dX6_isFull_13 ?_
    exact gq_Z C F (by decide) (by decide) hw dX6_isFull_17
set_option maxHeartbeats 4000000 in
set_option maxRecDepth 100000 in
theorem c_X6_put (l : Launch) (D : va_G) (cy : Nat → ClassId) (A : Nat → Nat) {σ : St} {a1 : Nat} {Φ : Int32 → St → Prop} (hw : wX6_put σ a1 Φ) : CtI l yX6_put (.code yX6_put cX6_put 2 (some .int) :: gL) rm_X6_put 0 0 [.ref (A 4), .ref a1] D cy A σ Φ := by
  refine ct_any (fun sz => va_Qi Φ (HE D cy A (gZ cy A σ sz)) (gZ cy A σ sz)) (by decide +kernel) rfl rfl [(0, .ref (A 4)), (1, .ref a1)] rfl (Nat.le_of_ble_eq_true rfl) ?_
  intro κ hκl hnm C hK sz F
  subst hκl
  unfold wX6_put at hw
  refine g_aload_n C 0 rfl rfl dX6_put_0 ?_
  refine g_get C hK inX6 rfl 4 (ga_4 cy A _) 2 (by decide) (fun _ h => h) wt_59 rfl dX6_put_1 ?_
  refine g_if_lt C 19 (by decide) hw dX6_put_4 (fun hw => ?_) (fun hw => ?_)
  · refine g_bipush (v := (-104 : Int32)) C dX6_put_19 (by decide) ?_
    exact gq_I C F (by decide) (by decide) hw dX6_put_21
  · refine g_aload_n C 0 rfl rfl dX6_put_7 ?_
    refine g_get C hK inX6 rfl 4 (ga_4 cy A _) 2 (by decide) (fun _ h => h) wt_59 rfl dX6_put_8 ?_
    refine g_aload_n C 0 rfl rfl dX6_put_11 ?_
    refine g_get C hK inX6 rfl 4 (ga_4 cy A _) 0 (by decide) (fun _ h => h) wt_57 rfl dX6_put_12 ?_
    refine g_alen (v := 6) C hK 5 3 (ga_5 cy A _) rfl rfl dX6_put_15 ?_
    refine g_icmp_lt C 22 (by decide) hw dX6_put_16 (fun hw => ?_) (fun hw => ?_)
    · refine g_aload_n C 0 rfl rfl dX6_put_22 ?_
      refine g_get C hK inX6 rfl 4 (ga_4 cy A _) 0 (by decide) (fun _ h => h) wt_57 rfl dX6_put_23 ?_
      refine g_aload_n C 0 rfl rfl dX6_put_26 ?_
      refine g_get C hK inX6 rfl 4 (ga_4 cy A _) 2 (by decide) (fun _ h => h) wt_59 rfl dX6_put_27 ?_
      refine g_aload_n C 1 rfl rfl dX6_put_30 ?_
      refine g_aastT C hK hw.1 hw.2.1 dX6_put_31 ?_
      replace hw := hw.2.2
      refine g_aload_n C 0 rfl rfl dX6_put_32 ?_
      refine g_dup C rfl dX6_put_33 ?_
      refine g_get C hK inX6 rfl 4 (ga_4 cy A _) 2 (by decide) (fun _ h => h) wt_59 rfl dX6_put_34 ?_
      refine g_iconst (v := (1 : Int32)) C dX6_put_37 (by decide) ?_
      refine g_iadd C dX6_put_38 ?_
      refine g_put (v := .int (((sH σ (σ.1 4 2).toNatClampNeg (some a1)).1 4 2) + (1 : Int32))) C hK inX6 rfl tyX6 tyX6_ok nmX6 4 (ga_4 cy A _) 2 (by decide) (fun _ h => h) wt_59 rfl rfl rfl (Nat.le_of_ble_eq_true rfl) (gp_4_2 cy A _ _) dX6_put_39 ?_
      refine g_aload_n C 0 rfl rfl dX6_put_42 ?_
      refine g_get C hK inX6 rfl 4 (ga_4 cy A _) 2 (by decide) (fun _ h => h) wt_59 rfl dX6_put_43 ?_
      refine g_iconst (v := (1 : Int32)) C dX6_put_46 (by decide) ?_
      refine g_isub C dX6_put_47 ?_
      exact gq_I C F (by decide) (by decide) hw dX6_put_48
    · refine g_bipush (v := (-104 : Int32)) C dX6_put_19 (by decide) ?_
      exact gq_I C F (by decide) (by decide) hw dX6_put_21
set_option maxHeartbeats 4000000 in
set_option maxRecDepth 100000 in
theorem c_J9_min_7cf53 (l : Launch) (D : va_G) (cy : Nat → ClassId) (A : Nat → Nat) {σ : St} {v0 : Int32} {v1 : Int32} {Φ : Int32 → St → Prop} (hw : wJ9_min_7cf53 σ v0 v1 Φ) : CtI l yJ9_min_7cf53 (.code yJ9_min_7cf53 cJ9_min_7cf53 2 (some .int) :: gL) rm_J9_min_7cf53 0 0 [.int v0, .int v1] D cy A σ Φ := by
  refine ct_any (fun sz => va_Qi Φ (HE D cy A (gZ cy A σ sz)) (gZ cy A σ sz)) (by decide +kernel) rfl rfl [(0, .int v0), (1, .int v1)] rfl (Nat.le_of_ble_eq_true rfl) ?_
  intro κ hκl hnm C hK sz F
  subst hκl
  unfold wJ9_min_7cf53 at hw
  refine g_iload_n C 0 rfl rfl dJ9_min_7cf53_0 ?_
  refine g_iload_n C 1 rfl rfl dJ9_min_7cf53_1 ?_
  refine g_icmp_gt C 9 (by decide) hw dJ9_min_7cf53_2 (fun hw => ?_) (fun hw => ?_)
  · refine g_iload_n C 1 rfl rfl dJ9_min_7cf53_9 ?_
    exact gq_I C F (by decide) (by decide) hw dJ9_min_7cf53_10
  · refine g_iload_n C 0 rfl rfl dJ9_min_7cf53_5 ?_
    refine g_goto C 10 (by decide) dJ9_min_7cf53_6 ?_
    exact gq_I C F (by decide) (by decide) hw dJ9_min_7cf53_10
set_option maxHeartbeats 4000000 in
set_option maxRecDepth 100000 in
theorem c_X6_cutTo (l : Launch) (D : va_G) (cy : Nat → ClassId) (A : Nat → Nat) {σ : St} {v1 : Int32} {Φ : St → Prop} (hw : wX6_cutTo σ v1 Φ) : CtV l yX6_cutTo (.code yX6_cutTo cX6_cutTo 3 none :: gL) rm_X6_cutTo 0 0 [.ref (A 4), .int v1] D cy A σ Φ := by
  refine ct_any (fun sz => va_Qv Φ (HE D cy A (gZ cy A σ sz)) (gZ cy A σ sz)) (by decide +kernel) rfl rfl [(0, .ref (A 4)), (1, .int v1)] rfl (Nat.le_of_ble_eq_true rfl) ?_
  intro κ hκl hnm C hK sz F
  subst hκl
  have J23 : ∀ (K2 : St → Int32 → Int32 → Prop) (_ : ∀ (σ : St) (v1 : Int32) (v2 : Int32), K2 σ v1 v2 → GW κ 0 0 (gW cy A σ) 2 [(0, .ref (A 4)), (1, .int v1), (2, .int v2)] []), ∀ (σ : St) (v1 : Int32) (v2 : Int32), wX6_cutTo_23 K2 Φ σ v1 v2 → GW κ 0 0 (gW cy A σ) 23 [(0, .ref (A 4)), (1, .int v1), (2, .int v2)] [] := by
    intro K2 hK2 σ v1 v2 hw
    unfold wX6_cutTo_23 at hw
    refine g_iinc (j := 2) C [(2, .int (v2 + 1)), (0, .ref (A 4)), (1, .int v1)] F.2.2.2.1 rfl rfl (by decide) rfl dX6_cutTo_23 ?_
    refine g_goto C 2 (by decide) dX6_cutTo_26 ?_
    refine g_eql (lv' := [(0, .ref (A 4)), (1, .int v1), (2, .int (v2 + 1))]) [1, 2, 0] rfl ?_
    exact hK2 σ v1 (v2 + 1) hw
  have J2 : ∀ (n : Nat) (σ : St) (v1 : Int32) (v2 : Int32), wX6_cutTo_2 Φ n σ v1 v2 → GW κ 0 0 (gW cy A σ) 2 [(0, .ref (A 4)), (1, .int v1), (2, .int v2)] [] := by
    intro n
    induction n with
    | zero => intro σ v1 v2 hw; exact hw.elim
    | succ n ih =>
      intro σ v1 v2 hw
      rw [wX6_cutTo_2] at hw
      refine g_iload_n C 2 rfl rfl dX6_cutTo_2 ?_
      refine g_aload_n C 0 rfl rfl dX6_cutTo_3 ?_
      refine g_get C hK inX6 rfl 4 (ga_4 cy A _) 0 (by decide) (fun _ h => h) wt_57 rfl dX6_cutTo_4 ?_
      refine g_alen (v := 6) C hK 5 3 (ga_5 cy A _) rfl rfl dX6_cutTo_7 ?_
      refine g_icmp_ge C 29 (by decide) hw dX6_cutTo_8 (fun hw => ?_) (fun hw => ?_)
      · refine g_aload_n C 0 rfl rfl dX6_cutTo_29 ?_
        refine g_aload_n C 0 rfl rfl dX6_cutTo_30 ?_
        refine g_get C hK inX6 rfl 4 (ga_4 cy A _) 2 (by decide) (fun _ h => h) wt_59 rfl dX6_cutTo_31 ?_
        refine g_iload_n C 1 rfl rfl dX6_cutTo_34 ?_
        refine gc_I C (gr_S (As := [.int (σ.1 4 2), .int v1]) (rest := [.ref (A 4)]) C hK 2 (gd_S wt_355 wt_260 wt_8 wt_261) rfl rfl rfl hs_J9_min_7cf53 ⟨⟨Nat.le_of_ble_eq_true rfl, Nat.le_of_ble_eq_true rfl⟩, Nat.le_of_ble_eq_true rfl, Nat.le_of_ble_eq_true rfl⟩ rfl rfl (Nat.le_of_ble_eq_true rfl) dX6_cutTo_35 (c_J9_min_7cf53 (q_l κ) (q_D κ) cy A hw)) (fun r2 σ1 hw => ?_)
        refine g_put (v := .int r2) C hK inX6 rfl tyX6 tyX6_ok nmX6 4 (ga_4 cy A _) 2 (by decide) (fun _ h => h) wt_59 rfl rfl rfl (Nat.le_of_ble_eq_true rfl) (gp_4_2 cy A _ _) dX6_cutTo_38 ?_
        exact gq_V C F (by decide) (by decide) hw dX6_cutTo_41
      · refine g_iload_n C 2 rfl rfl dX6_cutTo_11 ?_
        refine g_iload_n C 1 rfl rfl dX6_cutTo_12 ?_
        refine g_icmp_lt C 23 (by decide) hw dX6_cutTo_13 (fun hw => ?_) (fun hw => ?_)
        · exact J23 _ ih σ v1 v2 hw
        · refine g_aload_n C 0 rfl rfl dX6_cutTo_16 ?_
          refine g_get C hK inX6 rfl 4 (ga_4 cy A _) 0 (by decide) (fun _ h => h) wt_57 rfl dX6_cutTo_17 ?_
          refine g_iload_n C 2 rfl rfl dX6_cutTo_20 ?_
          refine g_null C dX6_cutTo_21 ?_
          refine g_aastN C hK 5 3 (ga_5 cy A _) rfl hw.1 (gs_5 cy A _ _ _) dX6_cutTo_22 ?_
          replace hw := hw.2
          exact J23 _ ih (sH σ v2.toNatClampNeg none) v1 v2 hw
  unfold wX6_cutTo at hw
  refine g_iconst (v := (0 : Int32)) C dX6_cutTo_0 (by decide) ?_
  refine g_istore_n C [(2, .int (0 : Int32)), (0, .ref (A 4)), (1, .int v1)] F.2.2.2.1 rfl (by decide) rfl dX6_cutTo_1 ?_
  refine g_eql (lv' := [(0, .ref (A 4)), (1, .int v1), (2, .int (0 : Int32))]) [1, 2, 0] rfl ?_
  obtain ⟨n0, hw⟩ := hw
  exact J2 n0 σ v1 (0 : Int32) hw
set_option maxHeartbeats 4000000 in
set_option maxRecDepth 100000 in
theorem c_X6_sizeIn (l : Launch) (D : va_G) (cy : Nat → ClassId) (A : Nat → Nat) {σ : St} {v1 : Int32} {Φ : Int32 → St → Prop} (hw : wX6_sizeIn σ v1 Φ) : CtI l yX6_sizeIn (.code yX6_sizeIn cX6_sizeIn 5 (some .int) :: gL) rm_X6_sizeIn 0 0 [.ref (A 4), .int v1] D cy A σ Φ := by
  refine ct_any (fun sz => va_Qi Φ (HE D cy A (gZ cy A σ sz)) (gZ cy A σ sz)) (by decide +kernel) rfl rfl [(0, .ref (A 4)), (1, .int v1)] rfl (Nat.le_of_ble_eq_true rfl) ?_
  intro κ hκl hnm C hK sz F
  subst hκl
  have J36 : ∀ (K4 : St → Int32 → Int32 → Int32 → Prop) (_ : ∀ (σ : St) (v1 : Int32) (v2 : Int32) (v3 : Int32), K4 σ v1 v2 v3 → GW κ 0 0 (gW cy A σ) 4 [(0, .ref (A 4)), (1, .int v1), (2, .int v2), (3, .int v3)] []), ∀ (σ : St) (v1 : Int32) (v2 : Int32) (v3 : Int32), wX6_sizeIn_36 K4 Φ σ v1 v2 v3 → GW κ 0 0 (gW cy A σ) 36 [(0, .ref (A 4)), (1, .int v1), (2, .int v2), (3, .int v3)] [] := by
    intro K4 hK4 σ v1 v2 v3 hw
    unfold wX6_sizeIn_36 at hw
    refine g_iinc (j := 3) C [(3, .int (v3 + 1)), (0, .ref (A 4)), (1, .int v1), (2, .int v2)] F.2.2.2.1 rfl rfl (by decide) rfl dX6_sizeIn_36 ?_
    refine g_goto C 4 (by decide) dX6_sizeIn_39 ?_
    refine g_eql (lv' := [(0, .ref (A 4)), (1, .int v1), (2, .int v2), (3, .int (v3 + 1))]) [1, 2, 3, 0] rfl ?_
    exact hK4 σ v1 v2 (v3 + 1) hw
  have J4 : ∀ (n : Nat) (σ : St) (v1 : Int32) (v2 : Int32) (v3 : Int32), wX6_sizeIn_4 Φ n σ v1 v2 v3 → GW κ 0 0 (gW cy A σ) 4 [(0, .ref (A 4)), (1, .int v1), (2, .int v2), (3, .int v3)] [] := by
    intro n
    induction n with
    | zero => intro σ v1 v2 v3 hw; exact hw.elim
    | succ n ih =>
      intro σ v1 v2 v3 hw
      rw [wX6_sizeIn_4] at hw
      refine g_iload_n C 3 rfl rfl dX6_sizeIn_4 ?_
      refine g_aload_n C 0 rfl rfl dX6_sizeIn_5 ?_
      refine g_get C hK inX6 rfl 4 (ga_4 cy A _) 2 (by decide) (fun _ h => h) wt_59 rfl dX6_sizeIn_6 ?_
      refine g_icmp_ge C 42 (by decide) hw dX6_sizeIn_9 (fun hw => ?_) (fun hw => ?_)
      · refine g_iload_n C 2 rfl rfl dX6_sizeIn_42 ?_
        exact gq_I C F (by decide) (by decide) hw dX6_sizeIn_43
      · refine g_aload_n C 0 rfl rfl dX6_sizeIn_12 ?_
        refine g_iload_n C 3 rfl rfl dX6_sizeIn_13 ?_
        refine gc_Q C (gr_V (As := [.int v3]) (rest := []) C hK 1 (gd_V wt_110 wt_111 wt_112 wt_4 wt_113) rfl rfl rfl ⟨rfl, hs_X6_at⟩ ⟨⟨Nat.le_of_ble_eq_true rfl, Nat.le_of_ble_eq_true rfl⟩, Nat.le_of_ble_eq_true rfl, Nat.le_of_ble_eq_true rfl⟩ rfl 4 (ga_4 cy A _) rfl rfl (Nat.le_of_ble_eq_true rfl) dX6_sizeIn_14 (c_X6_at (q_l κ) (q_D κ) cy A hw)) (fun r2 σ1 hw => ?_)
        refine g_rstore C [(4, va_rf r2), (0, .ref (A 4)), (1, .int v1), (2, .int v2), (3, .int v3)] F.2.2.2.1 (by decide) rfl dX6_sizeIn_17 ?_
        refine g_rload C 0 rfl dX6_sizeIn_19 ?_
        refine g_ifnull C 36 (by decide) hw dX6_sizeIn_21 (fun hw1 e9 => ?_) (fun b3 e9 hw1 => ?_)
        · subst e9
          replace hw := hw1
          refine g_eql (lv' := [(0, .ref (A 4)), (1, .int v1), (2, .int v2), (3, .int v3)]) [1, 2, 3, 4] rfl ?_
          exact J36 _ ih σ1 v1 v2 v3 hw
        · subst e9
          replace hw := hw1
          refine g_aload C 0 rfl dX6_sizeIn_24 ?_
          refine g_getT2 C hK hw.1 (fun _ h => h) wt_396 dX6_sizeIn_26 ?_
          replace hw := hw.2
          refine g_iload_n C 2 rfl rfl dX6_sizeIn_29 ?_
          refine g_icmp_ne C 36 (by decide) hw dX6_sizeIn_30 (fun hw => ?_) (fun hw => ?_)
          · refine g_eql (lv' := [(0, .ref (A 4)), (1, .int v1), (2, .int v2), (3, .int v3)]) [1, 2, 3, 4] rfl ?_
            exact J36 _ ih σ1 v1 v2 v3 hw
          · refine g_iinc (j := 3) C [(2, .int (v2 + 1)), (4, .ref b3), (0, .ref (A 4)), (1, .int v1), (3, .int v3)] F.2.2.2.1 rfl rfl (by decide) rfl dX6_sizeIn_33 ?_
            refine g_eql (lv' := [(0, .ref (A 4)), (1, .int v1), (2, .int (v2 + 1)), (3, .int v3)]) [2, 3, 0, 4] rfl ?_
            exact J36 _ ih σ1 v1 (v2 + 1) v3 hw
  unfold wX6_sizeIn at hw
  refine g_iconst (v := (0 : Int32)) C dX6_sizeIn_0 (by decide) ?_
  refine g_istore_n C [(2, .int (0 : Int32)), (0, .ref (A 4)), (1, .int v1)] F.2.2.2.1 rfl (by decide) rfl dX6_sizeIn_1 ?_
  refine g_iconst (v := (0 : Int32)) C dX6_sizeIn_2 (by decide) ?_
  refine g_istore_n C [(3, .int (0 : Int32)), (2, .int (0 : Int32)), (0, .ref (A 4)), (1, .int v1)] F.2.2.2.1 rfl (by decide) rfl dX6_sizeIn_3 ?_
  refine g_eql (lv' := [(0, .ref (A 4)), (1, .int v1), (2, .int (0 : Int32)), (3, .int (0 : Int32))]) [2, 3, 1, 0] rfl ?_
  obtain ⟨n0, hw⟩ := hw
  exact J4 n0 σ v1 (0 : Int32) (0 : Int32) hw
set_option maxHeartbeats 4000000 in
set_option maxRecDepth 100000 in
theorem c_X7_hasRoomFor (l : Launch) (D : va_G) (cy : Nat → ClassId) (A : Nat → Nat) {σ : St} {v1 : Int32} {Φ : Int32 → St → Prop} (hw : wX7_hasRoomFor σ v1 Φ) : CtI l yX7_hasRoomFor (.code yX7_hasRoomFor cX7_hasRoomFor 2 (some .boolean) :: gL) rm_X7_hasRoomFor 0 0 [.ref (A 1), .int v1] D cy A σ Φ := by
  refine ct_any (fun sz => va_Qi Φ (HE D cy A (gZ cy A σ sz)) (gZ cy A σ sz)) (by decide +kernel) rfl rfl [(0, .ref (A 1)), (1, .int v1)] rfl (Nat.le_of_ble_eq_true rfl) ?_
  intro κ hκl hnm C hK sz F
  subst hκl
  unfold wX7_hasRoomFor at hw
  refine g_aload_n C 0 rfl rfl dX7_hasRoomFor_0 ?_
  refine g_get C hK inX7 rfl 1 (ga_1 cy A _) 1 (by decide) (fun _ h => h) wt_28 rfl dX7_hasRoomFor_1 ?_
  refine g_iload_n C 1 rfl rfl dX7_hasRoomFor_4 ?_
  refine g_iadd C dX7_hasRoomFor_5 ?_
  refine g_aload_n C 0 rfl rfl dX7_hasRoomFor_6 ?_
  refine g_get C hK inX7 rfl 1 (ga_1 cy A _) 0 (by decide) (fun _ h => h) wt_27 rfl dX7_hasRoomFor_7 ?_
  refine g_alen (v := 12) C hK 2 1 (ga_2 cy A _) rfl rfl dX7_hasRoomFor_10 ?_
  refine g_icmp_gt C 18 (by decide) hw dX7_hasRoomFor_11 (fun hw => ?_) (fun hw => ?_)
  · refine g_iconst (v := (0 : Int32)) C dX7_hasRoomFor_18 (by decide) ?_
    exact gq_Z C F (by decide) (by decide) hw dX7_hasRoomFor_19
  · refine g_iconst (v := (1 : Int32)) C dX7_hasRoomFor_14 (by decide) ?_
    refine g_goto C 19 (by decide) dX7_hasRoomFor_15 ?_
    exact gq_Z C F (by decide) (by decide) hw dX7_hasRoomFor_19
set_option maxHeartbeats 4000000 in
set_option maxRecDepth 100000 in
theorem c_X7_put (l : Launch) (D : va_G) (cy : Nat → ClassId) (A : Nat → Nat) {σ : St} {v1 : Int32} {Φ : St → Prop} (hw : wX7_put σ v1 Φ) : CtV l yX7_put (.code yX7_put cX7_put 2 none :: gL) rm_X7_put 0 0 [.ref (A 1), .int v1] D cy A σ Φ := by
  refine ct_any (fun sz => va_Qv Φ (HE D cy A (gZ cy A σ sz)) (gZ cy A σ sz)) (by decide +kernel) rfl rfl [(0, .ref (A 1)), (1, .int v1)] rfl (Nat.le_of_ble_eq_true rfl) ?_
  intro κ hκl hnm C hK sz F
  subst hκl
  unfold wX7_put at hw
  refine g_aload_n C 0 rfl rfl dX7_put_0 ?_
  refine g_get C hK inX7 rfl 1 (ga_1 cy A _) 1 (by decide) (fun _ h => h) wt_28 rfl dX7_put_1 ?_
  refine g_if_lt C 39 (by decide) hw dX7_put_4 (fun hw => ?_) (fun hw => ?_)
  · exact gq_V C F (by decide) (by decide) hw dX7_put_39
  · refine g_aload_n C 0 rfl rfl dX7_put_7 ?_
    refine g_get C hK inX7 rfl 1 (ga_1 cy A _) 1 (by decide) (fun _ h => h) wt_28 rfl dX7_put_8 ?_
    refine g_aload_n C 0 rfl rfl dX7_put_11 ?_
    refine g_get C hK inX7 rfl 1 (ga_1 cy A _) 0 (by decide) (fun _ h => h) wt_27 rfl dX7_put_12 ?_
    refine g_alen (v := 12) C hK 2 1 (ga_2 cy A _) rfl rfl dX7_put_15 ?_
    refine g_icmp_ge C 39 (by decide) hw dX7_put_16 (fun hw => ?_) (fun hw => ?_)
    · exact gq_V C F (by decide) (by decide) hw dX7_put_39
    · refine g_aload_n C 0 rfl rfl dX7_put_19 ?_
      refine g_get C hK inX7 rfl 1 (ga_1 cy A _) 0 (by decide) (fun _ h => h) wt_27 rfl dX7_put_20 ?_
      refine g_aload_n C 0 rfl rfl dX7_put_23 ?_
      refine g_get C hK inX7 rfl 1 (ga_1 cy A _) 1 (by decide) (fun _ h => h) wt_28 rfl dX7_put_24 ?_
      refine g_iload_n C 1 rfl rfl dX7_put_27 ?_
      refine g_cast C hK 2 1 (ga_2 cy A _) rfl hw.1 (gs_2 cy A _ _ _) dX7_put_28 ?_
      replace hw := hw.2
      refine g_aload_n C 0 rfl rfl dX7_put_29 ?_
      refine g_dup C rfl dX7_put_30 ?_
      refine g_get C hK inX7 rfl 1 (ga_1 cy A _) 1 (by decide) (fun _ h => h) wt_28 rfl dX7_put_31 ?_
      refine g_iconst (v := (1 : Int32)) C dX7_put_34 (by decide) ?_
      refine g_iadd C dX7_put_35 ?_
      refine g_put (v := .int (((sV σ 2 (σ.1 1 1).toNatClampNeg (vp_nar .char v1)).1 1 1) + (1 : Int32))) C hK inX7 rfl tyX7 tyX7_ok nmX7 1 (ga_1 cy A _) 1 (by decide) (fun _ h => h) wt_28 rfl rfl rfl (Nat.le_of_ble_eq_true rfl) (gp_1_1 cy A _ _) dX7_put_36 ?_
      exact gq_V C F (by decide) (by decide) hw dX7_put_39
set_option maxHeartbeats 4000000 in
set_option maxRecDepth 100000 in
theorem c_X7_emptied (l : Launch) (D : va_G) (cy : Nat → ClassId) (A : Nat → Nat) {σ : St} {Φ : Int32 → St → Prop} (hw : wX7_emptied σ Φ) : CtI l yX7_emptied (.code yX7_emptied cX7_emptied 2 (some .int) :: gL) rm_X7_emptied 0 0 [.ref (A 1)] D cy A σ Φ := by
  refine ct_any (fun sz => va_Qi Φ (HE D cy A (gZ cy A σ sz)) (gZ cy A σ sz)) (by decide +kernel) rfl rfl [(0, .ref (A 1))] rfl (Nat.le_of_ble_eq_true rfl) ?_
  intro κ hκl hnm C hK sz F
  subst hκl
  unfold wX7_emptied at hw
  refine g_aload_n C 0 rfl rfl dX7_emptied_0 ?_
  refine g_get C hK inX7 rfl 1 (ga_1 cy A _) 1 (by decide) (fun _ h => h) wt_28 rfl dX7_emptied_1 ?_
  refine g_istore_n C [(1, .int (σ.1 1 1)), (0, .ref (A 1))] F.2.2.2.1 rfl (by decide) rfl dX7_emptied_4 ?_
  refine g_aload_n C 1 rfl rfl dX7_emptied_5 ?_
  refine g_iconst (v := (0 : Int32)) C dX7_emptied_6 (by decide) ?_
  refine g_put (v := .int (0 : Int32)) C hK inX7 rfl tyX7 tyX7_ok nmX7 1 (ga_1 cy A _) 1 (by decide) (fun _ h => h) wt_28 rfl rfl rfl (Nat.le_of_ble_eq_true rfl) (gp_1_1 cy A _ _) dX7_emptied_7 ?_
  refine g_iload_n C 0 rfl rfl dX7_emptied_10 ?_
  exact gq_I C F (by decide) (by decide) hw dX7_emptied_11
set_option maxHeartbeats 4000000 in
set_option maxRecDepth 100000 in
theorem c_X7_isBetween (l : Launch) (D : va_G) (cy : Nat → ClassId) (A : Nat → Nat) {σ : St} {v1 : Int32} {v2 : Int32} {v3 : Int32} {Φ : Int32 → St → Prop} (hw : wX7_isBetween σ v1 v2 v3 Φ) : CtI l yX7_isBetween (.code yX7_isBetween cX7_isBetween 4 (some .boolean) :: gL) rm_X7_isBetween 0 0 [.ref (A 1), .int v1, .int v2, .int v3] D cy A σ Φ := by
  refine ct_any (fun sz => va_Qi Φ (HE D cy A (gZ cy A σ sz)) (gZ cy A σ sz)) (by decide +kernel) rfl rfl [(0, .ref (A 1)), (1, .int v1), (2, .int v2), (3, .int v3)] rfl (Nat.le_of_ble_eq_true rfl) ?_
  intro κ hκl hnm C hK sz F
  subst hκl
  unfold wX7_isBetween at hw
  refine g_aload_n C 0 rfl rfl dX7_isBetween_0 ?_
  refine g_iload_n C 1 rfl rfl dX7_isBetween_1 ?_
  refine gc_I C (gr_V (As := [.int v1]) (rest := []) C hK 1 (gd_V wt_326 wt_327 wt_328 wt_2 wt_329) rfl rfl rfl ⟨rfl, hs_X7_at⟩ ⟨⟨Nat.le_of_ble_eq_true rfl, Nat.le_of_ble_eq_true rfl⟩, Nat.le_of_ble_eq_true rfl, Nat.le_of_ble_eq_true rfl⟩ rfl 1 (ga_1 cy A _) rfl rfl (Nat.le_of_ble_eq_true rfl) dX7_isBetween_2 (c_X7_at (q_l κ) (q_D κ) cy A hw)) (fun r2 σ1 hw => ?_)
  refine g_iload_n C 2 rfl rfl dX7_isBetween_5 ?_
  refine g_icmp_lt C 22 (by decide) hw dX7_isBetween_6 (fun hw => ?_) (fun hw => ?_)
  · refine g_iconst (v := (0 : Int32)) C dX7_isBetween_22 (by decide) ?_
    exact gq_Z C F (by decide) (by decide) hw dX7_isBetween_23
  · refine g_aload_n C 0 rfl rfl dX7_isBetween_9 ?_
    refine g_iload_n C 1 rfl rfl dX7_isBetween_10 ?_
    refine gc_I C (gr_V (As := [.int v1]) (rest := []) C hK 1 (gd_V wt_326 wt_327 wt_328 wt_2 wt_329) rfl rfl rfl ⟨rfl, hs_X7_at⟩ ⟨⟨Nat.le_of_ble_eq_true rfl, Nat.le_of_ble_eq_true rfl⟩, Nat.le_of_ble_eq_true rfl, Nat.le_of_ble_eq_true rfl⟩ rfl 1 (ga_1 cy A _) rfl rfl (Nat.le_of_ble_eq_true rfl) dX7_isBetween_11 (c_X7_at (q_l κ) (q_D κ) cy A hw)) (fun r4 σ3 hw => ?_)
    refine g_iload_n C 3 rfl rfl dX7_isBetween_14 ?_
    refine g_icmp_gt C 22 (by decide) hw dX7_isBetween_15 (fun hw => ?_) (fun hw => ?_)
    · refine g_iconst (v := (0 : Int32)) C dX7_isBetween_22 (by decide) ?_
      exact gq_Z C F (by decide) (by decide) hw dX7_isBetween_23
    · refine g_iconst (v := (1 : Int32)) C dX7_isBetween_18 (by decide) ?_
      refine g_goto C 23 (by decide) dX7_isBetween_19 ?_
      exact gq_Z C F (by decide) (by decide) hw dX7_isBetween_23
set_option maxHeartbeats 4000000 in
set_option maxRecDepth 100000 in
theorem c_X7_isWireLetter (l : Launch) (D : va_G) (cy : Nat → ClassId) (A : Nat → Nat) {σ : St} {v1 : Int32} {Φ : Int32 → St → Prop} (hw : wX7_isWireLetter σ v1 Φ) : CtI l yX7_isWireLetter (.code yX7_isWireLetter cX7_isWireLetter 2 (some .boolean) :: gL) rm_X7_isWireLetter 0 0 [.ref (A 1), .int v1] D cy A σ Φ := by
  refine ct_any (fun sz => va_Qi Φ (HE D cy A (gZ cy A σ sz)) (gZ cy A σ sz)) (by decide +kernel) rfl rfl [(0, .ref (A 1)), (1, .int v1)] rfl (Nat.le_of_ble_eq_true rfl) ?_
  intro κ hκl hnm C hK sz F
  subst hκl
  have J113 : ∀ (σ : St) (v1 : Int32), wX7_isWireLetter_113 Φ σ v1 → GW κ 0 0 (gW cy A σ) 113 [(0, .ref (A 1)), (1, .int v1)] [] := by
    intro σ v1 hw
    unfold wX7_isWireLetter_113 at hw
    refine g_aload_n C 0 rfl rfl dX7_isWireLetter_113 ?_
    refine g_iload_n C 1 rfl rfl dX7_isWireLetter_114 ?_
    refine g_bipush (v := (48 : Int32)) C dX7_isWireLetter_115 (by decide) ?_
    refine g_bipush (v := (57 : Int32)) C dX7_isWireLetter_117 (by decide) ?_
    refine gc_I C (gr_V (As := [.int v1, .int (48 : Int32), .int (57 : Int32)]) (rest := []) C hK 3 (gd_V wt_323 wt_324 wt_457 wt_2 wt_325) rfl rfl rfl ⟨rfl, hs_X7_isBetween⟩ ⟨⟨Nat.le_of_ble_eq_true rfl, Nat.le_of_ble_eq_true rfl⟩, Nat.le_of_ble_eq_true rfl, Nat.le_of_ble_eq_true rfl⟩ rfl 1 (ga_1 cy A _) rfl rfl (Nat.le_of_ble_eq_true rfl) dX7_isWireLetter_119 (c_X7_isBetween (q_l κ) (q_D κ) cy A hw)) (fun r14 σ13 hw => ?_)
    exact gq_Z C F (by decide) (by decide) hw dX7_isWireLetter_122
  have J103 : ∀ (σ : St) (v1 : Int32), wX7_isWireLetter_103 Φ σ v1 → GW κ 0 0 (gW cy A σ) 103 [(0, .ref (A 1)), (1, .int v1)] [] := by
    intro σ v1 hw
    unfold wX7_isWireLetter_103 at hw
    refine g_aload_n C 0 rfl rfl dX7_isWireLetter_103 ?_
    refine g_iload_n C 1 rfl rfl dX7_isWireLetter_104 ?_
    refine g_bipush (v := (49 : Int32)) C dX7_isWireLetter_105 (by decide) ?_
    refine g_bipush (v := (57 : Int32)) C dX7_isWireLetter_107 (by decide) ?_
    refine gc_I C (gr_V (As := [.int v1, .int (49 : Int32), .int (57 : Int32)]) (rest := []) C hK 3 (gd_V wt_323 wt_324 wt_457 wt_2 wt_325) rfl rfl rfl ⟨rfl, hs_X7_isBetween⟩ ⟨⟨Nat.le_of_ble_eq_true rfl, Nat.le_of_ble_eq_true rfl⟩, Nat.le_of_ble_eq_true rfl, Nat.le_of_ble_eq_true rfl⟩ rfl 1 (ga_1 cy A _) rfl rfl (Nat.le_of_ble_eq_true rfl) dX7_isWireLetter_109 (c_X7_isBetween (q_l κ) (q_D κ) cy A hw)) (fun r12 σ11 hw => ?_)
    exact gq_Z C F (by decide) (by decide) hw dX7_isWireLetter_112
  have J87 : ∀ (σ : St) (v1 : Int32), wX7_isWireLetter_87 Φ σ v1 → GW κ 0 0 (gW cy A σ) 87 [(0, .ref (A 1)), (1, .int v1)] [] := by
    intro σ v1 hw
    unfold wX7_isWireLetter_87 at hw
    refine g_aload_n C 0 rfl rfl dX7_isWireLetter_87 ?_
    refine g_iload_n C 1 rfl rfl dX7_isWireLetter_88 ?_
    refine gc_I C (gr_V (As := [.int v1]) (rest := []) C hK 1 (gd_V wt_326 wt_327 wt_328 wt_2 wt_329) rfl rfl rfl ⟨rfl, hs_X7_at⟩ ⟨⟨Nat.le_of_ble_eq_true rfl, Nat.le_of_ble_eq_true rfl⟩, Nat.le_of_ble_eq_true rfl, Nat.le_of_ble_eq_true rfl⟩ rfl 1 (ga_1 cy A _) rfl rfl (Nat.le_of_ble_eq_true rfl) dX7_isWireLetter_89 (c_X7_at (q_l κ) (q_D κ) cy A hw)) (fun r10 σ9 hw => ?_)
    refine g_bipush (v := (58 : Int32)) C dX7_isWireLetter_92 (by decide) ?_
    refine g_icmp_ne C 101 (by decide) hw dX7_isWireLetter_94 (fun hw => ?_) (fun hw => ?_)
    · refine g_iconst (v := (0 : Int32)) C dX7_isWireLetter_101 (by decide) ?_
      exact gq_Z C F (by decide) (by decide) hw dX7_isWireLetter_102
    · refine g_iconst (v := (1 : Int32)) C dX7_isWireLetter_97 (by decide) ?_
      refine g_goto C 102 (by decide) dX7_isWireLetter_98 ?_
      exact gq_Z C F (by decide) (by decide) hw dX7_isWireLetter_102
  have J83 : ∀ (σ : St) (s0 : Int32) (s1 : Int32) (s2 : Int32), wX7_isWireLetter_83 Φ σ s0 s1 s2 → GW κ 0 0 (gW cy A σ) 83 [] [.int s0, .int s1, .int s2, .ref (A 1)] := by
    intro σ s0 s1 s2 hw
    unfold wX7_isWireLetter_83 at hw
    refine gc_I C (gr_V (As := [.int s2, .int s1, .int s0]) (rest := []) C hK 3 (gd_V wt_323 wt_324 wt_457 wt_2 wt_325) rfl rfl rfl ⟨rfl, hs_X7_isBetween⟩ ⟨⟨Nat.le_of_ble_eq_true rfl, Nat.le_of_ble_eq_true rfl⟩, Nat.le_of_ble_eq_true rfl, Nat.le_of_ble_eq_true rfl⟩ rfl 1 (ga_1 cy A _) rfl rfl (Nat.le_of_ble_eq_true rfl) dX7_isWireLetter_83 (c_X7_isBetween (q_l κ) (q_D κ) cy A hw)) (fun r8 σ7 hw => ?_)
    exact gq_Z C F (by decide) (by decide) hw dX7_isWireLetter_86
  unfold wX7_isWireLetter at hw
  refine g_iload_n C 1 rfl rfl dX7_isWireLetter_0 ?_
  by_cases h9 : v1.toInt < 0 ∨ 8 < v1.toInt
  · refine g_swOut C 139 h9 (by decide) dX7_isWireLetter_1 ?_
    replace hw := hw.2.2.2.2.2.2.2.2.2 h9
    refine g_iconst (v := (0 : Int32)) C dX7_isWireLetter_139 (by decide) ?_
    exact gq_Z C F (by decide) (by decide) hw dX7_isWireLetter_140
  · rcases (show v1.toInt = 0 ∨ v1.toInt = 1 ∨ v1.toInt = 2 ∨ v1.toInt = 3 ∨ v1.toInt = 4 ∨ v1.toInt = 5 ∨ v1.toInt = 6 ∨ v1.toInt = 7 ∨ v1.toInt = 8 by omega) with e9 | e9 | e9 | e9 | e9 | e9 | e9 | e9 | e9
    · refine g_swIn (off := 51) C 0 52 e9 (by decide) (by decide) (by decide) (by decide) dX7_isWireLetter_1 ?_
      replace hw := hw.1 (Int32.toInt_inj.mp (e9.trans (by decide)))
      refine g_aload_n C 0 rfl rfl dX7_isWireLetter_52 ?_
      refine g_iload_n C 1 rfl rfl dX7_isWireLetter_53 ?_
      refine g_bipush (v := (49 : Int32)) C dX7_isWireLetter_54 (by decide) ?_
      refine g_bipush (v := (52 : Int32)) C dX7_isWireLetter_56 (by decide) ?_
      refine gc_I C (gr_V (As := [.int v1, .int (49 : Int32), .int (52 : Int32)]) (rest := []) C hK 3 (gd_V wt_323 wt_324 wt_457 wt_2 wt_325) rfl rfl rfl ⟨rfl, hs_X7_isBetween⟩ ⟨⟨Nat.le_of_ble_eq_true rfl, Nat.le_of_ble_eq_true rfl⟩, Nat.le_of_ble_eq_true rfl, Nat.le_of_ble_eq_true rfl⟩ rfl 1 (ga_1 cy A _) rfl rfl (Nat.le_of_ble_eq_true rfl) dX7_isWireLetter_58 (c_X7_isBetween (q_l κ) (q_D κ) cy A hw)) (fun r2 σ1 hw => ?_)
      exact gq_Z C F (by decide) (by decide) hw dX7_isWireLetter_61
    · refine g_swIn (off := 61) C 1 62 e9 (by decide) (by decide) (by decide) (by decide) dX7_isWireLetter_1 ?_
      replace hw := hw.2.1 (Int32.toInt_inj.mp (e9.trans (by decide)))
      refine g_aload_n C 0 rfl rfl dX7_isWireLetter_62 ?_
      refine g_iload_n C 1 rfl rfl dX7_isWireLetter_63 ?_
      refine g_bipush (v := (48 : Int32)) C dX7_isWireLetter_64 (by decide) ?_
      refine g_aload_n C 0 rfl rfl dX7_isWireLetter_66 ?_
      refine g_iconst (v := (0 : Int32)) C dX7_isWireLetter_67 (by decide) ?_
      refine gc_I C (gr_V (As := [.int (0 : Int32)]) (rest := [.int (48 : Int32), .int v1, .ref (A 1)]) C hK 1 (gd_V wt_326 wt_327 wt_328 wt_2 wt_329) rfl rfl rfl ⟨rfl, hs_X7_at⟩ ⟨⟨Nat.le_of_ble_eq_true rfl, Nat.le_of_ble_eq_true rfl⟩, Nat.le_of_ble_eq_true rfl, Nat.le_of_ble_eq_true rfl⟩ rfl 1 (ga_1 cy A _) rfl rfl (Nat.le_of_ble_eq_true rfl) dX7_isWireLetter_68 (c_X7_at (q_l κ) (q_D κ) cy A hw)) (fun r4 σ3 hw => ?_)
      refine g_bipush (v := (52 : Int32)) C dX7_isWireLetter_71 (by decide) ?_
      refine g_icmp_ne C 81 (by decide) hw dX7_isWireLetter_73 (fun hw => ?_) (fun hw => ?_)
      · refine g_bipush (v := (57 : Int32)) C dX7_isWireLetter_81 (by decide) ?_
        refine g_eql (lv' := []) [] rfl ?_
        exact J83 σ3 (57 : Int32) (48 : Int32) v1 hw
      · refine g_bipush (v := (48 : Int32)) C dX7_isWireLetter_76 (by decide) ?_
        refine g_goto C 83 (by decide) dX7_isWireLetter_78 ?_
        refine g_eql (lv' := []) [] rfl ?_
        exact J83 σ3 (48 : Int32) (48 : Int32) v1 hw
    · refine g_swIn (off := 86) C 2 87 e9 (by decide) (by decide) (by decide) (by decide) dX7_isWireLetter_1 ?_
      replace hw := hw.2.2.1 (Int32.toInt_inj.mp (e9.trans (by decide)))
      exact J87 σ v1 hw
    · refine g_swIn (off := 102) C 3 103 e9 (by decide) (by decide) (by decide) (by decide) dX7_isWireLetter_1 ?_
      replace hw := hw.2.2.2.1 (Int32.toInt_inj.mp (e9.trans (by decide)))
      exact J103 σ v1 hw
    · refine g_swIn (off := 86) C 4 87 e9 (by decide) (by decide) (by decide) (by decide) dX7_isWireLetter_1 ?_
      replace hw := hw.2.2.2.2.1 (Int32.toInt_inj.mp (e9.trans (by decide)))
      exact J87 σ v1 hw
    · refine g_swIn (off := 102) C 5 103 e9 (by decide) (by decide) (by decide) (by decide) dX7_isWireLetter_1 ?_
      replace hw := hw.2.2.2.2.2.1 (Int32.toInt_inj.mp (e9.trans (by decide)))
      exact J103 σ v1 hw
    · refine g_swIn (off := 112) C 6 113 e9 (by decide) (by decide) (by decide) (by decide) dX7_isWireLetter_1 ?_
      replace hw := hw.2.2.2.2.2.2.1 (Int32.toInt_inj.mp (e9.trans (by decide)))
      exact J113 σ v1 hw
    · refine g_swIn (off := 112) C 7 113 e9 (by decide) (by decide) (by decide) (by decide) dX7_isWireLetter_1 ?_
      replace hw := hw.2.2.2.2.2.2.2.1 (Int32.toInt_inj.mp (e9.trans (by decide)))
      exact J113 σ v1 hw
    · refine g_swIn (off := 122) C 8 123 e9 (by decide) (by decide) (by decide) (by decide) dX7_isWireLetter_1 ?_
      replace hw := hw.2.2.2.2.2.2.2.2.1 (Int32.toInt_inj.mp (e9.trans (by decide)))
      refine g_aload_n C 0 rfl rfl dX7_isWireLetter_123 ?_
      refine g_iload_n C 1 rfl rfl dX7_isWireLetter_124 ?_
      refine gc_I C (gr_V (As := [.int v1]) (rest := []) C hK 1 (gd_V wt_326 wt_327 wt_328 wt_2 wt_329) rfl rfl rfl ⟨rfl, hs_X7_at⟩ ⟨⟨Nat.le_of_ble_eq_true rfl, Nat.le_of_ble_eq_true rfl⟩, Nat.le_of_ble_eq_true rfl, Nat.le_of_ble_eq_true rfl⟩ rfl 1 (ga_1 cy A _) rfl rfl (Nat.le_of_ble_eq_true rfl) dX7_isWireLetter_125 (c_X7_at (q_l κ) (q_D κ) cy A hw)) (fun r6 σ5 hw => ?_)
      refine g_bipush (v := (111 : Int32)) C dX7_isWireLetter_128 (by decide) ?_
      refine g_icmp_ne C 137 (by decide) hw dX7_isWireLetter_130 (fun hw => ?_) (fun hw => ?_)
      · refine g_iconst (v := (0 : Int32)) C dX7_isWireLetter_137 (by decide) ?_
        exact gq_Z C F (by decide) (by decide) hw dX7_isWireLetter_138
      · refine g_iconst (v := (1 : Int32)) C dX7_isWireLetter_133 (by decide) ?_
        refine g_goto C 138 (by decide) dX7_isWireLetter_134 ?_
        exact gq_Z C F (by decide) (by decide) hw dX7_isWireLetter_138
set_option maxHeartbeats 4000000 in
set_option maxRecDepth 100000 in
theorem c_X7_firstWrong (l : Launch) (D : va_G) (cy : Nat → ClassId) (A : Nat → Nat) {σ : St} {Φ : Int32 → St → Prop} (hw : wX7_firstWrong σ Φ) : CtI l yX7_firstWrong (.code yX7_firstWrong cX7_firstWrong 2 (some .int) :: gL) rm_X7_firstWrong 0 0 [.ref (A 1)] D cy A σ Φ := by
  refine ct_any (fun sz => va_Qi Φ (HE D cy A (gZ cy A σ sz)) (gZ cy A σ sz)) (by decide +kernel) rfl rfl [(0, .ref (A 1))] rfl (Nat.le_of_ble_eq_true rfl) ?_
  intro κ hκl hnm C hK sz F
  subst hκl
  have J2 : ∀ (n : Nat) (σ : St) (v1 : Int32), wX7_firstWrong_2 Φ n σ v1 → GW κ 0 0 (gW cy A σ) 2 [(0, .ref (A 1)), (1, .int v1)] [] := by
    intro n
    induction n with
    | zero => intro σ v1 hw; exact hw.elim
    | succ n ih =>
      intro σ v1 hw
      rw [wX7_firstWrong_2] at hw
      refine g_iload_n C 1 rfl rfl dX7_firstWrong_2 ?_
      refine g_aload_n C 0 rfl rfl dX7_firstWrong_3 ?_
      refine g_get C hK inX7 rfl 1 (ga_1 cy A _) 1 (by decide) (fun _ h => h) wt_28 rfl dX7_firstWrong_4 ?_
      refine g_icmp_ge C 26 (by decide) hw dX7_firstWrong_7 (fun hw => ?_) (fun hw => ?_)
      · refine g_aload_n C 0 rfl rfl dX7_firstWrong_26 ?_
        refine g_get C hK inX7 rfl 1 (ga_1 cy A _) 1 (by decide) (fun _ h => h) wt_28 rfl dX7_firstWrong_27 ?_
        exact gq_I C F (by decide) (by decide) hw dX7_firstWrong_30
      · refine g_aload_n C 0 rfl rfl dX7_firstWrong_10 ?_
        refine g_iload_n C 1 rfl rfl dX7_firstWrong_11 ?_
        refine gc_I C (gr_V (As := [.int v1]) (rest := []) C hK 1 (gd_V wt_320 wt_321 wt_456 wt_2 wt_322) rfl rfl rfl ⟨rfl, hs_X7_isWireLetter⟩ ⟨⟨Nat.le_of_ble_eq_true rfl, Nat.le_of_ble_eq_true rfl⟩, Nat.le_of_ble_eq_true rfl, Nat.le_of_ble_eq_true rfl⟩ rfl 1 (ga_1 cy A _) rfl rfl (Nat.le_of_ble_eq_true rfl) dX7_firstWrong_12 (c_X7_isWireLetter (q_l κ) (q_D κ) cy A hw)) (fun r2 σ1 hw => ?_)
        refine g_if_ne C 20 (by decide) hw dX7_firstWrong_15 (fun hw => ?_) (fun hw => ?_)
        · refine g_iinc (j := 1) C [(1, .int (v1 + 1)), (0, .ref (A 1))] F.2.2.2.1 rfl rfl (by decide) rfl dX7_firstWrong_20 ?_
          refine g_goto C 2 (by decide) dX7_firstWrong_23 ?_
          refine g_eql (lv' := [(0, .ref (A 1)), (1, .int (v1 + 1))]) [1, 0] rfl ?_
          exact ih σ1 (v1 + 1) hw
        · refine g_iload_n C 1 rfl rfl dX7_firstWrong_18 ?_
          exact gq_I C F (by decide) (by decide) hw dX7_firstWrong_19
  unfold wX7_firstWrong at hw
  refine g_iconst (v := (0 : Int32)) C dX7_firstWrong_0 (by decide) ?_
  refine g_istore_n C [(1, .int (0 : Int32)), (0, .ref (A 1))] F.2.2.2.1 rfl (by decide) rfl dX7_firstWrong_1 ?_
  refine g_eql (lv' := [(0, .ref (A 1)), (1, .int (0 : Int32))]) [1, 0] rfl ?_
  obtain ⟨n0, hw⟩ := hw
  exact J2 n0 σ (0 : Int32) hw
set_option maxHeartbeats 4000000 in
set_option maxRecDepth 100000 in
theorem c_X7_isWire (l : Launch) (D : va_G) (cy : Nat → ClassId) (A : Nat → Nat) {σ : St} {Φ : Int32 → St → Prop} (hw : wX7_isWire σ Φ) : CtI l yX7_isWire (.code yX7_isWire cX7_isWire 1 (some .boolean) :: gL) rm_X7_isWire 0 0 [.ref (A 1)] D cy A σ Φ := by
  refine ct_any (fun sz => va_Qi Φ (HE D cy A (gZ cy A σ sz)) (gZ cy A σ sz)) (by decide +kernel) rfl rfl [(0, .ref (A 1))] rfl (Nat.le_of_ble_eq_true rfl) ?_
  intro κ hκl hnm C hK sz F
  subst hκl
  unfold wX7_isWire at hw
  refine g_aload_n C 0 rfl rfl dX7_isWire_0 ?_
  refine g_get C hK inX7 rfl 1 (ga_1 cy A _) 1 (by decide) (fun _ h => h) wt_28 rfl dX7_isWire_1 ?_
  refine g_bipush (v := (8 : Int32)) C dX7_isWire_4 (by decide) ?_
  refine g_icmp_lt C 24 (by decide) hw dX7_isWire_6 (fun hw => ?_) (fun hw => ?_)
  · refine g_iconst (v := (0 : Int32)) C dX7_isWire_24 (by decide) ?_
    exact gq_Z C F (by decide) (by decide) hw dX7_isWire_25
  · refine g_aload_n C 0 rfl rfl dX7_isWire_9 ?_
    refine gc_I C (gr_V (As := []) (rest := []) C hK 0 (gd_V wt_338 wt_317 wt_318 wt_2 wt_319) rfl rfl rfl ⟨rfl, hs_X7_firstWrong⟩ ⟨⟨Nat.le_of_ble_eq_true rfl, Nat.le_of_ble_eq_true rfl⟩, Nat.le_of_ble_eq_true rfl, Nat.le_of_ble_eq_true rfl⟩ rfl 1 (ga_1 cy A _) rfl rfl (Nat.le_of_ble_eq_true rfl) dX7_isWire_10 (c_X7_firstWrong (q_l κ) (q_D κ) cy A hw)) (fun r2 σ1 hw => ?_)
    refine g_aload_n C 0 rfl rfl dX7_isWire_13 ?_
    refine g_get C hK inX7 rfl 1 (ga_1 cy A _) 1 (by decide) (fun _ h => h) wt_28 rfl dX7_isWire_14 ?_
    refine g_icmp_ne C 24 (by decide) hw dX7_isWire_17 (fun hw => ?_) (fun hw => ?_)
    · refine g_iconst (v := (0 : Int32)) C dX7_isWire_24 (by decide) ?_
      exact gq_Z C F (by decide) (by decide) hw dX7_isWire_25
    · refine g_iconst (v := (1 : Int32)) C dX7_isWire_20 (by decide) ?_
      refine g_goto C 25 (by decide) dX7_isWire_21 ?_
      exact gq_Z C F (by decide) (by decide) hw dX7_isWire_25
set_option maxHeartbeats 4000000 in
set_option maxRecDepth 100000 in
theorem c_X9_kind (l : Launch) (D : va_G) (cy : Nat → ClassId) (A : Nat → Nat) {σ : St} {a0 : Nat} {Φ : Int32 → St → Prop} (hw : wX9_kind σ a0 Φ) : CtI l yX9_kind (.code yX9_kind cX9_kind 1 (some .int) :: gL) rm_X9_kind 0 0 [.ref a0] D cy A σ Φ := by
  refine ct_any (fun sz => va_Qi Φ (HE D cy A (gZ cy A σ sz)) (gZ cy A σ sz)) (by decide +kernel) rfl rfl [(0, .ref a0)] rfl (Nat.le_of_ble_eq_true rfl) ?_
  intro κ hκl hnm C hK sz F
  subst hκl
  unfold wX9_kind at hw
  refine g_iconst (v := (0 : Int32)) C dX9_kind_0 (by decide) ?_
  exact gq_I C F (by decide) (by decide) hw dX9_kind_1
set_option maxHeartbeats 4000000 in
set_option maxRecDepth 100000 in
theorem c_X9_goesAcross (l : Launch) (D : va_G) (cy : Nat → ClassId) (A : Nat → Nat) {σ : St} {a0 : Nat} {v1 : Int32} {Φ : Int32 → St → Prop} (hw : wX9_goesAcross σ a0 v1 Φ) : CtI l yX9_goesAcross (.code yX9_goesAcross cX9_goesAcross 2 (some .boolean) :: gL) rm_X9_goesAcross 0 0 [.ref a0, .int v1] D cy A σ Φ := by
  refine ct_any (fun sz => va_Qi Φ (HE D cy A (gZ cy A σ sz)) (gZ cy A σ sz)) (by decide +kernel) rfl rfl [(0, .ref a0), (1, .int v1)] rfl (Nat.le_of_ble_eq_true rfl) ?_
  intro κ hκl hnm C hK sz F
  subst hκl
  unfold wX9_goesAcross at hw
  refine g_iconst (v := (1 : Int32)) C dX9_goesAcross_0 (by decide) ?_
  exact gq_Z C F (by decide) (by decide) hw dX9_goesAcross_1
set_option maxHeartbeats 4000000 in
set_option maxRecDepth 100000 in
theorem c_X9_hoursHere (l : Launch) (D : va_G) (cy : Nat → ClassId) (A : Nat → Nat) {σ : St} {a0 : Nat} {v1 : Int32} {Φ : Int32 → St → Prop} (hw : wX9_hoursHere σ a0 v1 Φ) : CtI l yX9_hoursHere (.code yX9_hoursHere cX9_hoursHere 2 (some .int) :: gL) rm_X9_hoursHere 0 0 [.ref a0, .int v1] D cy A σ Φ := by
  refine ct_any (fun sz => va_Qi Φ (HE D cy A (gZ cy A σ sz)) (gZ cy A σ sz)) (by decide +kernel) rfl rfl [(0, .ref a0), (1, .int v1)] rfl (Nat.le_of_ble_eq_true rfl) ?_
  intro κ hκl hnm C hK sz F
  subst hκl
  unfold wX9_hoursHere at hw
  refine g_iload_n C 1 rfl rfl dX9_hoursHere_0 ?_
  refine g_aload_n C 0 rfl rfl dX9_hoursHere_1 ?_
  refine g_getT1 C hK hw.1 (fun _ h => h) wt_390 dX9_hoursHere_2 ?_
  replace hw := hw.2
  refine g_isub C dX9_hoursHere_5 ?_
  exact gq_I C F (by decide) (by decide) hw dX9_hoursHere_6
set_option maxHeartbeats 4000000 in
set_option maxRecDepth 100000 in
theorem c_X10_emptied (l : Launch) (D : va_G) (cy : Nat → ClassId) (A : Nat → Nat) {σ : St} {Φ : Int32 → St → Prop} (hw : wX10_emptied σ Φ) : CtI l yX10_emptied (.code yX10_emptied cX10_emptied 2 (some .int) :: gL) rm_X10_emptied 0 0 [.ref (A 7)] D cy A σ Φ := by
  refine ct_any (fun sz => va_Qi Φ (HE D cy A (gZ cy A σ sz)) (gZ cy A σ sz)) (by decide +kernel) rfl rfl [(0, .ref (A 7))] rfl (Nat.le_of_ble_eq_true rfl) ?_
  intro κ hκl hnm C hK sz F
  subst hκl
  unfold wX10_emptied at hw
  refine g_aload_n C 0 rfl rfl dX10_emptied_0 ?_
  refine g_get C hK inX10 rfl 7 (ga_7 cy A _) 2 (by decide) (fun _ h => h) wt_69 rfl dX10_emptied_1 ?_
  refine g_istore_n C [(1, .int (σ.1 7 2)), (0, .ref (A 7))] F.2.2.2.1 rfl (by decide) rfl dX10_emptied_4 ?_
  refine g_aload_n C 1 rfl rfl dX10_emptied_5 ?_
  refine g_iconst (v := (0 : Int32)) C dX10_emptied_6 (by decide) ?_
  refine g_put (v := .int (0 : Int32)) C hK inX10 rfl tyX10 tyX10_ok nmX10 7 (ga_7 cy A _) 2 (by decide) (fun _ h => h) wt_69 rfl rfl rfl (Nat.le_of_ble_eq_true rfl) (gp_7_2 cy A _ _) dX10_emptied_7 ?_
  refine g_iload_n C 0 rfl rfl dX10_emptied_10 ?_
  exact gq_I C F (by decide) (by decide) hw dX10_emptied_11
set_option maxHeartbeats 4000000 in
set_option maxRecDepth 100000 in
theorem c_X11_byteOf (l : Launch) (D : va_G) (cy : Nat → ClassId) (A : Nat → Nat) {σ : St} {v0 : Int64} {v2 : Int32} {Φ : Int32 → St → Prop} (hw : wX11_byteOf σ v0 v2 Φ) : CtI l yX11_byteOf (.code yX11_byteOf cX11_byteOf 3 (some .int) :: gL) rm_X11_byteOf 0 0 [.long v0, .int v2] D cy A σ Φ := by
  refine ct_any (fun sz => va_Qi Φ (HE D cy A (gZ cy A σ sz)) (gZ cy A σ sz)) (by decide +kernel) rfl rfl [(0, .long v0), (2, .int v2)] rfl (Nat.le_of_ble_eq_true rfl) ?_
  intro κ hκl hnm C hK sz F
  subst hκl
  unfold wX11_byteOf at hw
  refine g_lload_n C 0 rfl rfl dX11_byteOf_0 ?_
  refine g_bipush (v := (8 : Int32)) C dX11_byteOf_1 (by decide) ?_
  refine g_iload_n C 1 rfl rfl dX11_byteOf_3 ?_
  refine g_imul C dX11_byteOf_4 ?_
  refine g_lushr C dX11_byteOf_5 ?_
  refine g_l2i C dX11_byteOf_6 ?_
  refine g_sipush (v := (255 : Int32)) C dX11_byteOf_7 (by decide) ?_
  refine g_iand C dX11_byteOf_10 ?_
  exact gq_I C F (by decide) (by decide) hw dX11_byteOf_11
set_option maxHeartbeats 4000000 in
set_option maxRecDepth 100000 in
theorem c_X11_lettersIn (l : Launch) (D : va_G) (cy : Nat → ClassId) (A : Nat → Nat) {σ : St} {v0 : Int64} {Φ : Int32 → St → Prop} (hw : wX11_lettersIn σ v0 Φ) : CtI l yX11_lettersIn (.code yX11_lettersIn cX11_lettersIn 6 (some .int) :: gL) rm_X11_lettersIn 0 0 [.long v0] D cy A σ Φ := by
  refine ct_any (fun sz => va_Qi Φ (HE D cy A (gZ cy A σ sz)) (gZ cy A σ sz)) (by decide +kernel) rfl rfl [(0, .long v0)] rfl (Nat.le_of_ble_eq_true rfl) ?_
  intro κ hκl hnm C hK sz F
  subst hκl
  have J53 : ∀ (K7 : St → Int64 → Int32 → Int32 → Int32 → Prop) (_ : ∀ (σ : St) (v0 : Int64) (v2 : Int32) (v3 : Int32) (v4 : Int32), K7 σ v0 v2 v3 v4 → GW κ 0 0 (gW cy A σ) 7 [(0, .long v0), (2, .int v2), (3, .int v3), (4, .int v4)] []), ∀ (σ : St) (v0 : Int64) (v2 : Int32) (v3 : Int32) (v4 : Int32), wX11_lettersIn_53 K7 Φ σ v0 v2 v3 v4 → GW κ 0 0 (gW cy A σ) 53 [(0, .long v0), (2, .int v2), (3, .int v3), (4, .int v4)] [] := by
    intro K7 hK7 σ v0 v2 v3 v4 hw
    unfold wX11_lettersIn_53 at hw
    refine g_iinc (j := 3) C [(4, .int (v4 + 1)), (0, .long v0), (2, .int v2), (3, .int v3)] F.2.2.2.1 rfl rfl (by decide) rfl dX11_lettersIn_53 ?_
    refine g_goto C 7 (by decide) dX11_lettersIn_56 ?_
    refine g_eql (lv' := [(0, .long v0), (2, .int v2), (3, .int v3), (4, .int (v4 + 1))]) [1, 2, 3, 0] rfl ?_
    exact hK7 σ v0 v2 v3 (v4 + 1) hw
  have J40 : ∀ (K7 : St → Int64 → Int32 → Int32 → Int32 → Prop) (_ : ∀ (σ : St) (v0 : Int64) (v2 : Int32) (v3 : Int32) (v4 : Int32), K7 σ v0 v2 v3 v4 → GW κ 0 0 (gW cy A σ) 7 [(0, .long v0), (2, .int v2), (3, .int v3), (4, .int v4)] []), ∀ (σ : St) (v0 : Int64) (v2 : Int32) (v3 : Int32) (v4 : Int32) (v5 : Int32), wX11_lettersIn_40 K7 Φ σ v0 v2 v3 v4 v5 → GW κ 0 0 (gW cy A σ) 40 [(0, .long v0), (2, .int v2), (3, .int v3), (4, .int v4), (5, .int v5)] [] := by
    intro K7 hK7 σ v0 v2 v3 v4 v5 hw
    unfold wX11_lettersIn_40 at hw
    refine g_iload C 4 rfl dX11_lettersIn_40 ?_
    refine g_if_ne C 50 (by decide) hw dX11_lettersIn_42 (fun hw => ?_) (fun hw => ?_)
    · refine g_iinc (j := 1) C [(2, .int (v2 + 1)), (0, .long v0), (3, .int v3), (4, .int v4), (5, .int v5)] F.2.2.2.1 rfl rfl (by decide) rfl dX11_lettersIn_50 ?_
      refine g_eql (lv' := [(0, .long v0), (2, .int (v2 + 1)), (3, .int v3), (4, .int v4)]) [1, 0, 2, 3] rfl ?_
      exact J53 _ hK7 σ v0 (v2 + 1) v3 v4 hw
    · refine g_iconst (v := (1 : Int32)) C dX11_lettersIn_45 (by decide) ?_
      refine g_istore_n C [(3, .int (1 : Int32)), (0, .long v0), (2, .int v2), (4, .int v4), (5, .int v5)] F.2.2.2.1 rfl (by decide) rfl dX11_lettersIn_46 ?_
      refine g_goto C 53 (by decide) dX11_lettersIn_47 ?_
      refine g_eql (lv' := [(0, .long v0), (2, .int v2), (3, .int (1 : Int32)), (4, .int v4)]) [1, 2, 0, 3] rfl ?_
      exact J53 _ hK7 σ v0 v2 (1 : Int32) v4 hw
  have J7 : ∀ (n : Nat) (σ : St) (v0 : Int64) (v2 : Int32) (v3 : Int32) (v4 : Int32), wX11_lettersIn_7 Φ n σ v0 v2 v3 v4 → GW κ 0 0 (gW cy A σ) 7 [(0, .long v0), (2, .int v2), (3, .int v3), (4, .int v4)] [] := by
    intro n
    induction n with
    | zero => intro σ v0 v2 v3 v4 hw; exact hw.elim
    | succ n ih =>
      intro σ v0 v2 v3 v4 hw
      rw [wX11_lettersIn_7] at hw
      refine g_iload C 3 rfl dX11_lettersIn_7 ?_
      refine g_bipush (v := (8 : Int32)) C dX11_lettersIn_9 (by decide) ?_
      refine g_icmp_ge C 59 (by decide) hw dX11_lettersIn_11 (fun hw => ?_) (fun hw => ?_)
      · refine g_iload_n C 1 rfl rfl dX11_lettersIn_59 ?_
        exact gq_I C F (by decide) (by decide) hw dX11_lettersIn_60
      · refine g_lload_n C 0 rfl rfl dX11_lettersIn_14 ?_
        refine g_iload C 3 rfl dX11_lettersIn_15 ?_
        refine gc_I C (gr_S (As := [.long v0, .int v4]) (rest := []) C hK 2 (gd_S wt_301 wt_302 wt_1 wt_303) rfl rfl rfl hs_X11_byteOf ⟨⟨Nat.le_of_ble_eq_true rfl, Nat.le_of_ble_eq_true rfl⟩, Nat.le_of_ble_eq_true rfl, Nat.le_of_ble_eq_true rfl⟩ rfl rfl (Nat.le_of_ble_eq_true rfl) dX11_lettersIn_17 (c_X11_byteOf (q_l κ) (q_D κ) cy A hw)) (fun r2 σ1 hw => ?_)
        refine g_istore C [(5, .int r2), (0, .long v0), (2, .int v2), (3, .int v3), (4, .int v4)] F.2.2.2.1 (by decide) rfl dX11_lettersIn_20 ?_
        refine g_iload C 0 rfl dX11_lettersIn_22 ?_
        refine g_bipush (v := (126 : Int32)) C dX11_lettersIn_24 (by decide) ?_
        refine g_icmp_gt C 38 (by decide) hw dX11_lettersIn_26 (fun hw => ?_) (fun hw => ?_)
        · refine g_iconst (v := (-1 : Int32)) C dX11_lettersIn_38 (by decide) ?_
          exact gq_I C F (by decide) (by decide) hw dX11_lettersIn_39
        · refine g_iload_n C 3 rfl rfl dX11_lettersIn_29 ?_
          refine g_if_eq C 40 (by decide) hw dX11_lettersIn_30 (fun hw => ?_) (fun hw => ?_)
          · refine g_eql (lv' := [(0, .long v0), (2, .int v2), (3, .int v3), (4, .int v4), (5, .int r2)]) [1, 2, 3, 4, 0] rfl ?_
            exact J40 _ ih σ1 v0 v2 v3 v4 r2 hw
          · refine g_iload C 0 rfl dX11_lettersIn_33 ?_
            refine g_if_eq C 40 (by decide) hw dX11_lettersIn_35 (fun hw => ?_) (fun hw => ?_)
            · refine g_eql (lv' := [(0, .long v0), (2, .int v2), (3, .int v3), (4, .int v4), (5, .int r2)]) [1, 2, 3, 4, 0] rfl ?_
              exact J40 _ ih σ1 v0 v2 v3 v4 r2 hw
            · refine g_iconst (v := (-1 : Int32)) C dX11_lettersIn_38 (by decide) ?_
              exact gq_I C F (by decide) (by decide) hw dX11_lettersIn_39
  unfold wX11_lettersIn at hw
  refine g_iconst (v := (0 : Int32)) C dX11_lettersIn_0 (by decide) ?_
  refine g_istore_n C [(2, .int (0 : Int32)), (0, .long v0)] F.2.2.2.1 rfl (by decide) rfl dX11_lettersIn_1 ?_
  refine g_iconst (v := (0 : Int32)) C dX11_lettersIn_2 (by decide) ?_
  refine g_istore_n C [(3, .int (0 : Int32)), (2, .int (0 : Int32)), (0, .long v0)] F.2.2.2.1 rfl (by decide) rfl dX11_lettersIn_3 ?_
  refine g_iconst (v := (0 : Int32)) C dX11_lettersIn_4 (by decide) ?_
  refine g_istore C [(4, .int (0 : Int32)), (3, .int (0 : Int32)), (2, .int (0 : Int32)), (0, .long v0)] F.2.2.2.1 (by decide) rfl dX11_lettersIn_5 ?_
  refine g_eql (lv' := [(0, .long v0), (2, .int (0 : Int32)), (3, .int (0 : Int32)), (4, .int (0 : Int32))]) [3, 2, 1, 0] rfl ?_
  obtain ⟨n0, hw⟩ := hw
  exact J7 n0 σ v0 (0 : Int32) (0 : Int32) (0 : Int32) hw
set_option maxHeartbeats 4000000 in
set_option maxRecDepth 100000 in
theorem c_X11_letters (l : Launch) (D : va_G) (cy : Nat → ClassId) (A : Nat → Nat) {σ : St} {v1 : Int64} {Φ : Int32 → St → Prop} (hw : wX11_letters σ v1 Φ) : CtI l yX11_letters (.code yX11_letters cX11_letters 5 (some .int) :: gL) rm_X11_letters 0 0 [.ref (A 0), .long v1] D cy A σ Φ := by
  refine ct_any (fun sz => va_Qi Φ (HE D cy A (gZ cy A σ sz)) (gZ cy A σ sz)) (by decide +kernel) rfl rfl [(0, .ref (A 0)), (1, .long v1)] rfl (Nat.le_of_ble_eq_true rfl) ?_
  intro κ hκl hnm C hK sz F
  subst hκl
  have J29 : ∀ (n : Nat) (σ : St) (v1 : Int64) (v3 : Int32) (v4 : Int32), wX11_letters_29 Φ n σ v1 v3 v4 → GW κ 0 0 (gW cy A σ) 29 [(0, .ref (A 0)), (1, .long v1), (3, .int v3), (4, .int v4)] [] := by
    intro n
    induction n with
    | zero => intro σ v1 v3 v4 hw; exact hw.elim
    | succ n ih =>
      intro σ v1 v3 v4 hw
      rw [wX11_letters_29] at hw
      refine g_iload C 3 rfl dX11_letters_29 ?_
      refine g_iload_n C 2 rfl rfl dX11_letters_31 ?_
      refine g_icmp_ge C 55 (by decide) hw dX11_letters_32 (fun hw => ?_) (fun hw => ?_)
      · refine g_aload_n C 0 rfl rfl dX11_letters_55 ?_
        refine g_get C hK inX11 rfl 0 (ga_0 cy A _) 0 (by decide) (fun _ h => h) wt_85 rfl dX11_letters_56 ?_
        refine g_get C hK inX7 rfl 1 (ga_1 cy A _) 1 (by decide) (fun _ h => h) wt_29 rfl dX11_letters_59 ?_
        exact gq_I C F (by decide) (by decide) hw dX11_letters_62
      · refine g_aload_n C 0 rfl rfl dX11_letters_35 ?_
        refine g_get C hK inX11 rfl 0 (ga_0 cy A _) 0 (by decide) (fun _ h => h) wt_85 rfl dX11_letters_36 ?_
        refine g_lload_n C 1 rfl rfl dX11_letters_39 ?_
        refine g_iload C 3 rfl dX11_letters_40 ?_
        refine gc_I C (gr_S (As := [.long v1, .int v4]) (rest := [.ref (A 1)]) C hK 2 (gd_S wt_301 wt_302 wt_1 wt_303) rfl rfl rfl hs_X11_byteOf ⟨⟨Nat.le_of_ble_eq_true rfl, Nat.le_of_ble_eq_true rfl⟩, Nat.le_of_ble_eq_true rfl, Nat.le_of_ble_eq_true rfl⟩ rfl rfl (Nat.le_of_ble_eq_true rfl) dX11_letters_42 (c_X11_byteOf (q_l κ) (q_D κ) cy A hw)) (fun r6 σ5 hw => ?_)
        refine g_i2c C dX11_letters_45 ?_
        refine gc_V C (gr_V (As := [.int (r6.toUInt32 % 65536).toInt32]) (rest := []) C hK 1 (gd_V wt_308 wt_309 wt_310 wt_2 wt_311) rfl rfl rfl ⟨rfl, hs_X7_put⟩ ⟨⟨Nat.le_of_ble_eq_true rfl, Nat.le_of_ble_eq_true rfl⟩, Nat.le_of_ble_eq_true rfl, Nat.le_of_ble_eq_true rfl⟩ rfl 1 (ga_1 cy A _) rfl rfl (Nat.le_of_ble_eq_true rfl) dX11_letters_46 (c_X7_put (q_l κ) (q_D κ) cy A hw)) (fun σ7 hw => ?_)
        refine g_iinc (j := 3) C [(4, .int (v4 + 1)), (0, .ref (A 0)), (1, .long v1), (3, .int v3)] F.2.2.2.1 rfl rfl (by decide) rfl dX11_letters_49 ?_
        refine g_goto C 29 (by decide) dX11_letters_52 ?_
        refine g_eql (lv' := [(0, .ref (A 0)), (1, .long v1), (3, .int v3), (4, .int (v4 + 1))]) [1, 2, 3, 0] rfl ?_
        exact ih σ7 v1 v3 (v4 + 1) hw
  unfold wX11_letters at hw
  refine g_lload_n C 1 rfl rfl dX11_letters_0 ?_
  refine gc_I C (gr_S (As := [.long v1]) (rest := []) C hK 1 (gd_S wt_298 wt_299 wt_1 wt_300) rfl rfl rfl hs_X11_lettersIn ⟨⟨Nat.le_of_ble_eq_true rfl, Nat.le_of_ble_eq_true rfl⟩, Nat.le_of_ble_eq_true rfl, Nat.le_of_ble_eq_true rfl⟩ rfl rfl (Nat.le_of_ble_eq_true rfl) dX11_letters_1 (c_X11_lettersIn (q_l κ) (q_D κ) cy A hw)) (fun r2 σ1 hw => ?_)
  refine g_istore_n C [(3, .int r2), (0, .ref (A 0)), (1, .long v1)] F.2.2.2.1 rfl (by decide) rfl dX11_letters_4 ?_
  refine g_iload_n C 0 rfl rfl dX11_letters_5 ?_
  refine g_if_ge C 12 (by decide) hw dX11_letters_6 (fun hw => ?_) (fun hw => ?_)
  · refine g_aload_n C 1 rfl rfl dX11_letters_12 ?_
    refine g_get C hK inX11 rfl 0 (ga_0 cy A _) 0 (by decide) (fun _ h => h) wt_85 rfl dX11_letters_13 ?_
    refine g_iload_n C 0 rfl rfl dX11_letters_16 ?_
    refine gc_I C (gr_V (As := [.int r2]) (rest := []) C hK 1 (gd_V wt_304 wt_305 wt_306 wt_2 wt_307) rfl rfl rfl ⟨rfl, hs_X7_hasRoomFor⟩ ⟨⟨Nat.le_of_ble_eq_true rfl, Nat.le_of_ble_eq_true rfl⟩, Nat.le_of_ble_eq_true rfl, Nat.le_of_ble_eq_true rfl⟩ rfl 1 (ga_1 cy A _) rfl rfl (Nat.le_of_ble_eq_true rfl) dX11_letters_17 (c_X7_hasRoomFor (q_l κ) (q_D κ) cy A hw)) (fun r4 σ3 hw => ?_)
    refine g_if_ne C 26 (by decide) hw dX11_letters_20 (fun hw => ?_) (fun hw => ?_)
    · refine g_iconst (v := (0 : Int32)) C dX11_letters_26 (by decide) ?_
      refine g_istore C [(4, .int (0 : Int32)), (3, .int r2), (0, .ref (A 0)), (1, .long v1)] F.2.2.2.1 (by decide) rfl dX11_letters_27 ?_
      refine g_eql (lv' := [(0, .ref (A 0)), (1, .long v1), (3, .int r2), (4, .int (0 : Int32))]) [2, 3, 1, 0] rfl ?_
      obtain ⟨n0, hw⟩ := hw
      exact J29 n0 σ3 v1 r2 (0 : Int32) hw
    · refine g_bipush (v := (-104 : Int32)) C dX11_letters_23 (by decide) ?_
      exact gq_I C F (by decide) (by decide) hw dX11_letters_25
  · refine g_bipush (v := (-102 : Int32)) C dX11_letters_9 (by decide) ?_
    exact gq_I C F (by decide) (by decide) hw dX11_letters_11
set_option maxHeartbeats 4000000 in
set_option maxRecDepth 100000 in
theorem c_X11_fault (l : Launch) (D : va_G) (cy : Nat → ClassId) (A : Nat → Nat) {σ : St} {Φ : Int32 → St → Prop} (hw : wX11_fault σ Φ) : CtI l yX11_fault (.code yX11_fault cX11_fault 1 (some .int) :: gL) rm_X11_fault 0 0 [.ref (A 0)] D cy A σ Φ := by
  refine ct_any (fun sz => va_Qi Φ (HE D cy A (gZ cy A σ sz)) (gZ cy A σ sz)) (by decide +kernel) rfl rfl [(0, .ref (A 0))] rfl (Nat.le_of_ble_eq_true rfl) ?_
  intro κ hκl hnm C hK sz F
  subst hκl
  unfold wX11_fault at hw
  refine g_aload_n C 0 rfl rfl dX11_fault_0 ?_
  refine g_get C hK inX11 rfl 0 (ga_0 cy A _) 0 (by decide) (fun _ h => h) wt_85 rfl dX11_fault_1 ?_
  refine gc_I C (gr_V (As := []) (rest := []) C hK 0 (gd_V wt_316 wt_317 wt_318 wt_2 wt_319) rfl rfl rfl ⟨rfl, hs_X7_firstWrong⟩ ⟨⟨Nat.le_of_ble_eq_true rfl, Nat.le_of_ble_eq_true rfl⟩, Nat.le_of_ble_eq_true rfl, Nat.le_of_ble_eq_true rfl⟩ rfl 1 (ga_1 cy A _) rfl rfl (Nat.le_of_ble_eq_true rfl) dX11_fault_4 (c_X7_firstWrong (q_l κ) (q_D κ) cy A hw)) (fun r2 σ1 hw => ?_)
  exact gq_I C F (by decide) (by decide) hw dX11_fault_7
set_option maxHeartbeats 4000000 in
set_option maxRecDepth 100000 in
theorem c_X11_wire (l : Launch) (D : va_G) (cy : Nat → ClassId) (A : Nat → Nat) {σ : St} {Φ : Int32 → St → Prop} (hw : wX11_wire σ Φ) : CtI l yX11_wire (.code yX11_wire cX11_wire 1 (some .int) :: gL) rm_X11_wire 0 0 [.ref (A 0)] D cy A σ Φ := by
  refine ct_any (fun sz => va_Qi Φ (HE D cy A (gZ cy A σ sz)) (gZ cy A σ sz)) (by decide +kernel) rfl rfl [(0, .ref (A 0))] rfl (Nat.le_of_ble_eq_true rfl) ?_
  intro κ hκl hnm C hK sz F
  subst hκl
  unfold wX11_wire at hw
  refine g_aload_n C 0 rfl rfl dX11_wire_0 ?_
  refine g_get C hK inX11 rfl 0 (ga_0 cy A _) 0 (by decide) (fun _ h => h) wt_85 rfl dX11_wire_1 ?_
  refine gc_I C (gr_V (As := []) (rest := []) C hK 0 (gd_V wt_334 wt_335 wt_336 wt_2 wt_337) rfl rfl rfl ⟨rfl, hs_X7_isWire⟩ ⟨⟨Nat.le_of_ble_eq_true rfl, Nat.le_of_ble_eq_true rfl⟩, Nat.le_of_ble_eq_true rfl, Nat.le_of_ble_eq_true rfl⟩ rfl 1 (ga_1 cy A _) rfl rfl (Nat.le_of_ble_eq_true rfl) dX11_wire_4 (c_X7_isWire (q_l κ) (q_D κ) cy A hw)) (fun r2 σ1 hw => ?_)
  refine g_if_ne C 13 (by decide) hw dX11_wire_7 (fun hw => ?_) (fun hw => ?_)
  · refine g_aload_n C 0 rfl rfl dX11_wire_13 ?_
    refine g_get C hK inX11 rfl 0 (ga_0 cy A _) 1 (by decide) (fun _ h => h) wt_86 rfl dX11_wire_14 ?_
    refine g_aload_n C 0 rfl rfl dX11_wire_17 ?_
    refine g_get C hK inX11 rfl 0 (ga_0 cy A _) 0 (by decide) (fun _ h => h) wt_85 rfl dX11_wire_18 ?_
    refine gc_V C (gr_V (As := [.ref (A 1)]) (rest := []) C hK 1 (gd_V wt_339 wt_340 wt_341 wt_3 wt_342) rfl rfl rfl ⟨rfl, hs_X0_hang⟩ ⟨⟨Nat.le_of_ble_eq_true rfl, Nat.le_of_ble_eq_true rfl⟩, Nat.le_of_ble_eq_true rfl, Nat.le_of_ble_eq_true rfl⟩ rfl 3 (ga_3 cy A _) rfl rfl (Nat.le_of_ble_eq_true rfl) dX11_wire_21 (c_X0_hang (q_l κ) (q_D κ) cy A hC3 hw)) (fun σ3 hw => ?_)
    refine g_aload_n C 0 rfl rfl dX11_wire_24 ?_
    refine g_get C hK inX11 rfl 0 (ga_0 cy A _) 0 (by decide) (fun _ h => h) wt_85 rfl dX11_wire_25 ?_
    refine gc_I C (gr_V (As := []) (rest := []) C hK 0 (gd_V wt_347 wt_348 wt_349 wt_2 wt_350) rfl rfl rfl ⟨rfl, hs_X7_emptied⟩ ⟨⟨Nat.le_of_ble_eq_true rfl, Nat.le_of_ble_eq_true rfl⟩, Nat.le_of_ble_eq_true rfl, Nat.le_of_ble_eq_true rfl⟩ rfl 1 (ga_1 cy A _) rfl rfl (Nat.le_of_ble_eq_true rfl) dX11_wire_28 (c_X7_emptied (q_l κ) (q_D κ) cy A hw)) (fun r5 σ4 hw => ?_)
    refine g_pop C rfl dX11_wire_31 ?_
    refine g_aload_n C 0 rfl rfl dX11_wire_32 ?_
    refine g_get C hK inX11 rfl 0 (ga_0 cy A _) 2 (by decide) (fun _ h => h) wt_87 rfl dX11_wire_33 ?_
    refine g_iconst (v := (0 : Int32)) C dX11_wire_36 (by decide) ?_
    refine gc_V C (gr_V (As := [.int (0 : Int32)]) (rest := []) C hK 1 (gd_V wt_351 wt_352 wt_353 wt_4 wt_354) rfl rfl rfl ⟨rfl, hs_X6_cutTo⟩ ⟨⟨Nat.le_of_ble_eq_true rfl, Nat.le_of_ble_eq_true rfl⟩, Nat.le_of_ble_eq_true rfl, Nat.le_of_ble_eq_true rfl⟩ rfl 4 (ga_4 cy A _) rfl rfl (Nat.le_of_ble_eq_true rfl) dX11_wire_37 (c_X6_cutTo (q_l κ) (q_D κ) cy A hw)) (fun σ6 hw => ?_)
    refine g_aload_n C 0 rfl rfl dX11_wire_40 ?_
    refine g_get C hK inX11 rfl 0 (ga_0 cy A _) 3 (by decide) (fun _ h => h) wt_88 rfl dX11_wire_41 ?_
    refine gc_I C (gr_V (As := []) (rest := []) C hK 0 (gd_V wt_356 wt_357 wt_358 wt_5 wt_359) rfl rfl rfl ⟨rfl, hs_X10_emptied⟩ ⟨⟨Nat.le_of_ble_eq_true rfl, Nat.le_of_ble_eq_true rfl⟩, Nat.le_of_ble_eq_true rfl, Nat.le_of_ble_eq_true rfl⟩ rfl 7 (ga_7 cy A _) rfl rfl (Nat.le_of_ble_eq_true rfl) dX11_wire_44 (c_X10_emptied (q_l κ) (q_D κ) cy A hw)) (fun r8 σ7 hw => ?_)
    refine g_pop C rfl dX11_wire_47 ?_
    refine g_aload_n C 0 rfl rfl dX11_wire_48 ?_
    refine g_iconst (v := (0 : Int32)) C dX11_wire_49 (by decide) ?_
    refine g_put (v := .int (0 : Int32)) C hK inX11 rfl tyX11 tyX11_ok nmX11 0 (ga_0 cy A _) 8 (by decide) (fun _ h => h) wt_93 rfl (by rcases hw.1 with e | e <;> rw [e] <;> rfl) (by rcases hw.1 with e | e <;> rw [e] <;> rfl) (Nat.le_of_ble_eq_true rfl) (gp_0_8 cy A _ _) dX11_wire_50 ?_
    replace hw := hw.2
    refine g_aload_n C 0 rfl rfl dX11_wire_53 ?_
    refine g_dup C rfl dX11_wire_54 ?_
    refine g_get C hK inX11 rfl 0 (ga_0 cy A _) 9 (by decide) (fun _ h => h) wt_94 rfl dX11_wire_55 ?_
    refine g_iconst (v := (1 : Int32)) C dX11_wire_58 (by decide) ?_
    refine g_iadd C dX11_wire_59 ?_
    refine g_put (v := .int (((sV σ7 0 8 (0 : Int32)).1 0 9) + (1 : Int32))) C hK inX11 rfl tyX11 tyX11_ok nmX11 0 (ga_0 cy A _) 9 (by decide) (fun _ h => h) wt_94 rfl rfl rfl (Nat.le_of_ble_eq_true rfl) (gp_0_9 cy A _ _) dX11_wire_60 ?_
    refine g_aload_n C 0 rfl rfl dX11_wire_63 ?_
    refine g_get C hK inX11 rfl 0 (ga_0 cy A _) 1 (by decide) (fun _ h => h) wt_86 rfl dX11_wire_64 ?_
    refine g_get C hK inX0 rfl 3 (ga_3 cy A _) 1 (by decide) (fun _ h => h) wt_40 rfl dX11_wire_67 ?_
    exact gq_I C F (by decide) (by decide) hw dX11_wire_70
  · refine g_bipush (v := (-103 : Int32)) C dX11_wire_10 (by decide) ?_
    exact gq_I C F (by decide) (by decide) hw dX11_wire_12
end
section
set_option maxHeartbeats 4000000 in
set_option maxRecDepth 100000 in
theorem c_X11_isCabin (l : Launch) (D : va_G) (cy : Nat → ClassId) (A : Nat → Nat) {σ : St} {v0 : Int32} {Φ : Int32 → St → Prop} (hw : wX11_isCabin σ v0 Φ) : CtI l yX11_isCabin (.code yX11_isCabin cX11_isCabin 1 (some .boolean) :: gL) rm_X11_isCabin 0 0 [.int v0] D cy A σ Φ := by
  refine ct_any (fun sz => va_Qi Φ (HE D cy A (gZ cy A σ sz)) (gZ cy A σ sz)) (by decide +kernel) rfl rfl [(0, .int v0)] rfl (Nat.le_of_ble_eq_true rfl) ?_
  intro κ hκl hnm C hK sz F
  subst hκl
  unfold wX11_isCabin at hw
  refine g_iload_n C 0 rfl rfl dX11_isCabin_0 ?_
  refine g_if_lt C 13 (by decide) hw dX11_isCabin_1 (fun hw => ?_) (fun hw => ?_)
  · refine g_iconst (v := (0 : Int32)) C dX11_isCabin_13 (by decide) ?_
    exact gq_Z C F (by decide) (by decide) hw dX11_isCabin_14
  · refine g_iload_n C 0 rfl rfl dX11_isCabin_4 ?_
    refine g_iconst (v := (2 : Int32)) C dX11_isCabin_5 (by decide) ?_
    refine g_icmp_ge C 13 (by decide) hw dX11_isCabin_6 (fun hw => ?_) (fun hw => ?_)
    · refine g_iconst (v := (0 : Int32)) C dX11_isCabin_13 (by decide) ?_
      exact gq_Z C F (by decide) (by decide) hw dX11_isCabin_14
    · refine g_iconst (v := (1 : Int32)) C dX11_isCabin_9 (by decide) ?_
      refine g_goto C 14 (by decide) dX11_isCabin_10 ?_
      exact gq_Z C F (by decide) (by decide) hw dX11_isCabin_14
set_option maxHeartbeats 4000000 in
set_option maxRecDepth 100000 in
theorem c_X11_cabin (l : Launch) (D : va_G) (cy : Nat → ClassId) (A : Nat → Nat) {σ : St} {v1 : Int32} {v2 : Int32} {Φ : Int32 → St → Prop} (hw : wX11_cabin σ v1 v2 Φ) : CtI l yX11_cabin (.code yX11_cabin cX11_cabin 3 (some .int) :: gL) rm_X11_cabin 0 0 [.ref (A 0), .int v1, .int v2] D cy A σ Φ := by
  refine ct_any (fun sz => va_Qi Φ (HE D cy A (gZ cy A σ sz)) (gZ cy A σ sz)) (by decide +kernel) rfl rfl [(0, .ref (A 0)), (1, .int v1), (2, .int v2)] rfl (Nat.le_of_ble_eq_true rfl) ?_
  intro κ hκl hnm C hK sz F
  subst hκl
  unfold wX11_cabin at hw
  refine g_iload_n C 1 rfl rfl dX11_cabin_0 ?_
  refine gc_I C (gr_S (As := [.int v1]) (rest := []) C hK 1 (gd_S wt_99 wt_100 wt_1 wt_101) rfl rfl rfl hs_X11_isCabin ⟨⟨Nat.le_of_ble_eq_true rfl, Nat.le_of_ble_eq_true rfl⟩, Nat.le_of_ble_eq_true rfl, Nat.le_of_ble_eq_true rfl⟩ rfl rfl (Nat.le_of_ble_eq_true rfl) dX11_cabin_1 (c_X11_isCabin (q_l κ) (q_D κ) cy A hw)) (fun r2 σ1 hw => ?_)
  refine g_if_ne C 10 (by decide) hw dX11_cabin_4 (fun hw => ?_) (fun hw => ?_)
  · refine g_iload_n C 2 rfl rfl dX11_cabin_10 ?_
    refine g_if_lt C 19 (by decide) hw dX11_cabin_11 (fun hw => ?_) (fun hw => ?_)
    · refine g_bipush (v := (-102 : Int32)) C dX11_cabin_19 (by decide) ?_
      exact gq_I C F (by decide) (by decide) hw dX11_cabin_21
    · refine g_iload_n C 2 rfl rfl dX11_cabin_14 ?_
      refine g_iconst (v := (3 : Int32)) C dX11_cabin_15 (by decide) ?_
      refine g_icmp_le C 22 (by decide) hw dX11_cabin_16 (fun hw => ?_) (fun hw => ?_)
      · refine g_aload_n C 0 rfl rfl dX11_cabin_22 ?_
        refine g_get C hK inX11 rfl 0 (ga_0 cy A _) 1 (by decide) (fun _ h => h) wt_86 rfl dX11_cabin_23 ?_
        refine gc_I C (gr_V (As := []) (rest := []) C hK 0 (gd_V wt_102 wt_103 wt_104 wt_3 wt_105) rfl rfl rfl ⟨rfl, hs_X0_isThere⟩ ⟨⟨Nat.le_of_ble_eq_true rfl, Nat.le_of_ble_eq_true rfl⟩, Nat.le_of_ble_eq_true rfl, Nat.le_of_ble_eq_true rfl⟩ rfl 3 (ga_3 cy A _) rfl rfl (Nat.le_of_ble_eq_true rfl) dX11_cabin_26 (c_X0_isThere (q_l κ) (q_D κ) cy A hC3 hw)) (fun r4 σ3 hw => ?_)
        refine g_if_ne C 35 (by decide) hw dX11_cabin_29 (fun hw => ?_) (fun hw => ?_)
        · refine g_iload_n C 2 rfl rfl dX11_cabin_35 ?_
          by_cases h9 : v2.toInt < 0 ∨ 2 < v2.toInt
          · refine g_swOut C 106 h9 (by decide) dX11_cabin_36 ?_
            replace hw := hw.2.2.2 h9
            refine g_aload_n C 0 rfl rfl dX11_cabin_106 ?_
            refine g_get C hK inX11 rfl 0 (ga_0 cy A _) 2 (by decide) (fun _ h => h) wt_87 rfl dX11_cabin_107 ?_
            refine g_iload_n C 1 rfl rfl dX11_cabin_110 ?_
            refine gc_I C (gr_V (As := [.int v1]) (rest := []) C hK 1 (gd_V wt_150 wt_151 wt_152 wt_4 wt_153) rfl rfl rfl ⟨rfl, hs_X6_sizeIn⟩ ⟨⟨Nat.le_of_ble_eq_true rfl, Nat.le_of_ble_eq_true rfl⟩, Nat.le_of_ble_eq_true rfl, Nat.le_of_ble_eq_true rfl⟩ rfl 4 (ga_4 cy A _) rfl rfl (Nat.le_of_ble_eq_true rfl) dX11_cabin_111 (c_X6_sizeIn (q_l κ) (q_D κ) cy A hw)) (fun r12 σ11 hw => ?_)
            exact gq_I C F (by decide) (by decide) hw dX11_cabin_114
          · rcases (show v2.toInt = 0 ∨ v2.toInt = 1 ∨ v2.toInt = 2 by omega) with e9 | e9 | e9
            · refine g_swIn (off := 28) C 0 64 e9 (by decide) (by decide) (by decide) (by decide) dX11_cabin_36 ?_
              replace hw := hw.1 (Int32.toInt_inj.mp (e9.trans (by decide)))
              refine g_aload_n C 0 rfl rfl dX11_cabin_64 ?_
              refine g_get C hK inX11 rfl 0 (ga_0 cy A _) 2 (by decide) (fun _ h => h) wt_87 rfl dX11_cabin_65 ?_
              refine g_iload_n C 1 rfl rfl dX11_cabin_68 ?_
              refine g_aload_n C 0 rfl rfl dX11_cabin_69 ?_
              refine g_get C hK inX11 rfl 0 (ga_0 cy A _) 1 (by decide) (fun _ h => h) wt_86 rfl dX11_cabin_70 ?_
              refine g_get C hK inX0 rfl 3 (ga_3 cy A _) 4 (by decide) (fun _ h => h) wt_46 rfl dX11_cabin_73 ?_
              refine gc_I C (gr_V (As := [.int v1, .int (σ3.1 3 4)]) (rest := []) C hK 2 (gd_V wt_106 wt_107 wt_108 wt_4 wt_109) rfl rfl rfl ⟨rfl, hs_X6_weighsIn⟩ ⟨⟨Nat.le_of_ble_eq_true rfl, Nat.le_of_ble_eq_true rfl⟩, Nat.le_of_ble_eq_true rfl, Nat.le_of_ble_eq_true rfl⟩ rfl 4 (ga_4 cy A _) rfl rfl (Nat.le_of_ble_eq_true rfl) dX11_cabin_76 (c_X6_weighsIn (q_l κ) (q_D κ) cy A hw)) (fun r6 σ5 hw => ?_)
              exact gq_I C F (by decide) (by decide) hw dX11_cabin_79
            · refine g_swIn (off := 44) C 1 80 e9 (by decide) (by decide) (by decide) (by decide) dX11_cabin_36 ?_
              replace hw := hw.2.1 (Int32.toInt_inj.mp (e9.trans (by decide)))
              refine g_aload_n C 0 rfl rfl dX11_cabin_80 ?_
              refine g_get C hK inX11 rfl 0 (ga_0 cy A _) 1 (by decide) (fun _ h => h) wt_86 rfl dX11_cabin_81 ?_
              refine g_iload_n C 1 rfl rfl dX11_cabin_84 ?_
              refine g_aload_n C 0 rfl rfl dX11_cabin_85 ?_
              refine g_get C hK inX11 rfl 0 (ga_0 cy A _) 2 (by decide) (fun _ h => h) wt_87 rfl dX11_cabin_86 ?_
              refine gc_I C (gr_V (As := [.int v1, .ref (A 4)]) (rest := []) C hK 2 (gd_V wt_129 wt_130 wt_131 wt_3 wt_132) rfl rfl rfl ⟨rfl, hs_X0_armNow⟩ ⟨⟨Nat.le_of_ble_eq_true rfl, Nat.le_of_ble_eq_true rfl⟩, Nat.le_of_ble_eq_true rfl, Nat.le_of_ble_eq_true rfl⟩ rfl 3 (ga_3 cy A _) rfl rfl (Nat.le_of_ble_eq_true rfl) dX11_cabin_89 (c_X0_armNow (q_l κ) (q_D κ) cy A hC3 hw)) (fun r8 σ7 hw => ?_)
              exact gq_I C F (by decide) (by decide) hw dX11_cabin_92
            · refine g_swIn (off := 57) C 2 93 e9 (by decide) (by decide) (by decide) (by decide) dX11_cabin_36 ?_
              replace hw := hw.2.2.1 (Int32.toInt_inj.mp (e9.trans (by decide)))
              refine g_aload_n C 0 rfl rfl dX11_cabin_93 ?_
              refine g_get C hK inX11 rfl 0 (ga_0 cy A _) 1 (by decide) (fun _ h => h) wt_86 rfl dX11_cabin_94 ?_
              refine g_iload_n C 1 rfl rfl dX11_cabin_97 ?_
              refine g_aload_n C 0 rfl rfl dX11_cabin_98 ?_
              refine g_get C hK inX11 rfl 0 (ga_0 cy A _) 2 (by decide) (fun _ h => h) wt_87 rfl dX11_cabin_99 ?_
              refine gc_I C (gr_V (As := [.int v1, .ref (A 4)]) (rest := []) C hK 2 (gd_V wt_138 wt_139 wt_140 wt_3 wt_141) rfl rfl rfl ⟨rfl, hs_X0_floorNow⟩ ⟨⟨Nat.le_of_ble_eq_true rfl, Nat.le_of_ble_eq_true rfl⟩, Nat.le_of_ble_eq_true rfl, Nat.le_of_ble_eq_true rfl⟩ rfl 3 (ga_3 cy A _) rfl rfl (Nat.le_of_ble_eq_true rfl) dX11_cabin_102 (c_X0_floorNow (q_l κ) (q_D κ) cy A hC3 hw)) (fun r10 σ9 hw => ?_)
              exact gq_I C F (by decide) (by decide) hw dX11_cabin_105
        · refine g_bipush (v := (-103 : Int32)) C dX11_cabin_32 (by decide) ?_
          exact gq_I C F (by decide) (by decide) hw dX11_cabin_34
      · refine g_bipush (v := (-102 : Int32)) C dX11_cabin_19 (by decide) ?_
        exact gq_I C F (by decide) (by decide) hw dX11_cabin_21
  · refine g_bipush (v := (-101 : Int32)) C dX11_cabin_7 (by decide) ?_
    exact gq_I C F (by decide) (by decide) hw dX11_cabin_9
set_option maxHeartbeats 4000000 in
set_option maxRecDepth 100000 in
theorem c_X11_isKind (l : Launch) (D : va_G) (cy : Nat → ClassId) (A : Nat → Nat) {σ : St} {v0 : Int32} {Φ : Int32 → St → Prop} (hw : wX11_isKind σ v0 Φ) : CtI l yX11_isKind (.code yX11_isKind cX11_isKind 1 (some .boolean) :: gL) rm_X11_isKind 0 0 [.int v0] D cy A σ Φ := by
  refine ct_any (fun sz => va_Qi Φ (HE D cy A (gZ cy A σ sz)) (gZ cy A σ sz)) (by decide +kernel) rfl rfl [(0, .int v0)] rfl (Nat.le_of_ble_eq_true rfl) ?_
  intro κ hκl hnm C hK sz F
  subst hκl
  unfold wX11_isKind at hw
  refine g_iload_n C 0 rfl rfl dX11_isKind_0 ?_
  refine g_if_lt C 13 (by decide) hw dX11_isKind_1 (fun hw => ?_) (fun hw => ?_)
  · refine g_iconst (v := (0 : Int32)) C dX11_isKind_13 (by decide) ?_
    exact gq_Z C F (by decide) (by decide) hw dX11_isKind_14
  · refine g_iload_n C 0 rfl rfl dX11_isKind_4 ?_
    refine g_iconst (v := (4 : Int32)) C dX11_isKind_5 (by decide) ?_
    refine g_icmp_gt C 13 (by decide) hw dX11_isKind_6 (fun hw => ?_) (fun hw => ?_)
    · refine g_iconst (v := (0 : Int32)) C dX11_isKind_13 (by decide) ?_
      exact gq_Z C F (by decide) (by decide) hw dX11_isKind_14
    · refine g_iconst (v := (1 : Int32)) C dX11_isKind_9 (by decide) ?_
      refine g_goto C 14 (by decide) dX11_isKind_10 ?_
      exact gq_Z C F (by decide) (by decide) hw dX11_isKind_14
set_option maxHeartbeats 4000000 in
set_option maxRecDepth 100000 in
theorem c_X11_newThing (l : Launch) (D : va_G) (cy : Nat → ClassId) (A : Nat → Nat) {σ : St} {v0 : Int32} {v1 : Int32} {v2 : Int32} {v3 : Int32} {Φ : Option Nat → St → Prop} (hw : wX11_newThing σ v0 v1 v2 v3 Φ) : CtQ l yX11_newThing (.code yX11_newThing cX11_newThing 4 (some (.object "TwoOnACable$Thing")) :: gL) rm_X11_newThing 1 3 [.int v0, .int v1, .int v2, .int v3] D cy A σ Φ := by
  refine ct_any (fun sz => va_Qq Φ (HE D cy A (gZ cy A σ sz)) (gZ cy A σ sz)) (by decide +kernel) rfl rfl [(0, .int v0), (1, .int v1), (2, .int v2), (3, .int v3)] rfl (Nat.le_of_ble_eq_true rfl) ?_
  intro κ hκl hnm C hK sz F
  subst hκl
  unfold wX11_newThing at hw
  refine g_iload_n C 0 rfl rfl dX11_newThing_0 ?_
  by_cases h9 : v0.toInt < 1 ∨ 4 < v0.toInt
  · refine g_swOut C 76 h9 (by decide) dX11_newThing_1 ?_
    replace hw := hw.2.2.2.2 h9
    refine g_newT C hK 9 inX9 tyX9 tyX9_ok rfl ⟨rfl, rfl, rfl⟩ wt_413 wt_414 wt_9 ⟨Nat.le_of_ble_eq_true rfl, Nat.le_of_ble_eq_true rfl⟩ dX11_newThing_76 (fun b9 hb => ?_)
    replace hw := hw b9 hb
    refine g_dup C rfl dX11_newThing_79 ?_
    refine g_iload_n C 1 rfl rfl dX11_newThing_80 ?_
    refine g_iload_n C 2 rfl rfl dX11_newThing_81 ?_
    refine g_iload_n C 3 rfl rfl dX11_newThing_82 ?_
    refine gc_V C (gr_N (As := [.int v1, .int v2, .int v3]) (rest := [.ref b9]) C hK 3 (gd_N wt_380) rfl rfl rfl wt_9 wt_415 wt_379 rfl hs_X9_init ⟨⟨Nat.le_of_ble_eq_true rfl, Nat.le_of_ble_eq_true rfl⟩, Nat.le_of_ble_eq_true rfl, Nat.le_of_ble_eq_true rfl⟩ rfl rfl (Nat.le_of_ble_eq_true rfl) dX11_newThing_83 (c_X9_init (q_l κ) (q_D κ) cy A hw)) (fun σ10 hw => ?_)
    exact gq_Q (r := (some b9)) C F (by decide) (by decide) hw dX11_newThing_86
  · rcases (show v0.toInt = 1 ∨ v0.toInt = 2 ∨ v0.toInt = 3 ∨ v0.toInt = 4 by omega) with e9 | e9 | e9 | e9
    · refine g_swIn (off := 31) C 1 32 e9 (by decide) (by decide) (by decide) (by decide) dX11_newThing_1 ?_
      replace hw := hw.1 (Int32.toInt_inj.mp (e9.trans (by decide)))
      refine g_newT C hK 1 inX1 tyX1 tyX1_ok rfl ⟨rfl, rfl, rfl⟩ wt_196 wt_374 wt_10 ⟨Nat.le_of_ble_eq_true rfl, Nat.le_of_ble_eq_true rfl⟩ dX11_newThing_32 (fun b1 hb => ?_)
      replace hw := hw b1 hb
      refine g_dup C rfl dX11_newThing_35 ?_
      refine g_iload_n C 1 rfl rfl dX11_newThing_36 ?_
      refine g_iload_n C 2 rfl rfl dX11_newThing_37 ?_
      refine g_iload_n C 3 rfl rfl dX11_newThing_38 ?_
      refine gc_V C (gr_N (As := [.int v1, .int v2, .int v3]) (rest := [.ref b1]) C hK 3 (gd_N wt_377) rfl rfl rfl wt_10 wt_375 wt_376 rfl hs_X1_init ⟨⟨Nat.le_of_ble_eq_true rfl, Nat.le_of_ble_eq_true rfl⟩, Nat.le_of_ble_eq_true rfl, Nat.le_of_ble_eq_true rfl⟩ rfl rfl (Nat.le_of_ble_eq_true rfl) dX11_newThing_39 (c_X1_init (q_l κ) (q_D κ) cy A hw)) (fun σ2 hw => ?_)
      exact gq_Q (r := (some b1)) C F (by decide) (by decide) hw dX11_newThing_42
    · refine g_swIn (off := 42) C 2 43 e9 (by decide) (by decide) (by decide) (by decide) dX11_newThing_1 ?_
      replace hw := hw.2.1 (Int32.toInt_inj.mp (e9.trans (by decide)))
      refine g_newT C hK 3 inX3 tyX3 tyX3_ok rfl ⟨rfl, rfl, rfl⟩ wt_197 wt_398 wt_11 ⟨Nat.le_of_ble_eq_true rfl, Nat.le_of_ble_eq_true rfl⟩ dX11_newThing_43 (fun b3 hb => ?_)
      replace hw := hw b3 hb
      refine g_dup C rfl dX11_newThing_46 ?_
      refine g_iload_n C 1 rfl rfl dX11_newThing_47 ?_
      refine g_iload_n C 2 rfl rfl dX11_newThing_48 ?_
      refine g_iload_n C 3 rfl rfl dX11_newThing_49 ?_
      refine gc_V C (gr_N (As := [.int v1, .int v2, .int v3]) (rest := [.ref b3]) C hK 3 (gd_N wt_401) rfl rfl rfl wt_11 wt_399 wt_400 rfl hs_X3_init ⟨⟨Nat.le_of_ble_eq_true rfl, Nat.le_of_ble_eq_true rfl⟩, Nat.le_of_ble_eq_true rfl, Nat.le_of_ble_eq_true rfl⟩ rfl rfl (Nat.le_of_ble_eq_true rfl) dX11_newThing_50 (c_X3_init (q_l κ) (q_D κ) cy A hw)) (fun σ4 hw => ?_)
      exact gq_Q (r := (some b3)) C F (by decide) (by decide) hw dX11_newThing_53
    · refine g_swIn (off := 53) C 3 54 e9 (by decide) (by decide) (by decide) (by decide) dX11_newThing_1 ?_
      replace hw := hw.2.2.1 (Int32.toInt_inj.mp (e9.trans (by decide)))
      refine g_newT C hK 5 inX5 tyX5 tyX5_ok rfl ⟨rfl, rfl, rfl⟩ wt_198 wt_403 wt_12 ⟨Nat.le_of_ble_eq_true rfl, Nat.le_of_ble_eq_true rfl⟩ dX11_newThing_54 (fun b5 hb => ?_)
      replace hw := hw b5 hb
      refine g_dup C rfl dX11_newThing_57 ?_
      refine g_iload_n C 1 rfl rfl dX11_newThing_58 ?_
      refine g_iload_n C 2 rfl rfl dX11_newThing_59 ?_
      refine g_iload_n C 3 rfl rfl dX11_newThing_60 ?_
      refine gc_V C (gr_N (As := [.int v1, .int v2, .int v3]) (rest := [.ref b5]) C hK 3 (gd_N wt_406) rfl rfl rfl wt_12 wt_404 wt_405 rfl hs_X5_init ⟨⟨Nat.le_of_ble_eq_true rfl, Nat.le_of_ble_eq_true rfl⟩, Nat.le_of_ble_eq_true rfl, Nat.le_of_ble_eq_true rfl⟩ rfl rfl (Nat.le_of_ble_eq_true rfl) dX11_newThing_61 (c_X5_init (q_l κ) (q_D κ) cy A hw)) (fun σ6 hw => ?_)
      exact gq_Q (r := (some b5)) C F (by decide) (by decide) hw dX11_newThing_64
    · refine g_swIn (off := 64) C 4 65 e9 (by decide) (by decide) (by decide) (by decide) dX11_newThing_1 ?_
      replace hw := hw.2.2.2.1 (Int32.toInt_inj.mp (e9.trans (by decide)))
      refine g_newT C hK 4 inX4 tyX4 tyX4_ok rfl ⟨rfl, rfl, rfl⟩ wt_199 wt_408 wt_13 ⟨Nat.le_of_ble_eq_true rfl, Nat.le_of_ble_eq_true rfl⟩ dX11_newThing_65 (fun b7 hb => ?_)
      replace hw := hw b7 hb
      refine g_dup C rfl dX11_newThing_68 ?_
      refine g_iload_n C 1 rfl rfl dX11_newThing_69 ?_
      refine g_iload_n C 2 rfl rfl dX11_newThing_70 ?_
      refine g_iload_n C 3 rfl rfl dX11_newThing_71 ?_
      refine gc_V C (gr_N (As := [.int v1, .int v2, .int v3]) (rest := [.ref b7]) C hK 3 (gd_N wt_411) rfl rfl rfl wt_13 wt_409 wt_410 rfl hs_X4_init ⟨⟨Nat.le_of_ble_eq_true rfl, Nat.le_of_ble_eq_true rfl⟩, Nat.le_of_ble_eq_true rfl, Nat.le_of_ble_eq_true rfl⟩ rfl rfl (Nat.le_of_ble_eq_true rfl) dX11_newThing_72 (c_X4_init (q_l κ) (q_D κ) cy A hw)) (fun σ8 hw => ?_)
      exact gq_Q (r := (some b7)) C F (by decide) (by decide) hw dX11_newThing_75
set_option maxHeartbeats 4000000 in
set_option maxRecDepth 100000 in
theorem c_X11_thing (l : Launch) (D : va_G) (cy : Nat → ClassId) (A : Nat → Nat) {σ : St} {v1 : Int32} {v2 : Int32} {v3 : Int32} {Φ : Int32 → St → Prop} (hw : wX11_thing σ v1 v2 v3 Φ) : CtI l yX11_thing (.code yX11_thing cX11_thing 4 (some .int) :: gL) rm_X11_thing 1 3 [.ref (A 0), .int v1, .int v2, .int v3] D cy A σ Φ := by
  refine ct_any (fun sz => va_Qi Φ (HE D cy A (gZ cy A σ sz)) (gZ cy A σ sz)) (by decide +kernel) rfl rfl [(0, .ref (A 0)), (1, .int v1), (2, .int v2), (3, .int v3)] rfl (Nat.le_of_ble_eq_true rfl) ?_
  intro κ hκl hnm C hK sz F
  subst hκl
  unfold wX11_thing at hw
  refine g_iload_n C 3 rfl rfl dX11_thing_0 ?_
  refine gc_I C (gr_S (As := [.int v3]) (rest := []) C hK 1 (gd_S wt_99 wt_100 wt_1 wt_101) rfl rfl rfl hs_X11_isCabin ⟨⟨Nat.le_of_ble_eq_true rfl, Nat.le_of_ble_eq_true rfl⟩, Nat.le_of_ble_eq_true rfl, Nat.le_of_ble_eq_true rfl⟩ rfl rfl (Nat.le_of_ble_eq_true rfl) dX11_thing_1 (c_X11_isCabin (q_l κ) (q_D κ) cy A hw)) (fun r2 σ1 hw => ?_)
  refine g_if_ne C 10 (by decide) hw dX11_thing_4 (fun hw => ?_) (fun hw => ?_)
  · refine g_iload_n C 1 rfl rfl dX11_thing_10 ?_
    refine gc_I C (gr_S (As := [.int v1]) (rest := []) C hK 1 (gd_S wt_190 wt_191 wt_1 wt_192) rfl rfl rfl hs_X11_isKind ⟨⟨Nat.le_of_ble_eq_true rfl, Nat.le_of_ble_eq_true rfl⟩, Nat.le_of_ble_eq_true rfl, Nat.le_of_ble_eq_true rfl⟩ rfl rfl (Nat.le_of_ble_eq_true rfl) dX11_thing_11 (c_X11_isKind (q_l κ) (q_D κ) cy A hw)) (fun r4 σ3 hw => ?_)
    refine g_if_eq C 28 (by decide) hw dX11_thing_14 (fun hw => ?_) (fun hw => ?_)
    · refine g_bipush (v := (-102 : Int32)) C dX11_thing_28 (by decide) ?_
      exact gq_I C F (by decide) (by decide) hw dX11_thing_30
    · refine g_iload_n C 2 rfl rfl dX11_thing_17 ?_
      refine g_iconst (v := (1 : Int32)) C dX11_thing_18 (by decide) ?_
      refine g_icmp_lt C 28 (by decide) hw dX11_thing_19 (fun hw => ?_) (fun hw => ?_)
      · refine g_bipush (v := (-102 : Int32)) C dX11_thing_28 (by decide) ?_
        exact gq_I C F (by decide) (by decide) hw dX11_thing_30
      · refine g_iload_n C 2 rfl rfl dX11_thing_22 ?_
        refine g_bipush (v := (20 : Int32)) C dX11_thing_23 (by decide) ?_
        refine g_icmp_le C 31 (by decide) hw dX11_thing_25 (fun hw => ?_) (fun hw => ?_)
        · refine g_aload_n C 0 rfl rfl dX11_thing_31 ?_
          refine g_get C hK inX11 rfl 0 (ga_0 cy A _) 1 (by decide) (fun _ h => h) wt_86 rfl dX11_thing_32 ?_
          refine gc_I C (gr_V (As := []) (rest := []) C hK 0 (gd_V wt_102 wt_103 wt_104 wt_3 wt_105) rfl rfl rfl ⟨rfl, hs_X0_isThere⟩ ⟨⟨Nat.le_of_ble_eq_true rfl, Nat.le_of_ble_eq_true rfl⟩, Nat.le_of_ble_eq_true rfl, Nat.le_of_ble_eq_true rfl⟩ rfl 3 (ga_3 cy A _) rfl rfl (Nat.le_of_ble_eq_true rfl) dX11_thing_35 (c_X0_isThere (q_l κ) (q_D κ) cy A hC3 hw)) (fun r6 σ5 hw => ?_)
          refine g_if_ne C 44 (by decide) hw dX11_thing_38 (fun hw => ?_) (fun hw => ?_)
          · refine g_aload_n C 0 rfl rfl dX11_thing_44 ?_
            refine g_get C hK inX11 rfl 0 (ga_0 cy A _) 2 (by decide) (fun _ h => h) wt_87 rfl dX11_thing_45 ?_
            refine gc_I C (gr_V (As := []) (rest := []) C hK 0 (gd_V wt_367 wt_368 wt_369 wt_4 wt_370) rfl rfl rfl ⟨rfl, hs_X6_isFull⟩ ⟨⟨Nat.le_of_ble_eq_true rfl, Nat.le_of_ble_eq_true rfl⟩, Nat.le_of_ble_eq_true rfl, Nat.le_of_ble_eq_true rfl⟩ rfl 4 (ga_4 cy A _) rfl rfl (Nat.le_of_ble_eq_true rfl) dX11_thing_48 (c_X6_isFull (q_l κ) (q_D κ) cy A hw)) (fun r8 σ7 hw => ?_)
            refine g_if_eq C 57 (by decide) hw dX11_thing_51 (fun hw => ?_) (fun hw => ?_)
            · refine g_aload_n C 0 rfl rfl dX11_thing_57 ?_
              refine g_get C hK inX11 rfl 0 (ga_0 cy A _) 2 (by decide) (fun _ h => h) wt_87 rfl dX11_thing_58 ?_
              refine g_iload_n C 1 rfl rfl dX11_thing_61 ?_
              refine g_iload_n C 2 rfl rfl dX11_thing_62 ?_
              refine g_iload_n C 3 rfl rfl dX11_thing_63 ?_
              refine g_aload_n C 0 rfl rfl dX11_thing_64 ?_
              refine g_get C hK inX11 rfl 0 (ga_0 cy A _) 1 (by decide) (fun _ h => h) wt_86 rfl dX11_thing_65 ?_
              refine g_get C hK inX0 rfl 3 (ga_3 cy A _) 4 (by decide) (fun _ h => h) wt_46 rfl dX11_thing_68 ?_
              refine gc_Q C (gr_S (As := [.int v1, .int v2, .int v3, .int (σ7.1 3 4)]) (rest := [.ref (A 4)]) C hK 4 (gd_S wt_371 wt_372 wt_1 wt_373) rfl rfl rfl hs_X11_newThing ⟨⟨Nat.le_of_ble_eq_true rfl, Nat.le_of_ble_eq_true rfl⟩, Nat.le_of_ble_eq_true rfl, Nat.le_of_ble_eq_true rfl⟩ rfl rfl (Nat.le_of_ble_eq_true rfl) dX11_thing_71 (c_X11_newThing (q_l κ) (q_D κ) cy A hw)) (fun r10 σ9 hw => ?_)
              obtain ⟨b11, e9, hw⟩ := hw
              subst e9
              refine gc_I C (gr_V (As := [.ref b11]) (rest := []) C hK 1 (gd_V wt_416 wt_417 wt_418 wt_4 wt_419) rfl rfl rfl ⟨rfl, hs_X6_put⟩ ⟨⟨Nat.le_of_ble_eq_true rfl, Nat.le_of_ble_eq_true rfl⟩, Nat.le_of_ble_eq_true rfl, Nat.le_of_ble_eq_true rfl⟩ rfl 4 (ga_4 cy A _) rfl rfl (Nat.le_of_ble_eq_true rfl) dX11_thing_74 (c_X6_put (q_l κ) (q_D κ) cy A hw)) (fun r13 σ12 hw => ?_)
              exact gq_I C F (by decide) (by decide) hw dX11_thing_77
            · refine g_bipush (v := (-104 : Int32)) C dX11_thing_54 (by decide) ?_
              exact gq_I C F (by decide) (by decide) hw dX11_thing_56
          · refine g_bipush (v := (-103 : Int32)) C dX11_thing_41 (by decide) ?_
            exact gq_I C F (by decide) (by decide) hw dX11_thing_43
        · refine g_bipush (v := (-102 : Int32)) C dX11_thing_28 (by decide) ?_
          exact gq_I C F (by decide) (by decide) hw dX11_thing_30
  · refine g_bipush (v := (-101 : Int32)) C dX11_thing_7 (by decide) ?_
    exact gq_I C F (by decide) (by decide) hw dX11_thing_9
set_option maxHeartbeats 4000000 in
set_option maxRecDepth 100000 in
theorem c_X11_about (l : Launch) (D : va_G) (cy : Nat → ClassId) (A : Nat → Nat) {σ : St} {v1 : Int32} {v2 : Int32} {Φ : Int32 → St → Prop} (hw : wX11_about σ v1 v2 Φ) : CtI l yX11_about (.code yX11_about cX11_about 4 (some .int) :: gL) rm_X11_about 0 0 [.ref (A 0), .int v1, .int v2] D cy A σ Φ := by
  refine ct_any (fun sz => va_Qi Φ (HE D cy A (gZ cy A σ sz)) (gZ cy A σ sz)) (by decide +kernel) rfl rfl [(0, .ref (A 0)), (1, .int v1), (2, .int v2)] rfl (Nat.le_of_ble_eq_true rfl) ?_
  intro κ hκl hnm C hK sz F
  subst hκl
  unfold wX11_about at hw
  refine g_aload_n C 0 rfl rfl dX11_about_0 ?_
  refine g_get C hK inX11 rfl 0 (ga_0 cy A _) 2 (by decide) (fun _ h => h) wt_87 rfl dX11_about_1 ?_
  refine g_iload_n C 1 rfl rfl dX11_about_4 ?_
  refine gc_Q C (gr_V (As := [.int v1]) (rest := []) C hK 1 (gd_V wt_158 wt_111 wt_112 wt_4 wt_113) rfl rfl rfl ⟨rfl, hs_X6_at⟩ ⟨⟨Nat.le_of_ble_eq_true rfl, Nat.le_of_ble_eq_true rfl⟩, Nat.le_of_ble_eq_true rfl, Nat.le_of_ble_eq_true rfl⟩ rfl 4 (ga_4 cy A _) rfl rfl (Nat.le_of_ble_eq_true rfl) dX11_about_5 (c_X6_at (q_l κ) (q_D κ) cy A hw)) (fun r2 σ1 hw => ?_)
  refine g_rstore_n C [(3, va_rf r2), (0, .ref (A 0)), (1, .int v1), (2, .int v2)] F.2.2.2.1 rfl (by decide) rfl dX11_about_8 ?_
  refine g_rload_n C 0 rfl rfl dX11_about_9 ?_
  refine g_ifnonnull C 16 (by decide) hw dX11_about_10 (fun b3 e9 hw1 => ?_) (fun hw1 e9 => ?_)
  · subst e9
    replace hw := hw1
    refine g_iload_n C 3 rfl rfl dX11_about_16 ?_
    by_cases h9 : v2.toInt < 0 ∨ 4 < v2.toInt
    · refine g_swOut C 91 h9 (by decide) dX11_about_17 ?_
      replace hw := hw.2.2.2.2.2 h9
      refine g_bipush (v := (-102 : Int32)) C dX11_about_91 (by decide) ?_
      exact gq_I C F (by decide) (by decide) hw dX11_about_93
    · rcases (show v2.toInt = 0 ∨ v2.toInt = 1 ∨ v2.toInt = 2 ∨ v2.toInt = 3 ∨ v2.toInt = 4 by omega) with e9 | e9 | e9 | e9 | e9
      · refine g_swIn (off := 35) C 0 52 e9 (by decide) (by decide) (by decide) (by decide) dX11_about_17 ?_
        replace hw := hw.1 (Int32.toInt_inj.mp (e9.trans (by decide)))
        refine g_aload_n C 0 rfl rfl dX11_about_52 ?_
        have hn : ∀ (r4 : Int32) (σ5 : St), (Φ r4 σ5) → GW κ 0 0 (gW cy A σ5) 56 [(3, .ref b3), (0, .ref (A 0)), (1, .int v1), (2, .int v2)] [.int r4] := by
          intro r4 σ5 hw
          exact gq_I C F (by decide) (by decide) hw dX11_about_56
        obtain ⟨h8, hw⟩ := hw
        rcases hw with ⟨h9, hw⟩ | ⟨h9, hw⟩ | ⟨h9, hw⟩ | ⟨h9, hw⟩ | ⟨h9, hw⟩
        · obtain ⟨q9, -, h9⟩ := ga_T cy A _ h8 h9
          exact gc_I C (gr_O (As := []) (rest := []) C hK 0 (gd_O wt_159 wt_162 wt_160 wt_163 wt_164 wt_10 wt_165) rfl rfl rfl wt_175 hs_X9_kind ⟨⟨Nat.le_of_ble_eq_true rfl, Nat.le_of_ble_eq_true rfl⟩, Nat.le_of_ble_eq_true rfl, Nat.le_of_ble_eq_true rfl⟩ rfl q9 h9 rfl rfl (Nat.le_of_ble_eq_true rfl) dX11_about_53 (c_X1_kind (q_l κ) (q_D κ) cy A hw)) hn
        · obtain ⟨q9, -, h9⟩ := ga_T cy A _ h8 h9
          exact gc_I C (gr_O (As := []) (rest := []) C hK 0 (gd_O wt_159 wt_162 wt_160 wt_166 wt_167 wt_11 wt_168) rfl rfl rfl wt_175 hs_X9_kind ⟨⟨Nat.le_of_ble_eq_true rfl, Nat.le_of_ble_eq_true rfl⟩, Nat.le_of_ble_eq_true rfl, Nat.le_of_ble_eq_true rfl⟩ rfl q9 h9 rfl rfl (Nat.le_of_ble_eq_true rfl) dX11_about_53 (c_X3_kind (q_l κ) (q_D κ) cy A hw)) hn
        · obtain ⟨q9, -, h9⟩ := ga_T cy A _ h8 h9
          exact gc_I C (gr_O (As := []) (rest := []) C hK 0 (gd_O wt_159 wt_162 wt_160 wt_169 wt_170 wt_13 wt_171) rfl rfl rfl wt_175 hs_X9_kind ⟨⟨Nat.le_of_ble_eq_true rfl, Nat.le_of_ble_eq_true rfl⟩, Nat.le_of_ble_eq_true rfl, Nat.le_of_ble_eq_true rfl⟩ rfl q9 h9 rfl rfl (Nat.le_of_ble_eq_true rfl) dX11_about_53 (c_X4_kind (q_l κ) (q_D κ) cy A hw)) hn
        · obtain ⟨q9, -, h9⟩ := ga_T cy A _ h8 h9
          exact gc_I C (gr_O (As := []) (rest := []) C hK 0 (gd_O wt_159 wt_162 wt_160 wt_172 wt_173 wt_12 wt_174) rfl rfl rfl wt_175 hs_X9_kind ⟨⟨Nat.le_of_ble_eq_true rfl, Nat.le_of_ble_eq_true rfl⟩, Nat.le_of_ble_eq_true rfl, Nat.le_of_ble_eq_true rfl⟩ rfl q9 h9 rfl rfl (Nat.le_of_ble_eq_true rfl) dX11_about_53 (c_X5_kind (q_l κ) (q_D κ) cy A hw)) hn
        · obtain ⟨q9, -, h9⟩ := ga_T cy A _ h8 h9
          exact gc_I C (gr_V (As := []) (rest := []) C hK 0 (gd_V wt_159 wt_160 wt_161 wt_9 wt_175) rfl rfl rfl ⟨rfl, hs_X9_kind⟩ ⟨⟨Nat.le_of_ble_eq_true rfl, Nat.le_of_ble_eq_true rfl⟩, Nat.le_of_ble_eq_true rfl, Nat.le_of_ble_eq_true rfl⟩ rfl q9 h9 rfl rfl (Nat.le_of_ble_eq_true rfl) dX11_about_53 (c_X9_kind (q_l κ) (q_D κ) cy A hw)) hn
      · refine g_swIn (off := 40) C 1 57 e9 (by decide) (by decide) (by decide) (by decide) dX11_about_17 ?_
        replace hw := hw.2.1 (Int32.toInt_inj.mp (e9.trans (by decide)))
        refine g_aload_n C 0 rfl rfl dX11_about_57 ?_
        refine g_getT0 C hK hw.1 (fun _ h => h) wt_389 dX11_about_58 ?_
        replace hw := hw.2
        exact gq_I C F (by decide) (by decide) hw dX11_about_61
      · refine g_swIn (off := 45) C 2 62 e9 (by decide) (by decide) (by decide) (by decide) dX11_about_17 ?_
        replace hw := hw.2.2.1 (Int32.toInt_inj.mp (e9.trans (by decide)))
        refine g_aload_n C 0 rfl rfl dX11_about_62 ?_
        refine g_getT2 C hK hw.1 (fun _ h => h) wt_397 dX11_about_63 ?_
        replace hw := hw.2
        exact gq_I C F (by decide) (by decide) hw dX11_about_66
      · refine g_swIn (off := 50) C 3 67 e9 (by decide) (by decide) (by decide) (by decide) dX11_about_17 ?_
        replace hw := hw.2.2.2.1 (Int32.toInt_inj.mp (e9.trans (by decide)))
        refine g_aload_n C 0 rfl rfl dX11_about_67 ?_
        refine g_aload_n C 1 rfl rfl dX11_about_68 ?_
        refine g_get C hK inX11 rfl 0 (ga_0 cy A _) 1 (by decide) (fun _ h => h) wt_86 rfl dX11_about_69 ?_
        refine g_get C hK inX0 rfl 3 (ga_3 cy A _) 4 (by decide) (fun _ h => h) wt_46 rfl dX11_about_72 ?_
        have hn : ∀ (r6 : Int32) (σ7 : St), (Φ r6 σ7) → GW κ 0 0 (gW cy A σ7) 78 [(3, .ref b3), (0, .ref (A 0)), (1, .int v1), (2, .int v2)] [.int r6] := by
          intro r6 σ7 hw
          exact gq_I C F (by decide) (by decide) hw dX11_about_78
        obtain ⟨h8, hw⟩ := hw
        rcases hw with ⟨h9, hw⟩ | ⟨h9, hw⟩ | ⟨h9, hw⟩ | ⟨h9, hw⟩ | ⟨h9, hw⟩
        · obtain ⟨q9, -, h9⟩ := ga_T cy A _ h8 h9
          exact gc_I C (gr_O (As := [.int (σ1.1 3 4)]) (rest := []) C hK 1 (gd_O wt_176 wt_117 wt_115 wt_118 wt_119 wt_10 wt_120) rfl rfl rfl wt_128 hs_X9_weighs ⟨⟨Nat.le_of_ble_eq_true rfl, Nat.le_of_ble_eq_true rfl⟩, Nat.le_of_ble_eq_true rfl, Nat.le_of_ble_eq_true rfl⟩ rfl q9 h9 rfl rfl (Nat.le_of_ble_eq_true rfl) dX11_about_75 (c_X1_weighs (q_l κ) (q_D κ) cy A hw)) hn
        · obtain ⟨q9, -, h9⟩ := ga_T cy A _ h8 h9
          exact gc_I C (gr_U (As := [.int (σ1.1 3 4)]) (rest := []) C hK 1 (gd_U wt_176 wt_117 wt_121 wt_115 wt_9 wt_128) rfl rfl rfl rfl hs_X9_weighs ⟨⟨Nat.le_of_ble_eq_true rfl, Nat.le_of_ble_eq_true rfl⟩, Nat.le_of_ble_eq_true rfl, Nat.le_of_ble_eq_true rfl⟩ rfl q9 h9 rfl rfl (Nat.le_of_ble_eq_true rfl) dX11_about_75 (c_X9_weighs (q_l κ) (q_D κ) cy A hw)) hn
        · obtain ⟨q9, -, h9⟩ := ga_T cy A _ h8 h9
          exact gc_I C (gr_O (As := [.int (σ1.1 3 4)]) (rest := []) C hK 1 (gd_O wt_176 wt_117 wt_115 wt_122 wt_123 wt_13 wt_124) rfl rfl rfl wt_128 hs_X9_weighs ⟨⟨Nat.le_of_ble_eq_true rfl, Nat.le_of_ble_eq_true rfl⟩, Nat.le_of_ble_eq_true rfl, Nat.le_of_ble_eq_true rfl⟩ rfl q9 h9 rfl rfl (Nat.le_of_ble_eq_true rfl) dX11_about_75 (c_X4_weighs (q_l κ) (q_D κ) cy A hw)) hn
        · obtain ⟨q9, -, h9⟩ := ga_T cy A _ h8 h9
          exact gc_I C (gr_O (As := [.int (σ1.1 3 4)]) (rest := []) C hK 1 (gd_O wt_176 wt_117 wt_115 wt_125 wt_126 wt_12 wt_127) rfl rfl rfl wt_128 hs_X9_weighs ⟨⟨Nat.le_of_ble_eq_true rfl, Nat.le_of_ble_eq_true rfl⟩, Nat.le_of_ble_eq_true rfl, Nat.le_of_ble_eq_true rfl⟩ rfl q9 h9 rfl rfl (Nat.le_of_ble_eq_true rfl) dX11_about_75 (c_X5_weighs (q_l κ) (q_D κ) cy A hw)) hn
        · obtain ⟨q9, -, h9⟩ := ga_T cy A _ h8 h9
          exact gc_I C (gr_V (As := [.int (σ1.1 3 4)]) (rest := []) C hK 1 (gd_V wt_176 wt_115 wt_116 wt_9 wt_128) rfl rfl rfl ⟨rfl, hs_X9_weighs⟩ ⟨⟨Nat.le_of_ble_eq_true rfl, Nat.le_of_ble_eq_true rfl⟩, Nat.le_of_ble_eq_true rfl, Nat.le_of_ble_eq_true rfl⟩ rfl q9 h9 rfl rfl (Nat.le_of_ble_eq_true rfl) dX11_about_75 (c_X9_weighs (q_l κ) (q_D κ) cy A hw)) hn
      · refine g_swIn (off := 62) C 4 79 e9 (by decide) (by decide) (by decide) (by decide) dX11_about_17 ?_
        replace hw := hw.2.2.2.2.1 (Int32.toInt_inj.mp (e9.trans (by decide)))
        refine g_aload_n C 0 rfl rfl dX11_about_79 ?_
        refine g_aload_n C 1 rfl rfl dX11_about_80 ?_
        refine g_get C hK inX11 rfl 0 (ga_0 cy A _) 1 (by decide) (fun _ h => h) wt_86 rfl dX11_about_81 ?_
        refine g_get C hK inX0 rfl 3 (ga_3 cy A _) 4 (by decide) (fun _ h => h) wt_46 rfl dX11_about_84 ?_
        have hn : ∀ (r8 : Int32) (σ9 : St), (Φ r8 σ9) → GW κ 0 0 (gW cy A σ9) 90 [(3, .ref b3), (0, .ref (A 0)), (1, .int v1), (2, .int v2)] [.int r8] := by
          intro r8 σ9 hw
          exact gq_I C F (by decide) (by decide) hw dX11_about_90
        obtain ⟨h8, hw⟩ := hw
        rcases hw with ⟨h9, hw⟩ | ⟨h9, hw⟩ | ⟨h9, hw⟩ | ⟨h9, hw⟩ | ⟨h9, hw⟩
        · obtain ⟨q9, -, h9⟩ := ga_T cy A _ h8 h9
          exact gc_I C (gr_U (As := [.int (σ1.1 3 4)]) (rest := []) C hK 1 (gd_U wt_177 wt_180 wt_181 wt_178 wt_9 wt_185) rfl rfl rfl rfl hs_X9_hoursHere ⟨⟨Nat.le_of_ble_eq_true rfl, Nat.le_of_ble_eq_true rfl⟩, Nat.le_of_ble_eq_true rfl, Nat.le_of_ble_eq_true rfl⟩ rfl q9 h9 rfl rfl (Nat.le_of_ble_eq_true rfl) dX11_about_87 (c_X9_hoursHere (q_l κ) (q_D κ) cy A hw)) hn
        · obtain ⟨q9, -, h9⟩ := ga_T cy A _ h8 h9
          exact gc_I C (gr_U (As := [.int (σ1.1 3 4)]) (rest := []) C hK 1 (gd_U wt_177 wt_180 wt_182 wt_178 wt_9 wt_185) rfl rfl rfl rfl hs_X9_hoursHere ⟨⟨Nat.le_of_ble_eq_true rfl, Nat.le_of_ble_eq_true rfl⟩, Nat.le_of_ble_eq_true rfl, Nat.le_of_ble_eq_true rfl⟩ rfl q9 h9 rfl rfl (Nat.le_of_ble_eq_true rfl) dX11_about_87 (c_X9_hoursHere (q_l κ) (q_D κ) cy A hw)) hn
        · obtain ⟨q9, -, h9⟩ := ga_T cy A _ h8 h9
          exact gc_I C (gr_U (As := [.int (σ1.1 3 4)]) (rest := []) C hK 1 (gd_U wt_177 wt_180 wt_183 wt_178 wt_9 wt_185) rfl rfl rfl rfl hs_X9_hoursHere ⟨⟨Nat.le_of_ble_eq_true rfl, Nat.le_of_ble_eq_true rfl⟩, Nat.le_of_ble_eq_true rfl, Nat.le_of_ble_eq_true rfl⟩ rfl q9 h9 rfl rfl (Nat.le_of_ble_eq_true rfl) dX11_about_87 (c_X9_hoursHere (q_l κ) (q_D κ) cy A hw)) hn
        · obtain ⟨q9, -, h9⟩ := ga_T cy A _ h8 h9
          exact gc_I C (gr_U (As := [.int (σ1.1 3 4)]) (rest := []) C hK 1 (gd_U wt_177 wt_180 wt_184 wt_178 wt_9 wt_185) rfl rfl rfl rfl hs_X9_hoursHere ⟨⟨Nat.le_of_ble_eq_true rfl, Nat.le_of_ble_eq_true rfl⟩, Nat.le_of_ble_eq_true rfl, Nat.le_of_ble_eq_true rfl⟩ rfl q9 h9 rfl rfl (Nat.le_of_ble_eq_true rfl) dX11_about_87 (c_X9_hoursHere (q_l κ) (q_D κ) cy A hw)) hn
        · obtain ⟨q9, -, h9⟩ := ga_T cy A _ h8 h9
          exact gc_I C (gr_V (As := [.int (σ1.1 3 4)]) (rest := []) C hK 1 (gd_V wt_177 wt_178 wt_179 wt_9 wt_185) rfl rfl rfl ⟨rfl, hs_X9_hoursHere⟩ ⟨⟨Nat.le_of_ble_eq_true rfl, Nat.le_of_ble_eq_true rfl⟩, Nat.le_of_ble_eq_true rfl, Nat.le_of_ble_eq_true rfl⟩ rfl q9 h9 rfl rfl (Nat.le_of_ble_eq_true rfl) dX11_about_87 (c_X9_hoursHere (q_l κ) (q_D κ) cy A hw)) hn
  · subst e9
    replace hw := hw1
    refine g_bipush (v := (-101 : Int32)) C dX11_about_13 (by decide) ?_
    exact gq_I C F (by decide) (by decide) hw dX11_about_15
set_option maxHeartbeats 4000000 in
set_option maxRecDepth 100000 in
theorem c_X11_isOfKind (l : Launch) (D : va_G) (cy : Nat → ClassId) (A : Nat → Nat) {σ : St} {a0 : Nat} {v1 : Int32} {Φ : Int32 → St → Prop} (hw : wX11_isOfKind σ a0 v1 Φ) : CtI l yX11_isOfKind (.code yX11_isOfKind cX11_isOfKind 2 (some .boolean) :: gL) rm_X11_isOfKind 0 0 [.ref a0, .int v1] D cy A σ Φ := by
  refine ct_any (fun sz => va_Qi Φ (HE D cy A (gZ cy A σ sz)) (gZ cy A σ sz)) (by decide +kernel) rfl rfl [(0, .ref a0), (1, .int v1)] rfl (Nat.le_of_ble_eq_true rfl) ?_
  intro κ hκl hnm C hK sz F
  subst hκl
  unfold wX11_isOfKind at hw
  refine g_iload_n C 1 rfl rfl dX11_isOfKind_0 ?_
  by_cases h9 : v1.toInt < 1 ∨ 4 < v1.toInt
  · refine g_swOut C 52 h9 (by decide) dX11_isOfKind_1 ?_
    replace hw := hw.2.2.2.2 h9
    refine g_iload_n C 1 rfl rfl dX11_isOfKind_52 ?_
    refine g_if_ne C 60 (by decide) hw dX11_isOfKind_53 (fun hw => ?_) (fun hw => ?_)
    · refine g_iconst (v := (0 : Int32)) C dX11_isOfKind_60 (by decide) ?_
      exact gq_Z C F (by decide) (by decide) hw dX11_isOfKind_61
    · refine g_iconst (v := (1 : Int32)) C dX11_isOfKind_56 (by decide) ?_
      refine g_goto C 61 (by decide) dX11_isOfKind_57 ?_
      exact gq_Z C F (by decide) (by decide) hw dX11_isOfKind_61
  · rcases (show v1.toInt = 1 ∨ v1.toInt = 2 ∨ v1.toInt = 3 ∨ v1.toInt = 4 by omega) with e9 | e9 | e9 | e9
    · refine g_swIn (off := 31) C 1 32 e9 (by decide) (by decide) (by decide) (by decide) dX11_isOfKind_1 ?_
      replace hw := hw.1 (Int32.toInt_inj.mp (e9.trans (by decide)))
      refine g_aload_n C 0 rfl rfl dX11_isOfKind_32 ?_
      refine g_instT C hK (ct := 1) rfl wt_196 hw.1 _ (inst_1 _ _) dX11_isOfKind_33 ?_
      replace hw := hw.2
      exact gq_Z C F (by decide) (by decide) hw dX11_isOfKind_36
    · refine g_swIn (off := 36) C 2 37 e9 (by decide) (by decide) (by decide) (by decide) dX11_isOfKind_1 ?_
      replace hw := hw.2.1 (Int32.toInt_inj.mp (e9.trans (by decide)))
      refine g_aload_n C 0 rfl rfl dX11_isOfKind_37 ?_
      refine g_instT C hK (ct := 3) rfl wt_197 hw.1 _ (inst_3 _ _) dX11_isOfKind_38 ?_
      replace hw := hw.2
      exact gq_Z C F (by decide) (by decide) hw dX11_isOfKind_41
    · refine g_swIn (off := 41) C 3 42 e9 (by decide) (by decide) (by decide) (by decide) dX11_isOfKind_1 ?_
      replace hw := hw.2.2.1 (Int32.toInt_inj.mp (e9.trans (by decide)))
      refine g_aload_n C 0 rfl rfl dX11_isOfKind_42 ?_
      refine g_instT C hK (ct := 5) rfl wt_198 hw.1 _ (inst_5 _ _) dX11_isOfKind_43 ?_
      replace hw := hw.2
      exact gq_Z C F (by decide) (by decide) hw dX11_isOfKind_46
    · refine g_swIn (off := 46) C 4 47 e9 (by decide) (by decide) (by decide) (by decide) dX11_isOfKind_1 ?_
      replace hw := hw.2.2.2.1 (Int32.toInt_inj.mp (e9.trans (by decide)))
      refine g_aload_n C 0 rfl rfl dX11_isOfKind_47 ?_
      refine g_instT C hK (ct := 4) rfl wt_199 hw.1 _ (inst_4 _ _) dX11_isOfKind_48 ?_
      replace hw := hw.2
      exact gq_Z C F (by decide) (by decide) hw dX11_isOfKind_51
set_option maxHeartbeats 4000000 in
set_option maxRecDepth 100000 in
theorem c_X11_as (l : Launch) (D : va_G) (cy : Nat → ClassId) (A : Nat → Nat) {σ : St} {v1 : Int32} {v2 : Int32} {Φ : Int32 → St → Prop} (hw : wX11_as σ v1 v2 Φ) : CtI l yX11_as (.code yX11_as cX11_as 4 (some .int) :: gL) rm_X11_as 0 0 [.ref (A 0), .int v1, .int v2] D cy A σ Φ := by
  refine ct_any (fun sz => va_Qi Φ (HE D cy A (gZ cy A σ sz)) (gZ cy A σ sz)) (by decide +kernel) rfl rfl [(0, .ref (A 0)), (1, .int v1), (2, .int v2)] rfl (Nat.le_of_ble_eq_true rfl) ?_
  intro κ hκl hnm C hK sz F
  subst hκl
  unfold wX11_as at hw
  refine g_aload_n C 0 rfl rfl dX11_as_0 ?_
  refine g_get C hK inX11 rfl 0 (ga_0 cy A _) 2 (by decide) (fun _ h => h) wt_87 rfl dX11_as_1 ?_
  refine g_iload_n C 1 rfl rfl dX11_as_4 ?_
  refine gc_Q C (gr_V (As := [.int v1]) (rest := []) C hK 1 (gd_V wt_158 wt_111 wt_112 wt_4 wt_113) rfl rfl rfl ⟨rfl, hs_X6_at⟩ ⟨⟨Nat.le_of_ble_eq_true rfl, Nat.le_of_ble_eq_true rfl⟩, Nat.le_of_ble_eq_true rfl, Nat.le_of_ble_eq_true rfl⟩ rfl 4 (ga_4 cy A _) rfl rfl (Nat.le_of_ble_eq_true rfl) dX11_as_5 (c_X6_at (q_l κ) (q_D κ) cy A hw)) (fun r2 σ1 hw => ?_)
  refine g_rstore_n C [(3, va_rf r2), (0, .ref (A 0)), (1, .int v1), (2, .int v2)] F.2.2.2.1 rfl (by decide) rfl dX11_as_8 ?_
  refine g_rload_n C 0 rfl rfl dX11_as_9 ?_
  refine g_ifnonnull C 16 (by decide) hw dX11_as_10 (fun b3 e9 hw1 => ?_) (fun hw1 e9 => ?_)
  · subst e9
    replace hw := hw1
    refine g_iload_n C 3 rfl rfl dX11_as_16 ?_
    refine gc_I C (gr_S (As := [.int v2]) (rest := []) C hK 1 (gd_S wt_190 wt_191 wt_1 wt_192) rfl rfl rfl hs_X11_isKind ⟨⟨Nat.le_of_ble_eq_true rfl, Nat.le_of_ble_eq_true rfl⟩, Nat.le_of_ble_eq_true rfl, Nat.le_of_ble_eq_true rfl⟩ rfl rfl (Nat.le_of_ble_eq_true rfl) dX11_as_17 (c_X11_isKind (q_l κ) (q_D κ) cy A hw)) (fun r5 σ4 hw => ?_)
    refine g_if_ne C 26 (by decide) hw dX11_as_20 (fun hw => ?_) (fun hw => ?_)
    · refine g_aload_n C 0 rfl rfl dX11_as_26 ?_
      refine g_iload_n C 3 rfl rfl dX11_as_27 ?_
      refine gc_I C (gr_S (As := [.ref b3, .int v2]) (rest := []) C hK 2 (gd_S wt_193 wt_194 wt_1 wt_195) rfl rfl rfl hs_X11_isOfKind ⟨⟨Nat.le_of_ble_eq_true rfl, Nat.le_of_ble_eq_true rfl⟩, Nat.le_of_ble_eq_true rfl, Nat.le_of_ble_eq_true rfl⟩ rfl rfl (Nat.le_of_ble_eq_true rfl) dX11_as_28 (c_X11_isOfKind (q_l κ) (q_D κ) cy A hw)) (fun r7 σ6 hw => ?_)
      refine g_if_eq C 38 (by decide) hw dX11_as_31 (fun hw => ?_) (fun hw => ?_)
      · refine g_iconst (v := (-1 : Int32)) C dX11_as_38 (by decide) ?_
        exact gq_I C F (by decide) (by decide) hw dX11_as_39
      · refine g_iload_n C 2 rfl rfl dX11_as_34 ?_
        refine g_goto C 39 (by decide) dX11_as_35 ?_
        exact gq_I C F (by decide) (by decide) hw dX11_as_39
    · refine g_bipush (v := (-102 : Int32)) C dX11_as_23 (by decide) ?_
      exact gq_I C F (by decide) (by decide) hw dX11_as_25
  · subst e9
    replace hw := hw1
    refine g_bipush (v := (-101 : Int32)) C dX11_as_13 (by decide) ?_
    exact gq_I C F (by decide) (by decide) hw dX11_as_15
set_option maxHeartbeats 4000000 in
set_option maxRecDepth 100000 in
theorem c_X11_carry (l : Launch) (D : va_G) (cy : Nat → ClassId) (A : Nat → Nat) {σ : St} {v1 : Int32} {Φ : Int32 → St → Prop} (hw : wX11_carry σ v1 Φ) : CtI l yX11_carry (.code yX11_carry cX11_carry 3 (some .int) :: gL) rm_X11_carry 0 0 [.ref (A 0), .int v1] D cy A σ Φ := by
  refine ct_any (fun sz => va_Qi Φ (HE D cy A (gZ cy A σ sz)) (gZ cy A σ sz)) (by decide +kernel) rfl rfl [(0, .ref (A 0)), (1, .int v1)] rfl (Nat.le_of_ble_eq_true rfl) ?_
  intro κ hκl hnm C hK sz F
  subst hκl
  unfold wX11_carry at hw
  refine g_aload_n C 0 rfl rfl dX11_carry_0 ?_
  refine g_get C hK inX11 rfl 0 (ga_0 cy A _) 2 (by decide) (fun _ h => h) wt_87 rfl dX11_carry_1 ?_
  refine g_iload_n C 1 rfl rfl dX11_carry_4 ?_
  refine gc_Q C (gr_V (As := [.int v1]) (rest := []) C hK 1 (gd_V wt_158 wt_111 wt_112 wt_4 wt_113) rfl rfl rfl ⟨rfl, hs_X6_at⟩ ⟨⟨Nat.le_of_ble_eq_true rfl, Nat.le_of_ble_eq_true rfl⟩, Nat.le_of_ble_eq_true rfl, Nat.le_of_ble_eq_true rfl⟩ rfl 4 (ga_4 cy A _) rfl rfl (Nat.le_of_ble_eq_true rfl) dX11_carry_5 (c_X6_at (q_l κ) (q_D κ) cy A hw)) (fun r2 σ1 hw => ?_)
  refine g_rstore_n C [(2, va_rf r2), (0, .ref (A 0)), (1, .int v1)] F.2.2.2.1 rfl (by decide) rfl dX11_carry_8 ?_
  refine g_rload_n C 0 rfl rfl dX11_carry_9 ?_
  refine g_ifnonnull C 16 (by decide) hw dX11_carry_10 (fun b3 e9 hw1 => ?_) (fun hw1 e9 => ?_)
  · subst e9
    replace hw := hw1
    refine g_aload_n C 1 rfl rfl dX11_carry_16 ?_
    refine g_get C hK inX11 rfl 0 (ga_0 cy A _) 1 (by decide) (fun _ h => h) wt_86 rfl dX11_carry_17 ?_
    refine gc_I C (gr_V (As := []) (rest := []) C hK 0 (gd_V wt_204 wt_205 wt_206 wt_3 wt_207) rfl rfl rfl ⟨rfl, hs_X0_isWhole⟩ ⟨⟨Nat.le_of_ble_eq_true rfl, Nat.le_of_ble_eq_true rfl⟩, Nat.le_of_ble_eq_true rfl, Nat.le_of_ble_eq_true rfl⟩ rfl 3 (ga_3 cy A _) rfl rfl (Nat.le_of_ble_eq_true rfl) dX11_carry_20 (c_X0_isWhole (q_l κ) (q_D κ) cy A hC3 hw)) (fun r5 σ4 hw => ?_)
    refine g_if_eq C 40 (by decide) hw dX11_carry_23 (fun hw => ?_) (fun hw => ?_)
    · refine g_bipush (v := (-103 : Int32)) C dX11_carry_40 (by decide) ?_
      exact gq_I C F (by decide) (by decide) hw dX11_carry_42
    · refine g_aload_n C 0 rfl rfl dX11_carry_26 ?_
      refine g_aload_n C 1 rfl rfl dX11_carry_27 ?_
      refine g_get C hK inX11 rfl 0 (ga_0 cy A _) 1 (by decide) (fun _ h => h) wt_86 rfl dX11_carry_28 ?_
      refine gc_I C (gr_V (As := []) (rest := [.ref b3]) C hK 0 (gd_V wt_208 wt_209 wt_210 wt_3 wt_211) rfl rfl rfl ⟨rfl, hs_X0_turnsNow⟩ ⟨⟨Nat.le_of_ble_eq_true rfl, Nat.le_of_ble_eq_true rfl⟩, Nat.le_of_ble_eq_true rfl, Nat.le_of_ble_eq_true rfl⟩ rfl 3 (ga_3 cy A _) rfl rfl (Nat.le_of_ble_eq_true rfl) dX11_carry_31 (c_X0_turnsNow (q_l κ) (q_D κ) cy A hC3 hw)) (fun r7 σ6 hw => ?_)
      have hn : ∀ (r8 : Int32) (σ9 : St), ((if r8 = 0 then Φ (-103 : Int32) σ9 else isT σ9 b3 ∧ isT σ9 b3 ∧ isT (sT σ9 b3 2 ((1 : Int32) - (σ9.2.2.2.2.2 b3 2))) b3 ∧ Φ ((sT σ9 b3 2 ((1 : Int32) - (σ9.2.2.2.2.2 b3 2))).2.2.2.2.2 b3 2) (sT σ9 b3 2 ((1 : Int32) - (σ9.2.2.2.2.2 b3 2))))) → GW κ 0 0 (gW cy A σ9) 37 [(2, .ref b3), (0, .ref (A 0)), (1, .int v1)] [.int r8] := by
        intro r8 σ9 hw
        refine g_if_ne C 43 (by decide) hw dX11_carry_37 (fun hw => ?_) (fun hw => ?_)
        · refine g_aload_n C 0 rfl rfl dX11_carry_43 ?_
          refine g_iconst (v := (1 : Int32)) C dX11_carry_44 (by decide) ?_
          refine g_aload_n C 0 rfl rfl dX11_carry_45 ?_
          refine g_getT2 C hK hw.1 (fun _ h => h) wt_397 dX11_carry_46 ?_
          replace hw := hw.2
          refine g_isub C dX11_carry_49 ?_
          refine g_putT2 C hK hw.1 (fun _ h => h) wt_397 dX11_carry_50 ?_
          replace hw := hw.2
          refine g_aload_n C 0 rfl rfl dX11_carry_53 ?_
          refine g_getT2 C hK hw.1 (fun _ h => h) wt_397 dX11_carry_54 ?_
          replace hw := hw.2
          exact gq_I C F (by decide) (by decide) hw dX11_carry_57
        · refine g_bipush (v := (-103 : Int32)) C dX11_carry_40 (by decide) ?_
          exact gq_I C F (by decide) (by decide) hw dX11_carry_42
      obtain ⟨h8, hw⟩ := hw
      rcases hw with ⟨h9, hw⟩ | ⟨h9, hw⟩ | ⟨h9, hw⟩ | ⟨h9, hw⟩ | ⟨h9, hw⟩
      · obtain ⟨q9, -, h9⟩ := ga_T cy A _ h8 h9
        exact gc_I C (gr_U (As := [.int r7]) (rest := []) C hK 1 (gd_U wt_212 wt_215 wt_216 wt_213 wt_9 wt_222) rfl rfl rfl rfl hs_X9_goesAcross ⟨⟨Nat.le_of_ble_eq_true rfl, Nat.le_of_ble_eq_true rfl⟩, Nat.le_of_ble_eq_true rfl, Nat.le_of_ble_eq_true rfl⟩ rfl q9 h9 rfl rfl (Nat.le_of_ble_eq_true rfl) dX11_carry_34 (c_X9_goesAcross (q_l κ) (q_D κ) cy A hw)) hn
      · obtain ⟨q9, -, h9⟩ := ga_T cy A _ h8 h9
        exact gc_I C (gr_O (As := [.int r7]) (rest := []) C hK 1 (gd_O wt_212 wt_215 wt_213 wt_217 wt_218 wt_11 wt_219) rfl rfl rfl wt_222 hs_X9_goesAcross ⟨⟨Nat.le_of_ble_eq_true rfl, Nat.le_of_ble_eq_true rfl⟩, Nat.le_of_ble_eq_true rfl, Nat.le_of_ble_eq_true rfl⟩ rfl q9 h9 rfl rfl (Nat.le_of_ble_eq_true rfl) dX11_carry_34 (c_X3_goesAcross (q_l κ) (q_D κ) cy A hw)) hn
      · obtain ⟨q9, -, h9⟩ := ga_T cy A _ h8 h9
        exact gc_I C (gr_U (As := [.int r7]) (rest := []) C hK 1 (gd_U wt_212 wt_215 wt_220 wt_213 wt_9 wt_222) rfl rfl rfl rfl hs_X9_goesAcross ⟨⟨Nat.le_of_ble_eq_true rfl, Nat.le_of_ble_eq_true rfl⟩, Nat.le_of_ble_eq_true rfl, Nat.le_of_ble_eq_true rfl⟩ rfl q9 h9 rfl rfl (Nat.le_of_ble_eq_true rfl) dX11_carry_34 (c_X9_goesAcross (q_l κ) (q_D κ) cy A hw)) hn
      · obtain ⟨q9, -, h9⟩ := ga_T cy A _ h8 h9
        exact gc_I C (gr_U (As := [.int r7]) (rest := []) C hK 1 (gd_U wt_212 wt_215 wt_221 wt_213 wt_9 wt_222) rfl rfl rfl rfl hs_X9_goesAcross ⟨⟨Nat.le_of_ble_eq_true rfl, Nat.le_of_ble_eq_true rfl⟩, Nat.le_of_ble_eq_true rfl, Nat.le_of_ble_eq_true rfl⟩ rfl q9 h9 rfl rfl (Nat.le_of_ble_eq_true rfl) dX11_carry_34 (c_X9_goesAcross (q_l κ) (q_D κ) cy A hw)) hn
      · obtain ⟨q9, -, h9⟩ := ga_T cy A _ h8 h9
        exact gc_I C (gr_V (As := [.int r7]) (rest := []) C hK 1 (gd_V wt_212 wt_213 wt_214 wt_9 wt_222) rfl rfl rfl ⟨rfl, hs_X9_goesAcross⟩ ⟨⟨Nat.le_of_ble_eq_true rfl, Nat.le_of_ble_eq_true rfl⟩, Nat.le_of_ble_eq_true rfl, Nat.le_of_ble_eq_true rfl⟩ rfl q9 h9 rfl rfl (Nat.le_of_ble_eq_true rfl) dX11_carry_34 (c_X9_goesAcross (q_l κ) (q_D κ) cy A hw)) hn
  · subst e9
    replace hw := hw1
    refine g_bipush (v := (-101 : Int32)) C dX11_carry_13 (by decide) ?_
    exact gq_I C F (by decide) (by decide) hw dX11_carry_15
set_option maxHeartbeats 4000000 in
set_option maxRecDepth 100000 in
theorem c_X11_isLength (l : Launch) (D : va_G) (cy : Nat → ClassId) (A : Nat → Nat) {σ : St} {v0 : Int32} {Φ : Int32 → St → Prop} (hw : wX11_isLength σ v0 Φ) : CtI l yX11_isLength (.code yX11_isLength cX11_isLength 1 (some .boolean) :: gL) rm_X11_isLength 0 0 [.int v0] D cy A σ Φ := by
  refine ct_any (fun sz => va_Qi Φ (HE D cy A (gZ cy A σ sz)) (gZ cy A σ sz)) (by decide +kernel) rfl rfl [(0, .int v0)] rfl (Nat.le_of_ble_eq_true rfl) ?_
  intro κ hκl hnm C hK sz F
  subst hκl
  unfold wX11_isLength at hw
  refine g_iload_n C 0 rfl rfl dX11_isLength_0 ?_
  refine g_bipush (v := (10 : Int32)) C dX11_isLength_1 (by decide) ?_
  refine g_icmp_lt C 16 (by decide) hw dX11_isLength_3 (fun hw => ?_) (fun hw => ?_)
  · refine g_iconst (v := (0 : Int32)) C dX11_isLength_16 (by decide) ?_
    exact gq_Z C F (by decide) (by decide) hw dX11_isLength_17
  · refine g_iload_n C 0 rfl rfl dX11_isLength_6 ?_
    refine g_bipush (v := (40 : Int32)) C dX11_isLength_7 (by decide) ?_
    refine g_icmp_gt C 16 (by decide) hw dX11_isLength_9 (fun hw => ?_) (fun hw => ?_)
    · refine g_iconst (v := (0 : Int32)) C dX11_isLength_16 (by decide) ?_
      exact gq_Z C F (by decide) (by decide) hw dX11_isLength_17
    · refine g_iconst (v := (1 : Int32)) C dX11_isLength_12 (by decide) ?_
      refine g_goto C 17 (by decide) dX11_isLength_13 ?_
      exact gq_Z C F (by decide) (by decide) hw dX11_isLength_17
set_option maxHeartbeats 4000000 in
set_option maxRecDepth 100000 in
theorem c_X11_hour (l : Launch) (D : va_G) (cy : Nat → ClassId) (A : Nat → Nat) {σ : St} {v1 : Int32} {Φ : Int32 → St → Prop} (hw : wX11_hour σ v1 Φ) : CtI l yX11_hour (.code yX11_hour cX11_hour 2 (some .int) :: gL) rm_X11_hour 0 0 [.ref (A 0), .int v1] D cy A σ Φ := by
  refine ct_any (fun sz => va_Qi Φ (HE D cy A (gZ cy A σ sz)) (gZ cy A σ sz)) (by decide +kernel) rfl rfl [(0, .ref (A 0)), (1, .int v1)] rfl (Nat.le_of_ble_eq_true rfl) ?_
  intro κ hκl hnm C hK sz F
  subst hκl
  unfold wX11_hour at hw
  refine g_iload_n C 1 rfl rfl dX11_hour_0 ?_
  refine g_bipush (v := (-3 : Int32)) C dX11_hour_1 (by decide) ?_
  refine g_icmp_lt C 11 (by decide) hw dX11_hour_3 (fun hw => ?_) (fun hw => ?_)
  · refine g_bipush (v := (-102 : Int32)) C dX11_hour_11 (by decide) ?_
    exact gq_I C F (by decide) (by decide) hw dX11_hour_13
  · refine g_iload_n C 1 rfl rfl dX11_hour_6 ?_
    refine g_iconst (v := (3 : Int32)) C dX11_hour_7 (by decide) ?_
    refine g_icmp_le C 14 (by decide) hw dX11_hour_8 (fun hw => ?_) (fun hw => ?_)
    · refine g_aload_n C 0 rfl rfl dX11_hour_14 ?_
      refine g_get C hK inX11 rfl 0 (ga_0 cy A _) 1 (by decide) (fun _ h => h) wt_86 rfl dX11_hour_15 ?_
      refine gc_I C (gr_V (As := []) (rest := []) C hK 0 (gd_V wt_204 wt_205 wt_206 wt_3 wt_207) rfl rfl rfl ⟨rfl, hs_X0_isWhole⟩ ⟨⟨Nat.le_of_ble_eq_true rfl, Nat.le_of_ble_eq_true rfl⟩, Nat.le_of_ble_eq_true rfl, Nat.le_of_ble_eq_true rfl⟩ rfl 3 (ga_3 cy A _) rfl rfl (Nat.le_of_ble_eq_true rfl) dX11_hour_18 (c_X0_isWhole (q_l κ) (q_D κ) cy A hC3 hw)) (fun r2 σ1 hw => ?_)
      refine g_if_eq C 39 (by decide) hw dX11_hour_21 (fun hw => ?_) (fun hw => ?_)
      · refine g_bipush (v := (-103 : Int32)) C dX11_hour_39 (by decide) ?_
        exact gq_I C F (by decide) (by decide) hw dX11_hour_41
      · refine g_aload_n C 0 rfl rfl dX11_hour_24 ?_
        refine g_get C hK inX11 rfl 0 (ga_0 cy A _) 1 (by decide) (fun _ h => h) wt_86 rfl dX11_hour_25 ?_
        refine g_get C hK inX0 rfl 3 (ga_3 cy A _) 0 (by decide) (fun _ h => h) wt_38 rfl dX11_hour_28 ?_
        refine g_iload_n C 1 rfl rfl dX11_hour_31 ?_
        refine g_isub C dX11_hour_32 ?_
        refine gc_I C (gr_S (As := [.int ((σ1.1 3 0) - v1)]) (rest := []) C hK 1 (gd_S wt_227 wt_228 wt_1 wt_229) rfl rfl rfl hs_X11_isLength ⟨⟨Nat.le_of_ble_eq_true rfl, Nat.le_of_ble_eq_true rfl⟩, Nat.le_of_ble_eq_true rfl, Nat.le_of_ble_eq_true rfl⟩ rfl rfl (Nat.le_of_ble_eq_true rfl) dX11_hour_33 (c_X11_isLength (q_l κ) (q_D κ) cy A hw)) (fun r4 σ3 hw => ?_)
        refine g_if_ne C 42 (by decide) hw dX11_hour_36 (fun hw => ?_) (fun hw => ?_)
        · refine g_aload_n C 0 rfl rfl dX11_hour_42 ?_
          refine g_get C hK inX11 rfl 0 (ga_0 cy A _) 1 (by decide) (fun _ h => h) wt_86 rfl dX11_hour_43 ?_
          refine g_iload_n C 1 rfl rfl dX11_hour_46 ?_
          refine g_aload_n C 0 rfl rfl dX11_hour_47 ?_
          refine g_get C hK inX11 rfl 0 (ga_0 cy A _) 2 (by decide) (fun _ h => h) wt_87 rfl dX11_hour_48 ?_
          refine gc_V C (gr_V (As := [.int v1, .ref (A 4)]) (rest := []) C hK 2 (gd_V wt_230 wt_231 wt_232 wt_3 wt_233) rfl rfl rfl ⟨rfl, hs_X0_goHour⟩ ⟨⟨Nat.le_of_ble_eq_true rfl, Nat.le_of_ble_eq_true rfl⟩, Nat.le_of_ble_eq_true rfl, Nat.le_of_ble_eq_true rfl⟩ rfl 3 (ga_3 cy A _) rfl rfl (Nat.le_of_ble_eq_true rfl) dX11_hour_51 (c_X0_goHour (q_l κ) (q_D κ) cy A hC3 hw)) (fun σ5 hw => ?_)
          refine g_aload_n C 0 rfl rfl dX11_hour_54 ?_
          refine g_get C hK inX11 rfl 0 (ga_0 cy A _) 1 (by decide) (fun _ h => h) wt_86 rfl dX11_hour_55 ?_
          refine g_get C hK inX0 rfl 3 (ga_3 cy A _) 6 (by decide) (fun _ h => h) wt_50 rfl dX11_hour_58 ?_
          refine g_if_eq C 68 (by decide) hw dX11_hour_61 (fun hw => ?_) (fun hw => ?_)
          · refine g_aload_n C 0 rfl rfl dX11_hour_68 ?_
            refine g_get C hK inX11 rfl 0 (ga_0 cy A _) 1 (by decide) (fun _ h => h) wt_86 rfl dX11_hour_69 ?_
            refine g_get C hK inX0 rfl 3 (ga_3 cy A _) 0 (by decide) (fun _ h => h) wt_38 rfl dX11_hour_72 ?_
            exact gq_I C F (by decide) (by decide) hw dX11_hour_75
          · refine g_iconst (v := (-1 : Int32)) C dX11_hour_64 (by decide) ?_
            refine g_goto C 75 (by decide) dX11_hour_65 ?_
            exact gq_I C F (by decide) (by decide) hw dX11_hour_75
        · refine g_bipush (v := (-103 : Int32)) C dX11_hour_39 (by decide) ?_
          exact gq_I C F (by decide) (by decide) hw dX11_hour_41
    · refine g_bipush (v := (-102 : Int32)) C dX11_hour_11 (by decide) ?_
      exact gq_I C F (by decide) (by decide) hw dX11_hour_13
set_option maxHeartbeats 4000000 in
set_option maxRecDepth 100000 in
theorem c_X11_apartOnCircle (l : Launch) (D : va_G) (cy : Nat → ClassId) (A : Nat → Nat) {σ : St} {v0 : Int32} {v1 : Int32} {Φ : Int32 → St → Prop} (hw : wX11_apartOnCircle σ v0 v1 Φ) : CtI l yX11_apartOnCircle (.code yX11_apartOnCircle cX11_apartOnCircle 3 (some .int) :: gL) rm_X11_apartOnCircle 0 0 [.int v0, .int v1] D cy A σ Φ := by
  refine ct_any (fun sz => va_Qi Φ (HE D cy A (gZ cy A σ sz)) (gZ cy A σ sz)) (by decide +kernel) rfl rfl [(0, .int v0), (1, .int v1)] rfl (Nat.le_of_ble_eq_true rfl) ?_
  intro κ hκl hnm C hK sz F
  subst hκl
  unfold wX11_apartOnCircle at hw
  refine g_iload_n C 0 rfl rfl dX11_apartOnCircle_0 ?_
  refine g_iload_n C 1 rfl rfl dX11_apartOnCircle_1 ?_
  refine g_isub C dX11_apartOnCircle_2 ?_
  refine g_sipush (v := (360 : Int32)) C dX11_apartOnCircle_3 (by decide) ?_
  refine gc_I C (gr_S (As := [.int (v0 - v1), .int (360 : Int32)]) (rest := []) C hK 2 (gd_S wt_254 wt_240 wt_8 wt_241) rfl rfl rfl hs_J9_floorMod_7cf53 ⟨⟨Nat.le_of_ble_eq_true rfl, Nat.le_of_ble_eq_true rfl⟩, Nat.le_of_ble_eq_true rfl, Nat.le_of_ble_eq_true rfl⟩ rfl rfl (Nat.le_of_ble_eq_true rfl) dX11_apartOnCircle_6 (c_J9_floorMod_7cf53 (q_l κ) (q_D κ) cy A hw)) (fun r2 σ1 hw => ?_)
  refine g_istore_n C [(2, .int r2), (0, .int v0), (1, .int v1)] F.2.2.2.1 rfl (by decide) rfl dX11_apartOnCircle_9 ?_
  refine g_iload_n C 0 rfl rfl dX11_apartOnCircle_10 ?_
  refine g_sipush (v := (360 : Int32)) C dX11_apartOnCircle_11 (by decide) ?_
  refine g_iload_n C 0 rfl rfl dX11_apartOnCircle_14 ?_
  refine g_isub C dX11_apartOnCircle_15 ?_
  refine gc_I C (gr_S (As := [.int r2, .int ((360 : Int32) - r2)]) (rest := []) C hK 2 (gd_S wt_259 wt_260 wt_8 wt_261) rfl rfl rfl hs_J9_min_7cf53 ⟨⟨Nat.le_of_ble_eq_true rfl, Nat.le_of_ble_eq_true rfl⟩, Nat.le_of_ble_eq_true rfl, Nat.le_of_ble_eq_true rfl⟩ rfl rfl (Nat.le_of_ble_eq_true rfl) dX11_apartOnCircle_16 (c_J9_min_7cf53 (q_l κ) (q_D κ) cy A hw)) (fun r4 σ3 hw => ?_)
  exact gq_I C F (by decide) (by decide) hw dX11_apartOnCircle_19
set_option maxHeartbeats 4000000 in
set_option maxRecDepth 100000 in
theorem c_X11_caught (l : Launch) (D : va_G) (cy : Nat → ClassId) (A : Nat → Nat) {σ : St} {v1 : Int32} {Φ : Int32 → St → Prop} (hw : wX11_caught σ v1 Φ) : CtI l yX11_caught (.code yX11_caught cX11_caught 5 (some .int) :: gL) rm_X11_caught 0 0 [.ref (A 0), .int v1] D cy A σ Φ := by
  refine ct_any (fun sz => va_Qi Φ (HE D cy A (gZ cy A σ sz)) (gZ cy A σ sz)) (by decide +kernel) rfl rfl [(0, .ref (A 0)), (1, .int v1)] rfl (Nat.le_of_ble_eq_true rfl) ?_
  intro κ hκl hnm C hK sz F
  subst hκl
  have J51 : ∀ (n : Nat) (σ : St) (v3 : Int32) (v4 : Int32), wX11_caught_51 Φ n σ v3 v4 → GW κ 0 0 (gW cy A σ) 51 [(0, .ref (A 0)), (3, .int v3), (4, .int v4)] [] := by
    intro n
    induction n with
    | zero => intro σ v3 v4 hw; exact hw.elim
    | succ n ih =>
      intro σ v3 v4 hw
      rw [wX11_caught_51] at hw
      refine g_iload C 2 rfl dX11_caught_51 ?_
      refine g_bipush (v := (98 : Int32)) C dX11_caught_53 (by decide) ?_
      refine g_icmp_gt C 84 (by decide) hw dX11_caught_55 (fun hw => ?_) (fun hw => ?_)
      · refine g_iconst (v := (-1 : Int32)) C dX11_caught_84 (by decide) ?_
        exact gq_I C F (by decide) (by decide) hw dX11_caught_85
      · refine g_aload_n C 0 rfl rfl dX11_caught_58 ?_
        refine g_get C hK inX11 rfl 0 (ga_0 cy A _) 1 (by decide) (fun _ h => h) wt_86 rfl dX11_caught_59 ?_
        refine g_iload C 2 rfl dX11_caught_62 ?_
        refine gc_I C (gr_V (As := [.int v4]) (rest := []) C hK 1 (gd_V wt_255 wt_235 wt_236 wt_3 wt_237) rfl rfl rfl ⟨rfl, hs_X0_placeAfter⟩ ⟨⟨Nat.le_of_ble_eq_true rfl, Nat.le_of_ble_eq_true rfl⟩, Nat.le_of_ble_eq_true rfl, Nat.le_of_ble_eq_true rfl⟩ rfl 3 (ga_3 cy A _) rfl rfl (Nat.le_of_ble_eq_true rfl) dX11_caught_64 (c_X0_placeAfter (q_l κ) (q_D κ) cy A hC3 hw)) (fun r8 σ7 hw => ?_)
        refine g_iload_n C 1 rfl rfl dX11_caught_67 ?_
        refine gc_I C (gr_S (As := [.int r8, .int v3]) (rest := []) C hK 2 (gd_S wt_256 wt_257 wt_1 wt_258) rfl rfl rfl hs_X11_apartOnCircle ⟨⟨Nat.le_of_ble_eq_true rfl, Nat.le_of_ble_eq_true rfl⟩, Nat.le_of_ble_eq_true rfl, Nat.le_of_ble_eq_true rfl⟩ rfl rfl (Nat.le_of_ble_eq_true rfl) dX11_caught_68 (c_X11_apartOnCircle (q_l κ) (q_D κ) cy A hw)) (fun r10 σ9 hw => ?_)
        refine g_iconst (v := (5 : Int32)) C dX11_caught_71 (by decide) ?_
        refine g_icmp_gt C 78 (by decide) hw dX11_caught_72 (fun hw => ?_) (fun hw => ?_)
        · refine g_iinc (j := 2) C [(4, .int (v4 + 1)), (0, .ref (A 0)), (3, .int v3)] F.2.2.2.1 rfl rfl (by decide) rfl dX11_caught_78 ?_
          refine g_goto C 51 (by decide) dX11_caught_81 ?_
          refine g_eql (lv' := [(0, .ref (A 0)), (3, .int v3), (4, .int (v4 + 1))]) [1, 2, 0] rfl ?_
          exact ih σ9 v3 (v4 + 1) hw
        · refine g_iload C 2 rfl dX11_caught_75 ?_
          exact gq_I C F (by decide) (by decide) hw dX11_caught_77
  unfold wX11_caught at hw
  refine g_iload_n C 1 rfl rfl dX11_caught_0 ?_
  refine g_iconst (v := (1 : Int32)) C dX11_caught_1 (by decide) ?_
  refine g_icmp_lt C 11 (by decide) hw dX11_caught_2 (fun hw => ?_) (fun hw => ?_)
  · refine g_bipush (v := (-102 : Int32)) C dX11_caught_11 (by decide) ?_
    exact gq_I C F (by decide) (by decide) hw dX11_caught_13
  · refine g_iload_n C 1 rfl rfl dX11_caught_5 ?_
    refine g_bipush (v := (99 : Int32)) C dX11_caught_6 (by decide) ?_
    refine g_icmp_le C 14 (by decide) hw dX11_caught_8 (fun hw => ?_) (fun hw => ?_)
    · refine g_aload_n C 0 rfl rfl dX11_caught_14 ?_
      refine g_get C hK inX11 rfl 0 (ga_0 cy A _) 1 (by decide) (fun _ h => h) wt_86 rfl dX11_caught_15 ?_
      refine gc_I C (gr_V (As := []) (rest := []) C hK 0 (gd_V wt_204 wt_205 wt_206 wt_3 wt_207) rfl rfl rfl ⟨rfl, hs_X0_isWhole⟩ ⟨⟨Nat.le_of_ble_eq_true rfl, Nat.le_of_ble_eq_true rfl⟩, Nat.le_of_ble_eq_true rfl, Nat.le_of_ble_eq_true rfl⟩ rfl 3 (ga_3 cy A _) rfl rfl (Nat.le_of_ble_eq_true rfl) dX11_caught_18 (c_X0_isWhole (q_l κ) (q_D κ) cy A hC3 hw)) (fun r2 σ1 hw => ?_)
      refine g_if_ne C 27 (by decide) hw dX11_caught_21 (fun hw => ?_) (fun hw => ?_)
      · refine g_aload_n C 0 rfl rfl dX11_caught_27 ?_
        refine g_get C hK inX11 rfl 0 (ga_0 cy A _) 1 (by decide) (fun _ h => h) wt_86 rfl dX11_caught_28 ?_
        refine gc_I C (gr_V (As := []) (rest := []) C hK 0 (gd_V wt_208 wt_209 wt_210 wt_3 wt_211) rfl rfl rfl ⟨rfl, hs_X0_turnsNow⟩ ⟨⟨Nat.le_of_ble_eq_true rfl, Nat.le_of_ble_eq_true rfl⟩, Nat.le_of_ble_eq_true rfl, Nat.le_of_ble_eq_true rfl⟩ rfl 3 (ga_3 cy A _) rfl rfl (Nat.le_of_ble_eq_true rfl) dX11_caught_31 (c_X0_turnsNow (q_l κ) (q_D κ) cy A hC3 hw)) (fun r4 σ3 hw => ?_)
        refine g_istore_n C [(2, .int r4), (0, .ref (A 0)), (1, .int v1)] F.2.2.2.1 rfl (by decide) rfl dX11_caught_34 ?_
        refine g_bipush (v := (90 : Int32)) C dX11_caught_35 (by decide) ?_
        refine g_iload_n C 2 rfl rfl dX11_caught_37 ?_
        refine g_iload_n C 0 rfl rfl dX11_caught_38 ?_
        refine g_imul C dX11_caught_39 ?_
        refine g_isub C dX11_caught_40 ?_
        refine g_sipush (v := (360 : Int32)) C dX11_caught_41 (by decide) ?_
        refine gc_I C (gr_S (As := [.int ((90 : Int32) - (v1 * r4)), .int (360 : Int32)]) (rest := []) C hK 2 (gd_S wt_254 wt_240 wt_8 wt_241) rfl rfl rfl hs_J9_floorMod_7cf53 ⟨⟨Nat.le_of_ble_eq_true rfl, Nat.le_of_ble_eq_true rfl⟩, Nat.le_of_ble_eq_true rfl, Nat.le_of_ble_eq_true rfl⟩ rfl rfl (Nat.le_of_ble_eq_true rfl) dX11_caught_44 (c_J9_floorMod_7cf53 (q_l κ) (q_D κ) cy A hw)) (fun r6 σ5 hw => ?_)
        refine g_istore_n C [(3, .int r6), (2, .int r4), (0, .ref (A 0)), (1, .int v1)] F.2.2.2.1 rfl (by decide) rfl dX11_caught_47 ?_
        refine g_iconst (v := (0 : Int32)) C dX11_caught_48 (by decide) ?_
        refine g_istore C [(4, .int (0 : Int32)), (3, .int r6), (2, .int r4), (0, .ref (A 0)), (1, .int v1)] F.2.2.2.1 (by decide) rfl dX11_caught_49 ?_
        refine g_eql (lv' := [(0, .ref (A 0)), (3, .int r6), (4, .int (0 : Int32))]) [3, 1, 0] rfl ?_
        obtain ⟨n0, hw⟩ := hw
        exact J51 n0 σ5 r6 (0 : Int32) hw
      · refine g_bipush (v := (-103 : Int32)) C dX11_caught_24 (by decide) ?_
        exact gq_I C F (by decide) (by decide) hw dX11_caught_26
    · refine g_bipush (v := (-102 : Int32)) C dX11_caught_11 (by decide) ?_
      exact gq_I C F (by decide) (by decide) hw dX11_caught_13
set_option maxHeartbeats 4000000 in
set_option maxRecDepth 100000 in
theorem c_X11_nextSeed (l : Launch) (D : va_G) (cy : Nat → ClassId) (A : Nat → Nat) {σ : St} {v0 : Int32} {Φ : Int32 → St → Prop} (hw : wX11_nextSeed σ v0 Φ) : CtI l yX11_nextSeed (.code yX11_nextSeed cX11_nextSeed 1 (some .int) :: gL) rm_X11_nextSeed 0 0 [.int v0] D cy A σ Φ := by
  refine ct_any (fun sz => va_Qi Φ (HE D cy A (gZ cy A σ sz)) (gZ cy A σ sz)) (by decide +kernel) rfl rfl [(0, .int v0)] rfl (Nat.le_of_ble_eq_true rfl) ?_
  intro κ hκl hnm C hK sz F
  subst hκl
  unfold wX11_nextSeed at hw
  refine g_ldc2 (v := (1103515245 : Int64)) C dX11_nextSeed_0 wt_276 ?_
  refine g_iload_n C 0 rfl rfl dX11_nextSeed_3 ?_
  refine g_i2l C dX11_nextSeed_4 ?_
  refine g_lmul C dX11_nextSeed_5 ?_
  refine g_ldc2 (v := (12345 : Int64)) C dX11_nextSeed_6 wt_277 ?_
  refine g_ladd C dX11_nextSeed_9 ?_
  refine g_ldc2 (v := (2147483648 : Int64)) C dX11_nextSeed_10 wt_278 ?_
  refine g_lrem C hw.1 dX11_nextSeed_13 ?_
  replace hw := hw.2
  refine g_l2i C dX11_nextSeed_14 ?_
  exact gq_I C F (by decide) (by decide) hw dX11_nextSeed_15
set_option maxHeartbeats 4000000 in
set_option maxRecDepth 100000 in
theorem c_X11_windingOf (l : Launch) (D : va_G) (cy : Nat → ClassId) (A : Nat → Nat) {σ : St} {v0 : Int32} {Φ : Int32 → St → Prop} (hw : wX11_windingOf σ v0 Φ) : CtI l yX11_windingOf (.code yX11_windingOf cX11_windingOf 1 (some .int) :: gL) rm_X11_windingOf 0 0 [.int v0] D cy A σ Φ := by
  refine ct_any (fun sz => va_Qi Φ (HE D cy A (gZ cy A σ sz)) (gZ cy A σ sz)) (by decide +kernel) rfl rfl [(0, .int v0)] rfl (Nat.le_of_ble_eq_true rfl) ?_
  intro κ hκl hnm C hK sz F
  subst hκl
  unfold wX11_windingOf at hw
  refine g_iload_n C 0 rfl rfl dX11_windingOf_0 ?_
  refine g_iconst (v := (3 : Int32)) C dX11_windingOf_1 (by decide) ?_
  refine g_icmp_gt C 9 (by decide) hw dX11_windingOf_2 (fun hw => ?_) (fun hw => ?_)
  · refine g_iconst (v := (3 : Int32)) C dX11_windingOf_9 (by decide) ?_
    refine g_iload_n C 0 rfl rfl dX11_windingOf_10 ?_
    refine g_isub C dX11_windingOf_11 ?_
    exact gq_I C F (by decide) (by decide) hw dX11_windingOf_12
  · refine g_iload_n C 0 rfl rfl dX11_windingOf_5 ?_
    refine g_goto C 12 (by decide) dX11_windingOf_6 ?_
    exact gq_I C F (by decide) (by decide) hw dX11_windingOf_12
set_option maxHeartbeats 4000000 in
set_option maxRecDepth 100000 in
theorem c_X11_tryHours (l : Launch) (D : va_G) (cy : Nat → ClassId) (A : Nat → Nat) {σ : St} {v1 : Int32} {v2 : Int32} {Φ : Int32 → St → Prop} (hw : wX11_tryHours σ v1 v2 Φ) : CtI l yX11_tryHours (.code yX11_tryHours cX11_tryHours 6 (some .int) :: gL) rm_X11_tryHours 0 0 [.ref (A 0), .int v1, .int v2] D cy A σ Φ := by
  refine ct_any (fun sz => va_Qi Φ (HE D cy A (gZ cy A σ sz)) (gZ cy A σ sz)) (by decide +kernel) rfl rfl [(0, .ref (A 0)), (1, .int v1), (2, .int v2)] rfl (Nat.le_of_ble_eq_true rfl) ?_
  intro κ hκl hnm C hK sz F
  subst hκl
  have J76 : ∀ (K16 : St → Int32 → Int32 → Int32 → Prop) (_ : ∀ (σ : St) (v1 : Int32) (v3 : Int32) (v4 : Int32), K16 σ v1 v3 v4 → GW κ 0 0 (gW cy A σ) 16 [(0, .ref (A 0)), (1, .int v1), (3, .int v3), (4, .int v4)] []), ∀ (σ : St) (v1 : Int32) (v3 : Int32) (v4 : Int32) (s0 : Int32), wX11_tryHours_76 K16 Φ σ v1 v3 v4 s0 → GW κ 0 0 (gW cy A σ) 76 [(0, .ref (A 0)), (1, .int v1), (3, .int v3), (4, .int v4)] [.int s0, .ref (A 16)] := by
    intro K16 hK16 σ v1 v3 v4 s0 hw
    unfold wX11_tryHours_76 at hw
    refine g_aload_n C 0 rfl rfl dX11_tryHours_76 ?_
    refine g_get C hK inX11 rfl 0 (ga_0 cy A _) 2 (by decide) (fun _ h => h) wt_87 rfl dX11_tryHours_77 ?_
    refine gc_V C (gr_V (As := [.int s0, .ref (A 4)]) (rest := []) C hK 2 (gd_V wt_230 wt_231 wt_232 wt_3 wt_233) rfl rfl rfl ⟨rfl, hs_X0_goHour⟩ ⟨⟨Nat.le_of_ble_eq_true rfl, Nat.le_of_ble_eq_true rfl⟩, Nat.le_of_ble_eq_true rfl, Nat.le_of_ble_eq_true rfl⟩ rfl 16 (ga_16 cy A _) rfl rfl (Nat.le_of_ble_eq_true rfl) dX11_tryHours_80 (c_X0_goHour (q_l κ) (q_D κ) cy A hC16 hw)) (fun σ8 hw => ?_)
    refine g_iinc (j := 3) C [(4, .int (v4 + 1)), (0, .ref (A 0)), (1, .int v1), (3, .int v3)] F.2.2.2.1 rfl rfl (by decide) rfl dX11_tryHours_83 ?_
    refine g_goto C 16 (by decide) dX11_tryHours_86 ?_
    refine g_eql (lv' := [(0, .ref (A 0)), (1, .int v1), (3, .int v3), (4, .int (v4 + 1))]) [1, 2, 3, 0] rfl ?_
    exact hK16 σ8 v1 v3 (v4 + 1) hw
  have J16 : ∀ (n : Nat) (σ : St) (v1 : Int32) (v3 : Int32) (v4 : Int32), wX11_tryHours_16 Φ n σ v1 v3 v4 → GW κ 0 0 (gW cy A σ) 16 [(0, .ref (A 0)), (1, .int v1), (3, .int v3), (4, .int v4)] [] := by
    intro n
    induction n with
    | zero => intro σ v1 v3 v4 hw; exact hw.elim
    | succ n ih =>
      intro σ v1 v3 v4 hw
      rw [wX11_tryHours_16] at hw
      refine g_iload C 3 rfl dX11_tryHours_16 ?_
      refine g_iload_n C 1 rfl rfl dX11_tryHours_18 ?_
      refine g_icmp_ge C 89 (by decide) hw dX11_tryHours_19 (fun hw => ?_) (fun hw => ?_)
      · refine g_iload_n C 2 rfl rfl dX11_tryHours_89 ?_
        exact gq_I C F (by decide) (by decide) hw dX11_tryHours_90
      · refine g_aload_n C 0 rfl rfl dX11_tryHours_22 ?_
        refine g_get C hK inX11 rfl 0 (ga_0 cy A _) 6 (by decide) (fun _ h => h) wt_91 rfl dX11_tryHours_23 ?_
        refine g_get C hK inX0 rfl 16 (ga_16 cy A _) 6 (by decide) (fun _ h => h) wt_50 rfl dX11_tryHours_26 ?_
        refine g_if_ne C 89 (by decide) hw dX11_tryHours_29 (fun hw => ?_) (fun hw => ?_)
        · refine g_iload_n C 2 rfl rfl dX11_tryHours_89 ?_
          exact gq_I C F (by decide) (by decide) hw dX11_tryHours_90
        · refine g_iload_n C 2 rfl rfl dX11_tryHours_32 ?_
          refine gc_I C (gr_S (As := [.int v3]) (rest := []) C hK 1 (gd_S wt_273 wt_274 wt_1 wt_275) rfl rfl rfl hs_X11_nextSeed ⟨⟨Nat.le_of_ble_eq_true rfl, Nat.le_of_ble_eq_true rfl⟩, Nat.le_of_ble_eq_true rfl, Nat.le_of_ble_eq_true rfl⟩ rfl rfl (Nat.le_of_ble_eq_true rfl) dX11_tryHours_33 (c_X11_nextSeed (q_l κ) (q_D κ) cy A hw)) (fun r3 σ2 hw => ?_)
          refine g_istore_n C [(3, .int r3), (0, .ref (A 0)), (1, .int v1), (4, .int v4)] F.2.2.2.1 rfl (by decide) rfl dX11_tryHours_36 ?_
          refine g_iload_n C 0 rfl rfl dX11_tryHours_37 ?_
          refine g_ldcw (v := (65536 : Int32)) C dX11_tryHours_38 wt_279 ?_
          refine g_idiv C hw.1 dX11_tryHours_41 ?_
          replace hw := hw.2
          refine g_bipush (v := (7 : Int32)) C dX11_tryHours_42 (by decide) ?_
          refine g_irem C hw.1 dX11_tryHours_44 ?_
          replace hw := hw.2
          refine gc_I C (gr_S (As := [.int ((r3 / (65536 : Int32)) - (r3 / (65536 : Int32)) / (7 : Int32) * (7 : Int32))]) (rest := []) C hK 1 (gd_S wt_280 wt_281 wt_1 wt_282) rfl rfl rfl hs_X11_windingOf ⟨⟨Nat.le_of_ble_eq_true rfl, Nat.le_of_ble_eq_true rfl⟩, Nat.le_of_ble_eq_true rfl, Nat.le_of_ble_eq_true rfl⟩ rfl rfl (Nat.le_of_ble_eq_true rfl) dX11_tryHours_45 (c_X11_windingOf (q_l κ) (q_D κ) cy A hw)) (fun r5 σ4 hw => ?_)
          refine g_istore C [(5, .int r5), (3, .int r3), (0, .ref (A 0)), (1, .int v1), (4, .int v4)] F.2.2.2.1 (by decide) rfl dX11_tryHours_48 ?_
          refine g_aload_n C 2 rfl rfl dX11_tryHours_50 ?_
          refine g_get C hK inX11 rfl 0 (ga_0 cy A _) 6 (by decide) (fun _ h => h) wt_91 rfl dX11_tryHours_51 ?_
          refine g_aload_n C 2 rfl rfl dX11_tryHours_54 ?_
          refine g_get C hK inX11 rfl 0 (ga_0 cy A _) 6 (by decide) (fun _ h => h) wt_91 rfl dX11_tryHours_55 ?_
          refine g_get C hK inX0 rfl 16 (ga_16 cy A _) 0 (by decide) (fun _ h => h) wt_38 rfl dX11_tryHours_58 ?_
          refine g_iload C 0 rfl dX11_tryHours_61 ?_
          refine g_isub C dX11_tryHours_63 ?_
          refine gc_I C (gr_S (As := [.int ((σ4.1 16 0) - r5)]) (rest := [.ref (A 16)]) C hK 1 (gd_S wt_227 wt_228 wt_1 wt_229) rfl rfl rfl hs_X11_isLength ⟨⟨Nat.le_of_ble_eq_true rfl, Nat.le_of_ble_eq_true rfl⟩, Nat.le_of_ble_eq_true rfl, Nat.le_of_ble_eq_true rfl⟩ rfl rfl (Nat.le_of_ble_eq_true rfl) dX11_tryHours_64 (c_X11_isLength (q_l κ) (q_D κ) cy A hw)) (fun r7 σ6 hw => ?_)
          refine g_if_eq C 75 (by decide) hw dX11_tryHours_67 (fun hw => ?_) (fun hw => ?_)
          · refine g_iconst (v := (0 : Int32)) C dX11_tryHours_75 (by decide) ?_
            refine g_eql (lv' := [(0, .ref (A 0)), (1, .int v1), (3, .int r3), (4, .int v4)]) [2, 3, 1, 4] rfl ?_
            exact J76 _ ih σ6 v1 r3 v4 (0 : Int32) hw
          · refine g_iload C 0 rfl dX11_tryHours_70 ?_
            refine g_goto C 76 (by decide) dX11_tryHours_72 ?_
            refine g_eql (lv' := [(0, .ref (A 0)), (1, .int v1), (3, .int r3), (4, .int v4)]) [2, 3, 1, 4] rfl ?_
            exact J76 _ ih σ6 v1 r3 v4 r5 hw
  unfold wX11_tryHours at hw
  refine g_aload_n C 0 rfl rfl dX11_tryHours_0 ?_
  refine g_get C hK inX11 rfl 0 (ga_0 cy A _) 6 (by decide) (fun _ h => h) wt_91 rfl dX11_tryHours_1 ?_
  refine g_aload_n C 0 rfl rfl dX11_tryHours_4 ?_
  refine g_get C hK inX11 rfl 0 (ga_0 cy A _) 1 (by decide) (fun _ h => h) wt_86 rfl dX11_tryHours_5 ?_
  refine gc_V C (gr_V (As := [.ref (A 3)]) (rest := []) C hK 1 (gd_V wt_269 wt_270 wt_271 wt_3 wt_272) rfl rfl rfl ⟨rfl, hs_X0_becomeLike⟩ ⟨⟨Nat.le_of_ble_eq_true rfl, Nat.le_of_ble_eq_true rfl⟩, Nat.le_of_ble_eq_true rfl, Nat.le_of_ble_eq_true rfl⟩ rfl 16 (ga_16 cy A _) rfl rfl (Nat.le_of_ble_eq_true rfl) dX11_tryHours_8 (c_X0_becomeLike (q_l κ) (q_D κ) cy A hC16 hC3 hw)) (fun σ1 hw => ?_)
  refine g_iload_n C 2 rfl rfl dX11_tryHours_11 ?_
  refine g_istore_n C [(3, .int v2), (0, .ref (A 0)), (1, .int v1), (2, .int v2)] F.2.2.2.1 rfl (by decide) rfl dX11_tryHours_12 ?_
  refine g_iconst (v := (0 : Int32)) C dX11_tryHours_13 (by decide) ?_
  refine g_istore C [(4, .int (0 : Int32)), (3, .int v2), (0, .ref (A 0)), (1, .int v1), (2, .int v2)] F.2.2.2.1 (by decide) rfl dX11_tryHours_14 ?_
  refine g_eql (lv' := [(0, .ref (A 0)), (1, .int v1), (3, .int v2), (4, .int (0 : Int32))]) [2, 3, 1, 0] rfl ?_
  obtain ⟨n0, hw⟩ := hw
  exact J16 n0 σ1 v1 v2 (0 : Int32) hw
end
section
set_option maxHeartbeats 4000000 in
set_option maxRecDepth 100000 in
theorem c_X11_whirls (l : Launch) (D : va_G) (cy : Nat → ClassId) (A : Nat → Nat) {σ : St} {v1 : Int32} {v2 : Int32} {v3 : Int32} {Φ : Int32 → St → Prop} (hw : wX11_whirls σ v1 v2 v3 Φ) : CtI l yX11_whirls (.code yX11_whirls cX11_whirls 5 (some .int) :: gL) rm_X11_whirls 0 0 [.ref (A 0), .int v1, .int v2, .int v3] D cy A σ Φ := by
  refine ct_any (fun sz => va_Qi Φ (HE D cy A (gZ cy A σ sz)) (gZ cy A σ sz)) (by decide +kernel) rfl rfl [(0, .ref (A 0)), (1, .int v1), (2, .int v2), (3, .int v3)] rfl (Nat.le_of_ble_eq_true rfl) ?_
  intro κ hκl hnm C hK sz F
  subst hκl
  unfold wX11_whirls at hw
  refine g_iload_n C 1 rfl rfl dX11_whirls_0 ?_
  refine g_iconst (v := (1 : Int32)) C dX11_whirls_1 (by decide) ?_
  refine g_icmp_lt C 24 (by decide) hw dX11_whirls_2 (fun hw => ?_) (fun hw => ?_)
  · refine g_bipush (v := (-102 : Int32)) C dX11_whirls_24 (by decide) ?_
    exact gq_I C F (by decide) (by decide) hw dX11_whirls_26
  · refine g_iload_n C 1 rfl rfl dX11_whirls_5 ?_
    refine g_bipush (v := (60 : Int32)) C dX11_whirls_6 (by decide) ?_
    refine g_icmp_gt C 24 (by decide) hw dX11_whirls_8 (fun hw => ?_) (fun hw => ?_)
    · refine g_bipush (v := (-102 : Int32)) C dX11_whirls_24 (by decide) ?_
      exact gq_I C F (by decide) (by decide) hw dX11_whirls_26
    · refine g_iload_n C 2 rfl rfl dX11_whirls_11 ?_
      refine g_if_lt C 24 (by decide) hw dX11_whirls_12 (fun hw => ?_) (fun hw => ?_)
      · refine g_bipush (v := (-102 : Int32)) C dX11_whirls_24 (by decide) ?_
        exact gq_I C F (by decide) (by decide) hw dX11_whirls_26
      · refine g_iload_n C 3 rfl rfl dX11_whirls_15 ?_
        refine g_if_lt C 24 (by decide) hw dX11_whirls_16 (fun hw => ?_) (fun hw => ?_)
        · refine g_bipush (v := (-102 : Int32)) C dX11_whirls_24 (by decide) ?_
          exact gq_I C F (by decide) (by decide) hw dX11_whirls_26
        · refine g_iload_n C 3 rfl rfl dX11_whirls_19 ?_
          refine g_iconst (v := (3 : Int32)) C dX11_whirls_20 (by decide) ?_
          refine g_icmp_le C 27 (by decide) hw dX11_whirls_21 (fun hw => ?_) (fun hw => ?_)
          · refine g_aload_n C 0 rfl rfl dX11_whirls_27 ?_
            refine g_get C hK inX11 rfl 0 (ga_0 cy A _) 1 (by decide) (fun _ h => h) wt_86 rfl dX11_whirls_28 ?_
            refine gc_I C (gr_V (As := []) (rest := []) C hK 0 (gd_V wt_204 wt_205 wt_206 wt_3 wt_207) rfl rfl rfl ⟨rfl, hs_X0_isWhole⟩ ⟨⟨Nat.le_of_ble_eq_true rfl, Nat.le_of_ble_eq_true rfl⟩, Nat.le_of_ble_eq_true rfl, Nat.le_of_ble_eq_true rfl⟩ rfl 3 (ga_3 cy A _) rfl rfl (Nat.le_of_ble_eq_true rfl) dX11_whirls_31 (c_X0_isWhole (q_l κ) (q_D κ) cy A hC3 hw)) (fun r2 σ1 hw => ?_)
            refine g_if_ne C 40 (by decide) hw dX11_whirls_34 (fun hw => ?_) (fun hw => ?_)
            · refine g_aload_n C 0 rfl rfl dX11_whirls_40 ?_
              refine g_iload_n C 1 rfl rfl dX11_whirls_41 ?_
              refine g_iload_n C 2 rfl rfl dX11_whirls_42 ?_
              refine gc_I C (gr_V (As := [.int v1, .int v2]) (rest := []) C hK 2 (gd_V wt_266 wt_267 wt_455 wt_1 wt_268) rfl rfl rfl ⟨rfl, hs_X11_tryHours⟩ ⟨⟨Nat.le_of_ble_eq_true rfl, Nat.le_of_ble_eq_true rfl⟩, Nat.le_of_ble_eq_true rfl, Nat.le_of_ble_eq_true rfl⟩ rfl 0 (ga_0 cy A _) rfl rfl (Nat.le_of_ble_eq_true rfl) dX11_whirls_43 (c_X11_tryHours (q_l κ) (q_D κ) cy A hw)) (fun r4 σ3 hw => ?_)
              refine g_istore C [(4, .int r4), (0, .ref (A 0)), (1, .int v1), (2, .int v2), (3, .int v3)] F.2.2.2.1 (by decide) rfl dX11_whirls_46 ?_
              refine g_iload_n C 4 rfl rfl dX11_whirls_48 ?_
              by_cases h9 : v3.toInt < 0 ∨ 2 < v3.toInt
              · refine g_swOut C 108 h9 (by decide) dX11_whirls_49 ?_
                replace hw := hw.2.2.2 h9
                refine g_iload C 0 rfl dX11_whirls_108 ?_
                exact gq_I C F (by decide) (by decide) hw dX11_whirls_110
              · rcases (show v3.toInt = 0 ∨ v3.toInt = 1 ∨ v3.toInt = 2 by omega) with e9 | e9 | e9
                · refine g_swIn (off := 27) C 0 76 e9 (by decide) (by decide) (by decide) (by decide) dX11_whirls_49 ?_
                  replace hw := hw.1 (Int32.toInt_inj.mp (e9.trans (by decide)))
                  refine g_aload_n C 1 rfl rfl dX11_whirls_76 ?_
                  refine g_get C hK inX11 rfl 0 (ga_0 cy A _) 6 (by decide) (fun _ h => h) wt_91 rfl dX11_whirls_77 ?_
                  refine g_get C hK inX0 rfl 16 (ga_16 cy A _) 0 (by decide) (fun _ h => h) wt_38 rfl dX11_whirls_80 ?_
                  exact gq_I C F (by decide) (by decide) hw dX11_whirls_83
                · refine g_swIn (off := 35) C 1 84 e9 (by decide) (by decide) (by decide) (by decide) dX11_whirls_49 ?_
                  replace hw := hw.2.1 (Int32.toInt_inj.mp (e9.trans (by decide)))
                  refine g_aload_n C 1 rfl rfl dX11_whirls_84 ?_
                  refine g_get C hK inX11 rfl 0 (ga_0 cy A _) 6 (by decide) (fun _ h => h) wt_91 rfl dX11_whirls_85 ?_
                  refine g_get C hK inX0 rfl 16 (ga_16 cy A _) 3 (by decide) (fun _ h => h) wt_44 rfl dX11_whirls_88 ?_
                  exact gq_I C F (by decide) (by decide) hw dX11_whirls_91
                · refine g_swIn (off := 43) C 2 92 e9 (by decide) (by decide) (by decide) (by decide) dX11_whirls_49 ?_
                  replace hw := hw.2.2.1 (Int32.toInt_inj.mp (e9.trans (by decide)))
                  refine g_aload_n C 1 rfl rfl dX11_whirls_92 ?_
                  refine g_get C hK inX11 rfl 0 (ga_0 cy A _) 6 (by decide) (fun _ h => h) wt_91 rfl dX11_whirls_93 ?_
                  refine g_get C hK inX0 rfl 16 (ga_16 cy A _) 4 (by decide) (fun _ h => h) wt_46 rfl dX11_whirls_96 ?_
                  refine g_aload_n C 1 rfl rfl dX11_whirls_99 ?_
                  refine g_get C hK inX11 rfl 0 (ga_0 cy A _) 1 (by decide) (fun _ h => h) wt_86 rfl dX11_whirls_100 ?_
                  refine g_get C hK inX0 rfl 3 (ga_3 cy A _) 4 (by decide) (fun _ h => h) wt_46 rfl dX11_whirls_103 ?_
                  refine g_isub C dX11_whirls_106 ?_
                  exact gq_I C F (by decide) (by decide) hw dX11_whirls_107
            · refine g_bipush (v := (-103 : Int32)) C dX11_whirls_37 (by decide) ?_
              exact gq_I C F (by decide) (by decide) hw dX11_whirls_39
          · refine g_bipush (v := (-102 : Int32)) C dX11_whirls_24 (by decide) ?_
            exact gq_I C F (by decide) (by decide) hw dX11_whirls_26
set_option maxHeartbeats 4000000 in
set_option maxRecDepth 100000 in
theorem c_X11_count (l : Launch) (D : va_G) (cy : Nat → ClassId) (A : Nat → Nat) {σ : St} {v1 : Int32} {Φ : Int32 → St → Prop} (hw : wX11_count σ v1 Φ) : CtI l yX11_count (.code yX11_count cX11_count 2 (some .int) :: gL) rm_X11_count 0 0 [.ref (A 0), .int v1] D cy A σ Φ := by
  refine ct_any (fun sz => va_Qi Φ (HE D cy A (gZ cy A σ sz)) (gZ cy A σ sz)) (by decide +kernel) rfl rfl [(0, .ref (A 0)), (1, .int v1)] rfl (Nat.le_of_ble_eq_true rfl) ?_
  intro κ hκl hnm C hK sz F
  subst hκl
  unfold wX11_count at hw
  refine g_iload_n C 1 rfl rfl dX11_count_0 ?_
  by_cases h9 : v1.toInt < 0 ∨ 12 < v1.toInt
  · refine g_swOut C 189 h9 (by decide) dX11_count_1 ?_
    replace hw := hw.2.2.2.2.2.2.2.2.2.2.2.2.2 h9
    refine g_bipush (v := (-102 : Int32)) C dX11_count_189 (by decide) ?_
    exact gq_I C F (by decide) (by decide) hw dX11_count_191
  · rcases (show v1.toInt = 0 ∨ v1.toInt = 1 ∨ v1.toInt = 2 ∨ v1.toInt = 3 ∨ v1.toInt = 4 ∨ v1.toInt = 5 ∨ v1.toInt = 6 ∨ v1.toInt = 7 ∨ v1.toInt = 8 ∨ v1.toInt = 9 ∨ v1.toInt = 10 ∨ v1.toInt = 11 ∨ v1.toInt = 12 by omega) with e9 | e9 | e9 | e9 | e9 | e9 | e9 | e9 | e9 | e9 | e9 | e9 | e9
    · refine g_swIn (off := 67) C 0 68 e9 (by decide) (by decide) (by decide) (by decide) dX11_count_1 ?_
      replace hw := hw.1 (Int32.toInt_inj.mp (e9.trans (by decide)))
      refine g_aload_n C 0 rfl rfl dX11_count_68 ?_
      refine g_get C hK inX11 rfl 0 (ga_0 cy A _) 1 (by decide) (fun _ h => h) wt_86 rfl dX11_count_69 ?_
      refine g_get C hK inX0 rfl 3 (ga_3 cy A _) 0 (by decide) (fun _ h => h) wt_38 rfl dX11_count_72 ?_
      exact gq_I C F (by decide) (by decide) hw dX11_count_75
    · refine g_swIn (off := 75) C 1 76 e9 (by decide) (by decide) (by decide) (by decide) dX11_count_1 ?_
      replace hw := hw.2.1 (Int32.toInt_inj.mp (e9.trans (by decide)))
      refine g_aload_n C 0 rfl rfl dX11_count_76 ?_
      refine g_get C hK inX11 rfl 0 (ga_0 cy A _) 1 (by decide) (fun _ h => h) wt_86 rfl dX11_count_77 ?_
      refine gc_I C (gr_V (As := []) (rest := []) C hK 0 (gd_V wt_208 wt_209 wt_210 wt_3 wt_211) rfl rfl rfl ⟨rfl, hs_X0_turnsNow⟩ ⟨⟨Nat.le_of_ble_eq_true rfl, Nat.le_of_ble_eq_true rfl⟩, Nat.le_of_ble_eq_true rfl, Nat.le_of_ble_eq_true rfl⟩ rfl 3 (ga_3 cy A _) rfl rfl (Nat.le_of_ble_eq_true rfl) dX11_count_80 (c_X0_turnsNow (q_l κ) (q_D κ) cy A hC3 hw)) (fun r2 σ1 hw => ?_)
      exact gq_I C F (by decide) (by decide) hw dX11_count_83
    · refine g_swIn (off := 83) C 2 84 e9 (by decide) (by decide) (by decide) (by decide) dX11_count_1 ?_
      replace hw := hw.2.2.1 (Int32.toInt_inj.mp (e9.trans (by decide)))
      refine g_aload_n C 0 rfl rfl dX11_count_84 ?_
      refine g_get C hK inX11 rfl 0 (ga_0 cy A _) 1 (by decide) (fun _ h => h) wt_86 rfl dX11_count_85 ?_
      refine g_get C hK inX0 rfl 3 (ga_3 cy A _) 1 (by decide) (fun _ h => h) wt_40 rfl dX11_count_88 ?_
      exact gq_I C F (by decide) (by decide) hw dX11_count_91
    · refine g_swIn (off := 91) C 3 92 e9 (by decide) (by decide) (by decide) (by decide) dX11_count_1 ?_
      replace hw := hw.2.2.2.1 (Int32.toInt_inj.mp (e9.trans (by decide)))
      refine g_aload_n C 0 rfl rfl dX11_count_92 ?_
      refine g_get C hK inX11 rfl 0 (ga_0 cy A _) 1 (by decide) (fun _ h => h) wt_86 rfl dX11_count_93 ?_
      refine g_aload_n C 0 rfl rfl dX11_count_96 ?_
      refine g_get C hK inX11 rfl 0 (ga_0 cy A _) 2 (by decide) (fun _ h => h) wt_87 rfl dX11_count_97 ?_
      refine gc_I C (gr_V (As := [.ref (A 4)]) (rest := []) C hK 1 (gd_V wt_448 wt_243 wt_244 wt_3 wt_245) rfl rfl rfl ⟨rfl, hs_X0_strainNow⟩ ⟨⟨Nat.le_of_ble_eq_true rfl, Nat.le_of_ble_eq_true rfl⟩, Nat.le_of_ble_eq_true rfl, Nat.le_of_ble_eq_true rfl⟩ rfl 3 (ga_3 cy A _) rfl rfl (Nat.le_of_ble_eq_true rfl) dX11_count_100 (c_X0_strainNow (q_l κ) (q_D κ) cy A hC3 hw)) (fun r4 σ3 hw => ?_)
      exact gq_I C F (by decide) (by decide) hw dX11_count_103
    · refine g_swIn (off := 103) C 4 104 e9 (by decide) (by decide) (by decide) (by decide) dX11_count_1 ?_
      replace hw := hw.2.2.2.2.1 (Int32.toInt_inj.mp (e9.trans (by decide)))
      refine g_aload_n C 0 rfl rfl dX11_count_104 ?_
      refine g_get C hK inX11 rfl 0 (ga_0 cy A _) 1 (by decide) (fun _ h => h) wt_86 rfl dX11_count_105 ?_
      refine g_get C hK inX0 rfl 3 (ga_3 cy A _) 2 (by decide) (fun _ h => h) wt_42 rfl dX11_count_108 ?_
      exact gq_I C F (by decide) (by decide) hw dX11_count_111
    · refine g_swIn (off := 111) C 5 112 e9 (by decide) (by decide) (by decide) (by decide) dX11_count_1 ?_
      replace hw := hw.2.2.2.2.2.1 (Int32.toInt_inj.mp (e9.trans (by decide)))
      refine g_aload_n C 0 rfl rfl dX11_count_112 ?_
      refine g_get C hK inX11 rfl 0 (ga_0 cy A _) 1 (by decide) (fun _ h => h) wt_86 rfl dX11_count_113 ?_
      refine g_get C hK inX0 rfl 3 (ga_3 cy A _) 5 (by decide) (fun _ h => h) wt_48 rfl dX11_count_116 ?_
      refine g_if_eq C 126 (by decide) hw dX11_count_119 (fun hw => ?_) (fun hw => ?_)
      · refine g_iconst (v := (0 : Int32)) C dX11_count_126 (by decide) ?_
        exact gq_I C F (by decide) (by decide) hw dX11_count_127
      · refine g_iconst (v := (1 : Int32)) C dX11_count_122 (by decide) ?_
        refine g_goto C 127 (by decide) dX11_count_123 ?_
        exact gq_I C F (by decide) (by decide) hw dX11_count_127
    · refine g_swIn (off := 127) C 6 128 e9 (by decide) (by decide) (by decide) (by decide) dX11_count_1 ?_
      replace hw := hw.2.2.2.2.2.2.1 (Int32.toInt_inj.mp (e9.trans (by decide)))
      refine g_aload_n C 0 rfl rfl dX11_count_128 ?_
      refine g_get C hK inX11 rfl 0 (ga_0 cy A _) 1 (by decide) (fun _ h => h) wt_86 rfl dX11_count_129 ?_
      refine g_get C hK inX0 rfl 3 (ga_3 cy A _) 3 (by decide) (fun _ h => h) wt_44 rfl dX11_count_132 ?_
      exact gq_I C F (by decide) (by decide) hw dX11_count_135
    · refine g_swIn (off := 135) C 7 136 e9 (by decide) (by decide) (by decide) (by decide) dX11_count_1 ?_
      replace hw := hw.2.2.2.2.2.2.2.1 (Int32.toInt_inj.mp (e9.trans (by decide)))
      refine g_aload_n C 0 rfl rfl dX11_count_136 ?_
      refine g_get C hK inX11 rfl 0 (ga_0 cy A _) 1 (by decide) (fun _ h => h) wt_86 rfl dX11_count_137 ?_
      refine g_get C hK inX0 rfl 3 (ga_3 cy A _) 4 (by decide) (fun _ h => h) wt_46 rfl dX11_count_140 ?_
      exact gq_I C F (by decide) (by decide) hw dX11_count_143
    · refine g_swIn (off := 143) C 8 144 e9 (by decide) (by decide) (by decide) (by decide) dX11_count_1 ?_
      replace hw := hw.2.2.2.2.2.2.2.2.1 (Int32.toInt_inj.mp (e9.trans (by decide)))
      refine g_aload_n C 0 rfl rfl dX11_count_144 ?_
      refine g_get C hK inX11 rfl 0 (ga_0 cy A _) 1 (by decide) (fun _ h => h) wt_86 rfl dX11_count_145 ?_
      refine g_get C hK inX0 rfl 3 (ga_3 cy A _) 6 (by decide) (fun _ h => h) wt_50 rfl dX11_count_148 ?_
      refine g_if_eq C 158 (by decide) hw dX11_count_151 (fun hw => ?_) (fun hw => ?_)
      · refine g_iconst (v := (0 : Int32)) C dX11_count_158 (by decide) ?_
        exact gq_I C F (by decide) (by decide) hw dX11_count_159
      · refine g_iconst (v := (1 : Int32)) C dX11_count_154 (by decide) ?_
        refine g_goto C 159 (by decide) dX11_count_155 ?_
        exact gq_I C F (by decide) (by decide) hw dX11_count_159
    · refine g_swIn (off := 159) C 9 160 e9 (by decide) (by decide) (by decide) (by decide) dX11_count_1 ?_
      replace hw := hw.2.2.2.2.2.2.2.2.2.1 (Int32.toInt_inj.mp (e9.trans (by decide)))
      refine g_aload_n C 0 rfl rfl dX11_count_160 ?_
      refine g_get C hK inX11 rfl 0 (ga_0 cy A _) 2 (by decide) (fun _ h => h) wt_87 rfl dX11_count_161 ?_
      refine g_get C hK inX6 rfl 4 (ga_4 cy A _) 2 (by decide) (fun _ h => h) wt_60 rfl dX11_count_164 ?_
      exact gq_I C F (by decide) (by decide) hw dX11_count_167
    · refine g_swIn (off := 167) C 10 168 e9 (by decide) (by decide) (by decide) (by decide) dX11_count_1 ?_
      replace hw := hw.2.2.2.2.2.2.2.2.2.2.1 (Int32.toInt_inj.mp (e9.trans (by decide)))
      refine g_aload_n C 0 rfl rfl dX11_count_168 ?_
      refine g_get C hK inX11 rfl 0 (ga_0 cy A _) 0 (by decide) (fun _ h => h) wt_85 rfl dX11_count_169 ?_
      refine g_get C hK inX7 rfl 1 (ga_1 cy A _) 1 (by decide) (fun _ h => h) wt_29 rfl dX11_count_172 ?_
      exact gq_I C F (by decide) (by decide) hw dX11_count_175
    · refine g_swIn (off := 175) C 11 176 e9 (by decide) (by decide) (by decide) (by decide) dX11_count_1 ?_
      replace hw := hw.2.2.2.2.2.2.2.2.2.2.2.1 (Int32.toInt_inj.mp (e9.trans (by decide)))
      refine g_aload_n C 0 rfl rfl dX11_count_176 ?_
      refine g_get C hK inX11 rfl 0 (ga_0 cy A _) 9 (by decide) (fun _ h => h) wt_94 rfl dX11_count_177 ?_
      exact gq_I C F (by decide) (by decide) hw dX11_count_180
    · refine g_swIn (off := 180) C 12 181 e9 (by decide) (by decide) (by decide) (by decide) dX11_count_1 ?_
      replace hw := hw.2.2.2.2.2.2.2.2.2.2.2.2.1 (Int32.toInt_inj.mp (e9.trans (by decide)))
      refine g_aload_n C 0 rfl rfl dX11_count_181 ?_
      refine g_get C hK inX11 rfl 0 (ga_0 cy A _) 3 (by decide) (fun _ h => h) wt_88 rfl dX11_count_182 ?_
      refine g_get C hK inX10 rfl 7 (ga_7 cy A _) 2 (by decide) (fun _ h => h) wt_70 rfl dX11_count_185 ?_
      exact gq_I C F (by decide) (by decide) hw dX11_count_188
set_option maxHeartbeats 4000000 in
set_option maxRecDepth 100000 in
theorem c_L_put (l : Launch) (D : va_G) (cy : Nat → ClassId) (A : Nat → Nat) {σ : St} {v1 : Int32} {Φ : Int32 → St → Prop} (hw : wL_put σ v1 Φ) : CtI l yL_put (.code yL_put cL_put 2 (some .boolean) :: gL) rm_L_put 0 0 [.ref (A 0), .int v1] D cy A σ Φ := by
  refine ct_any (fun sz => va_Qi Φ (HE D cy A (gZ cy A σ sz)) (gZ cy A σ sz)) (by decide +kernel) rfl rfl [(0, .ref (A 0)), (1, .int v1)] rfl (Nat.le_of_ble_eq_true rfl) ?_
  intro κ hκl hnm C hK sz F
  subst hκl
  unfold wL_put at hw
  refine g_aload_n C 0 rfl rfl dL_put_0 ?_
  refine g_iload_n C 1 rfl rfl dL_put_1 ?_
  refine g_i2l C dL_put_2 ?_
  refine gc_I C (gr_V (As := [.long v1.toInt64]) (rest := []) C hK 1 (gd_V wt_294 wt_295 wt_296 wt_1 wt_297) rfl rfl rfl ⟨rfl, hs_X11_letters⟩ ⟨⟨Nat.le_of_ble_eq_true rfl, Nat.le_of_ble_eq_true rfl⟩, Nat.le_of_ble_eq_true rfl, Nat.le_of_ble_eq_true rfl⟩ rfl 0 (ga_0 cy A _) rfl rfl (Nat.le_of_ble_eq_true rfl) dL_put_3 (c_X11_letters (q_l κ) (q_D κ) cy A hw)) (fun r2 σ1 hw => ?_)
  refine g_if_le C 13 (by decide) hw dL_put_6 (fun hw => ?_) (fun hw => ?_)
  · refine g_iconst (v := (0 : Int32)) C dL_put_13 (by decide) ?_
    exact gq_Z C F (by decide) (by decide) hw dL_put_14
  · refine g_iconst (v := (1 : Int32)) C dL_put_9 (by decide) ?_
    refine g_goto C 14 (by decide) dL_put_10 ?_
    exact gq_Z C F (by decide) (by decide) hw dL_put_14
set_option maxHeartbeats 4000000 in
set_option maxRecDepth 100000 in
theorem c_L_wire (l : Launch) (D : va_G) (cy : Nat → ClassId) (A : Nat → Nat) {σ : St} {v1 : Int32} {q : Nat} (hq : isQ q) {Φ : Int32 → St → Prop} (hw : wL_wire σ v1 q Φ) : CtI l yL_wire (.code yL_wire cL_wire 7 (some .boolean) :: gL) rm_L_wire 0 0 [.ref (A 0), .int v1, .ref (A q)] D cy A σ Φ := by
  refine ct_any (fun sz => va_Qi Φ (HE D cy A (gZ cy A σ sz)) (gZ cy A σ sz)) (by decide +kernel) rfl rfl [(0, .ref (A 0)), (1, .int v1), (2, .ref (A q))] rfl (Nat.le_of_ble_eq_true rfl) ?_
  intro κ hκl hnm C hK sz F
  subst hκl
  have J213 : ∀ (σ : St) (s0 : Int32), wL_wire_213 q Φ σ s0 → GW κ 0 0 (gW cy A σ) 213 [(0, .ref (A 0)), (2, .ref (A q))] [.int s0] := by
    intro σ s0 hw
    unfold wL_wire_213 at hw
    refine g_istore C [(6, .int s0), (0, .ref (A 0)), (2, .ref (A q))] F.2.2.2.1 (by decide) rfl dL_wire_213 ?_
    refine g_iload C 0 rfl dL_wire_215 ?_
    refine g_if_eq C 247 (by decide) hw dL_wire_217 (fun hw => ?_) (fun hw => ?_)
    · refine g_iconst (v := (0 : Int32)) C dL_wire_247 (by decide) ?_
      exact gq_Z C F (by decide) (by decide) hw dL_wire_248
    · refine g_aload_n C 1 rfl rfl dL_wire_220 ?_
      refine gc_I C (gr_V (As := []) (rest := []) C hK 0 (gd_V wt_312 wt_313 wt_314 wt_1 wt_315) rfl rfl rfl ⟨rfl, hs_X11_fault⟩ ⟨⟨Nat.le_of_ble_eq_true rfl, Nat.le_of_ble_eq_true rfl⟩, Nat.le_of_ble_eq_true rfl, Nat.le_of_ble_eq_true rfl⟩ rfl 0 (ga_0 cy A _) rfl rfl (Nat.le_of_ble_eq_true rfl) dL_wire_221 (c_X11_fault (q_l κ) (q_D κ) cy A hw)) (fun r20 σ19 hw => ?_)
      refine g_bipush (v := (8 : Int32)) C dL_wire_224 (by decide) ?_
      refine g_aload_n C 2 rfl rfl dL_wire_226 ?_
      refine g_iconst (v := (3 : Int32)) C dL_wire_227 (by decide) ?_
      refine g_iald C hK q 2 (ga_q cy A _ hq) rfl hw.1 dL_wire_228 ?_
      replace hw := hw.2
      refine g_iadd C dL_wire_229 ?_
      refine g_icmp_ne C 247 (by decide) hw dL_wire_230 (fun hw => ?_) (fun hw => ?_)
      · refine g_iconst (v := (0 : Int32)) C dL_wire_247 (by decide) ?_
        exact gq_Z C F (by decide) (by decide) hw dL_wire_248
      · refine g_aload_n C 1 rfl rfl dL_wire_233 ?_
        refine gc_I C (gr_V (As := []) (rest := []) C hK 0 (gd_V wt_330 wt_331 wt_332 wt_1 wt_333) rfl rfl rfl ⟨rfl, hs_X11_wire⟩ ⟨⟨Nat.le_of_ble_eq_true rfl, Nat.le_of_ble_eq_true rfl⟩, Nat.le_of_ble_eq_true rfl, Nat.le_of_ble_eq_true rfl⟩ rfl 0 (ga_0 cy A _) rfl rfl (Nat.le_of_ble_eq_true rfl) dL_wire_234 (c_X11_wire (q_l κ) (q_D κ) cy A hw)) (fun r22 σ21 hw => ?_)
        refine g_aload_n C 2 rfl rfl dL_wire_237 ?_
        refine g_iconst (v := (1 : Int32)) C dL_wire_238 (by decide) ?_
        refine g_iald C hK q 2 (ga_q cy A _ hq) rfl hw.1 dL_wire_239 ?_
        replace hw := hw.2
        refine g_icmp_ne C 247 (by decide) hw dL_wire_240 (fun hw => ?_) (fun hw => ?_)
        · refine g_iconst (v := (0 : Int32)) C dL_wire_247 (by decide) ?_
          exact gq_Z C F (by decide) (by decide) hw dL_wire_248
        · refine g_iconst (v := (1 : Int32)) C dL_wire_243 (by decide) ?_
          refine g_goto C 248 (by decide) dL_wire_244 ?_
          exact gq_Z C F (by decide) (by decide) hw dL_wire_248
  have J212 : ∀ (σ : St), wL_wire_212 q Φ σ → GW κ 0 0 (gW cy A σ) 212 [(0, .ref (A 0)), (2, .ref (A q))] [] := by
    intro σ hw
    unfold wL_wire_212 at hw
    refine g_iconst (v := (0 : Int32)) C dL_wire_212 (by decide) ?_
    exact J213 σ (0 : Int32) hw
  have J208 : ∀ (σ : St), wL_wire_208 q Φ σ → GW κ 0 0 (gW cy A σ) 208 [(0, .ref (A 0)), (2, .ref (A q))] [] := by
    intro σ hw
    unfold wL_wire_208 at hw
    refine g_iconst (v := (1 : Int32)) C dL_wire_208 (by decide) ?_
    refine g_goto C 213 (by decide) dL_wire_209 ?_
    exact J213 σ (1 : Int32) hw
  have J42 : ∀ (n : Nat) (σ : St) (v1 : Int32) (v3 : Int32) (v4 : Int32) (v5 : Int32) (v6 : Int32), wL_wire_42 q Φ n σ v1 v3 v4 v5 v6 → GW κ 0 0 (gW cy A σ) 42 [(0, .ref (A 0)), (1, .int v1), (2, .ref (A q)), (3, .int v3), (4, .int v4), (5, .int v5), (6, .int v6)] [] := by
    intro n
    induction n with
    | zero => intro σ v1 v3 v4 v5 v6 hw; exact hw.elim
    | succ n ih =>
      intro σ v1 v3 v4 v5 v6 hw
      rw [wL_wire_42] at hw
      refine g_iload C 6 rfl dL_wire_42 ?_
      refine g_bipush (v := (32 : Int32)) C dL_wire_44 (by decide) ?_
      refine g_icmp_ge C 60 (by decide) hw dL_wire_46 (fun hw => ?_) (fun hw => ?_)
      · refine g_aload_n C 2 rfl rfl dL_wire_60 ?_
        refine g_iconst (v := (0 : Int32)) C dL_wire_61 (by decide) ?_
        refine g_iload_n C 3 rfl rfl dL_wire_62 ?_
        refine g_iast C hK q 2 (ga_q cy A _ hq) rfl hw.1 (gs_q cy A _ _ _ hq) dL_wire_63 ?_
        replace hw := hw.2
        refine g_aload_n C 2 rfl rfl dL_wire_64 ?_
        refine g_iconst (v := (1 : Int32)) C dL_wire_65 (by decide) ?_
        refine g_iload_n C 3 rfl rfl dL_wire_66 ?_
        refine g_iload_n C 3 rfl rfl dL_wire_67 ?_
        refine g_imul C dL_wire_68 ?_
        refine g_iload C 4 rfl dL_wire_69 ?_
        refine g_imul C dL_wire_71 ?_
        refine g_iast C hK q 2 (ga_q cy A _ hq) rfl hw.1 (gs_q cy A _ _ _ hq) dL_wire_72 ?_
        replace hw := hw.2
        refine g_aload_n C 2 rfl rfl dL_wire_73 ?_
        refine g_iconst (v := (2 : Int32)) C dL_wire_74 (by decide) ?_
        refine g_iload C 5 rfl dL_wire_75 ?_
        refine g_iast C hK q 2 (ga_q cy A _ hq) rfl hw.1 (gs_q cy A _ _ _ hq) dL_wire_77 ?_
        replace hw := hw.2
        refine g_aload_n C 2 rfl rfl dL_wire_78 ?_
        refine g_iconst (v := (3 : Int32)) C dL_wire_79 (by decide) ?_
        refine g_iload_n C 1 rfl rfl dL_wire_80 ?_
        refine g_ldc (v := (524288 : Int32)) C dL_wire_81 wt_290 ?_
        refine g_idiv C hw.1 dL_wire_83 ?_
        replace hw := hw.2
        refine g_iconst (v := (2 : Int32)) C dL_wire_84 (by decide) ?_
        refine g_irem C hw.1 dL_wire_85 ?_
        replace hw := hw.2
        refine g_iast C hK q 2 (ga_q cy A _ hq) rfl hw.1 (gs_q cy A _ _ _ hq) dL_wire_86 ?_
        replace hw := hw.2
        refine g_aload_n C 0 rfl rfl dL_wire_87 ?_
        refine g_bipush (v := (48 : Int32)) C dL_wire_88 (by decide) ?_
        refine g_iload_n C 3 rfl rfl dL_wire_90 ?_
        refine g_bipush (v := (10 : Int32)) C dL_wire_91 (by decide) ?_
        refine g_idiv C hw.1 dL_wire_93 ?_
        replace hw := hw.2
        refine g_iadd C dL_wire_94 ?_
        refine gc_I C (gr_S (As := [.ref (A 0), .int ((48 : Int32) + (v3 / (10 : Int32)))]) (rest := []) C hK 2 (gd_S wt_291 wt_292 wt_0 wt_293) rfl rfl rfl hs_L_put ⟨⟨Nat.le_of_ble_eq_true rfl, Nat.le_of_ble_eq_true rfl⟩, Nat.le_of_ble_eq_true rfl, Nat.le_of_ble_eq_true rfl⟩ rfl rfl (Nat.le_of_ble_eq_true rfl) dL_wire_95 (c_L_put (q_l κ) (q_D κ) cy A hw)) (fun r2 σ1 hw => ?_)
        refine g_if_eq C 212 (by decide) hw dL_wire_98 (fun hw => ?_) (fun hw => ?_)
        · refine g_eql (lv' := [(0, .ref (A 0)), (2, .ref (A q))]) [0, 2] rfl ?_
          exact J212 σ1 hw
        · refine g_aload_n C 0 rfl rfl dL_wire_101 ?_
          refine g_bipush (v := (48 : Int32)) C dL_wire_102 (by decide) ?_
          refine g_iload_n C 3 rfl rfl dL_wire_104 ?_
          refine g_bipush (v := (10 : Int32)) C dL_wire_105 (by decide) ?_
          refine g_irem C hw.1 dL_wire_107 ?_
          replace hw := hw.2
          refine g_iadd C dL_wire_108 ?_
          refine gc_I C (gr_S (As := [.ref (A 0), .int ((48 : Int32) + (v3 - v3 / (10 : Int32) * (10 : Int32)))]) (rest := []) C hK 2 (gd_S wt_291 wt_292 wt_0 wt_293) rfl rfl rfl hs_L_put ⟨⟨Nat.le_of_ble_eq_true rfl, Nat.le_of_ble_eq_true rfl⟩, Nat.le_of_ble_eq_true rfl, Nat.le_of_ble_eq_true rfl⟩ rfl rfl (Nat.le_of_ble_eq_true rfl) dL_wire_109 (c_L_put (q_l κ) (q_D κ) cy A hw)) (fun r4 σ3 hw => ?_)
          refine g_if_eq C 212 (by decide) hw dL_wire_112 (fun hw => ?_) (fun hw => ?_)
          · refine g_eql (lv' := [(0, .ref (A 0)), (2, .ref (A q))]) [0, 2] rfl ?_
            exact J212 σ3 hw
          · refine g_aload_n C 0 rfl rfl dL_wire_115 ?_
            refine g_bipush (v := (58 : Int32)) C dL_wire_116 (by decide) ?_
            refine gc_I C (gr_S (As := [.ref (A 0), .int (58 : Int32)]) (rest := []) C hK 2 (gd_S wt_291 wt_292 wt_0 wt_293) rfl rfl rfl hs_L_put ⟨⟨Nat.le_of_ble_eq_true rfl, Nat.le_of_ble_eq_true rfl⟩, Nat.le_of_ble_eq_true rfl, Nat.le_of_ble_eq_true rfl⟩ rfl rfl (Nat.le_of_ble_eq_true rfl) dL_wire_118 (c_L_put (q_l κ) (q_D κ) cy A hw)) (fun r6 σ5 hw => ?_)
            refine g_if_eq C 212 (by decide) hw dL_wire_121 (fun hw => ?_) (fun hw => ?_)
            · refine g_eql (lv' := [(0, .ref (A 0)), (2, .ref (A q))]) [0, 2] rfl ?_
              exact J212 σ5 hw
            · refine g_aload_n C 0 rfl rfl dL_wire_124 ?_
              refine g_bipush (v := (48 : Int32)) C dL_wire_125 (by decide) ?_
              refine g_iload C 4 rfl dL_wire_127 ?_
              refine g_iadd C dL_wire_129 ?_
              refine gc_I C (gr_S (As := [.ref (A 0), .int ((48 : Int32) + v4)]) (rest := []) C hK 2 (gd_S wt_291 wt_292 wt_0 wt_293) rfl rfl rfl hs_L_put ⟨⟨Nat.le_of_ble_eq_true rfl, Nat.le_of_ble_eq_true rfl⟩, Nat.le_of_ble_eq_true rfl, Nat.le_of_ble_eq_true rfl⟩ rfl rfl (Nat.le_of_ble_eq_true rfl) dL_wire_130 (c_L_put (q_l κ) (q_D κ) cy A hw)) (fun r8 σ7 hw => ?_)
              refine g_if_eq C 212 (by decide) hw dL_wire_133 (fun hw => ?_) (fun hw => ?_)
              · refine g_eql (lv' := [(0, .ref (A 0)), (2, .ref (A q))]) [0, 2] rfl ?_
                exact J212 σ7 hw
              · refine g_aload_n C 0 rfl rfl dL_wire_136 ?_
                refine g_bipush (v := (58 : Int32)) C dL_wire_137 (by decide) ?_
                refine gc_I C (gr_S (As := [.ref (A 0), .int (58 : Int32)]) (rest := []) C hK 2 (gd_S wt_291 wt_292 wt_0 wt_293) rfl rfl rfl hs_L_put ⟨⟨Nat.le_of_ble_eq_true rfl, Nat.le_of_ble_eq_true rfl⟩, Nat.le_of_ble_eq_true rfl, Nat.le_of_ble_eq_true rfl⟩ rfl rfl (Nat.le_of_ble_eq_true rfl) dL_wire_139 (c_L_put (q_l κ) (q_D κ) cy A hw)) (fun r10 σ9 hw => ?_)
                refine g_if_eq C 212 (by decide) hw dL_wire_142 (fun hw => ?_) (fun hw => ?_)
                · refine g_eql (lv' := [(0, .ref (A 0)), (2, .ref (A q))]) [0, 2] rfl ?_
                  exact J212 σ9 hw
                · refine g_aload_n C 0 rfl rfl dL_wire_145 ?_
                  refine g_bipush (v := (48 : Int32)) C dL_wire_146 (by decide) ?_
                  refine g_iload C 5 rfl dL_wire_148 ?_
                  refine g_bipush (v := (100 : Int32)) C dL_wire_150 (by decide) ?_
                  refine g_idiv C hw.1 dL_wire_152 ?_
                  replace hw := hw.2
                  refine g_iadd C dL_wire_153 ?_
                  refine gc_I C (gr_S (As := [.ref (A 0), .int ((48 : Int32) + (v5 / (100 : Int32)))]) (rest := []) C hK 2 (gd_S wt_291 wt_292 wt_0 wt_293) rfl rfl rfl hs_L_put ⟨⟨Nat.le_of_ble_eq_true rfl, Nat.le_of_ble_eq_true rfl⟩, Nat.le_of_ble_eq_true rfl, Nat.le_of_ble_eq_true rfl⟩ rfl rfl (Nat.le_of_ble_eq_true rfl) dL_wire_154 (c_L_put (q_l κ) (q_D κ) cy A hw)) (fun r12 σ11 hw => ?_)
                  refine g_if_eq C 212 (by decide) hw dL_wire_157 (fun hw => ?_) (fun hw => ?_)
                  · refine g_eql (lv' := [(0, .ref (A 0)), (2, .ref (A q))]) [0, 2] rfl ?_
                    exact J212 σ11 hw
                  · refine g_aload_n C 0 rfl rfl dL_wire_160 ?_
                    refine g_bipush (v := (48 : Int32)) C dL_wire_161 (by decide) ?_
                    refine g_iload C 5 rfl dL_wire_163 ?_
                    refine g_bipush (v := (10 : Int32)) C dL_wire_165 (by decide) ?_
                    refine g_idiv C hw.1 dL_wire_167 ?_
                    replace hw := hw.2
                    refine g_bipush (v := (10 : Int32)) C dL_wire_168 (by decide) ?_
                    refine g_irem C hw.1 dL_wire_170 ?_
                    replace hw := hw.2
                    refine g_iadd C dL_wire_171 ?_
                    refine gc_I C (gr_S (As := [.ref (A 0), .int ((48 : Int32) + ((v5 / (10 : Int32)) - (v5 / (10 : Int32)) / (10 : Int32) * (10 : Int32)))]) (rest := []) C hK 2 (gd_S wt_291 wt_292 wt_0 wt_293) rfl rfl rfl hs_L_put ⟨⟨Nat.le_of_ble_eq_true rfl, Nat.le_of_ble_eq_true rfl⟩, Nat.le_of_ble_eq_true rfl, Nat.le_of_ble_eq_true rfl⟩ rfl rfl (Nat.le_of_ble_eq_true rfl) dL_wire_172 (c_L_put (q_l κ) (q_D κ) cy A hw)) (fun r14 σ13 hw => ?_)
                    refine g_if_eq C 212 (by decide) hw dL_wire_175 (fun hw => ?_) (fun hw => ?_)
                    · refine g_eql (lv' := [(0, .ref (A 0)), (2, .ref (A q))]) [0, 2] rfl ?_
                      exact J212 σ13 hw
                    · refine g_aload_n C 0 rfl rfl dL_wire_178 ?_
                      refine g_bipush (v := (48 : Int32)) C dL_wire_179 (by decide) ?_
                      refine g_iload C 5 rfl dL_wire_181 ?_
                      refine g_bipush (v := (10 : Int32)) C dL_wire_183 (by decide) ?_
                      refine g_irem C hw.1 dL_wire_185 ?_
                      replace hw := hw.2
                      refine g_iadd C dL_wire_186 ?_
                      refine gc_I C (gr_S (As := [.ref (A 0), .int ((48 : Int32) + (v5 - v5 / (10 : Int32) * (10 : Int32)))]) (rest := []) C hK 2 (gd_S wt_291 wt_292 wt_0 wt_293) rfl rfl rfl hs_L_put ⟨⟨Nat.le_of_ble_eq_true rfl, Nat.le_of_ble_eq_true rfl⟩, Nat.le_of_ble_eq_true rfl, Nat.le_of_ble_eq_true rfl⟩ rfl rfl (Nat.le_of_ble_eq_true rfl) dL_wire_187 (c_L_put (q_l κ) (q_D κ) cy A hw)) (fun r16 σ15 hw => ?_)
                      refine g_if_eq C 212 (by decide) hw dL_wire_190 (fun hw => ?_) (fun hw => ?_)
                      · refine g_eql (lv' := [(0, .ref (A 0)), (2, .ref (A q))]) [0, 2] rfl ?_
                        exact J212 σ15 hw
                      · refine g_aload_n C 2 rfl rfl dL_wire_193 ?_
                        refine g_iconst (v := (3 : Int32)) C dL_wire_194 (by decide) ?_
                        refine g_iald C hK q 2 (ga_q cy A _ hq) rfl hw.1 dL_wire_195 ?_
                        replace hw := hw.2
                        refine g_if_eq C 208 (by decide) hw dL_wire_196 (fun hw => ?_) (fun hw => ?_)
                        · refine g_eql (lv' := [(0, .ref (A 0)), (2, .ref (A q))]) [0, 2] rfl ?_
                          exact J208 σ15 hw
                        · refine g_aload_n C 0 rfl rfl dL_wire_199 ?_
                          refine g_bipush (v := (111 : Int32)) C dL_wire_200 (by decide) ?_
                          refine gc_I C (gr_S (As := [.ref (A 0), .int (111 : Int32)]) (rest := []) C hK 2 (gd_S wt_291 wt_292 wt_0 wt_293) rfl rfl rfl hs_L_put ⟨⟨Nat.le_of_ble_eq_true rfl, Nat.le_of_ble_eq_true rfl⟩, Nat.le_of_ble_eq_true rfl, Nat.le_of_ble_eq_true rfl⟩ rfl rfl (Nat.le_of_ble_eq_true rfl) dL_wire_202 (c_L_put (q_l κ) (q_D κ) cy A hw)) (fun r18 σ17 hw => ?_)
                          refine g_if_eq C 212 (by decide) hw dL_wire_205 (fun hw => ?_) (fun hw => ?_)
                          · refine g_eql (lv' := [(0, .ref (A 0)), (2, .ref (A q))]) [0, 2] rfl ?_
                            exact J212 σ17 hw
                          · refine g_eql (lv' := [(0, .ref (A 0)), (2, .ref (A q))]) [0, 2] rfl ?_
                            exact J208 σ17 hw
      · refine g_aload_n C 2 rfl rfl dL_wire_49 ?_
        refine g_iload C 6 rfl dL_wire_50 ?_
        refine g_iconst (v := (0 : Int32)) C dL_wire_52 (by decide) ?_
        refine g_iast C hK q 2 (ga_q cy A _ hq) rfl hw.1 (gs_q cy A _ _ _ hq) dL_wire_53 ?_
        replace hw := hw.2
        refine g_iinc (j := 6) C [(6, .int (v6 + 1)), (0, .ref (A 0)), (1, .int v1), (2, .ref (A q)), (3, .int v3), (4, .int v4), (5, .int v5)] F.2.2.2.1 rfl rfl (by decide) rfl dL_wire_54 ?_
        refine g_goto C 42 (by decide) dL_wire_57 ?_
        refine g_eql (lv' := [(0, .ref (A 0)), (1, .int v1), (2, .ref (A q)), (3, .int v3), (4, .int v4), (5, .int v5), (6, .int (v6 + 1))]) [1, 2, 3, 4, 5, 6, 0] rfl ?_
        exact ih (sV σ q v6.toNatClampNeg (0 : Int32)) v1 v3 v4 v5 (v6 + 1) hw
  unfold wL_wire at hw
  refine g_bipush (v := (10 : Int32)) C dL_wire_0 (by decide) ?_
  refine g_iload_n C 1 rfl rfl dL_wire_2 ?_
  refine g_bipush (v := (31 : Int32)) C dL_wire_3 (by decide) ?_
  refine g_irem C hw.1 dL_wire_5 ?_
  replace hw := hw.2
  refine g_iadd C dL_wire_6 ?_
  refine g_istore_n C [(3, .int ((10 : Int32) + (v1 - v1 / (31 : Int32) * (31 : Int32)))), (0, .ref (A 0)), (1, .int v1), (2, .ref (A q))] F.2.2.2.1 rfl (by decide) rfl dL_wire_7 ?_
  refine g_iconst (v := (1 : Int32)) C dL_wire_8 (by decide) ?_
  refine g_iload_n C 2 rfl rfl dL_wire_9 ?_
  refine g_bipush (v := (32 : Int32)) C dL_wire_10 (by decide) ?_
  refine g_idiv C hw.1 dL_wire_12 ?_
  replace hw := hw.2
  refine g_bipush (v := (9 : Int32)) C dL_wire_13 (by decide) ?_
  refine g_irem C hw.1 dL_wire_15 ?_
  replace hw := hw.2
  refine g_iload_n C 2 rfl rfl dL_wire_16 ?_
  refine g_iconst (v := (3 : Int32)) C dL_wire_17 (by decide) ?_
  refine g_irem C hw.1 dL_wire_18 ?_
  replace hw := hw.2
  refine g_iconst (v := (1 : Int32)) C dL_wire_19 (by decide) ?_
  refine g_iadd C dL_wire_20 ?_
  refine g_idiv C hw.1 dL_wire_21 ?_
  replace hw := hw.2
  refine g_iadd C dL_wire_22 ?_
  refine g_istore C [(4, .int ((1 : Int32) + (((v1 / (32 : Int32)) - (v1 / (32 : Int32)) / (9 : Int32) * (9 : Int32)) / ((v1 - v1 / (3 : Int32) * (3 : Int32)) + (1 : Int32))))), (3, .int ((10 : Int32) + (v1 - v1 / (31 : Int32) * (31 : Int32)))), (0, .ref (A 0)), (1, .int v1), (2, .ref (A q))] F.2.2.2.1 (by decide) rfl dL_wire_23 ?_
  refine g_bipush (v := (100 : Int32)) C dL_wire_25 (by decide) ?_
  refine g_iload_n C 3 rfl rfl dL_wire_27 ?_
  refine g_sipush (v := (512 : Int32)) C dL_wire_28 (by decide) ?_
  refine g_idiv C hw.1 dL_wire_31 ?_
  replace hw := hw.2
  refine g_sipush (v := (900 : Int32)) C dL_wire_32 (by decide) ?_
  refine g_irem C hw.1 dL_wire_35 ?_
  replace hw := hw.2
  refine g_iadd C dL_wire_36 ?_
  refine g_istore C [(5, .int ((100 : Int32) + ((v1 / (512 : Int32)) - (v1 / (512 : Int32)) / (900 : Int32) * (900 : Int32)))), (4, .int ((1 : Int32) + (((v1 / (32 : Int32)) - (v1 / (32 : Int32)) / (9 : Int32) * (9 : Int32)) / ((v1 - v1 / (3 : Int32) * (3 : Int32)) + (1 : Int32))))), (3, .int ((10 : Int32) + (v1 - v1 / (31 : Int32) * (31 : Int32)))), (0, .ref (A 0)), (1, .int v1), (2, .ref (A q))] F.2.2.2.1 (by decide) rfl dL_wire_37 ?_
  refine g_iconst (v := (0 : Int32)) C dL_wire_39 (by decide) ?_
  refine g_istore C [(6, .int (0 : Int32)), (5, .int ((100 : Int32) + ((v1 / (512 : Int32)) - (v1 / (512 : Int32)) / (900 : Int32) * (900 : Int32)))), (4, .int ((1 : Int32) + (((v1 / (32 : Int32)) - (v1 / (32 : Int32)) / (9 : Int32) * (9 : Int32)) / ((v1 - v1 / (3 : Int32) * (3 : Int32)) + (1 : Int32))))), (3, .int ((10 : Int32) + (v1 - v1 / (31 : Int32) * (31 : Int32)))), (0, .ref (A 0)), (1, .int v1), (2, .ref (A q))] F.2.2.2.1 (by decide) rfl dL_wire_40 ?_
  refine g_eql (lv' := [(0, .ref (A 0)), (1, .int v1), (2, .ref (A q)), (3, .int ((10 : Int32) + (v1 - v1 / (31 : Int32) * (31 : Int32)))), (4, .int ((1 : Int32) + (((v1 / (32 : Int32)) - (v1 / (32 : Int32)) / (9 : Int32) * (9 : Int32)) / ((v1 - v1 / (3 : Int32) * (3 : Int32)) + (1 : Int32))))), (5, .int ((100 : Int32) + ((v1 / (512 : Int32)) - (v1 / (512 : Int32)) / (900 : Int32) * (900 : Int32)))), (6, .int (0 : Int32))]) [4, 5, 6, 3, 2, 1, 0] rfl ?_
  obtain ⟨n0, hw⟩ := hw
  exact J42 n0 σ v1 ((10 : Int32) + (v1 - v1 / (31 : Int32) * (31 : Int32))) ((1 : Int32) + (((v1 / (32 : Int32)) - (v1 / (32 : Int32)) / (9 : Int32) * (9 : Int32)) / ((v1 - v1 / (3 : Int32) * (3 : Int32)) + (1 : Int32)))) ((100 : Int32) + ((v1 / (512 : Int32)) - (v1 / (512 : Int32)) / (900 : Int32) * (900 : Int32))) (0 : Int32) hw
set_option maxHeartbeats 4000000 in
set_option maxRecDepth 100000 in
theorem c_L_thing (l : Launch) (D : va_G) (cy : Nat → ClassId) (A : Nat → Nat) {σ : St} {v1 : Int32} {q : Nat} (hq : isQ q) {Φ : Int32 → St → Prop} (hw : wL_thing σ v1 q Φ) : CtI l yL_thing (.code yL_thing cL_thing 4 (some .boolean) :: gL) rm_L_thing 1 3 [.ref (A 0), .int v1, .ref (A q)] D cy A σ Φ := by
  refine ct_any (fun sz => va_Qi Φ (HE D cy A (gZ cy A σ sz)) (gZ cy A σ sz)) (by decide +kernel) rfl rfl [(0, .ref (A 0)), (1, .int v1), (2, .ref (A q))] rfl (Nat.le_of_ble_eq_true rfl) ?_
  intro κ hκl hnm C hK sz F
  subst hκl
  unfold wL_thing at hw
  refine g_bipush (v := (8 : Int32)) C dL_thing_0 (by decide) ?_
  refine g_iconst (v := (4 : Int32)) C dL_thing_2 (by decide) ?_
  refine g_aload_n C 2 rfl rfl dL_thing_3 ?_
  refine g_bipush (v := (7 : Int32)) C dL_thing_4 (by decide) ?_
  refine g_iald C hK q 2 (ga_q cy A _ hq) rfl hw.1 dL_thing_6 ?_
  replace hw := hw.2
  refine g_imul C dL_thing_7 ?_
  refine g_iadd C dL_thing_8 ?_
  refine g_istore_n C [(3, .int ((8 : Int32) + ((4 : Int32) * (σ.1 q (7 : Int32).toNatClampNeg)))), (0, .ref (A 0)), (1, .int v1), (2, .ref (A q))] F.2.2.2.1 rfl (by decide) rfl dL_thing_9 ?_
  refine g_aload_n C 3 rfl rfl dL_thing_10 ?_
  refine g_iload_n C 0 rfl rfl dL_thing_11 ?_
  refine g_iload_n C 2 rfl rfl dL_thing_12 ?_
  refine g_iconst (v := (5 : Int32)) C dL_thing_13 (by decide) ?_
  refine g_irem C hw.1 dL_thing_14 ?_
  replace hw := hw.2
  refine g_iast C hK q 2 (ga_q cy A _ hq) rfl hw.1 (gs_q cy A _ _ _ hq) dL_thing_15 ?_
  replace hw := hw.2
  refine g_aload_n C 3 rfl rfl dL_thing_16 ?_
  refine g_iload_n C 0 rfl rfl dL_thing_17 ?_
  refine g_iconst (v := (1 : Int32)) C dL_thing_18 (by decide) ?_
  refine g_iadd C dL_thing_19 ?_
  refine g_iconst (v := (1 : Int32)) C dL_thing_20 (by decide) ?_
  refine g_iload_n C 2 rfl rfl dL_thing_21 ?_
  refine g_bipush (v := (8 : Int32)) C dL_thing_22 (by decide) ?_
  refine g_idiv C hw.1 dL_thing_24 ?_
  replace hw := hw.2
  refine g_bipush (v := (20 : Int32)) C dL_thing_25 (by decide) ?_
  refine g_irem C hw.1 dL_thing_27 ?_
  replace hw := hw.2
  refine g_iadd C dL_thing_28 ?_
  refine g_iast C hK q 2 (ga_q cy A _ hq) rfl hw.1 (gs_q cy A _ _ _ hq) dL_thing_29 ?_
  replace hw := hw.2
  refine g_aload_n C 3 rfl rfl dL_thing_30 ?_
  refine g_iload_n C 0 rfl rfl dL_thing_31 ?_
  refine g_iconst (v := (2 : Int32)) C dL_thing_32 (by decide) ?_
  refine g_iadd C dL_thing_33 ?_
  refine g_iload_n C 2 rfl rfl dL_thing_34 ?_
  refine g_sipush (v := (256 : Int32)) C dL_thing_35 (by decide) ?_
  refine g_idiv C hw.1 dL_thing_38 ?_
  replace hw := hw.2
  refine g_iconst (v := (2 : Int32)) C dL_thing_39 (by decide) ?_
  refine g_irem C hw.1 dL_thing_40 ?_
  replace hw := hw.2
  refine g_iast C hK q 2 (ga_q cy A _ hq) rfl hw.1 (gs_q cy A _ _ _ hq) dL_thing_41 ?_
  replace hw := hw.2
  refine g_aload_n C 3 rfl rfl dL_thing_42 ?_
  refine g_iload_n C 0 rfl rfl dL_thing_43 ?_
  refine g_iconst (v := (3 : Int32)) C dL_thing_44 (by decide) ?_
  refine g_iadd C dL_thing_45 ?_
  refine g_aload_n C 3 rfl rfl dL_thing_46 ?_
  refine g_iconst (v := (5 : Int32)) C dL_thing_47 (by decide) ?_
  refine g_iald C hK q 2 (ga_q cy A _ hq) rfl hw.1 dL_thing_48 ?_
  replace hw := hw.2
  refine g_iast C hK q 2 (ga_q cy A _ hq) rfl hw.1 (gs_q cy A _ _ _ hq) dL_thing_49 ?_
  replace hw := hw.2
  refine g_aload_n C 3 rfl rfl dL_thing_50 ?_
  refine g_bipush (v := (7 : Int32)) C dL_thing_51 (by decide) ?_
  refine g_dup2 C rfl rfl dL_thing_53 ?_
  refine g_iald C hK q 2 (ga_q cy A _ hq) rfl hw.1 dL_thing_54 ?_
  replace hw := hw.2
  refine g_iconst (v := (1 : Int32)) C dL_thing_55 (by decide) ?_
  refine g_iadd C dL_thing_56 ?_
  refine g_iast C hK q 2 (ga_q cy A _ hq) rfl hw.1 (gs_q cy A _ _ _ hq) dL_thing_57 ?_
  replace hw := hw.2
  refine g_aload_n C 1 rfl rfl dL_thing_58 ?_
  refine g_iload_n C 2 rfl rfl dL_thing_59 ?_
  refine g_iconst (v := (5 : Int32)) C dL_thing_60 (by decide) ?_
  refine g_irem C hw.1 dL_thing_61 ?_
  replace hw := hw.2
  refine g_aload_n C 3 rfl rfl dL_thing_62 ?_
  refine g_iload_n C 0 rfl rfl dL_thing_63 ?_
  refine g_iconst (v := (1 : Int32)) C dL_thing_64 (by decide) ?_
  refine g_iadd C dL_thing_65 ?_
  refine g_iald C hK q 2 (ga_q cy A _ hq) rfl hw.1 dL_thing_66 ?_
  replace hw := hw.2
  refine g_aload_n C 3 rfl rfl dL_thing_67 ?_
  refine g_iload_n C 0 rfl rfl dL_thing_68 ?_
  refine g_iconst (v := (2 : Int32)) C dL_thing_69 (by decide) ?_
  refine g_iadd C dL_thing_70 ?_
  refine g_iald C hK q 2 (ga_q cy A _ hq) rfl hw.1 dL_thing_71 ?_
  replace hw := hw.2
  refine gc_I C (gr_V (As := [.int (v1 - v1 / (5 : Int32) * (5 : Int32)), .int ((sV (sV (sV (sV (sV σ q ((8 : Int32) + ((4 : Int32) * (σ.1 q (7 : Int32).toNatClampNeg))).toNatClampNeg (v1 - v1 / (5 : Int32) * (5 : Int32))) q (((8 : Int32) + ((4 : Int32) * (σ.1 q (7 : Int32).toNatClampNeg))) + (1 : Int32)).toNatClampNeg ((1 : Int32) + ((v1 / (8 : Int32)) - (v1 / (8 : Int32)) / (20 : Int32) * (20 : Int32)))) q (((8 : Int32) + ((4 : Int32) * (σ.1 q (7 : Int32).toNatClampNeg))) + (2 : Int32)).toNatClampNeg ((v1 / (256 : Int32)) - (v1 / (256 : Int32)) / (2 : Int32) * (2 : Int32))) q (((8 : Int32) + ((4 : Int32) * (σ.1 q (7 : Int32).toNatClampNeg))) + (3 : Int32)).toNatClampNeg ((sV (sV (sV σ q ((8 : Int32) + ((4 : Int32) * (σ.1 q (7 : Int32).toNatClampNeg))).toNatClampNeg (v1 - v1 / (5 : Int32) * (5 : Int32))) q (((8 : Int32) + ((4 : Int32) * (σ.1 q (7 : Int32).toNatClampNeg))) + (1 : Int32)).toNatClampNeg ((1 : Int32) + ((v1 / (8 : Int32)) - (v1 / (8 : Int32)) / (20 : Int32) * (20 : Int32)))) q (((8 : Int32) + ((4 : Int32) * (σ.1 q (7 : Int32).toNatClampNeg))) + (2 : Int32)).toNatClampNeg ((v1 / (256 : Int32)) - (v1 / (256 : Int32)) / (2 : Int32) * (2 : Int32))).1 q (5 : Int32).toNatClampNeg)) q (7 : Int32).toNatClampNeg (((sV (sV (sV (sV σ q ((8 : Int32) + ((4 : Int32) * (σ.1 q (7 : Int32).toNatClampNeg))).toNatClampNeg (v1 - v1 / (5 : Int32) * (5 : Int32))) q (((8 : Int32) + ((4 : Int32) * (σ.1 q (7 : Int32).toNatClampNeg))) + (1 : Int32)).toNatClampNeg ((1 : Int32) + ((v1 / (8 : Int32)) - (v1 / (8 : Int32)) / (20 : Int32) * (20 : Int32)))) q (((8 : Int32) + ((4 : Int32) * (σ.1 q (7 : Int32).toNatClampNeg))) + (2 : Int32)).toNatClampNeg ((v1 / (256 : Int32)) - (v1 / (256 : Int32)) / (2 : Int32) * (2 : Int32))) q (((8 : Int32) + ((4 : Int32) * (σ.1 q (7 : Int32).toNatClampNeg))) + (3 : Int32)).toNatClampNeg ((sV (sV (sV σ q ((8 : Int32) + ((4 : Int32) * (σ.1 q (7 : Int32).toNatClampNeg))).toNatClampNeg (v1 - v1 / (5 : Int32) * (5 : Int32))) q (((8 : Int32) + ((4 : Int32) * (σ.1 q (7 : Int32).toNatClampNeg))) + (1 : Int32)).toNatClampNeg ((1 : Int32) + ((v1 / (8 : Int32)) - (v1 / (8 : Int32)) / (20 : Int32) * (20 : Int32)))) q (((8 : Int32) + ((4 : Int32) * (σ.1 q (7 : Int32).toNatClampNeg))) + (2 : Int32)).toNatClampNeg ((v1 / (256 : Int32)) - (v1 / (256 : Int32)) / (2 : Int32) * (2 : Int32))).1 q (5 : Int32).toNatClampNeg)).1 q (7 : Int32).toNatClampNeg) + (1 : Int32))).1 q (((8 : Int32) + ((4 : Int32) * (σ.1 q (7 : Int32).toNatClampNeg))) + (1 : Int32)).toNatClampNeg), .int ((sV (sV (sV (sV (sV σ q ((8 : Int32) + ((4 : Int32) * (σ.1 q (7 : Int32).toNatClampNeg))).toNatClampNeg (v1 - v1 / (5 : Int32) * (5 : Int32))) q (((8 : Int32) + ((4 : Int32) * (σ.1 q (7 : Int32).toNatClampNeg))) + (1 : Int32)).toNatClampNeg ((1 : Int32) + ((v1 / (8 : Int32)) - (v1 / (8 : Int32)) / (20 : Int32) * (20 : Int32)))) q (((8 : Int32) + ((4 : Int32) * (σ.1 q (7 : Int32).toNatClampNeg))) + (2 : Int32)).toNatClampNeg ((v1 / (256 : Int32)) - (v1 / (256 : Int32)) / (2 : Int32) * (2 : Int32))) q (((8 : Int32) + ((4 : Int32) * (σ.1 q (7 : Int32).toNatClampNeg))) + (3 : Int32)).toNatClampNeg ((sV (sV (sV σ q ((8 : Int32) + ((4 : Int32) * (σ.1 q (7 : Int32).toNatClampNeg))).toNatClampNeg (v1 - v1 / (5 : Int32) * (5 : Int32))) q (((8 : Int32) + ((4 : Int32) * (σ.1 q (7 : Int32).toNatClampNeg))) + (1 : Int32)).toNatClampNeg ((1 : Int32) + ((v1 / (8 : Int32)) - (v1 / (8 : Int32)) / (20 : Int32) * (20 : Int32)))) q (((8 : Int32) + ((4 : Int32) * (σ.1 q (7 : Int32).toNatClampNeg))) + (2 : Int32)).toNatClampNeg ((v1 / (256 : Int32)) - (v1 / (256 : Int32)) / (2 : Int32) * (2 : Int32))).1 q (5 : Int32).toNatClampNeg)) q (7 : Int32).toNatClampNeg (((sV (sV (sV (sV σ q ((8 : Int32) + ((4 : Int32) * (σ.1 q (7 : Int32).toNatClampNeg))).toNatClampNeg (v1 - v1 / (5 : Int32) * (5 : Int32))) q (((8 : Int32) + ((4 : Int32) * (σ.1 q (7 : Int32).toNatClampNeg))) + (1 : Int32)).toNatClampNeg ((1 : Int32) + ((v1 / (8 : Int32)) - (v1 / (8 : Int32)) / (20 : Int32) * (20 : Int32)))) q (((8 : Int32) + ((4 : Int32) * (σ.1 q (7 : Int32).toNatClampNeg))) + (2 : Int32)).toNatClampNeg ((v1 / (256 : Int32)) - (v1 / (256 : Int32)) / (2 : Int32) * (2 : Int32))) q (((8 : Int32) + ((4 : Int32) * (σ.1 q (7 : Int32).toNatClampNeg))) + (3 : Int32)).toNatClampNeg ((sV (sV (sV σ q ((8 : Int32) + ((4 : Int32) * (σ.1 q (7 : Int32).toNatClampNeg))).toNatClampNeg (v1 - v1 / (5 : Int32) * (5 : Int32))) q (((8 : Int32) + ((4 : Int32) * (σ.1 q (7 : Int32).toNatClampNeg))) + (1 : Int32)).toNatClampNeg ((1 : Int32) + ((v1 / (8 : Int32)) - (v1 / (8 : Int32)) / (20 : Int32) * (20 : Int32)))) q (((8 : Int32) + ((4 : Int32) * (σ.1 q (7 : Int32).toNatClampNeg))) + (2 : Int32)).toNatClampNeg ((v1 / (256 : Int32)) - (v1 / (256 : Int32)) / (2 : Int32) * (2 : Int32))).1 q (5 : Int32).toNatClampNeg)).1 q (7 : Int32).toNatClampNeg) + (1 : Int32))).1 q (((8 : Int32) + ((4 : Int32) * (σ.1 q (7 : Int32).toNatClampNeg))) + (2 : Int32)).toNatClampNeg)]) (rest := []) C hK 3 (gd_V wt_363 wt_364 wt_365 wt_1 wt_366) rfl rfl rfl ⟨rfl, hs_X11_thing⟩ ⟨⟨Nat.le_of_ble_eq_true rfl, Nat.le_of_ble_eq_true rfl⟩, Nat.le_of_ble_eq_true rfl, Nat.le_of_ble_eq_true rfl⟩ rfl 0 (ga_0 cy A _) rfl rfl (Nat.le_of_ble_eq_true rfl) dL_thing_72 (c_X11_thing (q_l κ) (q_D κ) cy A hw)) (fun r2 σ1 hw => ?_)
  refine g_aload_n C 3 rfl rfl dL_thing_75 ?_
  refine g_bipush (v := (7 : Int32)) C dL_thing_76 (by decide) ?_
  refine g_iald C hK q 2 (ga_q cy A _ hq) rfl hw.1 dL_thing_78 ?_
  replace hw := hw.2
  refine g_iconst (v := (1 : Int32)) C dL_thing_79 (by decide) ?_
  refine g_isub C dL_thing_80 ?_
  refine g_icmp_ne C 88 (by decide) hw dL_thing_81 (fun hw => ?_) (fun hw => ?_)
  · refine g_iconst (v := (0 : Int32)) C dL_thing_88 (by decide) ?_
    exact gq_Z C F (by decide) (by decide) hw dL_thing_89
  · refine g_iconst (v := (1 : Int32)) C dL_thing_84 (by decide) ?_
    refine g_goto C 89 (by decide) dL_thing_85 ?_
    exact gq_Z C F (by decide) (by decide) hw dL_thing_89
set_option maxHeartbeats 4000000 in
set_option maxRecDepth 100000 in
theorem c_L_weighs (l : Launch) (D : va_G) (cy : Nat → ClassId) (A : Nat → Nat) {σ : St} {q : Nat} (hq : isQ q) {v1 : Int32} {v2 : Int32} {Φ : Int32 → St → Prop} (hw : wL_weighs σ q v1 v2 Φ) : CtI l yL_weighs (.code yL_weighs cL_weighs 5 (some .int) :: gL) rm_L_weighs 0 0 [.ref (A q), .int v1, .int v2] D cy A σ Φ := by
  refine ct_any (fun sz => va_Qi Φ (HE D cy A (gZ cy A σ sz)) (gZ cy A σ sz)) (by decide +kernel) rfl rfl [(0, .ref (A q)), (1, .int v1), (2, .int v2)] rfl (Nat.le_of_ble_eq_true rfl) ?_
  intro κ hκl hnm C hK sz F
  subst hκl
  unfold wL_weighs at hw
  refine g_aload_n C 0 rfl rfl dL_weighs_0 ?_
  refine g_bipush (v := (8 : Int32)) C dL_weighs_1 (by decide) ?_
  refine g_iconst (v := (4 : Int32)) C dL_weighs_3 (by decide) ?_
  refine g_iload_n C 1 rfl rfl dL_weighs_4 ?_
  refine g_imul C dL_weighs_5 ?_
  refine g_iadd C dL_weighs_6 ?_
  refine g_iald C hK q 2 (ga_q cy A _ hq) rfl hw.1 dL_weighs_7 ?_
  replace hw := hw.2
  refine g_istore_n C [(3, .int (σ.1 q ((8 : Int32) + ((4 : Int32) * v1)).toNatClampNeg)), (0, .ref (A q)), (1, .int v1), (2, .int v2)] F.2.2.2.1 rfl (by decide) rfl dL_weighs_8 ?_
  refine g_aload_n C 1 rfl rfl dL_weighs_9 ?_
  refine g_iconst (v := (5 : Int32)) C dL_weighs_10 (by decide) ?_
  refine g_iald C hK q 2 (ga_q cy A _ hq) rfl hw.1 dL_weighs_11 ?_
  replace hw := hw.2
  refine g_iload_n C 3 rfl rfl dL_weighs_12 ?_
  refine g_iadd C dL_weighs_13 ?_
  refine g_aload_n C 1 rfl rfl dL_weighs_14 ?_
  refine g_bipush (v := (11 : Int32)) C dL_weighs_15 (by decide) ?_
  refine g_iconst (v := (4 : Int32)) C dL_weighs_17 (by decide) ?_
  refine g_iload_n C 2 rfl rfl dL_weighs_18 ?_
  refine g_imul C dL_weighs_19 ?_
  refine g_iadd C dL_weighs_20 ?_
  refine g_iald C hK q 2 (ga_q cy A _ hq) rfl hw.1 dL_weighs_21 ?_
  replace hw := hw.2
  refine g_isub C dL_weighs_22 ?_
  refine g_bipush (v := (6 : Int32)) C dL_weighs_23 (by decide) ?_
  refine g_idiv C hw.1 dL_weighs_25 ?_
  replace hw := hw.2
  refine g_istore C [(4, .int ((((σ.1 q (5 : Int32).toNatClampNeg) + v2) - (σ.1 q ((11 : Int32) + ((4 : Int32) * v1)).toNatClampNeg)) / (6 : Int32))), (3, .int (σ.1 q ((8 : Int32) + ((4 : Int32) * v1)).toNatClampNeg)), (0, .ref (A q)), (1, .int v1), (2, .int v2)] F.2.2.2.1 (by decide) rfl dL_weighs_26 ?_
  refine g_aload_n C 2 rfl rfl dL_weighs_28 ?_
  refine g_bipush (v := (9 : Int32)) C dL_weighs_29 (by decide) ?_
  refine g_iconst (v := (4 : Int32)) C dL_weighs_31 (by decide) ?_
  refine g_iload_n C 3 rfl rfl dL_weighs_32 ?_
  refine g_imul C dL_weighs_33 ?_
  refine g_iadd C dL_weighs_34 ?_
  refine g_iald C hK q 2 (ga_q cy A _ hq) rfl hw.1 dL_weighs_35 ?_
  replace hw := hw.2
  refine g_iload_n C 1 rfl rfl dL_weighs_36 ?_
  refine g_iconst (v := (1 : Int32)) C dL_weighs_37 (by decide) ?_
  refine g_icmp_ne C 45 (by decide) hw dL_weighs_38 (fun hw => ?_) (fun hw => ?_)
  · refine g_iload_n C 1 rfl rfl dL_weighs_45 ?_
    refine g_iconst (v := (3 : Int32)) C dL_weighs_46 (by decide) ?_
    refine g_icmp_ne C 55 (by decide) hw dL_weighs_47 (fun hw => ?_) (fun hw => ?_)
    · refine g_iload_n C 1 rfl rfl dL_weighs_55 ?_
      refine g_iconst (v := (4 : Int32)) C dL_weighs_56 (by decide) ?_
      refine g_icmp_ne C 68 (by decide) hw dL_weighs_57 (fun hw => ?_) (fun hw => ?_)
      · refine g_iconst (v := (0 : Int32)) C dL_weighs_68 (by decide) ?_
        refine g_iadd C dL_weighs_69 ?_
        exact gq_I C F (by decide) (by decide) hw dL_weighs_70
      · refine g_iload C 0 rfl dL_weighs_60 ?_
        refine g_iload C 0 rfl dL_weighs_62 ?_
        refine g_iadd C dL_weighs_64 ?_
        refine g_goto C 69 (by decide) dL_weighs_65 ?_
        refine g_iadd C dL_weighs_69 ?_
        exact gq_I C F (by decide) (by decide) hw dL_weighs_70
    · refine g_iload C 0 rfl dL_weighs_50 ?_
      refine g_goto C 69 (by decide) dL_weighs_52 ?_
      refine g_iadd C dL_weighs_69 ?_
      exact gq_I C F (by decide) (by decide) hw dL_weighs_70
  · refine g_iconst (v := (2 : Int32)) C dL_weighs_41 (by decide) ?_
    refine g_goto C 69 (by decide) dL_weighs_42 ?_
    refine g_iadd C dL_weighs_69 ?_
    exact gq_I C F (by decide) (by decide) hw dL_weighs_70
set_option maxHeartbeats 4000000 in
set_option maxRecDepth 100000 in
theorem c_L_cabin (l : Launch) (D : va_G) (cy : Nat → ClassId) (A : Nat → Nat) {σ : St} {q : Nat} (hq : isQ q) {v1 : Int32} {v2 : Int32} {v3 : Int32} {Φ : Int32 → St → Prop} (hw : wL_cabin σ q v1 v2 v3 Φ) : CtI l yL_cabin (.code yL_cabin cL_cabin 7 (some .int) :: gL) rm_L_cabin 0 0 [.ref (A q), .int v1, .int v2, .int v3] D cy A σ Φ := by
  refine ct_any (fun sz => va_Qi Φ (HE D cy A (gZ cy A σ sz)) (gZ cy A σ sz)) (by decide +kernel) rfl rfl [(0, .ref (A q)), (1, .int v1), (2, .int v2), (3, .int v3)] rfl (Nat.le_of_ble_eq_true rfl) ?_
  intro κ hκl hnm C hK sz F
  subst hκl
  have J55 : ∀ (K7 : St → Int32 → Int32 → Int32 → Int32 → Int32 → Prop) (_ : ∀ (σ : St) (v1 : Int32) (v2 : Int32) (v3 : Int32) (v4 : Int32) (v5 : Int32), K7 σ v1 v2 v3 v4 v5 → GW κ 0 0 (gW cy A σ) 7 [(0, .ref (A q)), (1, .int v1), (2, .int v2), (3, .int v3), (4, .int v4), (5, .int v5)] []), ∀ (σ : St) (v1 : Int32) (v2 : Int32) (v3 : Int32) (v5 : Int32) (s0 : Int32) (s1 : Int32), wL_cabin_55 q K7 Φ σ v1 v2 v3 v5 s0 s1 → GW κ 0 0 (gW cy A σ) 55 [(0, .ref (A q)), (1, .int v1), (2, .int v2), (3, .int v3), (5, .int v5)] [.int s0, .int s1] := by
    intro K7 hK7 σ v1 v2 v3 v5 s0 s1 hw
    unfold wL_cabin_55 at hw
    refine g_iadd C dL_cabin_55 ?_
    refine g_istore C [(4, .int (s1 + s0)), (0, .ref (A q)), (1, .int v1), (2, .int v2), (3, .int v3), (5, .int v5)] F.2.2.2.1 (by decide) rfl dL_cabin_56 ?_
    refine g_iinc (j := 5) C [(5, .int (v5 + 1)), (4, .int (s1 + s0)), (0, .ref (A q)), (1, .int v1), (2, .int v2), (3, .int v3)] F.2.2.2.1 rfl rfl (by decide) rfl dL_cabin_58 ?_
    refine g_goto C 7 (by decide) dL_cabin_61 ?_
    refine g_eql (lv' := [(0, .ref (A q)), (1, .int v1), (2, .int v2), (3, .int v3), (4, .int (s1 + s0)), (5, .int (v5 + 1))]) [2, 3, 4, 5, 1, 0] rfl ?_
    exact hK7 σ v1 v2 v3 (s1 + s0) (v5 + 1) hw
  have J7 : ∀ (n : Nat) (σ : St) (v1 : Int32) (v2 : Int32) (v3 : Int32) (v4 : Int32) (v5 : Int32), wL_cabin_7 q Φ n σ v1 v2 v3 v4 v5 → GW κ 0 0 (gW cy A σ) 7 [(0, .ref (A q)), (1, .int v1), (2, .int v2), (3, .int v3), (4, .int v4), (5, .int v5)] [] := by
    intro n
    induction n with
    | zero => intro σ v1 v2 v3 v4 v5 hw; exact hw.elim
    | succ n ih =>
      intro σ v1 v2 v3 v4 v5 hw
      rw [wL_cabin_7] at hw
      refine g_iload C 5 rfl dL_cabin_7 ?_
      refine g_aload_n C 0 rfl rfl dL_cabin_9 ?_
      refine g_bipush (v := (7 : Int32)) C dL_cabin_10 (by decide) ?_
      refine g_iald C hK q 2 (ga_q cy A _ hq) rfl hw.1 dL_cabin_12 ?_
      replace hw := hw.2
      refine g_icmp_ge C 64 (by decide) hw dL_cabin_13 (fun hw => ?_) (fun hw => ?_)
      · refine g_iload C 4 rfl dL_cabin_64 ?_
        exact gq_I C F (by decide) (by decide) hw dL_cabin_66
      · refine g_aload_n C 0 rfl rfl dL_cabin_16 ?_
        refine g_bipush (v := (10 : Int32)) C dL_cabin_17 (by decide) ?_
        refine g_iconst (v := (4 : Int32)) C dL_cabin_19 (by decide) ?_
        refine g_iload C 5 rfl dL_cabin_20 ?_
        refine g_imul C dL_cabin_22 ?_
        refine g_iadd C dL_cabin_23 ?_
        refine g_iald C hK q 2 (ga_q cy A _ hq) rfl hw.1 dL_cabin_24 ?_
        replace hw := hw.2
        refine g_iload_n C 2 rfl rfl dL_cabin_25 ?_
        refine g_iload C 5 rfl dL_cabin_26 ?_
        refine g_ishr C dL_cabin_28 ?_
        refine g_iconst (v := (1 : Int32)) C dL_cabin_29 (by decide) ?_
        refine g_iand C dL_cabin_30 ?_
        refine g_iadd C dL_cabin_31 ?_
        refine g_iconst (v := (2 : Int32)) C dL_cabin_32 (by decide) ?_
        refine g_irem C hw.1 dL_cabin_33 ?_
        replace hw := hw.2
        refine g_istore C [(6, .int (((σ.1 q ((10 : Int32) + ((4 : Int32) * v5)).toNatClampNeg) + ((v2 >>> (v5 &&& 31)) &&& (1 : Int32))) - ((σ.1 q ((10 : Int32) + ((4 : Int32) * v5)).toNatClampNeg) + ((v2 >>> (v5 &&& 31)) &&& (1 : Int32))) / (2 : Int32) * (2 : Int32))), (0, .ref (A q)), (1, .int v1), (2, .int v2), (3, .int v3), (4, .int v4), (5, .int v5)] F.2.2.2.1 (by decide) rfl dL_cabin_34 ?_
        refine g_iload C 5 rfl dL_cabin_36 ?_
        refine g_iload C 0 rfl dL_cabin_38 ?_
        refine g_iload_n C 2 rfl rfl dL_cabin_40 ?_
        refine g_icmp_ne C 54 (by decide) hw dL_cabin_41 (fun hw => ?_) (fun hw => ?_)
        · refine g_iconst (v := (0 : Int32)) C dL_cabin_54 (by decide) ?_
          refine g_eql (lv' := [(0, .ref (A q)), (1, .int v1), (2, .int v2), (3, .int v3), (5, .int v5)]) [1, 2, 3, 4, 6] rfl ?_
          exact J55 _ ih σ v1 v2 v3 v5 (0 : Int32) v4 hw
        · refine g_aload_n C 1 rfl rfl dL_cabin_44 ?_
          refine g_iload C 6 rfl dL_cabin_45 ?_
          refine g_iload_n C 4 rfl rfl dL_cabin_47 ?_
          refine gc_I C (gr_S (As := [.ref (A q), .int v5, .int v3]) (rest := [.int v4]) C hK 3 (gd_S wt_438 wt_439 wt_0 wt_440) rfl rfl rfl hs_L_weighs ⟨⟨Nat.le_of_ble_eq_true rfl, Nat.le_of_ble_eq_true rfl⟩, Nat.le_of_ble_eq_true rfl, Nat.le_of_ble_eq_true rfl⟩ rfl rfl (Nat.le_of_ble_eq_true rfl) dL_cabin_48 (c_L_weighs (q_l κ) (q_D κ) cy A hq hw)) (fun r2 σ1 hw => ?_)
          refine g_goto C 55 (by decide) dL_cabin_51 ?_
          refine g_eql (lv' := [(0, .ref (A q)), (1, .int v1), (2, .int v2), (3, .int v3), (5, .int v5)]) [1, 2, 3, 4, 6] rfl ?_
          exact J55 _ ih σ1 v1 v2 v3 v5 r2 v4 hw
  unfold wL_cabin at hw
  refine g_bipush (v := (10 : Int32)) C dL_cabin_0 (by decide) ?_
  refine g_istore C [(4, .int (10 : Int32)), (0, .ref (A q)), (1, .int v1), (2, .int v2), (3, .int v3)] F.2.2.2.1 (by decide) rfl dL_cabin_2 ?_
  refine g_iconst (v := (0 : Int32)) C dL_cabin_4 (by decide) ?_
  refine g_istore C [(5, .int (0 : Int32)), (4, .int (10 : Int32)), (0, .ref (A q)), (1, .int v1), (2, .int v2), (3, .int v3)] F.2.2.2.1 (by decide) rfl dL_cabin_5 ?_
  refine g_eql (lv' := [(0, .ref (A q)), (1, .int v1), (2, .int v2), (3, .int v3), (4, .int (10 : Int32)), (5, .int (0 : Int32))]) [2, 3, 4, 5, 1, 0] rfl ?_
  obtain ⟨n0, hw⟩ := hw
  exact J7 n0 σ v1 v2 v3 (10 : Int32) (0 : Int32) hw
set_option maxHeartbeats 4000000 in
set_option maxRecDepth 100000 in
theorem c_L_turns (l : Launch) (D : va_G) (cy : Nat → ClassId) (A : Nat → Nat) {σ : St} {q : Nat} (hq : isQ q) {v1 : Int32} {Φ : Int32 → St → Prop} (hw : wL_turns σ q v1 Φ) : CtI l yL_turns (.code yL_turns cL_turns 2 (some .int) :: gL) rm_L_turns 0 0 [.ref (A q), .int v1] D cy A σ Φ := by
  refine ct_any (fun sz => va_Qi Φ (HE D cy A (gZ cy A σ sz)) (gZ cy A σ sz)) (by decide +kernel) rfl rfl [(0, .ref (A q)), (1, .int v1)] rfl (Nat.le_of_ble_eq_true rfl) ?_
  intro κ hκl hnm C hK sz F
  subst hκl
  unfold wL_turns at hw
  refine g_aload_n C 0 rfl rfl dL_turns_0 ?_
  refine g_iconst (v := (1 : Int32)) C dL_turns_1 (by decide) ?_
  refine g_iald C hK q 2 (ga_q cy A _ hq) rfl hw.1 dL_turns_2 ?_
  replace hw := hw.2
  refine g_iload_n C 1 rfl rfl dL_turns_3 ?_
  refine g_iload_n C 1 rfl rfl dL_turns_4 ?_
  refine g_imul C dL_turns_5 ?_
  refine g_idiv C hw.1 dL_turns_6 ?_
  replace hw := hw.2
  exact gq_I C F (by decide) (by decide) hw dL_turns_7
set_option maxHeartbeats 4000000 in
set_option maxRecDepth 100000 in
theorem c_L_arm (l : Launch) (D : va_G) (cy : Nat → ClassId) (A : Nat → Nat) {σ : St} {q : Nat} (hq : isQ q) {v1 : Int32} {v2 : Int32} {v3 : Int32} {v4 : Int32} {Φ : Int32 → St → Prop} (hw : wL_arm σ q v1 v2 v3 v4 Φ) : CtI l yL_arm (.code yL_arm cL_arm 8 (some .int) :: gL) rm_L_arm 0 0 [.ref (A q), .int v1, .int v2, .int v3, .int v4] D cy A σ Φ := by
  refine ct_any (fun sz => va_Qi Φ (HE D cy A (gZ cy A σ sz)) (gZ cy A σ sz)) (by decide +kernel) rfl rfl [(0, .ref (A q)), (1, .int v1), (2, .int v2), (3, .int v3), (4, .int v4)] rfl (Nat.le_of_ble_eq_true rfl) ?_
  intro κ hκl hnm C hK sz F
  subst hκl
  unfold wL_arm at hw
  refine g_aload_n C 0 rfl rfl dL_arm_0 ?_
  refine g_iconst (v := (0 : Int32)) C dL_arm_1 (by decide) ?_
  refine g_iload_n C 2 rfl rfl dL_arm_2 ?_
  refine g_iload C 4 rfl dL_arm_3 ?_
  refine gc_I C (gr_S (As := [.ref (A q), .int (0 : Int32), .int v2, .int v4]) (rest := []) C hK 4 (gd_S wt_435 wt_436 wt_0 wt_437) rfl rfl rfl hs_L_cabin ⟨⟨Nat.le_of_ble_eq_true rfl, Nat.le_of_ble_eq_true rfl⟩, Nat.le_of_ble_eq_true rfl, Nat.le_of_ble_eq_true rfl⟩ rfl rfl (Nat.le_of_ble_eq_true rfl) dL_arm_5 (c_L_cabin (q_l κ) (q_D κ) cy A hq hw)) (fun r2 σ1 hw => ?_)
  refine g_istore C [(5, .int r2), (0, .ref (A q)), (1, .int v1), (2, .int v2), (3, .int v3), (4, .int v4)] F.2.2.2.1 (by decide) rfl dL_arm_8 ?_
  refine g_aload_n C 1 rfl rfl dL_arm_10 ?_
  refine g_iconst (v := (1 : Int32)) C dL_arm_11 (by decide) ?_
  refine g_iload_n C 3 rfl rfl dL_arm_12 ?_
  refine g_iload C 5 rfl dL_arm_13 ?_
  refine gc_I C (gr_S (As := [.ref (A q), .int (1 : Int32), .int v2, .int v4]) (rest := []) C hK 4 (gd_S wt_435 wt_436 wt_0 wt_437) rfl rfl rfl hs_L_cabin ⟨⟨Nat.le_of_ble_eq_true rfl, Nat.le_of_ble_eq_true rfl⟩, Nat.le_of_ble_eq_true rfl, Nat.le_of_ble_eq_true rfl⟩ rfl rfl (Nat.le_of_ble_eq_true rfl) dL_arm_15 (c_L_cabin (q_l κ) (q_D κ) cy A hq hw)) (fun r4 σ3 hw => ?_)
  refine g_istore C [(6, .int r4), (5, .int r2), (0, .ref (A q)), (1, .int v1), (2, .int v2), (3, .int v3), (4, .int v4)] F.2.2.2.1 (by decide) rfl dL_arm_18 ?_
  refine g_iload_n C 5 rfl rfl dL_arm_20 ?_
  refine g_iload C 0 rfl dL_arm_21 ?_
  refine g_imul C dL_arm_23 ?_
  refine g_iload_n C 5 rfl rfl dL_arm_24 ?_
  refine g_iload C 0 rfl dL_arm_25 ?_
  refine g_imul C dL_arm_27 ?_
  refine g_iload C 1 rfl dL_arm_28 ?_
  refine g_iload C 0 rfl dL_arm_30 ?_
  refine g_iadd C dL_arm_32 ?_
  refine g_irem C hw.1 dL_arm_33 ?_
  replace hw := hw.2
  refine g_isub C dL_arm_34 ?_
  refine g_iload C 1 rfl dL_arm_35 ?_
  refine g_iload C 0 rfl dL_arm_37 ?_
  refine g_iadd C dL_arm_39 ?_
  refine g_idiv C hw.1 dL_arm_40 ?_
  replace hw := hw.2
  refine g_istore C [(7, .int (((v3 * r4) - ((v3 * r4) - (v3 * r4) / (r2 + r4) * (r2 + r4))) / (r2 + r4))), (6, .int r4), (5, .int r2), (0, .ref (A q)), (1, .int v1), (2, .int v2), (3, .int v3), (4, .int v4)] F.2.2.2.1 (by decide) rfl dL_arm_41 ?_
  refine g_iload_n C 4 rfl rfl dL_arm_43 ?_
  refine g_if_ne C 52 (by decide) hw dL_arm_44 (fun hw => ?_) (fun hw => ?_)
  · refine g_iload_n C 6 rfl rfl dL_arm_52 ?_
    refine g_iload C 0 rfl dL_arm_53 ?_
    refine g_isub C dL_arm_55 ?_
    exact gq_I C F (by decide) (by decide) hw dL_arm_56
  · refine g_iload C 0 rfl dL_arm_47 ?_
    refine g_goto C 56 (by decide) dL_arm_49 ?_
    exact gq_I C F (by decide) (by decide) hw dL_arm_56
end
section
set_option maxHeartbeats 4000000 in
set_option maxRecDepth 100000 in
theorem c_L_floor (l : Launch) (D : va_G) (cy : Nat → ClassId) (A : Nat → Nat) {σ : St} {q : Nat} (hq : isQ q) {v1 : Int32} {v2 : Int32} {v3 : Int32} {v4 : Int32} {Φ : Int32 → St → Prop} (hw : wL_floor σ q v1 v2 v3 v4 Φ) : CtI l yL_floor (.code yL_floor cL_floor 6 (some .int) :: gL) rm_L_floor 0 0 [.ref (A q), .int v1, .int v2, .int v3, .int v4] D cy A σ Φ := by
  refine ct_any (fun sz => va_Qi Φ (HE D cy A (gZ cy A σ sz)) (gZ cy A σ sz)) (by decide +kernel) rfl rfl [(0, .ref (A q)), (1, .int v1), (2, .int v2), (3, .int v3), (4, .int v4)] rfl (Nat.le_of_ble_eq_true rfl) ?_
  intro κ hκl hnm C hK sz F
  subst hκl
  unfold wL_floor at hw
  refine g_aload_n C 0 rfl rfl dL_floor_0 ?_
  refine g_iload_n C 3 rfl rfl dL_floor_1 ?_
  refine gc_I C (gr_S (As := [.ref (A q), .int v3]) (rest := []) C hK 2 (gd_S wt_420 wt_421 wt_0 wt_422) rfl rfl rfl hs_L_turns ⟨⟨Nat.le_of_ble_eq_true rfl, Nat.le_of_ble_eq_true rfl⟩, Nat.le_of_ble_eq_true rfl, Nat.le_of_ble_eq_true rfl⟩ rfl rfl (Nat.le_of_ble_eq_true rfl) dL_floor_2 (c_L_turns (q_l κ) (q_D κ) cy A hq hw)) (fun r2 σ1 hw => ?_)
  refine g_istore C [(5, .int r2), (0, .ref (A q)), (1, .int v1), (2, .int v2), (3, .int v3), (4, .int v4)] F.2.2.2.1 (by decide) rfl dL_floor_5 ?_
  refine g_iload C 0 rfl dL_floor_7 ?_
  refine g_aload_n C 1 rfl rfl dL_floor_9 ?_
  refine g_iload_n C 2 rfl rfl dL_floor_10 ?_
  refine g_iload_n C 3 rfl rfl dL_floor_11 ?_
  refine g_iload_n C 4 rfl rfl dL_floor_12 ?_
  refine g_iload C 5 rfl dL_floor_13 ?_
  refine gc_I C (gr_S (As := [.ref (A q), .int v1, .int v2, .int v3, .int v4]) (rest := [.int r2]) C hK 5 (gd_S wt_432 wt_433 wt_0 wt_434) rfl rfl rfl hs_L_arm ⟨⟨Nat.le_of_ble_eq_true rfl, Nat.le_of_ble_eq_true rfl⟩, Nat.le_of_ble_eq_true rfl, Nat.le_of_ble_eq_true rfl⟩ rfl rfl (Nat.le_of_ble_eq_true rfl) dL_floor_15 (c_L_arm (q_l κ) (q_D κ) cy A hq hw)) (fun r4 σ3 hw => ?_)
  refine g_imul C dL_floor_18 ?_
  refine g_iload C 0 rfl dL_floor_19 ?_
  refine g_imul C dL_floor_21 ?_
  exact gq_I C F (by decide) (by decide) hw dL_floor_22
set_option maxHeartbeats 4000000 in
set_option maxRecDepth 100000 in
theorem c_L_strain (l : Launch) (D : va_G) (cy : Nat → ClassId) (A : Nat → Nat) {σ : St} {q : Nat} (hq : isQ q) {v1 : Int32} {v2 : Int32} {Φ : Int32 → St → Prop} (hw : wL_strain σ q v1 v2 Φ) : CtI l yL_strain (.code yL_strain cL_strain 3 (some .int) :: gL) rm_L_strain 0 0 [.ref (A q), .int v1, .int v2] D cy A σ Φ := by
  refine ct_any (fun sz => va_Qi Φ (HE D cy A (gZ cy A σ sz)) (gZ cy A σ sz)) (by decide +kernel) rfl rfl [(0, .ref (A q)), (1, .int v1), (2, .int v2)] rfl (Nat.le_of_ble_eq_true rfl) ?_
  intro κ hκl hnm C hK sz F
  subst hκl
  unfold wL_strain at hw
  refine g_aload_n C 0 rfl rfl dL_strain_0 ?_
  refine g_iconst (v := (0 : Int32)) C dL_strain_1 (by decide) ?_
  refine g_iconst (v := (0 : Int32)) C dL_strain_2 (by decide) ?_
  refine g_iload_n C 1 rfl rfl dL_strain_3 ?_
  refine g_iload_n C 2 rfl rfl dL_strain_4 ?_
  refine gc_I C (gr_S (As := [.ref (A q), .int (0 : Int32), .int (0 : Int32), .int v1, .int v2]) (rest := []) C hK 5 (gd_S wt_429 wt_430 wt_0 wt_431) rfl rfl rfl hs_L_floor ⟨⟨Nat.le_of_ble_eq_true rfl, Nat.le_of_ble_eq_true rfl⟩, Nat.le_of_ble_eq_true rfl, Nat.le_of_ble_eq_true rfl⟩ rfl rfl (Nat.le_of_ble_eq_true rfl) dL_strain_5 (c_L_floor (q_l κ) (q_D κ) cy A hq hw)) (fun r2 σ1 hw => ?_)
  refine g_aload_n C 0 rfl rfl dL_strain_8 ?_
  refine g_iconst (v := (0 : Int32)) C dL_strain_9 (by decide) ?_
  refine g_iconst (v := (0 : Int32)) C dL_strain_10 (by decide) ?_
  refine g_iload_n C 2 rfl rfl dL_strain_11 ?_
  refine gc_I C (gr_S (As := [.ref (A q), .int (0 : Int32), .int (0 : Int32), .int v2]) (rest := [.int r2]) C hK 4 (gd_S wt_435 wt_436 wt_0 wt_437) rfl rfl rfl hs_L_cabin ⟨⟨Nat.le_of_ble_eq_true rfl, Nat.le_of_ble_eq_true rfl⟩, Nat.le_of_ble_eq_true rfl, Nat.le_of_ble_eq_true rfl⟩ rfl rfl (Nat.le_of_ble_eq_true rfl) dL_strain_12 (c_L_cabin (q_l κ) (q_D κ) cy A hq hw)) (fun r4 σ3 hw => ?_)
  refine g_imul C dL_strain_15 ?_
  refine g_bipush (v := (100 : Int32)) C dL_strain_16 (by decide) ?_
  refine g_idiv C hw.1 dL_strain_18 ?_
  replace hw := hw.2
  exact gq_I C F (by decide) (by decide) hw dL_strain_19
set_option maxHeartbeats 4000000 in
set_option maxRecDepth 100000 in
theorem c_L_hour (l : Launch) (D : va_G) (cy : Nat → ClassId) (A : Nat → Nat) {σ : St} {q : Nat} (hq : isQ q) {v1 : Int32} {Φ : Int32 → St → Prop} (hw : wL_hour σ q v1 Φ) : CtI l yL_hour (.code yL_hour cL_hour 2 (some .int) :: gL) rm_L_hour 0 0 [.ref (A q), .int v1] D cy A σ Φ := by
  refine ct_any (fun sz => va_Qi Φ (HE D cy A (gZ cy A σ sz)) (gZ cy A σ sz)) (by decide +kernel) rfl rfl [(0, .ref (A q)), (1, .int v1)] rfl (Nat.le_of_ble_eq_true rfl) ?_
  intro κ hκl hnm C hK sz F
  subst hκl
  have J57 : ∀ (σ : St) (s0 : Int32) (s1 : Int32), wL_hour_57 q Φ σ s0 s1 → GW κ 0 0 (gW cy A σ) 57 [(0, .ref (A q))] [.int s0, .int s1, .ref (A q)] := by
    intro σ s0 s1 hw
    unfold wL_hour_57 at hw
    refine g_iast C hK q 2 (ga_q cy A _ hq) rfl hw.1 (gs_q cy A _ _ _ hq) dL_hour_57 ?_
    replace hw := hw.2
    refine g_aload_n C 0 rfl rfl dL_hour_58 ?_
    refine g_bipush (v := (6 : Int32)) C dL_hour_59 (by decide) ?_
    refine g_iald C hK q 2 (ga_q cy A _ hq) rfl hw.1 dL_hour_61 ?_
    replace hw := hw.2
    refine g_iconst (v := (1 : Int32)) C dL_hour_62 (by decide) ?_
    refine g_icmp_ne C 70 (by decide) hw dL_hour_63 (fun hw => ?_) (fun hw => ?_)
    · refine g_aload_n C 0 rfl rfl dL_hour_70 ?_
      refine g_iconst (v := (0 : Int32)) C dL_hour_71 (by decide) ?_
      refine g_iald C hK q 2 (ga_q cy A _ hq) rfl hw.1 dL_hour_72 ?_
      replace hw := hw.2
      exact gq_I C F (by decide) (by decide) hw dL_hour_73
    · refine g_iconst (v := (-1 : Int32)) C dL_hour_66 (by decide) ?_
      refine g_goto C 73 (by decide) dL_hour_67 ?_
      exact gq_I C F (by decide) (by decide) hw dL_hour_73
  unfold wL_hour at hw
  refine g_aload_n C 0 rfl rfl dL_hour_0 ?_
  refine g_iconst (v := (0 : Int32)) C dL_hour_1 (by decide) ?_
  refine g_dup2 C rfl rfl dL_hour_2 ?_
  refine g_iald C hK q 2 (ga_q cy A _ hq) rfl hw.1 dL_hour_3 ?_
  replace hw := hw.2
  refine g_iload_n C 1 rfl rfl dL_hour_4 ?_
  refine g_isub C dL_hour_5 ?_
  refine g_iast C hK q 2 (ga_q cy A _ hq) rfl hw.1 (gs_q cy A _ _ _ hq) dL_hour_6 ?_
  replace hw := hw.2
  refine g_aload_n C 0 rfl rfl dL_hour_7 ?_
  refine g_iconst (v := (5 : Int32)) C dL_hour_8 (by decide) ?_
  refine g_dup2 C rfl rfl dL_hour_9 ?_
  refine g_iald C hK q 2 (ga_q cy A _ hq) rfl hw.1 dL_hour_10 ?_
  replace hw := hw.2
  refine g_iconst (v := (1 : Int32)) C dL_hour_11 (by decide) ?_
  refine g_iadd C dL_hour_12 ?_
  refine g_iast C hK q 2 (ga_q cy A _ hq) rfl hw.1 (gs_q cy A _ _ _ hq) dL_hour_13 ?_
  replace hw := hw.2
  refine g_aload_n C 0 rfl rfl dL_hour_14 ?_
  refine g_iconst (v := (4 : Int32)) C dL_hour_15 (by decide) ?_
  refine g_aload_n C 0 rfl rfl dL_hour_16 ?_
  refine g_iconst (v := (4 : Int32)) C dL_hour_17 (by decide) ?_
  refine g_iald C hK q 2 (ga_q cy A _ hq) rfl hw.1 dL_hour_18 ?_
  replace hw := hw.2
  refine g_aload_n C 0 rfl rfl dL_hour_19 ?_
  refine g_aload_n C 0 rfl rfl dL_hour_20 ?_
  refine g_iconst (v := (0 : Int32)) C dL_hour_21 (by decide) ?_
  refine g_iald C hK q 2 (ga_q cy A _ hq) rfl hw.1 dL_hour_22 ?_
  replace hw := hw.2
  refine gc_I C (gr_S (As := [.ref (A q), .int ((sV (sV σ q (0 : Int32).toNatClampNeg ((σ.1 q (0 : Int32).toNatClampNeg) - v1)) q (5 : Int32).toNatClampNeg (((sV σ q (0 : Int32).toNatClampNeg ((σ.1 q (0 : Int32).toNatClampNeg) - v1)).1 q (5 : Int32).toNatClampNeg) + (1 : Int32))).1 q (0 : Int32).toNatClampNeg)]) (rest := [.int ((sV (sV σ q (0 : Int32).toNatClampNeg ((σ.1 q (0 : Int32).toNatClampNeg) - v1)) q (5 : Int32).toNatClampNeg (((sV σ q (0 : Int32).toNatClampNeg ((σ.1 q (0 : Int32).toNatClampNeg) - v1)).1 q (5 : Int32).toNatClampNeg) + (1 : Int32))).1 q (4 : Int32).toNatClampNeg), .int (4 : Int32), .ref (A q)]) C hK 2 (gd_S wt_420 wt_421 wt_0 wt_422) rfl rfl rfl hs_L_turns ⟨⟨Nat.le_of_ble_eq_true rfl, Nat.le_of_ble_eq_true rfl⟩, Nat.le_of_ble_eq_true rfl, Nat.le_of_ble_eq_true rfl⟩ rfl rfl (Nat.le_of_ble_eq_true rfl) dL_hour_23 (c_L_turns (q_l κ) (q_D κ) cy A hq hw)) (fun r2 σ1 hw => ?_)
  refine g_bipush (v := (10 : Int32)) C dL_hour_26 (by decide) ?_
  refine g_imul C dL_hour_28 ?_
  refine g_iadd C dL_hour_29 ?_
  refine g_sipush (v := (360 : Int32)) C dL_hour_30 (by decide) ?_
  refine g_irem C hw.1 dL_hour_33 ?_
  replace hw := hw.2
  refine g_iast C hK q 2 (ga_q cy A _ hq) rfl hw.1 (gs_q cy A _ _ _ hq) dL_hour_34 ?_
  replace hw := hw.2
  refine g_aload_n C 0 rfl rfl dL_hour_35 ?_
  refine g_bipush (v := (6 : Int32)) C dL_hour_36 (by decide) ?_
  refine g_aload_n C 0 rfl rfl dL_hour_38 ?_
  refine g_aload_n C 0 rfl rfl dL_hour_39 ?_
  refine g_iconst (v := (0 : Int32)) C dL_hour_40 (by decide) ?_
  refine g_iald C hK q 2 (ga_q cy A _ hq) rfl hw.1 dL_hour_41 ?_
  replace hw := hw.2
  refine g_iconst (v := (0 : Int32)) C dL_hour_42 (by decide) ?_
  refine gc_I C (gr_S (As := [.ref (A q), .int ((sV σ1 q (4 : Int32).toNatClampNeg ((((sV (sV σ q (0 : Int32).toNatClampNeg ((σ.1 q (0 : Int32).toNatClampNeg) - v1)) q (5 : Int32).toNatClampNeg (((sV σ q (0 : Int32).toNatClampNeg ((σ.1 q (0 : Int32).toNatClampNeg) - v1)).1 q (5 : Int32).toNatClampNeg) + (1 : Int32))).1 q (4 : Int32).toNatClampNeg) + (r2 * (10 : Int32))) - (((sV (sV σ q (0 : Int32).toNatClampNeg ((σ.1 q (0 : Int32).toNatClampNeg) - v1)) q (5 : Int32).toNatClampNeg (((sV σ q (0 : Int32).toNatClampNeg ((σ.1 q (0 : Int32).toNatClampNeg) - v1)).1 q (5 : Int32).toNatClampNeg) + (1 : Int32))).1 q (4 : Int32).toNatClampNeg) + (r2 * (10 : Int32))) / (360 : Int32) * (360 : Int32))).1 q (0 : Int32).toNatClampNeg), .int (0 : Int32)]) (rest := [.int (6 : Int32), .ref (A q)]) C hK 3 (gd_S wt_426 wt_427 wt_0 wt_428) rfl rfl rfl hs_L_strain ⟨⟨Nat.le_of_ble_eq_true rfl, Nat.le_of_ble_eq_true rfl⟩, Nat.le_of_ble_eq_true rfl, Nat.le_of_ble_eq_true rfl⟩ rfl rfl (Nat.le_of_ble_eq_true rfl) dL_hour_43 (c_L_strain (q_l κ) (q_D κ) cy A hq hw)) (fun r4 σ3 hw => ?_)
  refine g_aload_n C 0 rfl rfl dL_hour_46 ?_
  refine g_iconst (v := (2 : Int32)) C dL_hour_47 (by decide) ?_
  refine g_iald C hK q 2 (ga_q cy A _ hq) rfl hw.1 dL_hour_48 ?_
  replace hw := hw.2
  refine g_icmp_le C 56 (by decide) hw dL_hour_49 (fun hw => ?_) (fun hw => ?_)
  · refine g_iconst (v := (0 : Int32)) C dL_hour_56 (by decide) ?_
    refine g_eql (lv' := [(0, .ref (A q))]) [0] rfl ?_
    exact J57 σ3 (0 : Int32) (6 : Int32) hw
  · refine g_iconst (v := (1 : Int32)) C dL_hour_52 (by decide) ?_
    refine g_goto C 57 (by decide) dL_hour_53 ?_
    refine g_eql (lv' := [(0, .ref (A q))]) [0] rfl ?_
    exact J57 σ3 (1 : Int32) (6 : Int32) hw
set_option maxHeartbeats 4000000 in
set_option maxRecDepth 100000 in
theorem c_L_told (l : Launch) (D : va_G) (cy : Nat → ClassId) (A : Nat → Nat) {σ : St} {q : Nat} (hq : isQ q) {Φ : Int32 → St → Prop} (hw : wL_told σ q Φ) : CtI l yL_told (.code yL_told cL_told 5 (some .boolean) :: gL) rm_L_told 0 0 [.ref (A 0), .ref (A q)] D cy A σ Φ := by
  refine ct_any (fun sz => va_Qi Φ (HE D cy A (gZ cy A σ sz)) (gZ cy A σ sz)) (by decide +kernel) rfl rfl [(0, .ref (A 0)), (1, .ref (A q))] rfl (Nat.le_of_ble_eq_true rfl) ?_
  intro κ hκl hnm C hK sz F
  subst hκl
  have J381 : ∀ (K281 : St → Int32 → Int32 → Int32 → Prop) (_ : ∀ (σ : St) (v2 : Int32) (v3 : Int32) (v4 : Int32), K281 σ v2 v3 v4 → GW κ 0 0 (gW cy A σ) 281 [(0, .ref (A 0)), (1, .ref (A q)), (2, .int v2), (3, .int v3), (4, .int v4)] []), ∀ (σ : St) (v3 : Int32) (v4 : Int32) (s0 : Int32), wL_told_381 q K281 Φ σ v3 v4 s0 → GW κ 0 0 (gW cy A σ) 381 [(0, .ref (A 0)), (1, .ref (A q)), (3, .int v3), (4, .int v4)] [.int s0] := by
    intro K281 hK281 σ v3 v4 s0 hw
    unfold wL_told_381 at hw
    refine g_istore_n C [(2, .int s0), (0, .ref (A 0)), (1, .ref (A q)), (3, .int v3), (4, .int v4)] F.2.2.2.1 rfl (by decide) rfl dL_told_381 ?_
    refine g_iinc (j := 4) C [(4, .int (v4 + 1)), (2, .int s0), (0, .ref (A 0)), (1, .ref (A q)), (3, .int v3)] F.2.2.2.1 rfl rfl (by decide) rfl dL_told_382 ?_
    refine g_goto C 281 (by decide) dL_told_385 ?_
    refine g_eql (lv' := [(0, .ref (A 0)), (1, .ref (A q)), (2, .int s0), (3, .int v3), (4, .int (v4 + 1))]) [2, 3, 1, 4, 0] rfl ?_
    exact hK281 σ s0 v3 (v4 + 1) hw
  have J380 : ∀ (K281 : St → Int32 → Int32 → Int32 → Prop) (_ : ∀ (σ : St) (v2 : Int32) (v3 : Int32) (v4 : Int32), K281 σ v2 v3 v4 → GW κ 0 0 (gW cy A σ) 281 [(0, .ref (A 0)), (1, .ref (A q)), (2, .int v2), (3, .int v3), (4, .int v4)] []), ∀ (σ : St) (v3 : Int32) (v4 : Int32), wL_told_380 q K281 Φ σ v3 v4 → GW κ 0 0 (gW cy A σ) 380 [(0, .ref (A 0)), (1, .ref (A q)), (3, .int v3), (4, .int v4)] [] := by
    intro K281 hK281 σ v3 v4 hw
    unfold wL_told_380 at hw
    refine g_iconst (v := (0 : Int32)) C dL_told_380 (by decide) ?_
    exact J381 _ hK281 σ v3 v4 (0 : Int32) hw
  have J373 : ∀ (K281 : St → Int32 → Int32 → Int32 → Prop) (_ : ∀ (σ : St) (v2 : Int32) (v3 : Int32) (v4 : Int32), K281 σ v2 v3 v4 → GW κ 0 0 (gW cy A σ) 281 [(0, .ref (A 0)), (1, .ref (A q)), (2, .int v2), (3, .int v3), (4, .int v4)] []), ∀ (σ : St) (v3 : Int32) (v4 : Int32) (s0 : Int32) (s1 : Int32), wL_told_373 q K281 Φ σ v3 v4 s0 s1 → GW κ 0 0 (gW cy A σ) 373 [(0, .ref (A 0)), (1, .ref (A q)), (3, .int v3), (4, .int v4)] [.int s0, .int s1] := by
    intro K281 hK281 σ v3 v4 s0 s1 hw
    unfold wL_told_373 at hw
    refine g_icmp_ne C 380 (by decide) hw dL_told_373 (fun hw => ?_) (fun hw => ?_)
    · exact J380 _ hK281 σ v3 v4 hw
    · refine g_iconst (v := (1 : Int32)) C dL_told_376 (by decide) ?_
      refine g_goto C 381 (by decide) dL_told_377 ?_
      exact J381 _ hK281 σ v3 v4 (1 : Int32) hw
  have J281 : ∀ (n : Nat) (σ : St) (v2 : Int32) (v3 : Int32) (v4 : Int32), wL_told_281 q Φ n σ v2 v3 v4 → GW κ 0 0 (gW cy A σ) 281 [(0, .ref (A 0)), (1, .ref (A q)), (2, .int v2), (3, .int v3), (4, .int v4)] [] := by
    intro n
    induction n with
    | zero => intro σ v2 v3 v4 hw; exact hw.elim
    | succ n ih =>
      intro σ v2 v3 v4 hw
      rw [wL_told_281] at hw
      refine g_iload C 4 rfl dL_told_281 ?_
      refine g_iconst (v := (2 : Int32)) C dL_told_283 (by decide) ?_
      refine g_icmp_ge C 388 (by decide) hw dL_told_284 (fun hw => ?_) (fun hw => ?_)
      · refine g_iload_n C 2 rfl rfl dL_told_388 ?_
        exact gq_Z C F (by decide) (by decide) hw dL_told_389
      · refine g_iload_n C 2 rfl rfl dL_told_287 ?_
        refine g_if_eq C 380 (by decide) hw dL_told_288 (fun hw => ?_) (fun hw => ?_)
        · refine g_eql (lv' := [(0, .ref (A 0)), (1, .ref (A q)), (3, .int v3), (4, .int v4)]) [0, 1, 3, 4] rfl ?_
          exact J380 _ ih σ v3 v4 hw
        · refine g_aload_n C 0 rfl rfl dL_told_291 ?_
          refine g_iload C 4 rfl dL_told_292 ?_
          refine g_iconst (v := (0 : Int32)) C dL_told_294 (by decide) ?_
          refine gc_I C (gr_V (As := [.int v4, .int (0 : Int32)]) (rest := []) C hK 2 (gd_V wt_95 wt_96 wt_97 wt_1 wt_98) rfl rfl rfl ⟨rfl, hs_X11_cabin⟩ ⟨⟨Nat.le_of_ble_eq_true rfl, Nat.le_of_ble_eq_true rfl⟩, Nat.le_of_ble_eq_true rfl, Nat.le_of_ble_eq_true rfl⟩ rfl 0 (ga_0 cy A _) rfl rfl (Nat.le_of_ble_eq_true rfl) dL_told_295 (c_X11_cabin (q_l κ) (q_D κ) cy A hw)) (fun r38 σ37 hw => ?_)
          refine g_aload_n C 1 rfl rfl dL_told_298 ?_
          refine g_iload C 4 rfl dL_told_299 ?_
          refine g_iconst (v := (0 : Int32)) C dL_told_301 (by decide) ?_
          refine g_iconst (v := (0 : Int32)) C dL_told_302 (by decide) ?_
          refine gc_I C (gr_S (As := [.ref (A q), .int v4, .int (0 : Int32), .int (0 : Int32)]) (rest := [.int r38]) C hK 4 (gd_S wt_435 wt_436 wt_0 wt_437) rfl rfl rfl hs_L_cabin ⟨⟨Nat.le_of_ble_eq_true rfl, Nat.le_of_ble_eq_true rfl⟩, Nat.le_of_ble_eq_true rfl, Nat.le_of_ble_eq_true rfl⟩ rfl rfl (Nat.le_of_ble_eq_true rfl) dL_told_303 (c_L_cabin (q_l κ) (q_D κ) cy A hq hw)) (fun r40 σ39 hw => ?_)
          refine g_icmp_ne C 380 (by decide) hw dL_told_306 (fun hw => ?_) (fun hw => ?_)
          · refine g_eql (lv' := [(0, .ref (A 0)), (1, .ref (A q)), (3, .int v3), (4, .int v4)]) [0, 1, 3, 4] rfl ?_
            exact J380 _ ih σ39 v3 v4 hw
          · refine g_aload_n C 0 rfl rfl dL_told_309 ?_
            refine g_iload C 4 rfl dL_told_310 ?_
            refine g_iconst (v := (1 : Int32)) C dL_told_312 (by decide) ?_
            refine gc_I C (gr_V (As := [.int v4, .int (1 : Int32)]) (rest := []) C hK 2 (gd_V wt_95 wt_96 wt_97 wt_1 wt_98) rfl rfl rfl ⟨rfl, hs_X11_cabin⟩ ⟨⟨Nat.le_of_ble_eq_true rfl, Nat.le_of_ble_eq_true rfl⟩, Nat.le_of_ble_eq_true rfl, Nat.le_of_ble_eq_true rfl⟩ rfl 0 (ga_0 cy A _) rfl rfl (Nat.le_of_ble_eq_true rfl) dL_told_313 (c_X11_cabin (q_l κ) (q_D κ) cy A hw)) (fun r42 σ41 hw => ?_)
            refine g_aload_n C 1 rfl rfl dL_told_316 ?_
            refine g_iload C 4 rfl dL_told_317 ?_
            refine g_iconst (v := (0 : Int32)) C dL_told_319 (by decide) ?_
            refine g_aload_n C 1 rfl rfl dL_told_320 ?_
            refine g_iconst (v := (0 : Int32)) C dL_told_321 (by decide) ?_
            refine g_iald C hK q 2 (ga_q cy A _ hq) rfl hw.1 dL_told_322 ?_
            replace hw := hw.2
            refine g_iconst (v := (0 : Int32)) C dL_told_323 (by decide) ?_
            refine gc_I C (gr_S (As := [.ref (A q), .int v4, .int (0 : Int32), .int (σ41.1 q (0 : Int32).toNatClampNeg), .int (0 : Int32)]) (rest := [.int r42]) C hK 5 (gd_S wt_432 wt_433 wt_0 wt_434) rfl rfl rfl hs_L_arm ⟨⟨Nat.le_of_ble_eq_true rfl, Nat.le_of_ble_eq_true rfl⟩, Nat.le_of_ble_eq_true rfl, Nat.le_of_ble_eq_true rfl⟩ rfl rfl (Nat.le_of_ble_eq_true rfl) dL_told_324 (c_L_arm (q_l κ) (q_D κ) cy A hq hw)) (fun r44 σ43 hw => ?_)
            refine g_icmp_ne C 380 (by decide) hw dL_told_327 (fun hw => ?_) (fun hw => ?_)
            · refine g_eql (lv' := [(0, .ref (A 0)), (1, .ref (A q)), (3, .int v3), (4, .int v4)]) [0, 1, 3, 4] rfl ?_
              exact J380 _ ih σ43 v3 v4 hw
            · refine g_aload_n C 0 rfl rfl dL_told_330 ?_
              refine g_iload C 4 rfl dL_told_331 ?_
              refine g_iconst (v := (2 : Int32)) C dL_told_333 (by decide) ?_
              refine gc_I C (gr_V (As := [.int v4, .int (2 : Int32)]) (rest := []) C hK 2 (gd_V wt_95 wt_96 wt_97 wt_1 wt_98) rfl rfl rfl ⟨rfl, hs_X11_cabin⟩ ⟨⟨Nat.le_of_ble_eq_true rfl, Nat.le_of_ble_eq_true rfl⟩, Nat.le_of_ble_eq_true rfl, Nat.le_of_ble_eq_true rfl⟩ rfl 0 (ga_0 cy A _) rfl rfl (Nat.le_of_ble_eq_true rfl) dL_told_334 (c_X11_cabin (q_l κ) (q_D κ) cy A hw)) (fun r46 σ45 hw => ?_)
              refine g_aload_n C 1 rfl rfl dL_told_337 ?_
              refine g_iload C 4 rfl dL_told_338 ?_
              refine g_iconst (v := (0 : Int32)) C dL_told_340 (by decide) ?_
              refine g_aload_n C 1 rfl rfl dL_told_341 ?_
              refine g_iconst (v := (0 : Int32)) C dL_told_342 (by decide) ?_
              refine g_iald C hK q 2 (ga_q cy A _ hq) rfl hw.1 dL_told_343 ?_
              replace hw := hw.2
              refine g_iconst (v := (0 : Int32)) C dL_told_344 (by decide) ?_
              refine gc_I C (gr_S (As := [.ref (A q), .int v4, .int (0 : Int32), .int (σ45.1 q (0 : Int32).toNatClampNeg), .int (0 : Int32)]) (rest := [.int r46]) C hK 5 (gd_S wt_429 wt_430 wt_0 wt_431) rfl rfl rfl hs_L_floor ⟨⟨Nat.le_of_ble_eq_true rfl, Nat.le_of_ble_eq_true rfl⟩, Nat.le_of_ble_eq_true rfl, Nat.le_of_ble_eq_true rfl⟩ rfl rfl (Nat.le_of_ble_eq_true rfl) dL_told_345 (c_L_floor (q_l κ) (q_D κ) cy A hq hw)) (fun r48 σ47 hw => ?_)
              refine g_icmp_ne C 380 (by decide) hw dL_told_348 (fun hw => ?_) (fun hw => ?_)
              · refine g_eql (lv' := [(0, .ref (A 0)), (1, .ref (A q)), (3, .int v3), (4, .int v4)]) [0, 1, 3, 4] rfl ?_
                exact J380 _ ih σ47 v3 v4 hw
              · refine g_aload_n C 0 rfl rfl dL_told_351 ?_
                refine g_iload C 4 rfl dL_told_352 ?_
                refine g_iconst (v := (3 : Int32)) C dL_told_354 (by decide) ?_
                refine gc_I C (gr_V (As := [.int v4, .int (3 : Int32)]) (rest := []) C hK 2 (gd_V wt_95 wt_96 wt_97 wt_1 wt_98) rfl rfl rfl ⟨rfl, hs_X11_cabin⟩ ⟨⟨Nat.le_of_ble_eq_true rfl, Nat.le_of_ble_eq_true rfl⟩, Nat.le_of_ble_eq_true rfl, Nat.le_of_ble_eq_true rfl⟩ rfl 0 (ga_0 cy A _) rfl rfl (Nat.le_of_ble_eq_true rfl) dL_told_355 (c_X11_cabin (q_l κ) (q_D κ) cy A hw)) (fun r50 σ49 hw => ?_)
                refine g_iload C 4 rfl dL_told_358 ?_
                refine g_if_ne C 367 (by decide) hw dL_told_360 (fun hw => ?_) (fun hw => ?_)
                · refine g_aload_n C 1 rfl rfl dL_told_367 ?_
                  refine g_bipush (v := (7 : Int32)) C dL_told_368 (by decide) ?_
                  refine g_iald C hK q 2 (ga_q cy A _ hq) rfl hw.1 dL_told_370 ?_
                  replace hw := hw.2
                  refine g_iload_n C 3 rfl rfl dL_told_371 ?_
                  refine g_isub C dL_told_372 ?_
                  refine g_eql (lv' := [(0, .ref (A 0)), (1, .ref (A q)), (3, .int v3), (4, .int v4)]) [0, 1, 3, 4] rfl ?_
                  exact J373 _ ih σ49 v3 v4 ((σ49.1 q (7 : Int32).toNatClampNeg) - v3) r50 hw
                · refine g_iload_n C 3 rfl rfl dL_told_363 ?_
                  refine g_goto C 373 (by decide) dL_told_364 ?_
                  refine g_eql (lv' := [(0, .ref (A 0)), (1, .ref (A q)), (3, .int v3), (4, .int v4)]) [0, 1, 3, 4] rfl ?_
                  exact J373 _ ih σ49 v3 v4 v3 r50 hw
  have J271 : ∀ (K136 : St → Int32 → Int32 → Int32 → Prop) (_ : ∀ (σ : St) (v2 : Int32) (v3 : Int32) (v4 : Int32), K136 σ v2 v3 v4 → GW κ 0 0 (gW cy A σ) 136 [(0, .ref (A 0)), (1, .ref (A q)), (2, .int v2), (3, .int v3), (4, .int v4)] []), ∀ (σ : St) (v3 : Int32) (v4 : Int32) (s0 : Int32), wL_told_271 q K136 Φ σ v3 v4 s0 → GW κ 0 0 (gW cy A σ) 271 [(0, .ref (A 0)), (1, .ref (A q)), (3, .int v3), (4, .int v4)] [.int s0] := by
    intro K136 hK136 σ v3 v4 s0 hw
    unfold wL_told_271 at hw
    refine g_istore_n C [(2, .int s0), (0, .ref (A 0)), (1, .ref (A q)), (3, .int v3), (4, .int v4)] F.2.2.2.1 rfl (by decide) rfl dL_told_271 ?_
    refine g_iinc (j := 4) C [(4, .int (v4 + 1)), (2, .int s0), (0, .ref (A 0)), (1, .ref (A q)), (3, .int v3)] F.2.2.2.1 rfl rfl (by decide) rfl dL_told_272 ?_
    refine g_goto C 136 (by decide) dL_told_275 ?_
    refine g_eql (lv' := [(0, .ref (A 0)), (1, .ref (A q)), (2, .int s0), (3, .int v3), (4, .int (v4 + 1))]) [2, 3, 1, 4, 0] rfl ?_
    exact hK136 σ s0 v3 (v4 + 1) hw
  have J270 : ∀ (K136 : St → Int32 → Int32 → Int32 → Prop) (_ : ∀ (σ : St) (v2 : Int32) (v3 : Int32) (v4 : Int32), K136 σ v2 v3 v4 → GW κ 0 0 (gW cy A σ) 136 [(0, .ref (A 0)), (1, .ref (A q)), (2, .int v2), (3, .int v3), (4, .int v4)] []), ∀ (σ : St) (v3 : Int32) (v4 : Int32), wL_told_270 q K136 Φ σ v3 v4 → GW κ 0 0 (gW cy A σ) 270 [(0, .ref (A 0)), (1, .ref (A q)), (3, .int v3), (4, .int v4)] [] := by
    intro K136 hK136 σ v3 v4 hw
    unfold wL_told_270 at hw
    refine g_iconst (v := (0 : Int32)) C dL_told_270 (by decide) ?_
    exact J271 _ hK136 σ v3 v4 (0 : Int32) hw
  have J163 : ∀ (K136 : St → Int32 → Int32 → Int32 → Prop) (_ : ∀ (σ : St) (v2 : Int32) (v3 : Int32) (v4 : Int32), K136 σ v2 v3 v4 → GW κ 0 0 (gW cy A σ) 136 [(0, .ref (A 0)), (1, .ref (A q)), (2, .int v2), (3, .int v3), (4, .int v4)] []), ∀ (σ : St) (v2 : Int32) (v4 : Int32) (s0 : Int32) (s1 : Int32), wL_told_163 q K136 Φ σ v2 v4 s0 s1 → GW κ 0 0 (gW cy A σ) 163 [(0, .ref (A 0)), (1, .ref (A q)), (2, .int v2), (4, .int v4)] [.int s0, .int s1] := by
    intro K136 hK136 σ v2 v4 s0 s1 hw
    unfold wL_told_163 at hw
    refine g_iadd C dL_told_163 ?_
    refine g_istore_n C [(3, .int (s1 + s0)), (0, .ref (A 0)), (1, .ref (A q)), (2, .int v2), (4, .int v4)] F.2.2.2.1 rfl (by decide) rfl dL_told_164 ?_
    refine g_iload_n C 3 rfl rfl dL_told_165 ?_
    refine g_if_eq C 270 (by decide) hw dL_told_166 (fun hw => ?_) (fun hw => ?_)
    · refine g_eql (lv' := [(0, .ref (A 0)), (1, .ref (A q)), (3, .int (s1 + s0)), (4, .int v4)]) [1, 2, 0, 4] rfl ?_
      exact J270 _ hK136 σ (s1 + s0) v4 hw
    · refine g_aload_n C 1 rfl rfl dL_told_169 ?_
      refine g_iload C 4 rfl dL_told_170 ?_
      refine g_iconst (v := (0 : Int32)) C dL_told_172 (by decide) ?_
      refine gc_I C (gr_V (As := [.int v4, .int (0 : Int32)]) (rest := []) C hK 2 (gd_V wt_154 wt_155 wt_156 wt_1 wt_157) rfl rfl rfl ⟨rfl, hs_X11_about⟩ ⟨⟨Nat.le_of_ble_eq_true rfl, Nat.le_of_ble_eq_true rfl⟩, Nat.le_of_ble_eq_true rfl, Nat.le_of_ble_eq_true rfl⟩ rfl 0 (ga_0 cy A _) rfl rfl (Nat.le_of_ble_eq_true rfl) dL_told_173 (c_X11_about (q_l κ) (q_D κ) cy A hw)) (fun r26 σ25 hw => ?_)
      refine g_aload_n C 2 rfl rfl dL_told_176 ?_
      refine g_bipush (v := (8 : Int32)) C dL_told_177 (by decide) ?_
      refine g_iconst (v := (4 : Int32)) C dL_told_179 (by decide) ?_
      refine g_iload C 4 rfl dL_told_180 ?_
      refine g_imul C dL_told_182 ?_
      refine g_iadd C dL_told_183 ?_
      refine g_iald C hK q 2 (ga_q cy A _ hq) rfl hw.1 dL_told_184 ?_
      replace hw := hw.2
      refine g_icmp_ne C 270 (by decide) hw dL_told_185 (fun hw => ?_) (fun hw => ?_)
      · refine g_eql (lv' := [(0, .ref (A 0)), (1, .ref (A q)), (3, .int (s1 + s0)), (4, .int v4)]) [1, 2, 0, 4] rfl ?_
        exact J270 _ hK136 σ25 (s1 + s0) v4 hw
      · refine g_aload_n C 1 rfl rfl dL_told_188 ?_
        refine g_iload C 4 rfl dL_told_189 ?_
        refine g_iconst (v := (1 : Int32)) C dL_told_191 (by decide) ?_
        refine gc_I C (gr_V (As := [.int v4, .int (1 : Int32)]) (rest := []) C hK 2 (gd_V wt_154 wt_155 wt_156 wt_1 wt_157) rfl rfl rfl ⟨rfl, hs_X11_about⟩ ⟨⟨Nat.le_of_ble_eq_true rfl, Nat.le_of_ble_eq_true rfl⟩, Nat.le_of_ble_eq_true rfl, Nat.le_of_ble_eq_true rfl⟩ rfl 0 (ga_0 cy A _) rfl rfl (Nat.le_of_ble_eq_true rfl) dL_told_192 (c_X11_about (q_l κ) (q_D κ) cy A hw)) (fun r28 σ27 hw => ?_)
        refine g_aload_n C 2 rfl rfl dL_told_195 ?_
        refine g_bipush (v := (9 : Int32)) C dL_told_196 (by decide) ?_
        refine g_iconst (v := (4 : Int32)) C dL_told_198 (by decide) ?_
        refine g_iload C 4 rfl dL_told_199 ?_
        refine g_imul C dL_told_201 ?_
        refine g_iadd C dL_told_202 ?_
        refine g_iald C hK q 2 (ga_q cy A _ hq) rfl hw.1 dL_told_203 ?_
        replace hw := hw.2
        refine g_icmp_ne C 270 (by decide) hw dL_told_204 (fun hw => ?_) (fun hw => ?_)
        · refine g_eql (lv' := [(0, .ref (A 0)), (1, .ref (A q)), (3, .int (s1 + s0)), (4, .int v4)]) [1, 2, 0, 4] rfl ?_
          exact J270 _ hK136 σ27 (s1 + s0) v4 hw
        · refine g_aload_n C 1 rfl rfl dL_told_207 ?_
          refine g_iload C 4 rfl dL_told_208 ?_
          refine g_iconst (v := (2 : Int32)) C dL_told_210 (by decide) ?_
          refine gc_I C (gr_V (As := [.int v4, .int (2 : Int32)]) (rest := []) C hK 2 (gd_V wt_154 wt_155 wt_156 wt_1 wt_157) rfl rfl rfl ⟨rfl, hs_X11_about⟩ ⟨⟨Nat.le_of_ble_eq_true rfl, Nat.le_of_ble_eq_true rfl⟩, Nat.le_of_ble_eq_true rfl, Nat.le_of_ble_eq_true rfl⟩ rfl 0 (ga_0 cy A _) rfl rfl (Nat.le_of_ble_eq_true rfl) dL_told_211 (c_X11_about (q_l κ) (q_D κ) cy A hw)) (fun r30 σ29 hw => ?_)
          refine g_aload_n C 2 rfl rfl dL_told_214 ?_
          refine g_bipush (v := (10 : Int32)) C dL_told_215 (by decide) ?_
          refine g_iconst (v := (4 : Int32)) C dL_told_217 (by decide) ?_
          refine g_iload C 4 rfl dL_told_218 ?_
          refine g_imul C dL_told_220 ?_
          refine g_iadd C dL_told_221 ?_
          refine g_iald C hK q 2 (ga_q cy A _ hq) rfl hw.1 dL_told_222 ?_
          replace hw := hw.2
          refine g_icmp_ne C 270 (by decide) hw dL_told_223 (fun hw => ?_) (fun hw => ?_)
          · refine g_eql (lv' := [(0, .ref (A 0)), (1, .ref (A q)), (3, .int (s1 + s0)), (4, .int v4)]) [1, 2, 0, 4] rfl ?_
            exact J270 _ hK136 σ29 (s1 + s0) v4 hw
          · refine g_aload_n C 1 rfl rfl dL_told_226 ?_
            refine g_iload C 4 rfl dL_told_227 ?_
            refine g_iconst (v := (3 : Int32)) C dL_told_229 (by decide) ?_
            refine gc_I C (gr_V (As := [.int v4, .int (3 : Int32)]) (rest := []) C hK 2 (gd_V wt_154 wt_155 wt_156 wt_1 wt_157) rfl rfl rfl ⟨rfl, hs_X11_about⟩ ⟨⟨Nat.le_of_ble_eq_true rfl, Nat.le_of_ble_eq_true rfl⟩, Nat.le_of_ble_eq_true rfl, Nat.le_of_ble_eq_true rfl⟩ rfl 0 (ga_0 cy A _) rfl rfl (Nat.le_of_ble_eq_true rfl) dL_told_230 (c_X11_about (q_l κ) (q_D κ) cy A hw)) (fun r32 σ31 hw => ?_)
            refine g_aload_n C 2 rfl rfl dL_told_233 ?_
            refine g_iload C 4 rfl dL_told_234 ?_
            refine g_iconst (v := (0 : Int32)) C dL_told_236 (by decide) ?_
            refine gc_I C (gr_S (As := [.ref (A q), .int v4, .int (0 : Int32)]) (rest := [.int r32]) C hK 3 (gd_S wt_438 wt_439 wt_0 wt_440) rfl rfl rfl hs_L_weighs ⟨⟨Nat.le_of_ble_eq_true rfl, Nat.le_of_ble_eq_true rfl⟩, Nat.le_of_ble_eq_true rfl, Nat.le_of_ble_eq_true rfl⟩ rfl rfl (Nat.le_of_ble_eq_true rfl) dL_told_237 (c_L_weighs (q_l κ) (q_D κ) cy A hq hw)) (fun r34 σ33 hw => ?_)
            refine g_icmp_ne C 270 (by decide) hw dL_told_240 (fun hw => ?_) (fun hw => ?_)
            · refine g_eql (lv' := [(0, .ref (A 0)), (1, .ref (A q)), (3, .int (s1 + s0)), (4, .int v4)]) [1, 2, 0, 4] rfl ?_
              exact J270 _ hK136 σ33 (s1 + s0) v4 hw
            · refine g_aload_n C 1 rfl rfl dL_told_243 ?_
              refine g_iload C 4 rfl dL_told_244 ?_
              refine g_iconst (v := (4 : Int32)) C dL_told_246 (by decide) ?_
              refine gc_I C (gr_V (As := [.int v4, .int (4 : Int32)]) (rest := []) C hK 2 (gd_V wt_154 wt_155 wt_156 wt_1 wt_157) rfl rfl rfl ⟨rfl, hs_X11_about⟩ ⟨⟨Nat.le_of_ble_eq_true rfl, Nat.le_of_ble_eq_true rfl⟩, Nat.le_of_ble_eq_true rfl, Nat.le_of_ble_eq_true rfl⟩ rfl 0 (ga_0 cy A _) rfl rfl (Nat.le_of_ble_eq_true rfl) dL_told_247 (c_X11_about (q_l κ) (q_D κ) cy A hw)) (fun r36 σ35 hw => ?_)
              refine g_aload_n C 2 rfl rfl dL_told_250 ?_
              refine g_iconst (v := (5 : Int32)) C dL_told_251 (by decide) ?_
              refine g_iald C hK q 2 (ga_q cy A _ hq) rfl hw.1 dL_told_252 ?_
              replace hw := hw.2
              refine g_aload_n C 2 rfl rfl dL_told_253 ?_
              refine g_bipush (v := (11 : Int32)) C dL_told_254 (by decide) ?_
              refine g_iconst (v := (4 : Int32)) C dL_told_256 (by decide) ?_
              refine g_iload C 4 rfl dL_told_257 ?_
              refine g_imul C dL_told_259 ?_
              refine g_iadd C dL_told_260 ?_
              refine g_iald C hK q 2 (ga_q cy A _ hq) rfl hw.1 dL_told_261 ?_
              replace hw := hw.2
              refine g_isub C dL_told_262 ?_
              refine g_icmp_ne C 270 (by decide) hw dL_told_263 (fun hw => ?_) (fun hw => ?_)
              · refine g_eql (lv' := [(0, .ref (A 0)), (1, .ref (A q)), (3, .int (s1 + s0)), (4, .int v4)]) [1, 2, 0, 4] rfl ?_
                exact J270 _ hK136 σ35 (s1 + s0) v4 hw
              · refine g_iconst (v := (1 : Int32)) C dL_told_266 (by decide) ?_
                refine g_goto C 271 (by decide) dL_told_267 ?_
                refine g_eql (lv' := [(0, .ref (A 0)), (1, .ref (A q)), (3, .int (s1 + s0)), (4, .int v4)]) [1, 2, 0, 4] rfl ?_
                exact J271 _ hK136 σ35 (s1 + s0) v4 (1 : Int32) hw
  have J136 : ∀ (n : Nat) (σ : St) (v2 : Int32) (v3 : Int32) (v4 : Int32), wL_told_136 q Φ n σ v2 v3 v4 → GW κ 0 0 (gW cy A σ) 136 [(0, .ref (A 0)), (1, .ref (A q)), (2, .int v2), (3, .int v3), (4, .int v4)] [] := by
    intro n
    induction n with
    | zero => intro σ v2 v3 v4 hw; exact hw.elim
    | succ n ih =>
      intro σ v2 v3 v4 hw
      rw [wL_told_136] at hw
      refine g_iload C 4 rfl dL_told_136 ?_
      refine g_aload_n C 1 rfl rfl dL_told_138 ?_
      refine g_bipush (v := (7 : Int32)) C dL_told_139 (by decide) ?_
      refine g_iald C hK q 2 (ga_q cy A _ hq) rfl hw.1 dL_told_141 ?_
      replace hw := hw.2
      refine g_icmp_ge C 278 (by decide) hw dL_told_142 (fun hw => ?_) (fun hw => ?_)
      · refine g_iconst (v := (0 : Int32)) C dL_told_278 (by decide) ?_
        refine g_istore C [(4, .int (0 : Int32)), (0, .ref (A 0)), (1, .ref (A q)), (2, .int v2), (3, .int v3)] F.2.2.2.1 (by decide) rfl dL_told_279 ?_
        refine g_eql (lv' := [(0, .ref (A 0)), (1, .ref (A q)), (2, .int v2), (3, .int v3), (4, .int (0 : Int32))]) [1, 2, 3, 4, 0] rfl ?_
        obtain ⟨n0, hw⟩ := hw
        exact J281 n0 σ v2 v3 (0 : Int32) hw
      · refine g_iload_n C 3 rfl rfl dL_told_145 ?_
        refine g_aload_n C 1 rfl rfl dL_told_146 ?_
        refine g_bipush (v := (10 : Int32)) C dL_told_147 (by decide) ?_
        refine g_iconst (v := (4 : Int32)) C dL_told_149 (by decide) ?_
        refine g_iload C 4 rfl dL_told_150 ?_
        refine g_imul C dL_told_152 ?_
        refine g_iadd C dL_told_153 ?_
        refine g_iald C hK q 2 (ga_q cy A _ hq) rfl hw.1 dL_told_154 ?_
        replace hw := hw.2
        refine g_if_ne C 162 (by decide) hw dL_told_155 (fun hw => ?_) (fun hw => ?_)
        · refine g_iconst (v := (0 : Int32)) C dL_told_162 (by decide) ?_
          refine g_eql (lv' := [(0, .ref (A 0)), (1, .ref (A q)), (2, .int v2), (4, .int v4)]) [0, 1, 2, 4] rfl ?_
          exact J163 _ ih σ v2 v4 (0 : Int32) v3 hw
        · refine g_iconst (v := (1 : Int32)) C dL_told_158 (by decide) ?_
          refine g_goto C 163 (by decide) dL_told_159 ?_
          refine g_eql (lv' := [(0, .ref (A 0)), (1, .ref (A q)), (2, .int v2), (4, .int v4)]) [0, 1, 2, 4] rfl ?_
          exact J163 _ ih σ v2 v4 (1 : Int32) v3 hw
  have J130 : ∀ (σ : St) (s0 : Int32), wL_told_130 q Φ σ s0 → GW κ 0 0 (gW cy A σ) 130 [(0, .ref (A 0)), (1, .ref (A q))] [.int s0] := by
    intro σ s0 hw
    unfold wL_told_130 at hw
    refine g_istore_n C [(2, .int s0), (0, .ref (A 0)), (1, .ref (A q))] F.2.2.2.1 rfl (by decide) rfl dL_told_130 ?_
    refine g_iconst (v := (0 : Int32)) C dL_told_131 (by decide) ?_
    refine g_istore_n C [(3, .int (0 : Int32)), (2, .int s0), (0, .ref (A 0)), (1, .ref (A q))] F.2.2.2.1 rfl (by decide) rfl dL_told_132 ?_
    refine g_iconst (v := (0 : Int32)) C dL_told_133 (by decide) ?_
    refine g_istore C [(4, .int (0 : Int32)), (3, .int (0 : Int32)), (2, .int s0), (0, .ref (A 0)), (1, .ref (A q))] F.2.2.2.1 (by decide) rfl dL_told_134 ?_
    refine g_eql (lv' := [(0, .ref (A 0)), (1, .ref (A q)), (2, .int s0), (3, .int (0 : Int32)), (4, .int (0 : Int32))]) [3, 4, 2, 1, 0] rfl ?_
    obtain ⟨n0, hw⟩ := hw
    exact J136 n0 σ s0 (0 : Int32) (0 : Int32) hw
  have J129 : ∀ (σ : St), wL_told_129 q Φ σ → GW κ 0 0 (gW cy A σ) 129 [(0, .ref (A 0)), (1, .ref (A q))] [] := by
    intro σ hw
    unfold wL_told_129 at hw
    refine g_iconst (v := (0 : Int32)) C dL_told_129 (by decide) ?_
    exact J130 σ (0 : Int32) hw
  unfold wL_told at hw
  refine g_aload_n C 0 rfl rfl dL_told_0 ?_
  refine g_iconst (v := (0 : Int32)) C dL_told_1 (by decide) ?_
  refine gc_I C (gr_V (As := [.int (0 : Int32)]) (rest := []) C hK 1 (gd_V wt_444 wt_445 wt_446 wt_1 wt_447) rfl rfl rfl ⟨rfl, hs_X11_count⟩ ⟨⟨Nat.le_of_ble_eq_true rfl, Nat.le_of_ble_eq_true rfl⟩, Nat.le_of_ble_eq_true rfl, Nat.le_of_ble_eq_true rfl⟩ rfl 0 (ga_0 cy A _) rfl rfl (Nat.le_of_ble_eq_true rfl) dL_told_2 (c_X11_count (q_l κ) (q_D κ) cy A hw)) (fun r2 σ1 hw => ?_)
  refine g_aload_n C 1 rfl rfl dL_told_5 ?_
  refine g_iconst (v := (0 : Int32)) C dL_told_6 (by decide) ?_
  refine g_iald C hK q 2 (ga_q cy A _ hq) rfl hw.1 dL_told_7 ?_
  replace hw := hw.2
  refine g_icmp_ne C 129 (by decide) hw dL_told_8 (fun hw => ?_) (fun hw => ?_)
  · exact J129 σ1 hw
  · refine g_aload_n C 0 rfl rfl dL_told_11 ?_
    refine g_iconst (v := (1 : Int32)) C dL_told_12 (by decide) ?_
    refine gc_I C (gr_V (As := [.int (1 : Int32)]) (rest := []) C hK 1 (gd_V wt_444 wt_445 wt_446 wt_1 wt_447) rfl rfl rfl ⟨rfl, hs_X11_count⟩ ⟨⟨Nat.le_of_ble_eq_true rfl, Nat.le_of_ble_eq_true rfl⟩, Nat.le_of_ble_eq_true rfl, Nat.le_of_ble_eq_true rfl⟩ rfl 0 (ga_0 cy A _) rfl rfl (Nat.le_of_ble_eq_true rfl) dL_told_13 (c_X11_count (q_l κ) (q_D κ) cy A hw)) (fun r4 σ3 hw => ?_)
    refine g_aload_n C 1 rfl rfl dL_told_16 ?_
    refine g_aload_n C 1 rfl rfl dL_told_17 ?_
    refine g_iconst (v := (0 : Int32)) C dL_told_18 (by decide) ?_
    refine g_iald C hK q 2 (ga_q cy A _ hq) rfl hw.1 dL_told_19 ?_
    replace hw := hw.2
    refine gc_I C (gr_S (As := [.ref (A q), .int (σ3.1 q (0 : Int32).toNatClampNeg)]) (rest := [.int r4]) C hK 2 (gd_S wt_420 wt_421 wt_0 wt_422) rfl rfl rfl hs_L_turns ⟨⟨Nat.le_of_ble_eq_true rfl, Nat.le_of_ble_eq_true rfl⟩, Nat.le_of_ble_eq_true rfl, Nat.le_of_ble_eq_true rfl⟩ rfl rfl (Nat.le_of_ble_eq_true rfl) dL_told_20 (c_L_turns (q_l κ) (q_D κ) cy A hq hw)) (fun r6 σ5 hw => ?_)
    refine g_icmp_ne C 129 (by decide) hw dL_told_23 (fun hw => ?_) (fun hw => ?_)
    · exact J129 σ5 hw
    · refine g_aload_n C 0 rfl rfl dL_told_26 ?_
      refine g_iconst (v := (2 : Int32)) C dL_told_27 (by decide) ?_
      refine gc_I C (gr_V (As := [.int (2 : Int32)]) (rest := []) C hK 1 (gd_V wt_444 wt_445 wt_446 wt_1 wt_447) rfl rfl rfl ⟨rfl, hs_X11_count⟩ ⟨⟨Nat.le_of_ble_eq_true rfl, Nat.le_of_ble_eq_true rfl⟩, Nat.le_of_ble_eq_true rfl, Nat.le_of_ble_eq_true rfl⟩ rfl 0 (ga_0 cy A _) rfl rfl (Nat.le_of_ble_eq_true rfl) dL_told_28 (c_X11_count (q_l κ) (q_D κ) cy A hw)) (fun r8 σ7 hw => ?_)
      refine g_aload_n C 1 rfl rfl dL_told_31 ?_
      refine g_iconst (v := (1 : Int32)) C dL_told_32 (by decide) ?_
      refine g_iald C hK q 2 (ga_q cy A _ hq) rfl hw.1 dL_told_33 ?_
      replace hw := hw.2
      refine g_icmp_ne C 129 (by decide) hw dL_told_34 (fun hw => ?_) (fun hw => ?_)
      · exact J129 σ7 hw
      · refine g_aload_n C 0 rfl rfl dL_told_37 ?_
        refine g_iconst (v := (3 : Int32)) C dL_told_38 (by decide) ?_
        refine gc_I C (gr_V (As := [.int (3 : Int32)]) (rest := []) C hK 1 (gd_V wt_444 wt_445 wt_446 wt_1 wt_447) rfl rfl rfl ⟨rfl, hs_X11_count⟩ ⟨⟨Nat.le_of_ble_eq_true rfl, Nat.le_of_ble_eq_true rfl⟩, Nat.le_of_ble_eq_true rfl, Nat.le_of_ble_eq_true rfl⟩ rfl 0 (ga_0 cy A _) rfl rfl (Nat.le_of_ble_eq_true rfl) dL_told_39 (c_X11_count (q_l κ) (q_D κ) cy A hw)) (fun r10 σ9 hw => ?_)
        refine g_aload_n C 1 rfl rfl dL_told_42 ?_
        refine g_aload_n C 1 rfl rfl dL_told_43 ?_
        refine g_iconst (v := (0 : Int32)) C dL_told_44 (by decide) ?_
        refine g_iald C hK q 2 (ga_q cy A _ hq) rfl hw.1 dL_told_45 ?_
        replace hw := hw.2
        refine g_iconst (v := (0 : Int32)) C dL_told_46 (by decide) ?_
        refine gc_I C (gr_S (As := [.ref (A q), .int (σ9.1 q (0 : Int32).toNatClampNeg), .int (0 : Int32)]) (rest := [.int r10]) C hK 3 (gd_S wt_426 wt_427 wt_0 wt_428) rfl rfl rfl hs_L_strain ⟨⟨Nat.le_of_ble_eq_true rfl, Nat.le_of_ble_eq_true rfl⟩, Nat.le_of_ble_eq_true rfl, Nat.le_of_ble_eq_true rfl⟩ rfl rfl (Nat.le_of_ble_eq_true rfl) dL_told_47 (c_L_strain (q_l κ) (q_D κ) cy A hq hw)) (fun r12 σ11 hw => ?_)
        refine g_icmp_ne C 129 (by decide) hw dL_told_50 (fun hw => ?_) (fun hw => ?_)
        · exact J129 σ11 hw
        · refine g_aload_n C 0 rfl rfl dL_told_53 ?_
          refine g_iconst (v := (4 : Int32)) C dL_told_54 (by decide) ?_
          refine gc_I C (gr_V (As := [.int (4 : Int32)]) (rest := []) C hK 1 (gd_V wt_444 wt_445 wt_446 wt_1 wt_447) rfl rfl rfl ⟨rfl, hs_X11_count⟩ ⟨⟨Nat.le_of_ble_eq_true rfl, Nat.le_of_ble_eq_true rfl⟩, Nat.le_of_ble_eq_true rfl, Nat.le_of_ble_eq_true rfl⟩ rfl 0 (ga_0 cy A _) rfl rfl (Nat.le_of_ble_eq_true rfl) dL_told_55 (c_X11_count (q_l κ) (q_D κ) cy A hw)) (fun r14 σ13 hw => ?_)
          refine g_aload_n C 1 rfl rfl dL_told_58 ?_
          refine g_iconst (v := (2 : Int32)) C dL_told_59 (by decide) ?_
          refine g_iald C hK q 2 (ga_q cy A _ hq) rfl hw.1 dL_told_60 ?_
          replace hw := hw.2
          refine g_icmp_ne C 129 (by decide) hw dL_told_61 (fun hw => ?_) (fun hw => ?_)
          · exact J129 σ13 hw
          · refine g_aload_n C 0 rfl rfl dL_told_64 ?_
            refine g_iconst (v := (5 : Int32)) C dL_told_65 (by decide) ?_
            refine gc_I C (gr_V (As := [.int (5 : Int32)]) (rest := []) C hK 1 (gd_V wt_444 wt_445 wt_446 wt_1 wt_447) rfl rfl rfl ⟨rfl, hs_X11_count⟩ ⟨⟨Nat.le_of_ble_eq_true rfl, Nat.le_of_ble_eq_true rfl⟩, Nat.le_of_ble_eq_true rfl, Nat.le_of_ble_eq_true rfl⟩ rfl 0 (ga_0 cy A _) rfl rfl (Nat.le_of_ble_eq_true rfl) dL_told_66 (c_X11_count (q_l κ) (q_D κ) cy A hw)) (fun r16 σ15 hw => ?_)
            refine g_aload_n C 1 rfl rfl dL_told_69 ?_
            refine g_iconst (v := (3 : Int32)) C dL_told_70 (by decide) ?_
            refine g_iald C hK q 2 (ga_q cy A _ hq) rfl hw.1 dL_told_71 ?_
            replace hw := hw.2
            refine g_icmp_ne C 129 (by decide) hw dL_told_72 (fun hw => ?_) (fun hw => ?_)
            · exact J129 σ15 hw
            · refine g_aload_n C 0 rfl rfl dL_told_75 ?_
              refine g_bipush (v := (6 : Int32)) C dL_told_76 (by decide) ?_
              refine gc_I C (gr_V (As := [.int (6 : Int32)]) (rest := []) C hK 1 (gd_V wt_444 wt_445 wt_446 wt_1 wt_447) rfl rfl rfl ⟨rfl, hs_X11_count⟩ ⟨⟨Nat.le_of_ble_eq_true rfl, Nat.le_of_ble_eq_true rfl⟩, Nat.le_of_ble_eq_true rfl, Nat.le_of_ble_eq_true rfl⟩ rfl 0 (ga_0 cy A _) rfl rfl (Nat.le_of_ble_eq_true rfl) dL_told_78 (c_X11_count (q_l κ) (q_D κ) cy A hw)) (fun r18 σ17 hw => ?_)
              refine g_aload_n C 1 rfl rfl dL_told_81 ?_
              refine g_iconst (v := (4 : Int32)) C dL_told_82 (by decide) ?_
              refine g_iald C hK q 2 (ga_q cy A _ hq) rfl hw.1 dL_told_83 ?_
              replace hw := hw.2
              refine g_icmp_ne C 129 (by decide) hw dL_told_84 (fun hw => ?_) (fun hw => ?_)
              · exact J129 σ17 hw
              · refine g_aload_n C 0 rfl rfl dL_told_87 ?_
                refine g_bipush (v := (7 : Int32)) C dL_told_88 (by decide) ?_
                refine gc_I C (gr_V (As := [.int (7 : Int32)]) (rest := []) C hK 1 (gd_V wt_444 wt_445 wt_446 wt_1 wt_447) rfl rfl rfl ⟨rfl, hs_X11_count⟩ ⟨⟨Nat.le_of_ble_eq_true rfl, Nat.le_of_ble_eq_true rfl⟩, Nat.le_of_ble_eq_true rfl, Nat.le_of_ble_eq_true rfl⟩ rfl 0 (ga_0 cy A _) rfl rfl (Nat.le_of_ble_eq_true rfl) dL_told_90 (c_X11_count (q_l κ) (q_D κ) cy A hw)) (fun r20 σ19 hw => ?_)
                refine g_aload_n C 1 rfl rfl dL_told_93 ?_
                refine g_iconst (v := (5 : Int32)) C dL_told_94 (by decide) ?_
                refine g_iald C hK q 2 (ga_q cy A _ hq) rfl hw.1 dL_told_95 ?_
                replace hw := hw.2
                refine g_icmp_ne C 129 (by decide) hw dL_told_96 (fun hw => ?_) (fun hw => ?_)
                · exact J129 σ19 hw
                · refine g_aload_n C 0 rfl rfl dL_told_99 ?_
                  refine g_bipush (v := (8 : Int32)) C dL_told_100 (by decide) ?_
                  refine gc_I C (gr_V (As := [.int (8 : Int32)]) (rest := []) C hK 1 (gd_V wt_444 wt_445 wt_446 wt_1 wt_447) rfl rfl rfl ⟨rfl, hs_X11_count⟩ ⟨⟨Nat.le_of_ble_eq_true rfl, Nat.le_of_ble_eq_true rfl⟩, Nat.le_of_ble_eq_true rfl, Nat.le_of_ble_eq_true rfl⟩ rfl 0 (ga_0 cy A _) rfl rfl (Nat.le_of_ble_eq_true rfl) dL_told_102 (c_X11_count (q_l κ) (q_D κ) cy A hw)) (fun r22 σ21 hw => ?_)
                  refine g_aload_n C 1 rfl rfl dL_told_105 ?_
                  refine g_bipush (v := (6 : Int32)) C dL_told_106 (by decide) ?_
                  refine g_iald C hK q 2 (ga_q cy A _ hq) rfl hw.1 dL_told_108 ?_
                  replace hw := hw.2
                  refine g_icmp_ne C 129 (by decide) hw dL_told_109 (fun hw => ?_) (fun hw => ?_)
                  · exact J129 σ21 hw
                  · refine g_aload_n C 0 rfl rfl dL_told_112 ?_
                    refine g_bipush (v := (9 : Int32)) C dL_told_113 (by decide) ?_
                    refine gc_I C (gr_V (As := [.int (9 : Int32)]) (rest := []) C hK 1 (gd_V wt_444 wt_445 wt_446 wt_1 wt_447) rfl rfl rfl ⟨rfl, hs_X11_count⟩ ⟨⟨Nat.le_of_ble_eq_true rfl, Nat.le_of_ble_eq_true rfl⟩, Nat.le_of_ble_eq_true rfl, Nat.le_of_ble_eq_true rfl⟩ rfl 0 (ga_0 cy A _) rfl rfl (Nat.le_of_ble_eq_true rfl) dL_told_115 (c_X11_count (q_l κ) (q_D κ) cy A hw)) (fun r24 σ23 hw => ?_)
                    refine g_aload_n C 1 rfl rfl dL_told_118 ?_
                    refine g_bipush (v := (7 : Int32)) C dL_told_119 (by decide) ?_
                    refine g_iald C hK q 2 (ga_q cy A _ hq) rfl hw.1 dL_told_121 ?_
                    replace hw := hw.2
                    refine g_icmp_ne C 129 (by decide) hw dL_told_122 (fun hw => ?_) (fun hw => ?_)
                    · exact J129 σ23 hw
                    · refine g_iconst (v := (1 : Int32)) C dL_told_125 (by decide) ?_
                      refine g_goto C 130 (by decide) dL_told_126 ?_
                      exact J130 σ23 (1 : Int32) hw
end
section
section GLaw
variable {κ : qC} {cc : ByteArray} {own : String} {Rm : Room} {k n : Nat} {ws : va_W} {pc : Nat} {lv : List (Nat × Value)} {st : List Value} {b L : Nat} {xs : Nat → Int32}
theorem g_sld (C : Cx κ cc own gL Rm) (hX : va_X b L xs (q_s κ) (q_s κ).heap) (hbl : b < (q_s κ).heap.size) (hbA : ¬ q_A κ b) {i : Int32} (hin : vp_in i L) (hdg : decode cc pc = .ok (.iaload, 1)) (h : GW κ k n ws (pc + 1) lv (.int (xs i.toNatClampNeg) :: st)) : GW κ k n ws pc lv (.int i :: .ref b :: st) := fun H locs hP hD hS ls hl => va_sld C.1 C.2.1 hX hbl hbA hS hin hdg (h H locs hP hD hS ls hl)
theorem g_slen (C : Cx κ cc own gL Rm) (hX : va_X b L xs (q_s κ) (q_s κ).heap) (hbl : b < (q_s κ).heap.size) (hbA : ¬ q_A κ b) (hdg : decode cc pc = .ok (.arraylength, 1)) (h : GW κ k n ws (pc + 1) lv (.int (nI L) :: st)) : GW κ k n ws pc lv (.ref b :: st) := fun H locs hP hD hS ls hl => va_slen C.1 C.2.1 hX hbl hbA hS hdg (h H locs hP hD hS ls hl)
end GLaw
theorem lg_cmp_self (x : Int64) : lg_cmp x x = 0 := by
  unfold lg_cmp
  rw [if_neg (by simp), if_pos rfl]
theorem hs_L_cell : yL_cell.cls ≠ "java/lang/invoke/MethodHandle" ∧ yL_cell.cls ≠ "java/lang/invoke/VarHandle" ∧ (parseMethodDescriptor yL_cell.desc).map (fun d => d.parameters.length) = some 2 := by decide +kernel
abbrev rm_L_cell : Room := { frames := 0, cells := 0, slots := 0, locals := 0 }
abbrev wsC : List Cond := .code yL_cell cL_cell 2 (some .int) :: gL
def sPc (b L : Nat) (xs : Nat → Int32) (sz : Nat) (av : List Value) : Array Value → State → Prop := va_Pc av (fun U => U.heap.size = sz ∧ va_X b L xs U U.heap ∧ NW U)
theorem sPc_blind {b L : Nat} {xs : Nat → Int32} {sz : Nat} {av : List Value} : FrameBlind (sPc b L xs sz av) := fun a U g mk q => ⟨q.1, q.2.1, va_X.moved (u := U) (U := U.calling g mk a) (Vm.Alike.refl U.vm) q.2.2.1, NW.calling q.2.2.2⟩
abbrev cQ (xs : Nat → Int32) (L : Nat) (v : Int32) (sz : Nat) : Array Value → State → Outcome → State → Prop := va_Qi (fun (r : Int32) (_ : Unit) => r = cellV xs L v) (fun _ _ => True) (fun q => sz ≤ q)
theorem gq_C {κ : qC} {cc : ByteArray} {own : String} {Rm : Room} {k n : Nat} {ws : va_W} {pc : Nat} {lv : List (Nat × Value)} {D : va_G} {Z : Nat → Prop} {maxL mc ms : Nat} {R0 : Int32} (C : Cx κ cc own gL Rm) (F : Fx κ D Z (some .int) maxL (va_Qi (fun (r : Int32) (_ : Unit) => r = R0) (fun _ _ => True) Z) mc ms) (hk : k ≤ mc) (hn : n ≤ ms) {v : Int32} (hw : v = R0) (hdg : decode cc pc = .ok (.ireturn, 1)) : GW κ k n ws pc lv [.int v] := by
  intro H locs hP hD hS ls hl
  obtain ⟨rfl, rfl, f3, f4, f5⟩ := F
  rw [f5]
  refine W.widen hk hn ?_
  exact W.iret (hlocks := C.2.2.2.2.2.2.2.1) C.1 C.2.1 f3 (fun t ht hW => ⟨⟨v, (), rfl, hw, trivial⟩, hS.F ht⟩) hS.2.2 hdg
set_option maxHeartbeats 4000000 in
theorem c_L_cell (l : Launch) (D : va_G) {b L : Nat} {xs : Nat → Int32} {v : Int32} (hL : L < 2 ^ 31) (h0 : ¬ v < 0) : ∀ sz, Met l yL_cell wsC rm_L_cell (sPc b L xs sz [.ref b, .int v]) (cQ xs L v sz) 0 0 (fun q => sz ≤ q) := by
  intro sz
  refine va_MetF (cc := cL_cell) (maxL := 2) (ret := some .int) (by decide +kernel) rfl ?_
  intro p e s m args below meth c s₁ B hml hv
  obtain ⟨rfl, hsz, hX, hN⟩ := hv
  have hts := atoms_spec (ws := wsC) B.pre
  subst hsz
  have hl := lv_entry [.ref b, .int v] (n := 2) (Nat.le_of_ble_eq_true rfl)
  rw [lg_entry_eq]
  generalize (lg_sl [.ref b, .int v] ++ List.replicate (2 - (lg_sl [.ref b, .int v]).length) Slot.unset).toArray = ls at hl ⊢
  have hbl : b < s.heap.size := by
    obtain ⟨scr, h1, -⟩ := hX
    exact (Array.getElem?_eq_some_iff.mp h1).1
  obtain ⟨κ, hκ⟩ : ∃ κ : qC, κ = (p, l, e, (headSpec wsC rm_L_cell).room, s, m, [Value.ref b, Value.int v].toArray, below, meth, c, (fun q => s.heap.size ≤ q), D, MQ below (cQ xs L v s.heap.size) [Value.ref b, Value.int v].toArray s 0 0 (fun q => s.heap.size ≤ q), 2) := ⟨_, rfl⟩
  have C : Cx κ cL_cell RL gL rm_L_cell := by rw [hκ]; exact ⟨B.exec, B.bytes, hml, findClass_of_methodNamed B.named, fun w h => hts w (List.mem_cons_of_mem _ h), fun q h => h, hN, B.notSynchronized, rfl⟩
  have hX1 : va_X b L xs (q_s κ) (q_s κ).heap := by rw [hκ]; exact hX
  have hbl1 : b < (q_s κ).heap.size := by rw [hκ]; exact hbl
  have hbA : ¬ q_A κ b := by rw [hκ]; exact Nat.not_le.mpr hbl
  have F : Fx κ D (fun q => s.heap.size ≤ q) (some .int) 2 (cQ xs L v s.heap.size) 0 0 := by rw [hκ]; exact ⟨rfl, rfl, B.returns, rfl, rfl⟩
  suffices G : GW κ 0 0 [] 0 [(0, .ref b), (1, .int v)] [] by
    rw [hκ] at G
    exact G s.heap [] (fun k q h => by simp at h) ⟨fun i j p q h => by simp at h, fun k q h => by simp at h⟩ va_S.rf ls hl
  clear hκ
  refine g_iload_n C 1 rfl rfl dL_cell_0 ?_
  refine g_aload_n C 0 rfl rfl dL_cell_1 ?_
  refine g_slen C hX1 hbl1 hbA dL_cell_2 ?_
  have fin : ∀ r : Int32, r = (if nI L ≤ v then 7919 * v + 13 else xs v.toNatClampNeg) → GW κ 0 0 [] 20 [(0, .ref b), (1, .int v)] [.int r] := by
    intro r hr
    refine g_ldc (v := (2147483647 : Int32)) C dL_cell_20 wt_286 ?_
    refine g_iand C dL_cell_22 ?_
    exact gq_C C F (by decide) (by decide) (by rw [hr]; rfl) dL_cell_23
  by_cases hc : nI L ≤ v
  · refine g_icmp_ge (wa := True) (wb := False) C 12 (by decide) (by rw [if_pos hc]; trivial) dL_cell_3 (fun _ => ?_) (fun h => h.elim)
    refine g_sipush (v := (7919 : Int32)) C dL_cell_12 (by decide) ?_
    refine g_iload_n C 1 rfl rfl dL_cell_15 ?_
    refine g_imul C dL_cell_16 ?_
    refine g_bipush (v := (13 : Int32)) C dL_cell_17 (by decide) ?_
    refine g_iadd C dL_cell_19 ?_
    exact fin _ (by rw [if_pos hc])
  · refine g_icmp_ge (wa := False) (wb := True) C 12 (by decide) (by rw [if_neg hc]; trivial) dL_cell_3 (fun h => h.elim) (fun _ => ?_)
    refine g_aload_n C 0 rfl rfl dL_cell_6 ?_
    refine g_iload_n C 1 rfl rfl dL_cell_7 ?_
    refine g_sld C hX1 hbl1 hbA ?_ dL_cell_8 ?_
    · obtain ⟨j, hj, rfl⟩ := nI_of h0
      refine vp_in_nI ?_ hj
      by_cases q : j < L
      · exact q
      · exact absurd (nI_le (Nat.le_of_not_lt q) hj) hc
    refine g_goto C 20 (by decide) dL_cell_9 ?_
    exact fin _ (by rw [if_neg hc])
set_option maxHeartbeats 4000000 in
theorem g_cell {κ : qC} {cc : ByteArray} {own : String} {Rm : Room} {k n : Nat} {ws : va_W} {pc : Nat} {lv : List (Nat × Value)} {b L idx : Nat} {xs : Nat → Int32} {rest : List Value} {i : Int32} (C : Cx κ cc own gL Rm) (hX : va_X b L xs (q_s κ) (q_s κ).heap) (hbl : b < (q_s κ).heap.size) (hbA : ¬ q_A κ b) (hL : L < 2 ^ 31) (h0 : ¬ i < 0) (hg : GoodIn gL (va_wsS own idx yL_cell wsC)) (hroom : (rm_L_cell.frames + 1 ≤ Rm.frames ∧ 8 + (2 + 11) + rm_L_cell.locals ≤ Rm.locals) ∧ k + 0 ≤ Rm.cells ∧ n + 0 ≤ Rm.slots) (hcat : (rest.map fun v => v.category).sum ≤ 8) (hdg : decode cc pc = .ok (.invokestatic idx, 3)) (h : GW κ k n ws (pc + 3) lv (.int (cellV xs L i) :: rest)) : GW κ k n ws pc lv (.int i :: .ref b :: rest) := by
  intro H locs hP hD hS ls hl
  obtain ⟨c1, c2, c3, c4, c5, c6, c7, c8, c9⟩ := C
  rw [← c9] at hroom
  have hXH : ∀ U : State, U.heap = H → (q_s κ).WarmedH U.vm → sPc b L xs H.size [.ref b, .int i] [Value.ref b, Value.int i].toArray U := fun U hU hW => ⟨rfl, by rw [hU], by rw [hU]; exact (hX.kept (hS.2.1 b hbl hbA)).moved hW.alike, NW.warm hW c7⟩
  refine va_calli (va_runS (Ts := gL) (As := [.ref b, .int i]) (rest := rest) ⟨c1, c2, c3, c4, c5⟩ (c_L_cell (q_l κ) (q_D κ) hL h0 H.size) (va_cwS 2 c5 hg rfl rfl rfl hs_L_cell hroom.1) ⟨sPc_blind, hXH⟩ rfl rfl hl.1 rfl (lv_room hcat) hdg hroom.2) hS (fun q h1 h2 => absurd h1 (Nat.not_lt.mpr h2)) (fun q h2 => c6 q (Nat.le_trans hS.1 h2)) (fun r u t H1 locs1 ht hvm hw hB hz hk1 hS1 => ?_)
  subst hw
  exact h H1 locs1 (fun k q hq => (hP k q hq).kept (hk1 q.1 (hP k q hq).lt (Nat.not_le.mpr (hP k q hq).lt))) hD hS1 ls hl
end
section
set_option maxHeartbeats 8000000 in
set_option maxRecDepth 100000 in
theorem law_body {κ : qC} (C : Cx κ code RL gL room_1) (hN : q_n κ = 20) {cy : Nat → ClassId} (hK : va_K (q_D κ) vwCl (gty cy) (q_s κ)) {A : Nat → Nat} {b L : Nat} {xs : Nat → Int32} (hX : va_X b L xs (q_s κ) (q_s κ).heap) (hbl : b < (q_s κ).heap.size) (hbA : ¬ q_A κ b) (hL : L < 2 ^ 31) (hret : ∀ (k n : Nat) (ws : va_W) (lv : List (Nat × Value)) (pc : Nat) (v : Int32), k ≤ 888223 → n ≤ 6437580 → v = 1 → decode code pc = .ok (.ireturn, 1) → GW κ k n ws pc lv [.int v]) {σ : St} {kk : Nat} (hk6 : kk ≤ 600) (hw : wL_law L xs σ kk) : GW κ (20 + kk) (245 + 3 * kk) (gW cy A σ) 18 [(0, .ref b), (1, .ref (A 0)), (2, .ref (A 18)), (3, .ref (A 19))] [] := by
  have J953 : ∀ (K80 : St → Nat → Int32 → Prop) (_ : ∀ (σ : St) (kk : Nat) (v5 : Int32), kk ≤ 600 → K80 σ kk v5 → GW κ (20 + kk) (245 + 3 * kk) (gW cy A σ) 80 [(0, .ref b), (1, .ref (A 0)), (2, .ref (A 18)), (3, .ref (A 19)), (5, .int v5)] []), ∀ (σ : St) (kk : Nat) (v5 : Int32), kk ≤ 600 → wL_law_953 K80 L xs σ kk v5 → GW κ (20 + kk) (245 + 3 * kk) (gW cy A σ) 953 [(0, .ref b), (1, .ref (A 0)), (2, .ref (A 18)), (3, .ref (A 19)), (5, .int v5)] [] := by
    intro K80 hK80 σ kk v5 hk6 hw
    unfold wL_law_953 at hw
    refine g_iinc (j := 4) C [(5, .int (v5 + 1)), (0, .ref b), (1, .ref (A 0)), (2, .ref (A 18)), (3, .ref (A 19))] hN rfl rfl (by decide) rfl dL_law_953 ?_
    refine g_goto C 80 (by decide) dL_law_956 ?_
    refine g_eql (lv' := [(0, .ref b), (1, .ref (A 0)), (2, .ref (A 18)), (3, .ref (A 19)), (5, .int (v5 + 1))]) [1, 2, 3, 4, 0] rfl ?_
    exact hK80 σ kk (v5 + 1) (by omega) hw
  have J947 : ∀ (K80 : St → Nat → Int32 → Prop) (_ : ∀ (σ : St) (kk : Nat) (v5 : Int32), kk ≤ 600 → K80 σ kk v5 → GW κ (20 + kk) (245 + 3 * kk) (gW cy A σ) 80 [(0, .ref b), (1, .ref (A 0)), (2, .ref (A 18)), (3, .ref (A 19)), (5, .int v5)] []), ∀ (σ : St) (kk : Nat) (v5 : Int32) (s0 : Int64) (s1 : Int64), kk ≤ 600 → wL_law_947 K80 L xs σ kk v5 s0 s1 → GW κ (20 + kk) (245 + 3 * kk) (gW cy A σ) 947 [(0, .ref b), (1, .ref (A 0)), (2, .ref (A 18)), (3, .ref (A 19)), (5, .int v5)] [.long s0, .long s1] := by
    intro K80 hK80 σ kk v5 s0 s1 hk6 hw
    unfold wL_law_947 at hw
    refine g_lcmp C dL_law_947 ?_
    refine g_if_eq C 953 (by decide) hw dL_law_948 (fun hw => ?_) (fun hw => ?_)
    · exact J953 _ hK80 σ kk v5 (by omega) hw
    · refine g_iconst (v := (0 : Int32)) C dL_law_951 (by decide) ?_
      exact hret _ _ _ _ _ _ (by omega) (by omega) hw dL_law_952
  have J921 : ∀ (K80 : St → Nat → Int32 → Prop) (_ : ∀ (σ : St) (kk : Nat) (v5 : Int32), kk ≤ 600 → K80 σ kk v5 → GW κ (20 + kk) (245 + 3 * kk) (gW cy A σ) 80 [(0, .ref b), (1, .ref (A 0)), (2, .ref (A 18)), (3, .ref (A 19)), (5, .int v5)] []), ∀ (σ : St) (kk : Nat) (v5 : Int32) (v13 : Int32) (v14 : Int32) (v15 : Int64) (v18 : Int32) (s0 : Int32) (s1 : Int32), kk ≤ 600 → wL_law_921 K80 L xs σ kk v5 v13 v14 v15 v18 s0 s1 → GW κ (20 + kk) (245 + 3 * kk) (gW cy A σ) 921 [(0, .ref b), (1, .ref (A 0)), (2, .ref (A 18)), (3, .ref (A 19)), (5, .int v5), (13, .int v13), (14, .int v14), (15, .long v15), (18, .int v18)] [.int s0, .int s1] := by
    intro K80 hK80 σ kk v5 v13 v14 v15 v18 s0 s1 hk6 hw
    unfold wL_law_921 at hw
    refine g_icmp_ne C 951 (by decide) hw dL_law_921 (fun hw => ?_) (fun hw => ?_)
    · refine g_iconst (v := (0 : Int32)) C dL_law_951 (by decide) ?_
      exact hret _ _ _ _ _ _ (by omega) (by omega) hw dL_law_952
    · refine g_aload_n C 1 rfl rfl dL_law_924 ?_
      refine g_iload C 5 rfl dL_law_925 ?_
      refine g_iload C 6 rfl dL_law_927 ?_
      refine g_iconst (v := (3 : Int32)) C dL_law_929 (by decide) ?_
      refine gc_I (mc := 0) (ms := 0) C (gr_V (mc := 0) (ms := 0) (As := [.int v13, .int v14, .int (3 : Int32)]) (rest := []) C hK 3 (gd_V wt_262 wt_263 wt_264 wt_1 wt_265) rfl rfl rfl ⟨rfl, hs_X11_whirls⟩ ⟨⟨Nat.le_of_ble_eq_true rfl, Nat.le_of_ble_eq_true rfl⟩, (by show _ ≤ 888223; omega), (by show _ ≤ 6437580; omega)⟩ rfl 0 (ga_0 cy A _) rfl rfl (Nat.le_of_ble_eq_true rfl) dL_law_930 (c_X11_whirls (q_l κ) (q_D κ) cy A hw)) (fun r64 σ63 hw => ?_)
      refine g_widen (k' := 20 + kk) (n' := 245 + 3 * kk) (by omega) (by omega) ?_
      refine g_i2l C dL_law_933 ?_
      refine g_iload C 8 rfl dL_law_934 ?_
      refine g_if_eq C 945 (by decide) hw dL_law_936 (fun hw => ?_) (fun hw => ?_)
      · refine g_lload C 7 rfl dL_law_945 ?_
        refine g_eql (lv' := [(0, .ref b), (1, .ref (A 0)), (2, .ref (A 18)), (3, .ref (A 19)), (5, .int v5)]) [0, 1, 2, 3, 4] rfl ?_
        exact J947 _ hK80 σ63 kk v5 v15 r64.toInt64 (by omega) hw
      · refine g_ldc2 (v := (-103 : Int64)) C dL_law_939 wt_454 ?_
        refine g_goto C 947 (by decide) dL_law_942 ?_
        refine g_eql (lv' := [(0, .ref b), (1, .ref (A 0)), (2, .ref (A 18)), (3, .ref (A 19)), (5, .int v5)]) [0, 1, 2, 3, 4] rfl ?_
        exact J947 _ hK80 σ63 kk v5 (-103 : Int64) r64.toInt64 (by omega) hw
  have J897 : ∀ (K80 : St → Nat → Int32 → Prop) (_ : ∀ (σ : St) (kk : Nat) (v5 : Int32), kk ≤ 600 → K80 σ kk v5 → GW κ (20 + kk) (245 + 3 * kk) (gW cy A σ) 80 [(0, .ref b), (1, .ref (A 0)), (2, .ref (A 18)), (3, .ref (A 19)), (5, .int v5)] []), ∀ (σ : St) (kk : Nat) (v5 : Int32) (v13 : Int32) (v14 : Int32) (v15 : Int64) (v17 : Int32) (v18 : Int32) (s0 : Int32) (s1 : Int32), kk ≤ 600 → wL_law_897 K80 L xs σ kk v5 v13 v14 v15 v17 v18 s0 s1 → GW κ (20 + kk) (245 + 3 * kk) (gW cy A σ) 897 [(0, .ref b), (1, .ref (A 0)), (2, .ref (A 18)), (3, .ref (A 19)), (5, .int v5), (13, .int v13), (14, .int v14), (15, .long v15), (17, .int v17), (18, .int v18)] [.int s0, .int s1] := by
    intro K80 hK80 σ kk v5 v13 v14 v15 v17 v18 s0 s1 hk6 hw
    unfold wL_law_897 at hw
    refine g_icmp_ne C 951 (by decide) hw dL_law_897 (fun hw => ?_) (fun hw => ?_)
    · refine g_iconst (v := (0 : Int32)) C dL_law_951 (by decide) ?_
      exact hret _ _ _ _ _ _ (by omega) (by omega) hw dL_law_952
    · refine g_aload_n C 1 rfl rfl dL_law_900 ?_
      refine g_iload C 5 rfl dL_law_901 ?_
      refine g_iload C 6 rfl dL_law_903 ?_
      refine g_iconst (v := (2 : Int32)) C dL_law_905 (by decide) ?_
      refine gc_I (mc := 0) (ms := 0) C (gr_V (mc := 0) (ms := 0) (As := [.int v13, .int v14, .int (2 : Int32)]) (rest := []) C hK 3 (gd_V wt_262 wt_263 wt_264 wt_1 wt_265) rfl rfl rfl ⟨rfl, hs_X11_whirls⟩ ⟨⟨Nat.le_of_ble_eq_true rfl, Nat.le_of_ble_eq_true rfl⟩, (by show _ ≤ 888223; omega), (by show _ ≤ 6437580; omega)⟩ rfl 0 (ga_0 cy A _) rfl rfl (Nat.le_of_ble_eq_true rfl) dL_law_906 (c_X11_whirls (q_l κ) (q_D κ) cy A hw)) (fun r62 σ61 hw => ?_)
      refine g_widen (k' := 20 + kk) (n' := 245 + 3 * kk) (by omega) (by omega) ?_
      refine g_iload C 9 rfl dL_law_909 ?_
      refine g_if_eq C 919 (by decide) hw dL_law_911 (fun hw => ?_) (fun hw => ?_)
      · refine g_iload C 8 rfl dL_law_919 ?_
        refine g_eql (lv' := [(0, .ref b), (1, .ref (A 0)), (2, .ref (A 18)), (3, .ref (A 19)), (5, .int v5), (13, .int v13), (14, .int v14), (15, .long v15), (18, .int v18)]) [0, 1, 2, 3, 4, 5, 6, 7, 9] rfl ?_
        exact J921 _ hK80 σ61 kk v5 v13 v14 v15 v18 v17 r62 (by omega) hw
      · refine g_bipush (v := (-103 : Int32)) C dL_law_914 (by decide) ?_
        refine g_goto C 921 (by decide) dL_law_916 ?_
        refine g_eql (lv' := [(0, .ref b), (1, .ref (A 0)), (2, .ref (A 18)), (3, .ref (A 19)), (5, .int v5), (13, .int v13), (14, .int v14), (15, .long v15), (18, .int v18)]) [0, 1, 2, 3, 4, 5, 6, 7, 9] rfl ?_
        exact J921 _ hK80 σ61 kk v5 v13 v14 v15 v18 (-103 : Int32) r62 (by omega) hw
  have J872 : ∀ (K80 : St → Nat → Int32 → Prop) (_ : ∀ (σ : St) (kk : Nat) (v5 : Int32), kk ≤ 600 → K80 σ kk v5 → GW κ (20 + kk) (245 + 3 * kk) (gW cy A σ) 80 [(0, .ref b), (1, .ref (A 0)), (2, .ref (A 18)), (3, .ref (A 19)), (5, .int v5)] []), ∀ (σ : St) (kk : Nat) (v5 : Int32) (v13 : Int32) (v14 : Int32) (v15 : Int64) (v17 : Int32) (v18 : Int32) (s0 : Int32) (s1 : Int32), kk ≤ 600 → wL_law_872 K80 L xs σ kk v5 v13 v14 v15 v17 v18 s0 s1 → GW κ (20 + kk) (245 + 3 * kk) (gW cy A σ) 872 [(0, .ref b), (1, .ref (A 0)), (2, .ref (A 18)), (3, .ref (A 19)), (5, .int v5), (13, .int v13), (14, .int v14), (15, .long v15), (17, .int v17), (18, .int v18)] [.int s0, .int s1] := by
    intro K80 hK80 σ kk v5 v13 v14 v15 v17 v18 s0 s1 hk6 hw
    unfold wL_law_872 at hw
    refine g_icmp_ne C 951 (by decide) hw dL_law_872 (fun hw => ?_) (fun hw => ?_)
    · refine g_iconst (v := (0 : Int32)) C dL_law_951 (by decide) ?_
      exact hret _ _ _ _ _ _ (by omega) (by omega) hw dL_law_952
    · refine g_aload_n C 1 rfl rfl dL_law_875 ?_
      refine g_iload C 5 rfl dL_law_876 ?_
      refine g_iload C 6 rfl dL_law_878 ?_
      refine g_iconst (v := (1 : Int32)) C dL_law_880 (by decide) ?_
      refine gc_I (mc := 0) (ms := 0) C (gr_V (mc := 0) (ms := 0) (As := [.int v13, .int v14, .int (1 : Int32)]) (rest := []) C hK 3 (gd_V wt_262 wt_263 wt_264 wt_1 wt_265) rfl rfl rfl ⟨rfl, hs_X11_whirls⟩ ⟨⟨Nat.le_of_ble_eq_true rfl, Nat.le_of_ble_eq_true rfl⟩, (by show _ ≤ 888223; omega), (by show _ ≤ 6437580; omega)⟩ rfl 0 (ga_0 cy A _) rfl rfl (Nat.le_of_ble_eq_true rfl) dL_law_881 (c_X11_whirls (q_l κ) (q_D κ) cy A hw)) (fun r60 σ59 hw => ?_)
      refine g_widen (k' := 20 + kk) (n' := 245 + 3 * kk) (by omega) (by omega) ?_
      refine g_iload C 9 rfl dL_law_884 ?_
      refine g_if_eq C 894 (by decide) hw dL_law_886 (fun hw => ?_) (fun hw => ?_)
      · refine g_aload_n C 3 rfl rfl dL_law_894 ?_
        refine g_iconst (v := (4 : Int32)) C dL_law_895 (by decide) ?_
        refine g_iald C hK 19 2 (ga_19 cy A _) rfl hw.1 dL_law_896 ?_
        replace hw := hw.2
        exact J897 _ hK80 σ59 kk v5 v13 v14 v15 v17 v18 (σ59.1 19 (4 : Int32).toNatClampNeg) r60 (by omega) hw
      · refine g_bipush (v := (-103 : Int32)) C dL_law_889 (by decide) ?_
        refine g_goto C 897 (by decide) dL_law_891 ?_
        exact J897 _ hK80 σ59 kk v5 v13 v14 v15 v17 v18 (-103 : Int32) r60 (by omega) hw
  have J848 : ∀ (K80 : St → Nat → Int32 → Prop) (_ : ∀ (σ : St) (kk : Nat) (v5 : Int32), kk ≤ 600 → K80 σ kk v5 → GW κ (20 + kk) (245 + 3 * kk) (gW cy A σ) 80 [(0, .ref b), (1, .ref (A 0)), (2, .ref (A 18)), (3, .ref (A 19)), (5, .int v5)] []), ∀ (σ : St) (kk : Nat) (v5 : Int32) (v13 : Int32) (v14 : Int32) (v15 : Int64) (v17 : Int32) (s0 : Int32), kk ≤ 600 → wL_law_848 K80 L xs σ kk v5 v13 v14 v15 v17 s0 → GW κ (20 + kk) (245 + 3 * kk) (gW cy A σ) 848 [(0, .ref b), (1, .ref (A 0)), (2, .ref (A 18)), (3, .ref (A 19)), (5, .int v5), (13, .int v13), (14, .int v14), (15, .long v15), (17, .int v17)] [.int s0] := by
    intro K80 hK80 σ kk v5 v13 v14 v15 v17 s0 hk6 hw
    unfold wL_law_848 at hw
    refine g_istore C [(18, .int s0), (0, .ref b), (1, .ref (A 0)), (2, .ref (A 18)), (3, .ref (A 19)), (5, .int v5), (13, .int v13), (14, .int v14), (15, .long v15), (17, .int v17)] hN (by decide) rfl dL_law_848 ?_
    refine g_aload_n C 2 rfl rfl dL_law_850 ?_
    refine g_iload C 6 rfl dL_law_851 ?_
    refine g_iload C 7 rfl dL_law_853 ?_
    refine g_iconst (v := (0 : Int32)) C dL_law_855 (by decide) ?_
    refine gc_I (mc := 0) (ms := 0) C (gr_V (mc := 0) (ms := 0) (As := [.int v13, .int v14, .int (0 : Int32)]) (rest := []) C hK 3 (gd_V wt_262 wt_263 wt_264 wt_1 wt_265) rfl rfl rfl ⟨rfl, hs_X11_whirls⟩ ⟨⟨Nat.le_of_ble_eq_true rfl, Nat.le_of_ble_eq_true rfl⟩, (by show _ ≤ 888223; omega), (by show _ ≤ 6437580; omega)⟩ rfl 0 (ga_0 cy A _) rfl rfl (Nat.le_of_ble_eq_true rfl) dL_law_856 (c_X11_whirls (q_l κ) (q_D κ) cy A hw)) (fun r58 σ57 hw => ?_)
    refine g_widen (k' := 20 + kk) (n' := 245 + 3 * kk) (by omega) (by omega) ?_
    refine g_iload C 0 rfl dL_law_859 ?_
    refine g_if_eq C 869 (by decide) hw dL_law_861 (fun hw => ?_) (fun hw => ?_)
    · refine g_aload_n C 4 rfl rfl dL_law_869 ?_
      refine g_iconst (v := (0 : Int32)) C dL_law_870 (by decide) ?_
      refine g_iald C hK 19 2 (ga_19 cy A _) rfl hw.1 dL_law_871 ?_
      replace hw := hw.2
      refine g_eql (lv' := [(0, .ref b), (1, .ref (A 0)), (2, .ref (A 18)), (3, .ref (A 19)), (5, .int v5), (13, .int v13), (14, .int v14), (15, .long v15), (17, .int v17), (18, .int s0)]) [1, 2, 3, 4, 5, 6, 7, 8, 9, 0] rfl ?_
      exact J872 _ hK80 σ57 kk v5 v13 v14 v15 v17 s0 (σ57.1 19 (0 : Int32).toNatClampNeg) r58 (by omega) hw
    · refine g_bipush (v := (-103 : Int32)) C dL_law_864 (by decide) ?_
      refine g_goto C 872 (by decide) dL_law_866 ?_
      refine g_eql (lv' := [(0, .ref b), (1, .ref (A 0)), (2, .ref (A 18)), (3, .ref (A 19)), (5, .int v5), (13, .int v13), (14, .int v14), (15, .long v15), (17, .int v17), (18, .int s0)]) [1, 2, 3, 4, 5, 6, 7, 8, 9, 0] rfl ?_
      exact J872 _ hK80 σ57 kk v5 v13 v14 v15 v17 s0 (-103 : Int32) r58 (by omega) hw
  have J835 : ∀ (K80 : St → Nat → Int32 → Prop) (_ : ∀ (σ : St) (kk : Nat) (v5 : Int32), kk ≤ 600 → K80 σ kk v5 → GW κ (20 + kk) (245 + 3 * kk) (gW cy A σ) 80 [(0, .ref b), (1, .ref (A 0)), (2, .ref (A 18)), (3, .ref (A 19)), (5, .int v5)] []), ∀ (σ : St) (kk : Nat) (v5 : Int32) (v13 : Int32) (v14 : Int32) (v15 : Int64) (v17 : Int32), kk ≤ 600 → wL_law_835 K80 L xs σ kk v5 v13 v14 v15 v17 → GW κ (20 + kk) (245 + 3 * kk) (gW cy A σ) 835 [(0, .ref b), (1, .ref (A 0)), (2, .ref (A 18)), (3, .ref (A 19)), (5, .int v5), (13, .int v13), (14, .int v14), (15, .long v15), (17, .int v17)] [] := by
    intro K80 hK80 σ kk v5 v13 v14 v15 v17 hk6 hw
    unfold wL_law_835 at hw
    refine g_aload_n C 2 rfl rfl dL_law_835 ?_
    refine g_bipush (v := (6 : Int32)) C dL_law_836 (by decide) ?_
    refine g_iald C hK 18 2 (ga_18 cy A _) rfl hw.1 dL_law_838 ?_
    replace hw := hw.2
    refine g_iconst (v := (1 : Int32)) C dL_law_839 (by decide) ?_
    refine g_icmp_ne C 847 (by decide) hw dL_law_840 (fun hw => ?_) (fun hw => ?_)
    · refine g_iconst (v := (0 : Int32)) C dL_law_847 (by decide) ?_
      exact J848 _ hK80 σ kk v5 v13 v14 v15 v17 (0 : Int32) (by omega) hw
    · refine g_iconst (v := (1 : Int32)) C dL_law_843 (by decide) ?_
      refine g_goto C 848 (by decide) dL_law_844 ?_
      exact J848 _ hK80 σ kk v5 v13 v14 v15 v17 (1 : Int32) (by omega) hw
  have J829 : ∀ (K80 : St → Nat → Int32 → Prop) (_ : ∀ (σ : St) (kk : Nat) (v5 : Int32), kk ≤ 600 → K80 σ kk v5 → GW κ (20 + kk) (245 + 3 * kk) (gW cy A σ) 80 [(0, .ref b), (1, .ref (A 0)), (2, .ref (A 18)), (3, .ref (A 19)), (5, .int v5)] [])  (K722 : St → Nat → Int32 → Int32 → Int32 → Int64 → Int32 → Prop) (_ : ∀ (σ : St) (kk : Nat) (v5 : Int32) (v13 : Int32) (v14 : Int32) (v15 : Int64) (v17 : Int32), kk ≤ 600 → K722 σ kk v5 v13 v14 v15 v17 → GW κ (20 + kk) (245 + 3 * kk) (gW cy A σ) 722 [(0, .ref b), (1, .ref (A 0)), (2, .ref (A 18)), (3, .ref (A 19)), (5, .int v5), (13, .int v13), (14, .int v14), (15, .long v15), (17, .int v17)] []), ∀ (σ : St) (kk : Nat) (v5 : Int32) (v13 : Int32) (v14 : Int32) (v15 : Int64) (s0 : Int32) (s1 : Int32), kk ≤ 600 → wL_law_829 K80 K722 L xs σ kk v5 v13 v14 v15 s0 s1 → GW κ (20 + kk) (245 + 3 * kk) (gW cy A σ) 829 [(0, .ref b), (1, .ref (A 0)), (2, .ref (A 18)), (3, .ref (A 19)), (5, .int v5), (13, .int v13), (14, .int v14), (15, .long v15)] [.int s0, .int s1] := by
    intro K80 hK80 K722 hK722 σ kk v5 v13 v14 v15 s0 s1 hk6 hw
    unfold wL_law_829 at hw
    refine g_iadd C dL_law_829 ?_
    refine g_istore C [(17, .int (s1 + s0)), (0, .ref b), (1, .ref (A 0)), (2, .ref (A 18)), (3, .ref (A 19)), (5, .int v5), (13, .int v13), (14, .int v14), (15, .long v15)] hN (by decide) rfl dL_law_830 ?_
    refine g_goto C 722 (by decide) dL_law_832 ?_
    refine g_eql (lv' := [(0, .ref b), (1, .ref (A 0)), (2, .ref (A 18)), (3, .ref (A 19)), (5, .int v5), (13, .int v13), (14, .int v14), (15, .long v15), (17, .int (s1 + s0))]) [1, 2, 3, 4, 5, 6, 7, 8, 0] rfl ?_
    exact hK722 σ kk v5 v13 v14 v15 (s1 + s0) (by omega) hw
  have J810 : ∀ (K80 : St → Nat → Int32 → Prop) (_ : ∀ (σ : St) (kk : Nat) (v5 : Int32), kk ≤ 600 → K80 σ kk v5 → GW κ (20 + kk) (245 + 3 * kk) (gW cy A σ) 80 [(0, .ref b), (1, .ref (A 0)), (2, .ref (A 18)), (3, .ref (A 19)), (5, .int v5)] [])  (K722 : St → Nat → Int32 → Int32 → Int32 → Int64 → Int32 → Prop) (_ : ∀ (σ : St) (kk : Nat) (v5 : Int32) (v13 : Int32) (v14 : Int32) (v15 : Int64) (v17 : Int32), kk ≤ 600 → K722 σ kk v5 v13 v14 v15 v17 → GW κ (20 + kk) (245 + 3 * kk) (gW cy A σ) 722 [(0, .ref b), (1, .ref (A 0)), (2, .ref (A 18)), (3, .ref (A 19)), (5, .int v5), (13, .int v13), (14, .int v14), (15, .long v15), (17, .int v17)] []), ∀ (σ : St) (kk : Nat) (v5 : Int32) (v13 : Int32) (v14 : Int32) (v15 : Int64) (v17 : Int32) (s0 : Int32), kk ≤ 600 → wL_law_810 K80 K722 L xs σ kk v5 v13 v14 v15 v17 s0 → GW κ (20 + kk) (245 + 3 * kk) (gW cy A σ) 810 [(0, .ref b), (1, .ref (A 0)), (2, .ref (A 18)), (3, .ref (A 19)), (5, .int v5), (13, .int v13), (14, .int v14), (15, .long v15), (17, .int v17)] [.int s0] := by
    intro K80 hK80 K722 hK722 σ kk v5 v13 v14 v15 v17 s0 hk6 hw
    unfold wL_law_810 at hw
    refine g_istore C [(19, .int s0), (0, .ref b), (1, .ref (A 0)), (2, .ref (A 18)), (3, .ref (A 19)), (5, .int v5), (13, .int v13), (14, .int v14), (15, .long v15), (17, .int v17)] hN (by decide) rfl dL_law_810 ?_
    refine g_iload C 9 rfl dL_law_812 ?_
    refine g_aload_n C 4 rfl rfl dL_law_814 ?_
    refine g_iload C 0 rfl dL_law_815 ?_
    refine gc_I (mc := 0) (ms := 0) C (gr_S (mc := 0) (ms := 0) (As := [.ref (A 19), .int s0]) (rest := [.int v17]) C hK 2 (gd_S wt_423 wt_424 wt_0 wt_425) rfl rfl rfl hs_L_hour ⟨⟨Nat.le_of_ble_eq_true rfl, Nat.le_of_ble_eq_true rfl⟩, (by show _ ≤ 888223; omega), (by show _ ≤ 6437580; omega)⟩ rfl rfl (Nat.le_of_ble_eq_true rfl) dL_law_817 (c_L_hour (q_l κ) (q_D κ) cy A hQ19 hw)) (fun r56 σ55 hw => ?_)
    refine g_widen (k' := 20 + kk) (n' := 245 + 3 * kk) (by omega) (by omega) ?_
    refine g_iconst (v := (-1 : Int32)) C dL_law_820 (by decide) ?_
    refine g_icmp_ge C 828 (by decide) hw dL_law_821 (fun hw => ?_) (fun hw => ?_)
    · refine g_iconst (v := (1 : Int32)) C dL_law_828 (by decide) ?_
      refine g_eql (lv' := [(0, .ref b), (1, .ref (A 0)), (2, .ref (A 18)), (3, .ref (A 19)), (5, .int v5), (13, .int v13), (14, .int v14), (15, .long v15)]) [1, 2, 3, 4, 5, 6, 7, 8] rfl ?_
      exact J829 _ hK80 _ hK722 σ55 kk v5 v13 v14 v15 (1 : Int32) v17 (by omega) hw
    · refine g_iconst (v := (0 : Int32)) C dL_law_824 (by decide) ?_
      refine g_goto C 829 (by decide) dL_law_825 ?_
      refine g_eql (lv' := [(0, .ref b), (1, .ref (A 0)), (2, .ref (A 18)), (3, .ref (A 19)), (5, .int v5), (13, .int v13), (14, .int v14), (15, .long v15)]) [1, 2, 3, 4, 5, 6, 7, 8] rfl ?_
      exact J829 _ hK80 _ hK722 σ55 kk v5 v13 v14 v15 (0 : Int32) v17 (by omega) hw
  have J809 : ∀ (K80 : St → Nat → Int32 → Prop) (_ : ∀ (σ : St) (kk : Nat) (v5 : Int32), kk ≤ 600 → K80 σ kk v5 → GW κ (20 + kk) (245 + 3 * kk) (gW cy A σ) 80 [(0, .ref b), (1, .ref (A 0)), (2, .ref (A 18)), (3, .ref (A 19)), (5, .int v5)] [])  (K722 : St → Nat → Int32 → Int32 → Int32 → Int64 → Int32 → Prop) (_ : ∀ (σ : St) (kk : Nat) (v5 : Int32) (v13 : Int32) (v14 : Int32) (v15 : Int64) (v17 : Int32), kk ≤ 600 → K722 σ kk v5 v13 v14 v15 v17 → GW κ (20 + kk) (245 + 3 * kk) (gW cy A σ) 722 [(0, .ref b), (1, .ref (A 0)), (2, .ref (A 18)), (3, .ref (A 19)), (5, .int v5), (13, .int v13), (14, .int v14), (15, .long v15), (17, .int v17)] []), ∀ (σ : St) (kk : Nat) (v5 : Int32) (v13 : Int32) (v14 : Int32) (v15 : Int64) (v17 : Int32), kk ≤ 600 → wL_law_809 K80 K722 L xs σ kk v5 v13 v14 v15 v17 → GW κ (20 + kk) (245 + 3 * kk) (gW cy A σ) 809 [(0, .ref b), (1, .ref (A 0)), (2, .ref (A 18)), (3, .ref (A 19)), (5, .int v5), (13, .int v13), (14, .int v14), (15, .long v15), (17, .int v17)] [] := by
    intro K80 hK80 K722 hK722 σ kk v5 v13 v14 v15 v17 hk6 hw
    unfold wL_law_809 at hw
    refine g_iconst (v := (0 : Int32)) C dL_law_809 (by decide) ?_
    exact J810 _ hK80 _ hK722 σ kk v5 v13 v14 v15 v17 (0 : Int32) (by omega) hw
  have J780 : ∀ (K80 : St → Nat → Int32 → Prop) (_ : ∀ (σ : St) (kk : Nat) (v5 : Int32), kk ≤ 600 → K80 σ kk v5 → GW κ (20 + kk) (245 + 3 * kk) (gW cy A σ) 80 [(0, .ref b), (1, .ref (A 0)), (2, .ref (A 18)), (3, .ref (A 19)), (5, .int v5)] [])  (K722 : St → Nat → Int32 → Int32 → Int32 → Int64 → Int32 → Prop) (_ : ∀ (σ : St) (kk : Nat) (v5 : Int32) (v13 : Int32) (v14 : Int32) (v15 : Int64) (v17 : Int32), kk ≤ 600 → K722 σ kk v5 v13 v14 v15 v17 → GW κ (20 + kk) (245 + 3 * kk) (gW cy A σ) 722 [(0, .ref b), (1, .ref (A 0)), (2, .ref (A 18)), (3, .ref (A 19)), (5, .int v5), (13, .int v13), (14, .int v14), (15, .long v15), (17, .int v17)] []), ∀ (σ : St) (kk : Nat) (v5 : Int32) (v13 : Int32) (v14 : Int32) (v15 : Int64) (v17 : Int32) (s0 : Int32), kk ≤ 600 → wL_law_780 K80 K722 L xs σ kk v5 v13 v14 v15 v17 s0 → GW κ (20 + kk) (245 + 3 * kk) (gW cy A σ) 780 [(0, .ref b), (1, .ref (A 0)), (2, .ref (A 18)), (3, .ref (A 19)), (5, .int v5), (13, .int v13), (14, .int v14), (15, .long v15), (17, .int v17)] [.int s0] := by
    intro K80 hK80 K722 hK722 σ kk v5 v13 v14 v15 v17 s0 hk6 hw
    unfold wL_law_780 at hw
    refine g_istore C [(19, .int s0), (0, .ref b), (1, .ref (A 0)), (2, .ref (A 18)), (3, .ref (A 19)), (5, .int v5), (13, .int v13), (14, .int v14), (15, .long v15), (17, .int v17)] hN (by decide) rfl dL_law_780 ?_
    refine g_aload_n C 4 rfl rfl dL_law_782 ?_
    refine g_iconst (v := (0 : Int32)) C dL_law_783 (by decide) ?_
    refine g_iald C hK 19 2 (ga_19 cy A _) rfl hw.1 dL_law_784 ?_
    replace hw := hw.2
    refine g_iload C 0 rfl dL_law_785 ?_
    refine g_isub C dL_law_787 ?_
    refine g_bipush (v := (9 : Int32)) C dL_law_788 (by decide) ?_
    refine g_icmp_le C 809 (by decide) hw dL_law_790 (fun hw => ?_) (fun hw => ?_)
    · refine g_eql (lv' := [(0, .ref b), (1, .ref (A 0)), (2, .ref (A 18)), (3, .ref (A 19)), (5, .int v5), (13, .int v13), (14, .int v14), (15, .long v15), (17, .int v17)]) [1, 2, 3, 4, 5, 6, 7, 8, 9] rfl ?_
      exact J809 _ hK80 _ hK722 σ kk v5 v13 v14 v15 v17 (by omega) hw
    · refine g_aload_n C 4 rfl rfl dL_law_793 ?_
      refine g_iconst (v := (0 : Int32)) C dL_law_794 (by decide) ?_
      refine g_iald C hK 19 2 (ga_19 cy A _) rfl hw.1 dL_law_795 ?_
      replace hw := hw.2
      refine g_iload C 0 rfl dL_law_796 ?_
      refine g_isub C dL_law_798 ?_
      refine g_bipush (v := (41 : Int32)) C dL_law_799 (by decide) ?_
      refine g_icmp_ge C 809 (by decide) hw dL_law_801 (fun hw => ?_) (fun hw => ?_)
      · refine g_eql (lv' := [(0, .ref b), (1, .ref (A 0)), (2, .ref (A 18)), (3, .ref (A 19)), (5, .int v5), (13, .int v13), (14, .int v14), (15, .long v15), (17, .int v17)]) [1, 2, 3, 4, 5, 6, 7, 8, 9] rfl ?_
        exact J809 _ hK80 _ hK722 σ kk v5 v13 v14 v15 v17 (by omega) hw
      · refine g_iload C 0 rfl dL_law_804 ?_
        refine g_goto C 810 (by decide) dL_law_806 ?_
        refine g_eql (lv' := [(0, .ref b), (1, .ref (A 0)), (2, .ref (A 18)), (3, .ref (A 19)), (5, .int v5), (13, .int v13), (14, .int v14), (15, .long v15), (17, .int v17)]) [1, 2, 3, 4, 5, 6, 7, 8, 9] rfl ?_
        exact J810 _ hK80 _ hK722 σ kk v5 v13 v14 v15 v17 s0 (by omega) hw
  have J722 : ∀ (K80 : St → Nat → Int32 → Prop) (_ : ∀ (σ : St) (kk : Nat) (v5 : Int32), kk ≤ 600 → K80 σ kk v5 → GW κ (20 + kk) (245 + 3 * kk) (gW cy A σ) 80 [(0, .ref b), (1, .ref (A 0)), (2, .ref (A 18)), (3, .ref (A 19)), (5, .int v5)] []), ∀ (n : Nat) (σ : St) (kk : Nat) (v5 : Int32) (v13 : Int32) (v14 : Int32) (v15 : Int64) (v17 : Int32), kk ≤ 600 → wL_law_722 K80 L xs n σ kk v5 v13 v14 v15 v17 → GW κ (20 + kk) (245 + 3 * kk) (gW cy A σ) 722 [(0, .ref b), (1, .ref (A 0)), (2, .ref (A 18)), (3, .ref (A 19)), (5, .int v5), (13, .int v13), (14, .int v14), (15, .long v15), (17, .int v17)] [] := by
    intro K80 hK80 n
    induction n with
    | zero => intro σ kk v5 v13 v14 v15 v17 hk6 hw; exact hw.elim
    | succ n ih =>
      intro σ kk v5 v13 v14 v15 v17 hk6 hw
      rw [wL_law_722] at hw
      refine g_iload C 8 rfl dL_law_722 ?_
      refine g_iload C 5 rfl dL_law_724 ?_
      refine g_icmp_ge C 835 (by decide) hw dL_law_726 (fun hw => ?_) (fun hw => ?_)
      · exact J835 _ hK80 σ kk v5 v13 v14 v15 v17 (by omega) hw
      · refine g_aload_n C 3 rfl rfl dL_law_729 ?_
        refine g_bipush (v := (6 : Int32)) C dL_law_730 (by decide) ?_
        refine g_iald C hK 19 2 (ga_19 cy A _) rfl hw.1 dL_law_732 ?_
        replace hw := hw.2
        refine g_if_ne C 835 (by decide) hw dL_law_733 (fun hw => ?_) (fun hw => ?_)
        · exact J835 _ hK80 σ kk v5 v13 v14 v15 v17 (by omega) hw
        · refine g_ldc2 (v := (1103515245 : Int64)) C dL_law_736 wt_449 ?_
          refine g_lload C 7 rfl dL_law_739 ?_
          refine g_lmul C dL_law_741 ?_
          refine g_ldc2 (v := (12345 : Int64)) C dL_law_742 wt_450 ?_
          refine g_ladd C dL_law_745 ?_
          refine g_ldc2 (v := (2147483648 : Int64)) C dL_law_746 wt_451 ?_
          refine g_lrem C hw.1 dL_law_749 ?_
          replace hw := hw.2
          refine g_lstore C [(15, .long ((((1103515245 : Int64) * v15) + (12345 : Int64)) - (((1103515245 : Int64) * v15) + (12345 : Int64)) / (2147483648 : Int64) * (2147483648 : Int64))), (0, .ref b), (1, .ref (A 0)), (2, .ref (A 18)), (3, .ref (A 19)), (5, .int v5), (13, .int v13), (14, .int v14), (17, .int v17)] hN (by decide) rfl dL_law_750 ?_
          refine g_lload C 0 rfl dL_law_752 ?_
          refine g_ldc2 (v := (65536 : Int64)) C dL_law_754 wt_452 ?_
          refine g_ldiv C hw.1 dL_law_757 ?_
          replace hw := hw.2
          refine g_ldc2 (v := (7 : Int64)) C dL_law_758 wt_453 ?_
          refine g_lrem C hw.1 dL_law_761 ?_
          replace hw := hw.2
          refine g_l2i C dL_law_762 ?_
          refine g_istore C [(18, .int ((((((1103515245 : Int64) * v15) + (12345 : Int64)) - (((1103515245 : Int64) * v15) + (12345 : Int64)) / (2147483648 : Int64) * (2147483648 : Int64)) / (65536 : Int64)) - (((((1103515245 : Int64) * v15) + (12345 : Int64)) - (((1103515245 : Int64) * v15) + (12345 : Int64)) / (2147483648 : Int64) * (2147483648 : Int64)) / (65536 : Int64)) / (7 : Int64) * (7 : Int64)).toInt32), (15, .long ((((1103515245 : Int64) * v15) + (12345 : Int64)) - (((1103515245 : Int64) * v15) + (12345 : Int64)) / (2147483648 : Int64) * (2147483648 : Int64))), (0, .ref b), (1, .ref (A 0)), (2, .ref (A 18)), (3, .ref (A 19)), (5, .int v5), (13, .int v13), (14, .int v14), (17, .int v17)] hN (by decide) rfl dL_law_763 ?_
          refine g_iload C 0 rfl dL_law_765 ?_
          refine g_iconst (v := (4 : Int32)) C dL_law_767 (by decide) ?_
          refine g_icmp_ge C 776 (by decide) hw dL_law_768 (fun hw => ?_) (fun hw => ?_)
          · refine g_iconst (v := (3 : Int32)) C dL_law_776 (by decide) ?_
            refine g_iload C 0 rfl dL_law_777 ?_
            refine g_isub C dL_law_779 ?_
            refine g_eql (lv' := [(0, .ref b), (1, .ref (A 0)), (2, .ref (A 18)), (3, .ref (A 19)), (5, .int v5), (13, .int v13), (14, .int v14), (15, .long ((((1103515245 : Int64) * v15) + (12345 : Int64)) - (((1103515245 : Int64) * v15) + (12345 : Int64)) / (2147483648 : Int64) * (2147483648 : Int64))), (17, .int v17)]) [2, 3, 4, 5, 6, 7, 8, 1, 9] rfl ?_
            exact J780 _ hK80 _ ih σ kk v5 v13 v14 ((((1103515245 : Int64) * v15) + (12345 : Int64)) - (((1103515245 : Int64) * v15) + (12345 : Int64)) / (2147483648 : Int64) * (2147483648 : Int64)) v17 ((3 : Int32) - ((((((1103515245 : Int64) * v15) + (12345 : Int64)) - (((1103515245 : Int64) * v15) + (12345 : Int64)) / (2147483648 : Int64) * (2147483648 : Int64)) / (65536 : Int64)) - (((((1103515245 : Int64) * v15) + (12345 : Int64)) - (((1103515245 : Int64) * v15) + (12345 : Int64)) / (2147483648 : Int64) * (2147483648 : Int64)) / (65536 : Int64)) / (7 : Int64) * (7 : Int64)).toInt32) (by omega) hw
          · refine g_iload C 0 rfl dL_law_771 ?_
            refine g_goto C 780 (by decide) dL_law_773 ?_
            refine g_eql (lv' := [(0, .ref b), (1, .ref (A 0)), (2, .ref (A 18)), (3, .ref (A 19)), (5, .int v5), (13, .int v13), (14, .int v14), (15, .long ((((1103515245 : Int64) * v15) + (12345 : Int64)) - (((1103515245 : Int64) * v15) + (12345 : Int64)) / (2147483648 : Int64) * (2147483648 : Int64))), (17, .int v17)]) [2, 3, 4, 5, 6, 7, 8, 1, 9] rfl ?_
            exact J780 _ hK80 _ ih σ kk v5 v13 v14 ((((1103515245 : Int64) * v15) + (12345 : Int64)) - (((1103515245 : Int64) * v15) + (12345 : Int64)) / (2147483648 : Int64) * (2147483648 : Int64)) v17 ((((((1103515245 : Int64) * v15) + (12345 : Int64)) - (((1103515245 : Int64) * v15) + (12345 : Int64)) / (2147483648 : Int64) * (2147483648 : Int64)) / (65536 : Int64)) - (((((1103515245 : Int64) * v15) + (12345 : Int64)) - (((1103515245 : Int64) * v15) + (12345 : Int64)) / (2147483648 : Int64) * (2147483648 : Int64)) / (65536 : Int64)) / (7 : Int64) * (7 : Int64)).toInt32 (by omega) hw
  have J698 : ∀ (K80 : St → Nat → Int32 → Prop) (_ : ∀ (σ : St) (kk : Nat) (v5 : Int32), kk ≤ 600 → K80 σ kk v5 → GW κ (20 + kk) (245 + 3 * kk) (gW cy A σ) 80 [(0, .ref b), (1, .ref (A 0)), (2, .ref (A 18)), (3, .ref (A 19)), (5, .int v5)] []), ∀ (n : Nat) (σ : St) (kk : Nat) (v5 : Int32) (v13 : Int32) (v14 : Int32) (v15 : Int64) (v17 : Int32), kk ≤ 600 → wL_law_698 K80 L xs n σ kk v5 v13 v14 v15 v17 → GW κ (20 + kk) (245 + 3 * kk) (gW cy A σ) 698 [(0, .ref b), (1, .ref (A 0)), (2, .ref (A 18)), (3, .ref (A 19)), (5, .int v5), (13, .int v13), (14, .int v14), (15, .long v15), (17, .int v17)] [] := by
    intro K80 hK80 n
    induction n with
    | zero => intro σ kk v5 v13 v14 v15 v17 hk6 hw; exact hw.elim
    | succ n ih =>
      intro σ kk v5 v13 v14 v15 v17 hk6 hw
      rw [wL_law_698] at hw
      refine g_iload C 8 rfl dL_law_698 ?_
      refine g_bipush (v := (32 : Int32)) C dL_law_700 (by decide) ?_
      refine g_icmp_ge C 719 (by decide) hw dL_law_702 (fun hw => ?_) (fun hw => ?_)
      · refine g_iconst (v := (0 : Int32)) C dL_law_719 (by decide) ?_
        refine g_istore C [(17, .int (0 : Int32)), (0, .ref b), (1, .ref (A 0)), (2, .ref (A 18)), (3, .ref (A 19)), (5, .int v5), (13, .int v13), (14, .int v14), (15, .long v15)] hN (by decide) rfl dL_law_720 ?_
        refine g_eql (lv' := [(0, .ref b), (1, .ref (A 0)), (2, .ref (A 18)), (3, .ref (A 19)), (5, .int v5), (13, .int v13), (14, .int v14), (15, .long v15), (17, .int (0 : Int32))]) [1, 2, 3, 4, 5, 6, 7, 8, 0] rfl ?_
        obtain ⟨n0, hw⟩ := hw
        exact J722 _ hK80 n0 σ kk v5 v13 v14 v15 (0 : Int32) (by omega) hw
      · refine g_aload_n C 3 rfl rfl dL_law_705 ?_
        refine g_iload C 8 rfl dL_law_706 ?_
        refine g_aload_n C 2 rfl rfl dL_law_708 ?_
        refine g_iload C 8 rfl dL_law_709 ?_
        refine g_iald C hK 18 2 (ga_18 cy A _) rfl hw.1 dL_law_711 ?_
        replace hw := hw.2
        refine g_iast C hK 19 2 (ga_19 cy A _) rfl hw.1 (gs_19 cy A _ _ _) dL_law_712 ?_
        replace hw := hw.2
        refine g_iinc (j := 8) C [(17, .int (v17 + 1)), (0, .ref b), (1, .ref (A 0)), (2, .ref (A 18)), (3, .ref (A 19)), (5, .int v5), (13, .int v13), (14, .int v14), (15, .long v15)] hN rfl rfl (by decide) rfl dL_law_713 ?_
        refine g_goto C 698 (by decide) dL_law_716 ?_
        refine g_eql (lv' := [(0, .ref b), (1, .ref (A 0)), (2, .ref (A 18)), (3, .ref (A 19)), (5, .int v5), (13, .int v13), (14, .int v14), (15, .long v15), (17, .int (v17 + 1))]) [1, 2, 3, 4, 5, 6, 7, 8, 0] rfl ?_
        exact ih (sV σ 19 v17.toNatClampNeg (σ.1 18 v17.toNatClampNeg)) kk v5 v13 v14 v15 (v17 + 1) (by omega) hw
  have J649 : ∀ (K80 : St → Nat → Int32 → Prop) (_ : ∀ (σ : St) (kk : Nat) (v5 : Int32), kk ≤ 600 → K80 σ kk v5 → GW κ (20 + kk) (245 + 3 * kk) (gW cy A σ) 80 [(0, .ref b), (1, .ref (A 0)), (2, .ref (A 18)), (3, .ref (A 19)), (5, .int v5)] []), ∀ (σ : St) (kk : Nat) (v5 : Int32) (v6 : Int32) (s0 : Int32) (s1 : Int32), kk ≤ 600 → wL_law_649 K80 L xs σ kk v5 v6 s0 s1 → GW κ (20 + kk) (245 + 3 * kk) (gW cy A σ) 649 [(0, .ref b), (1, .ref (A 0)), (2, .ref (A 18)), (3, .ref (A 19)), (5, .int v5), (6, .int v6)] [.int s0, .int s1] := by
    intro K80 hK80 σ kk v5 v6 s0 s1 hk6 hw
    unfold wL_law_649 at hw
    refine g_icmp_eq C 654 (by decide) hw dL_law_649 (fun hw => ?_) (fun hw => ?_)
    · refine g_iload C 4 rfl dL_law_654 ?_
      refine g_bipush (v := (6 : Int32)) C dL_law_656 (by decide) ?_
      refine g_irem C hw.1 dL_law_658 ?_
      replace hw := hw.2
      refine g_iconst (v := (2 : Int32)) C dL_law_659 (by decide) ?_
      refine g_icmp_ne C 953 (by decide) hw dL_law_660 (fun hw => ?_) (fun hw => ?_)
      · refine g_eql (lv' := [(0, .ref b), (1, .ref (A 0)), (2, .ref (A 18)), (3, .ref (A 19)), (5, .int v5)]) [0, 1, 2, 3, 4] rfl ?_
        exact J953 _ hK80 σ kk v5 (by omega) hw
      · refine g_iconst (v := (1 : Int32)) C dL_law_663 (by decide) ?_
        refine g_iload C 5 rfl dL_law_664 ?_
        refine g_sipush (v := (512 : Int32)) C dL_law_666 (by decide) ?_
        refine g_idiv C hw.1 dL_law_669 ?_
        replace hw := hw.2
        refine g_bipush (v := (60 : Int32)) C dL_law_670 (by decide) ?_
        refine g_irem C hw.1 dL_law_672 ?_
        replace hw := hw.2
        refine g_iadd C dL_law_673 ?_
        refine g_istore C [(13, .int ((1 : Int32) + ((v6 / (512 : Int32)) - (v6 / (512 : Int32)) / (60 : Int32) * (60 : Int32)))), (0, .ref b), (1, .ref (A 0)), (2, .ref (A 18)), (3, .ref (A 19)), (5, .int v5), (6, .int v6)] hN (by decide) rfl dL_law_674 ?_
        refine g_aload_n C 1 rfl rfl dL_law_676 ?_
        refine g_bipush (v := (52 : Int32)) C dL_law_677 (by decide) ?_
        refine g_iload C 5 rfl dL_law_679 ?_
        refine g_bipush (v := (6 : Int32)) C dL_law_681 (by decide) ?_
        refine g_idiv C hw.1 dL_law_683 ?_
        replace hw := hw.2
        refine g_iadd C dL_law_684 ?_
        obtain ⟨h8, hw⟩ := hw
        refine g_cell (rest := []) C hX hbl hbA hL h8 (gd_S wt_283 wt_284 wt_0 wt_285) ⟨⟨Nat.le_of_ble_eq_true rfl, Nat.le_of_ble_eq_true rfl⟩, (by show _ ≤ 888223; omega), (by show _ ≤ 6437580; omega)⟩ (Nat.le_of_ble_eq_true rfl) dL_law_685 ?_
        refine g_istore C [(14, .int (cellV xs L ((52 : Int32) + (v5 / (6 : Int32))))), (13, .int ((1 : Int32) + ((v6 / (512 : Int32)) - (v6 / (512 : Int32)) / (60 : Int32) * (60 : Int32)))), (0, .ref b), (1, .ref (A 0)), (2, .ref (A 18)), (3, .ref (A 19)), (5, .int v5), (6, .int v6)] hN (by decide) rfl dL_law_688 ?_
        refine g_iload C 0 rfl dL_law_690 ?_
        refine g_i2l C dL_law_692 ?_
        refine g_lstore C [(15, .long (cellV xs L ((52 : Int32) + (v5 / (6 : Int32)))).toInt64), (14, .int (cellV xs L ((52 : Int32) + (v5 / (6 : Int32))))), (13, .int ((1 : Int32) + ((v6 / (512 : Int32)) - (v6 / (512 : Int32)) / (60 : Int32) * (60 : Int32)))), (0, .ref b), (1, .ref (A 0)), (2, .ref (A 18)), (3, .ref (A 19)), (5, .int v5), (6, .int v6)] hN (by decide) rfl dL_law_693 ?_
        refine g_iconst (v := (0 : Int32)) C dL_law_695 (by decide) ?_
        refine g_istore C [(17, .int (0 : Int32)), (15, .long (cellV xs L ((52 : Int32) + (v5 / (6 : Int32)))).toInt64), (14, .int (cellV xs L ((52 : Int32) + (v5 / (6 : Int32))))), (13, .int ((1 : Int32) + ((v6 / (512 : Int32)) - (v6 / (512 : Int32)) / (60 : Int32) * (60 : Int32)))), (0, .ref b), (1, .ref (A 0)), (2, .ref (A 18)), (3, .ref (A 19)), (5, .int v5), (6, .int v6)] hN (by decide) rfl dL_law_696 ?_
        refine g_eql (lv' := [(0, .ref b), (1, .ref (A 0)), (2, .ref (A 18)), (3, .ref (A 19)), (5, .int v5), (13, .int ((1 : Int32) + ((v6 / (512 : Int32)) - (v6 / (512 : Int32)) / (60 : Int32) * (60 : Int32)))), (14, .int (cellV xs L ((52 : Int32) + (v5 / (6 : Int32))))), (15, .long (cellV xs L ((52 : Int32) + (v5 / (6 : Int32)))).toInt64), (17, .int (0 : Int32))]) [4, 5, 6, 7, 8, 3, 2, 1, 0] rfl ?_
        obtain ⟨n0, hw⟩ := hw
        exact J698 _ hK80 n0 σ kk v5 ((1 : Int32) + ((v6 / (512 : Int32)) - (v6 / (512 : Int32)) / (60 : Int32) * (60 : Int32))) (cellV xs L ((52 : Int32) + (v5 / (6 : Int32)))) (cellV xs L ((52 : Int32) + (v5 / (6 : Int32)))).toInt64 (0 : Int32) (by omega) hw
    · refine g_iconst (v := (0 : Int32)) C dL_law_652 (by decide) ?_
      exact hret _ _ _ _ _ _ (by omega) (by omega) hw dL_law_653
  have J620 : ∀ (K80 : St → Nat → Int32 → Prop) (_ : ∀ (σ : St) (kk : Nat) (v5 : Int32), kk ≤ 600 → K80 σ kk v5 → GW κ (20 + kk) (245 + 3 * kk) (gW cy A σ) 80 [(0, .ref b), (1, .ref (A 0)), (2, .ref (A 18)), (3, .ref (A 19)), (5, .int v5)] [])  (K564 : St → Nat → Int32 → Int32 → Int32 → Int32 → Int32 → Int32 → Int32 → Prop) (_ : ∀ (σ : St) (kk : Nat) (v5 : Int32) (v6 : Int32) (v9 : Int32) (v10 : Int32) (v11 : Int32) (v12 : Int32) (v13 : Int32), kk ≤ 600 → K564 σ kk v5 v6 v9 v10 v11 v12 v13 → GW κ (20 + kk) (245 + 3 * kk) (gW cy A σ) 564 [(0, .ref b), (1, .ref (A 0)), (2, .ref (A 18)), (3, .ref (A 19)), (5, .int v5), (6, .int v6), (9, .int v9), (10, .int v10), (11, .int v11), (12, .int v12), (13, .int v13)] []), ∀ (σ : St) (kk : Nat) (v5 : Int32) (v6 : Int32) (v9 : Int32) (v10 : Int32) (v11 : Int32) (v13 : Int32) (s0 : Int32), kk ≤ 600 → wL_law_620 K80 K564 L xs σ kk v5 v6 v9 v10 v11 v13 s0 → GW κ (20 + kk) (245 + 3 * kk) (gW cy A σ) 620 [(0, .ref b), (1, .ref (A 0)), (2, .ref (A 18)), (3, .ref (A 19)), (5, .int v5), (6, .int v6), (9, .int v9), (10, .int v10), (11, .int v11), (13, .int v13)] [.int s0] := by
    intro K80 hK80 K564 hK564 σ kk v5 v6 v9 v10 v11 v13 s0 hk6 hw
    unfold wL_law_620 at hw
    refine g_istore C [(12, .int s0), (0, .ref b), (1, .ref (A 0)), (2, .ref (A 18)), (3, .ref (A 19)), (5, .int v5), (6, .int v6), (9, .int v9), (10, .int v10), (11, .int v11), (13, .int v13)] hN (by decide) rfl dL_law_620 ?_
    refine g_iinc (j := 10) C [(13, .int (v13 + (-1))), (12, .int s0), (0, .ref b), (1, .ref (A 0)), (2, .ref (A 18)), (3, .ref (A 19)), (5, .int v5), (6, .int v6), (9, .int v9), (10, .int v10), (11, .int v11)] hN rfl (congrArg (fun z => v13 + z) (by decide : Int32.ofInt (-1) = (-1 : Int32))) (by decide) rfl dL_law_622 ?_
    refine g_goto C 564 (by decide) dL_law_625 ?_
    refine g_eql (lv' := [(0, .ref b), (1, .ref (A 0)), (2, .ref (A 18)), (3, .ref (A 19)), (5, .int v5), (6, .int v6), (9, .int v9), (10, .int v10), (11, .int v11), (12, .int s0), (13, .int (v13 + (-1)))]) [2, 3, 4, 5, 6, 7, 8, 9, 10, 1, 0] rfl ?_
    exact hK564 σ kk v5 v6 v9 v10 v11 s0 (v13 + (-1)) (by omega) hw
  have J613 : ∀ (K80 : St → Nat → Int32 → Prop) (_ : ∀ (σ : St) (kk : Nat) (v5 : Int32), kk ≤ 600 → K80 σ kk v5 → GW κ (20 + kk) (245 + 3 * kk) (gW cy A σ) 80 [(0, .ref b), (1, .ref (A 0)), (2, .ref (A 18)), (3, .ref (A 19)), (5, .int v5)] [])  (K564 : St → Nat → Int32 → Int32 → Int32 → Int32 → Int32 → Int32 → Int32 → Prop) (_ : ∀ (σ : St) (kk : Nat) (v5 : Int32) (v6 : Int32) (v9 : Int32) (v10 : Int32) (v11 : Int32) (v12 : Int32) (v13 : Int32), kk ≤ 600 → K564 σ kk v5 v6 v9 v10 v11 v12 v13 → GW κ (20 + kk) (245 + 3 * kk) (gW cy A σ) 564 [(0, .ref b), (1, .ref (A 0)), (2, .ref (A 18)), (3, .ref (A 19)), (5, .int v5), (6, .int v6), (9, .int v9), (10, .int v10), (11, .int v11), (12, .int v12), (13, .int v13)] []), ∀ (σ : St) (kk : Nat) (v5 : Int32) (v6 : Int32) (v9 : Int32) (v10 : Int32) (v11 : Int32) (v13 : Int32), kk ≤ 600 → wL_law_613 K80 K564 L xs σ kk v5 v6 v9 v10 v11 v13 → GW κ (20 + kk) (245 + 3 * kk) (gW cy A σ) 613 [(0, .ref b), (1, .ref (A 0)), (2, .ref (A 18)), (3, .ref (A 19)), (5, .int v5), (6, .int v6), (9, .int v9), (10, .int v10), (11, .int v11), (13, .int v13)] [] := by
    intro K80 hK80 K564 hK564 σ kk v5 v6 v9 v10 v11 v13 hk6 hw
    unfold wL_law_613 at hw
    refine g_iload C 9 rfl dL_law_613 ?_
    refine g_goto C 620 (by decide) dL_law_615 ?_
    exact J620 _ hK80 _ hK564 σ kk v5 v6 v9 v10 v11 v13 v13 (by omega) hw
  have J564 : ∀ (K80 : St → Nat → Int32 → Prop) (_ : ∀ (σ : St) (kk : Nat) (v5 : Int32), kk ≤ 600 → K80 σ kk v5 → GW κ (20 + kk) (245 + 3 * kk) (gW cy A σ) 80 [(0, .ref b), (1, .ref (A 0)), (2, .ref (A 18)), (3, .ref (A 19)), (5, .int v5)] []), ∀ (n : Nat) (σ : St) (kk : Nat) (v5 : Int32) (v6 : Int32) (v9 : Int32) (v10 : Int32) (v11 : Int32) (v12 : Int32) (v13 : Int32), kk ≤ 600 → wL_law_564 K80 L xs n σ kk v5 v6 v9 v10 v11 v12 v13 → GW κ (20 + kk) (245 + 3 * kk) (gW cy A σ) 564 [(0, .ref b), (1, .ref (A 0)), (2, .ref (A 18)), (3, .ref (A 19)), (5, .int v5), (6, .int v6), (9, .int v9), (10, .int v10), (11, .int v11), (12, .int v12), (13, .int v13)] [] := by
    intro K80 hK80 n
    induction n with
    | zero => intro σ kk v5 v6 v9 v10 v11 v12 v13 hk6 hw; exact hw.elim
    | succ n ih =>
      intro σ kk v5 v6 v9 v10 v11 v12 v13 hk6 hw
      rw [wL_law_564] at hw
      refine g_iload C 10 rfl dL_law_564 ?_
      refine g_if_lt C 628 (by decide) hw dL_law_566 (fun hw => ?_) (fun hw => ?_)
      · refine g_aload_n C 1 rfl rfl dL_law_628 ?_
        refine g_iload C 6 rfl dL_law_629 ?_
        refine gc_I (mc := 0) (ms := 0) C (gr_V (mc := 0) (ms := 0) (As := [.int v9]) (rest := []) C hK 1 (gd_V wt_250 wt_251 wt_252 wt_1 wt_253) rfl rfl rfl ⟨rfl, hs_X11_caught⟩ ⟨⟨Nat.le_of_ble_eq_true rfl, Nat.le_of_ble_eq_true rfl⟩, (by show _ ≤ 888223; omega), (by show _ ≤ 6437580; omega)⟩ rfl 0 (ga_0 cy A _) rfl rfl (Nat.le_of_ble_eq_true rfl) dL_law_631 (c_X11_caught (q_l κ) (q_D κ) cy A hw)) (fun r54 σ53 hw => ?_)
        refine g_widen (k' := 20 + kk) (n' := 245 + 3 * kk) (by omega) (by omega) ?_
        refine g_aload_n C 2 rfl rfl dL_law_634 ?_
        refine g_bipush (v := (6 : Int32)) C dL_law_635 (by decide) ?_
        refine g_iald C hK 18 2 (ga_18 cy A _) rfl hw.1 dL_law_637 ?_
        replace hw := hw.2
        refine g_iconst (v := (1 : Int32)) C dL_law_638 (by decide) ?_
        refine g_icmp_ne C 647 (by decide) hw dL_law_639 (fun hw => ?_) (fun hw => ?_)
        · refine g_iload C 9 rfl dL_law_647 ?_
          refine g_eql (lv' := [(0, .ref b), (1, .ref (A 0)), (2, .ref (A 18)), (3, .ref (A 19)), (5, .int v5), (6, .int v6)]) [0, 1, 2, 3, 4, 5] rfl ?_
          exact J649 _ hK80 σ53 kk v5 v6 v12 r54 (by omega) hw
        · refine g_bipush (v := (-103 : Int32)) C dL_law_642 (by decide) ?_
          refine g_goto C 649 (by decide) dL_law_644 ?_
          refine g_eql (lv' := [(0, .ref b), (1, .ref (A 0)), (2, .ref (A 18)), (3, .ref (A 19)), (5, .int v5), (6, .int v6)]) [0, 1, 2, 3, 4, 5] rfl ?_
          exact J649 _ hK80 σ53 kk v5 v6 (-103 : Int32) r54 (by omega) hw
      · refine g_aload_n C 2 rfl rfl dL_law_569 ?_
        refine g_iconst (v := (4 : Int32)) C dL_law_570 (by decide) ?_
        refine g_iald C hK 18 2 (ga_18 cy A _) rfl hw.1 dL_law_571 ?_
        replace hw := hw.2
        refine g_iload C 10 rfl dL_law_572 ?_
        refine g_iload C 7 rfl dL_law_574 ?_
        refine g_imul C dL_law_576 ?_
        refine g_bipush (v := (10 : Int32)) C dL_law_577 (by decide) ?_
        refine g_imul C dL_law_579 ?_
        refine g_iadd C dL_law_580 ?_
        refine g_iload C 8 rfl dL_law_581 ?_
        refine g_isub C dL_law_583 ?_
        refine g_sipush (v := (360 : Int32)) C dL_law_584 (by decide) ?_
        refine g_irem C hw.1 dL_law_587 ?_
        replace hw := hw.2
        refine g_sipush (v := (360 : Int32)) C dL_law_588 (by decide) ?_
        refine g_iadd C dL_law_591 ?_
        refine g_sipush (v := (360 : Int32)) C dL_law_592 (by decide) ?_
        refine g_irem C hw.1 dL_law_595 ?_
        replace hw := hw.2
        refine g_istore C [(14, .int ((((((σ.1 18 (4 : Int32).toNatClampNeg) + ((v13 * v10) * (10 : Int32))) - v11) - (((σ.1 18 (4 : Int32).toNatClampNeg) + ((v13 * v10) * (10 : Int32))) - v11) / (360 : Int32) * (360 : Int32)) + (360 : Int32)) - (((((σ.1 18 (4 : Int32).toNatClampNeg) + ((v13 * v10) * (10 : Int32))) - v11) - (((σ.1 18 (4 : Int32).toNatClampNeg) + ((v13 * v10) * (10 : Int32))) - v11) / (360 : Int32) * (360 : Int32)) + (360 : Int32)) / (360 : Int32) * (360 : Int32))), (0, .ref b), (1, .ref (A 0)), (2, .ref (A 18)), (3, .ref (A 19)), (5, .int v5), (6, .int v6), (9, .int v9), (10, .int v10), (11, .int v11), (12, .int v12), (13, .int v13)] hN (by decide) rfl dL_law_596 ?_
        refine g_iload C 0 rfl dL_law_598 ?_
        refine g_bipush (v := (6 : Int32)) C dL_law_600 (by decide) ?_
        refine g_icmp_lt C 613 (by decide) hw dL_law_602 (fun hw => ?_) (fun hw => ?_)
        · refine g_eql (lv' := [(0, .ref b), (1, .ref (A 0)), (2, .ref (A 18)), (3, .ref (A 19)), (5, .int v5), (6, .int v6), (9, .int v9), (10, .int v10), (11, .int v11), (13, .int v13)]) [1, 2, 3, 4, 5, 6, 7, 8, 9, 11] rfl ?_
          exact J613 _ hK80 _ ih σ kk v5 v6 v9 v10 v11 v13 (by omega) hw
        · refine g_iload C 0 rfl dL_law_605 ?_
          refine g_sipush (v := (354 : Int32)) C dL_law_607 (by decide) ?_
          refine g_icmp_le C 618 (by decide) hw dL_law_610 (fun hw => ?_) (fun hw => ?_)
          · refine g_iload C 10 rfl dL_law_618 ?_
            refine g_eql (lv' := [(0, .ref b), (1, .ref (A 0)), (2, .ref (A 18)), (3, .ref (A 19)), (5, .int v5), (6, .int v6), (9, .int v9), (10, .int v10), (11, .int v11), (13, .int v13)]) [1, 2, 3, 4, 5, 6, 7, 8, 9, 11] rfl ?_
            exact J620 _ hK80 _ ih σ kk v5 v6 v9 v10 v11 v13 v12 (by omega) hw
          · refine g_eql (lv' := [(0, .ref b), (1, .ref (A 0)), (2, .ref (A 18)), (3, .ref (A 19)), (5, .int v5), (6, .int v6), (9, .int v9), (10, .int v10), (11, .int v11), (13, .int v13)]) [1, 2, 3, 4, 5, 6, 7, 8, 9, 11] rfl ?_
            exact J613 _ hK80 _ ih σ kk v5 v6 v9 v10 v11 v13 (by omega) hw
  have J496 : ∀ (K80 : St → Nat → Int32 → Prop) (_ : ∀ (σ : St) (kk : Nat) (v5 : Int32), kk ≤ 600 → K80 σ kk v5 → GW κ (20 + kk) (245 + 3 * kk) (gW cy A σ) 80 [(0, .ref b), (1, .ref (A 0)), (2, .ref (A 18)), (3, .ref (A 19)), (5, .int v5)] [])  (K429 : St → Nat → Int32 → Int32 → Int32 → Prop) (_ : ∀ (σ : St) (kk : Nat) (v5 : Int32) (v6 : Int32) (v9 : Int32), kk ≤ 600 → K429 σ kk v5 v6 v9 → GW κ (20 + kk) (245 + 3 * kk) (gW cy A σ) 429 [(0, .ref b), (1, .ref (A 0)), (2, .ref (A 18)), (3, .ref (A 19)), (5, .int v5), (6, .int v6), (9, .int v9)] [])  (K441 : St → Nat → Int32 → Int32 → Int32 → Int32 → Prop) (_ : ∀ (σ : St) (kk : Nat) (v5 : Int32) (v6 : Int32) (v9 : Int32) (v10 : Int32), kk ≤ 600 → K441 σ kk v5 v6 v9 v10 → GW κ (20 + kk) (245 + 3 * kk) (gW cy A σ) 441 [(0, .ref b), (1, .ref (A 0)), (2, .ref (A 18)), (3, .ref (A 19)), (5, .int v5), (6, .int v6), (9, .int v9), (10, .int v10)] []), ∀ (σ : St) (kk : Nat) (v5 : Int32) (v6 : Int32) (v9 : Int32) (v10 : Int32) (s0 : Int32) (s1 : Int32), kk ≤ 600 → wL_law_496 K80 K429 K441 L xs σ kk v5 v6 v9 v10 s0 s1 → GW κ (20 + kk) (245 + 3 * kk) (gW cy A σ) 496 [(0, .ref b), (1, .ref (A 0)), (2, .ref (A 18)), (3, .ref (A 19)), (5, .int v5), (6, .int v6), (9, .int v9), (10, .int v10)] [.int s0, .int s1] := by
    intro K80 hK80 K429 hK429 K441 hK441 σ kk v5 v6 v9 v10 s0 s1 hk6 hw
    unfold wL_law_496 at hw
    refine g_icmp_eq C 501 (by decide) hw dL_law_496 (fun hw => ?_) (fun hw => ?_)
    · refine g_iinc (j := 7) C [(10, .int (v10 + 1)), (0, .ref b), (1, .ref (A 0)), (2, .ref (A 18)), (3, .ref (A 19)), (5, .int v5), (6, .int v6), (9, .int v9)] hN rfl rfl (by decide) rfl dL_law_501 ?_
      refine g_goto C 441 (by decide) dL_law_504 ?_
      refine g_eql (lv' := [(0, .ref b), (1, .ref (A 0)), (2, .ref (A 18)), (3, .ref (A 19)), (5, .int v5), (6, .int v6), (9, .int v9), (10, .int (v10 + 1))]) [1, 2, 3, 4, 5, 6, 7, 0] rfl ?_
      exact hK441 σ kk v5 v6 v9 (v10 + 1) (by omega) hw
    · refine g_iconst (v := (0 : Int32)) C dL_law_499 (by decide) ?_
      exact hret _ _ _ _ _ _ (by omega) (by omega) hw dL_law_500
  have J495 : ∀ (K80 : St → Nat → Int32 → Prop) (_ : ∀ (σ : St) (kk : Nat) (v5 : Int32), kk ≤ 600 → K80 σ kk v5 → GW κ (20 + kk) (245 + 3 * kk) (gW cy A σ) 80 [(0, .ref b), (1, .ref (A 0)), (2, .ref (A 18)), (3, .ref (A 19)), (5, .int v5)] [])  (K429 : St → Nat → Int32 → Int32 → Int32 → Prop) (_ : ∀ (σ : St) (kk : Nat) (v5 : Int32) (v6 : Int32) (v9 : Int32), kk ≤ 600 → K429 σ kk v5 v6 v9 → GW κ (20 + kk) (245 + 3 * kk) (gW cy A σ) 429 [(0, .ref b), (1, .ref (A 0)), (2, .ref (A 18)), (3, .ref (A 19)), (5, .int v5), (6, .int v6), (9, .int v9)] [])  (K441 : St → Nat → Int32 → Int32 → Int32 → Int32 → Prop) (_ : ∀ (σ : St) (kk : Nat) (v5 : Int32) (v6 : Int32) (v9 : Int32) (v10 : Int32), kk ≤ 600 → K441 σ kk v5 v6 v9 v10 → GW κ (20 + kk) (245 + 3 * kk) (gW cy A σ) 441 [(0, .ref b), (1, .ref (A 0)), (2, .ref (A 18)), (3, .ref (A 19)), (5, .int v5), (6, .int v6), (9, .int v9), (10, .int v10)] []), ∀ (σ : St) (kk : Nat) (v5 : Int32) (v6 : Int32) (v9 : Int32) (v10 : Int32) (s0 : Int32), kk ≤ 600 → wL_law_495 K80 K429 K441 L xs σ kk v5 v6 v9 v10 s0 → GW κ (20 + kk) (245 + 3 * kk) (gW cy A σ) 495 [(0, .ref b), (1, .ref (A 0)), (2, .ref (A 18)), (3, .ref (A 19)), (5, .int v5), (6, .int v6), (9, .int v9), (10, .int v10)] [.int s0] := by
    intro K80 hK80 K429 hK429 K441 hK441 σ kk v5 v6 v9 v10 s0 hk6 hw
    unfold wL_law_495 at hw
    refine g_iconst (v := (-1 : Int32)) C dL_law_495 (by decide) ?_
    exact J496 _ hK80 _ hK429 _ hK441 σ kk v5 v6 v9 v10 (-1 : Int32) s0 (by omega) hw
  have J490 : ∀ (K80 : St → Nat → Int32 → Prop) (_ : ∀ (σ : St) (kk : Nat) (v5 : Int32), kk ≤ 600 → K80 σ kk v5 → GW κ (20 + kk) (245 + 3 * kk) (gW cy A σ) 80 [(0, .ref b), (1, .ref (A 0)), (2, .ref (A 18)), (3, .ref (A 19)), (5, .int v5)] [])  (K429 : St → Nat → Int32 → Int32 → Int32 → Prop) (_ : ∀ (σ : St) (kk : Nat) (v5 : Int32) (v6 : Int32) (v9 : Int32), kk ≤ 600 → K429 σ kk v5 v6 v9 → GW κ (20 + kk) (245 + 3 * kk) (gW cy A σ) 429 [(0, .ref b), (1, .ref (A 0)), (2, .ref (A 18)), (3, .ref (A 19)), (5, .int v5), (6, .int v6), (9, .int v9)] [])  (K441 : St → Nat → Int32 → Int32 → Int32 → Int32 → Prop) (_ : ∀ (σ : St) (kk : Nat) (v5 : Int32) (v6 : Int32) (v9 : Int32) (v10 : Int32), kk ≤ 600 → K441 σ kk v5 v6 v9 v10 → GW κ (20 + kk) (245 + 3 * kk) (gW cy A σ) 441 [(0, .ref b), (1, .ref (A 0)), (2, .ref (A 18)), (3, .ref (A 19)), (5, .int v5), (6, .int v6), (9, .int v9), (10, .int v10)] []), ∀ (σ : St) (kk : Nat) (v5 : Int32) (v6 : Int32) (v9 : Int32) (v10 : Int32) (s0 : Int32), kk ≤ 600 → wL_law_490 K80 K429 K441 L xs σ kk v5 v6 v9 v10 s0 → GW κ (20 + kk) (245 + 3 * kk) (gW cy A σ) 490 [(0, .ref b), (1, .ref (A 0)), (2, .ref (A 18)), (3, .ref (A 19)), (5, .int v5), (6, .int v6), (9, .int v9), (10, .int v10)] [.int s0] := by
    intro K80 hK80 K429 hK429 K441 hK441 σ kk v5 v6 v9 v10 s0 hk6 hw
    unfold wL_law_490 at hw
    refine g_iload C 6 rfl dL_law_490 ?_
    refine g_goto C 496 (by decide) dL_law_492 ?_
    exact J496 _ hK80 _ hK429 _ hK441 σ kk v5 v6 v9 v10 v9 s0 (by omega) hw
  have J441 : ∀ (K80 : St → Nat → Int32 → Prop) (_ : ∀ (σ : St) (kk : Nat) (v5 : Int32), kk ≤ 600 → K80 σ kk v5 → GW κ (20 + kk) (245 + 3 * kk) (gW cy A σ) 80 [(0, .ref b), (1, .ref (A 0)), (2, .ref (A 18)), (3, .ref (A 19)), (5, .int v5)] [])  (K429 : St → Nat → Int32 → Int32 → Int32 → Prop) (_ : ∀ (σ : St) (kk : Nat) (v5 : Int32) (v6 : Int32) (v9 : Int32), kk ≤ 600 → K429 σ kk v5 v6 v9 → GW κ (20 + kk) (245 + 3 * kk) (gW cy A σ) 429 [(0, .ref b), (1, .ref (A 0)), (2, .ref (A 18)), (3, .ref (A 19)), (5, .int v5), (6, .int v6), (9, .int v9)] []), ∀ (n : Nat) (σ : St) (kk : Nat) (v5 : Int32) (v6 : Int32) (v9 : Int32) (v10 : Int32), kk ≤ 600 → wL_law_441 K80 K429 L xs n σ kk v5 v6 v9 v10 → GW κ (20 + kk) (245 + 3 * kk) (gW cy A σ) 441 [(0, .ref b), (1, .ref (A 0)), (2, .ref (A 18)), (3, .ref (A 19)), (5, .int v5), (6, .int v6), (9, .int v9), (10, .int v10)] [] := by
    intro K80 hK80 K429 hK429 n
    induction n with
    | zero => intro σ kk v5 v6 v9 v10 hk6 hw; exact hw.elim
    | succ n ih =>
      intro σ kk v5 v6 v9 v10 hk6 hw
      rw [wL_law_441] at hw
      refine g_iload C 7 rfl dL_law_441 ?_
      refine g_iconst (v := (5 : Int32)) C dL_law_443 (by decide) ?_
      refine g_icmp_ge C 507 (by decide) hw dL_law_444 (fun hw => ?_) (fun hw => ?_)
      · refine g_iinc (j := 6) C [(9, .int (v9 + 1)), (0, .ref b), (1, .ref (A 0)), (2, .ref (A 18)), (3, .ref (A 19)), (5, .int v5), (6, .int v6), (10, .int v10)] hN rfl rfl (by decide) rfl dL_law_507 ?_
        refine g_goto C 429 (by decide) dL_law_510 ?_
        refine g_eql (lv' := [(0, .ref b), (1, .ref (A 0)), (2, .ref (A 18)), (3, .ref (A 19)), (5, .int v5), (6, .int v6), (9, .int (v9 + 1))]) [1, 2, 3, 4, 5, 6, 0] rfl ?_
        exact hK429 σ kk v5 v6 (v9 + 1) (by omega) hw
      · refine g_aload_n C 2 rfl rfl dL_law_447 ?_
        refine g_bipush (v := (8 : Int32)) C dL_law_448 (by decide) ?_
        refine g_iconst (v := (4 : Int32)) C dL_law_450 (by decide) ?_
        refine g_iload C 6 rfl dL_law_451 ?_
        refine g_imul C dL_law_453 ?_
        refine g_iadd C dL_law_454 ?_
        refine g_iald C hK 18 2 (ga_18 cy A _) rfl hw.1 dL_law_455 ?_
        replace hw := hw.2
        refine g_istore C [(11, .int (σ.1 18 ((8 : Int32) + ((4 : Int32) * v9)).toNatClampNeg)), (0, .ref b), (1, .ref (A 0)), (2, .ref (A 18)), (3, .ref (A 19)), (5, .int v5), (6, .int v6), (9, .int v9), (10, .int v10)] hN (by decide) rfl dL_law_456 ?_
        refine g_aload_n C 2 rfl rfl dL_law_458 ?_
        refine g_iload C 7 rfl dL_law_459 ?_
        refine g_iload C 8 rfl dL_law_461 ?_
        refine gc_I (mc := 0) (ms := 0) C (gr_V (mc := 0) (ms := 0) (As := [.int v9, .int v10]) (rest := []) C hK 2 (gd_V wt_186 wt_187 wt_188 wt_1 wt_189) rfl rfl rfl ⟨rfl, hs_X11_as⟩ ⟨⟨Nat.le_of_ble_eq_true rfl, Nat.le_of_ble_eq_true rfl⟩, (by show _ ≤ 888223; omega), (by show _ ≤ 6437580; omega)⟩ rfl 0 (ga_0 cy A _) rfl rfl (Nat.le_of_ble_eq_true rfl) dL_law_463 (c_X11_as (q_l κ) (q_D κ) cy A hw)) (fun r52 σ51 hw => ?_)
        refine g_widen (k' := 20 + kk) (n' := 245 + 3 * kk) (by omega) (by omega) ?_
        refine g_iload C 8 rfl dL_law_466 ?_
        refine g_if_eq C 490 (by decide) hw dL_law_468 (fun hw => ?_) (fun hw => ?_)
        · refine g_eql (lv' := [(0, .ref b), (1, .ref (A 0)), (2, .ref (A 18)), (3, .ref (A 19)), (5, .int v5), (6, .int v6), (9, .int v9), (10, .int v10)]) [1, 2, 3, 4, 5, 6, 7, 8] rfl ?_
          exact J490 _ hK80 _ hK429 _ ih σ51 kk v5 v6 v9 v10 r52 (by omega) hw
        · refine g_iload C 8 rfl dL_law_471 ?_
          refine g_iload C 0 rfl dL_law_473 ?_
          refine g_icmp_eq C 490 (by decide) hw dL_law_475 (fun hw => ?_) (fun hw => ?_)
          · refine g_eql (lv' := [(0, .ref b), (1, .ref (A 0)), (2, .ref (A 18)), (3, .ref (A 19)), (5, .int v5), (6, .int v6), (9, .int v9), (10, .int v10)]) [1, 2, 3, 4, 5, 6, 7, 8] rfl ?_
            exact J490 _ hK80 _ hK429 _ ih σ51 kk v5 v6 v9 v10 r52 (by omega) hw
          · refine g_iload C 8 rfl dL_law_478 ?_
            refine g_iconst (v := (3 : Int32)) C dL_law_480 (by decide) ?_
            refine g_icmp_ne C 495 (by decide) hw dL_law_481 (fun hw => ?_) (fun hw => ?_)
            · refine g_eql (lv' := [(0, .ref b), (1, .ref (A 0)), (2, .ref (A 18)), (3, .ref (A 19)), (5, .int v5), (6, .int v6), (9, .int v9), (10, .int v10)]) [1, 2, 3, 4, 5, 6, 7, 8] rfl ?_
              exact J495 _ hK80 _ hK429 _ ih σ51 kk v5 v6 v9 v10 r52 (by omega) hw
            · refine g_iload C 0 rfl dL_law_484 ?_
              refine g_iconst (v := (4 : Int32)) C dL_law_486 (by decide) ?_
              refine g_icmp_ne C 495 (by decide) hw dL_law_487 (fun hw => ?_) (fun hw => ?_)
              · refine g_eql (lv' := [(0, .ref b), (1, .ref (A 0)), (2, .ref (A 18)), (3, .ref (A 19)), (5, .int v5), (6, .int v6), (9, .int v9), (10, .int v10)]) [1, 2, 3, 4, 5, 6, 7, 8] rfl ?_
                exact J495 _ hK80 _ hK429 _ ih σ51 kk v5 v6 v9 v10 r52 (by omega) hw
              · refine g_eql (lv' := [(0, .ref b), (1, .ref (A 0)), (2, .ref (A 18)), (3, .ref (A 19)), (5, .int v5), (6, .int v6), (9, .int v9), (10, .int v10)]) [1, 2, 3, 4, 5, 6, 7, 8] rfl ?_
                exact J490 _ hK80 _ hK429 _ ih σ51 kk v5 v6 v9 v10 r52 (by omega) hw
  have J429 : ∀ (K80 : St → Nat → Int32 → Prop) (_ : ∀ (σ : St) (kk : Nat) (v5 : Int32), kk ≤ 600 → K80 σ kk v5 → GW κ (20 + kk) (245 + 3 * kk) (gW cy A σ) 80 [(0, .ref b), (1, .ref (A 0)), (2, .ref (A 18)), (3, .ref (A 19)), (5, .int v5)] []), ∀ (n : Nat) (σ : St) (kk : Nat) (v5 : Int32) (v6 : Int32) (v9 : Int32), kk ≤ 600 → wL_law_429 K80 L xs n σ kk v5 v6 v9 → GW κ (20 + kk) (245 + 3 * kk) (gW cy A σ) 429 [(0, .ref b), (1, .ref (A 0)), (2, .ref (A 18)), (3, .ref (A 19)), (5, .int v5), (6, .int v6), (9, .int v9)] [] := by
    intro K80 hK80 n
    induction n with
    | zero => intro σ kk v5 v6 v9 hk6 hw; exact hw.elim
    | succ n ih =>
      intro σ kk v5 v6 v9 hk6 hw
      rw [wL_law_429] at hw
      refine g_iload C 6 rfl dL_law_429 ?_
      refine g_aload_n C 2 rfl rfl dL_law_431 ?_
      refine g_bipush (v := (7 : Int32)) C dL_law_432 (by decide) ?_
      refine g_iald C hK 18 2 (ga_18 cy A _) rfl hw.1 dL_law_434 ?_
      replace hw := hw.2
      refine g_icmp_ge C 513 (by decide) hw dL_law_435 (fun hw => ?_) (fun hw => ?_)
      · refine g_iconst (v := (1 : Int32)) C dL_law_513 (by decide) ?_
        refine g_iload C 5 rfl dL_law_514 ?_
        refine g_sipush (v := (4096 : Int32)) C dL_law_516 (by decide) ?_
        refine g_idiv C hw.1 dL_law_519 ?_
        replace hw := hw.2
        refine g_bipush (v := (99 : Int32)) C dL_law_520 (by decide) ?_
        refine g_irem C hw.1 dL_law_522 ?_
        replace hw := hw.2
        refine g_iadd C dL_law_523 ?_
        refine g_istore C [(9, .int ((1 : Int32) + ((v6 / (4096 : Int32)) - (v6 / (4096 : Int32)) / (99 : Int32) * (99 : Int32)))), (0, .ref b), (1, .ref (A 0)), (2, .ref (A 18)), (3, .ref (A 19)), (5, .int v5), (6, .int v6)] hN (by decide) rfl dL_law_524 ?_
        refine g_aload_n C 3 rfl rfl dL_law_526 ?_
        refine g_aload_n C 3 rfl rfl dL_law_527 ?_
        refine g_iconst (v := (0 : Int32)) C dL_law_528 (by decide) ?_
        refine g_iald C hK 18 2 (ga_18 cy A _) rfl hw.1 dL_law_529 ?_
        replace hw := hw.2
        refine gc_I (mc := 0) (ms := 0) C (gr_S (mc := 0) (ms := 0) (As := [.ref (A 18), .int (σ.1 18 (0 : Int32).toNatClampNeg)]) (rest := []) C hK 2 (gd_S wt_420 wt_421 wt_0 wt_422) rfl rfl rfl hs_L_turns ⟨⟨Nat.le_of_ble_eq_true rfl, Nat.le_of_ble_eq_true rfl⟩, (by show _ ≤ 888223; omega), (by show _ ≤ 6437580; omega)⟩ rfl rfl (Nat.le_of_ble_eq_true rfl) dL_law_530 (c_L_turns (q_l κ) (q_D κ) cy A hQ18 hw)) (fun r50 σ49 hw => ?_)
        refine g_widen (k' := 20 + kk) (n' := 245 + 3 * kk) (by omega) (by omega) ?_
        refine g_istore C [(10, .int r50), (9, .int ((1 : Int32) + ((v6 / (4096 : Int32)) - (v6 / (4096 : Int32)) / (99 : Int32) * (99 : Int32)))), (0, .ref b), (1, .ref (A 0)), (2, .ref (A 18)), (3, .ref (A 19)), (5, .int v5), (6, .int v6)] hN (by decide) rfl dL_law_533 ?_
        refine g_bipush (v := (90 : Int32)) C dL_law_535 (by decide) ?_
        refine g_iload C 1 rfl dL_law_537 ?_
        refine g_iload C 0 rfl dL_law_539 ?_
        refine g_imul C dL_law_541 ?_
        refine g_isub C dL_law_542 ?_
        refine g_sipush (v := (360 : Int32)) C dL_law_543 (by decide) ?_
        refine g_irem C hw.1 dL_law_546 ?_
        replace hw := hw.2
        refine g_sipush (v := (360 : Int32)) C dL_law_547 (by decide) ?_
        refine g_iadd C dL_law_550 ?_
        refine g_sipush (v := (360 : Int32)) C dL_law_551 (by decide) ?_
        refine g_irem C hw.1 dL_law_554 ?_
        replace hw := hw.2
        refine g_istore C [(11, .int (((((90 : Int32) - (((1 : Int32) + ((v6 / (4096 : Int32)) - (v6 / (4096 : Int32)) / (99 : Int32) * (99 : Int32))) * r50)) - ((90 : Int32) - (((1 : Int32) + ((v6 / (4096 : Int32)) - (v6 / (4096 : Int32)) / (99 : Int32) * (99 : Int32))) * r50)) / (360 : Int32) * (360 : Int32)) + (360 : Int32)) - ((((90 : Int32) - (((1 : Int32) + ((v6 / (4096 : Int32)) - (v6 / (4096 : Int32)) / (99 : Int32) * (99 : Int32))) * r50)) - ((90 : Int32) - (((1 : Int32) + ((v6 / (4096 : Int32)) - (v6 / (4096 : Int32)) / (99 : Int32) * (99 : Int32))) * r50)) / (360 : Int32) * (360 : Int32)) + (360 : Int32)) / (360 : Int32) * (360 : Int32))), (10, .int r50), (9, .int ((1 : Int32) + ((v6 / (4096 : Int32)) - (v6 / (4096 : Int32)) / (99 : Int32) * (99 : Int32)))), (0, .ref b), (1, .ref (A 0)), (2, .ref (A 18)), (3, .ref (A 19)), (5, .int v5), (6, .int v6)] hN (by decide) rfl dL_law_555 ?_
        refine g_iconst (v := (-1 : Int32)) C dL_law_557 (by decide) ?_
        refine g_istore C [(12, .int (-1 : Int32)), (11, .int (((((90 : Int32) - (((1 : Int32) + ((v6 / (4096 : Int32)) - (v6 / (4096 : Int32)) / (99 : Int32) * (99 : Int32))) * r50)) - ((90 : Int32) - (((1 : Int32) + ((v6 / (4096 : Int32)) - (v6 / (4096 : Int32)) / (99 : Int32) * (99 : Int32))) * r50)) / (360 : Int32) * (360 : Int32)) + (360 : Int32)) - ((((90 : Int32) - (((1 : Int32) + ((v6 / (4096 : Int32)) - (v6 / (4096 : Int32)) / (99 : Int32) * (99 : Int32))) * r50)) - ((90 : Int32) - (((1 : Int32) + ((v6 / (4096 : Int32)) - (v6 / (4096 : Int32)) / (99 : Int32) * (99 : Int32))) * r50)) / (360 : Int32) * (360 : Int32)) + (360 : Int32)) / (360 : Int32) * (360 : Int32))), (10, .int r50), (9, .int ((1 : Int32) + ((v6 / (4096 : Int32)) - (v6 / (4096 : Int32)) / (99 : Int32) * (99 : Int32)))), (0, .ref b), (1, .ref (A 0)), (2, .ref (A 18)), (3, .ref (A 19)), (5, .int v5), (6, .int v6)] hN (by decide) rfl dL_law_558 ?_
        refine g_bipush (v := (98 : Int32)) C dL_law_560 (by decide) ?_
        refine g_istore C [(13, .int (98 : Int32)), (12, .int (-1 : Int32)), (11, .int (((((90 : Int32) - (((1 : Int32) + ((v6 / (4096 : Int32)) - (v6 / (4096 : Int32)) / (99 : Int32) * (99 : Int32))) * r50)) - ((90 : Int32) - (((1 : Int32) + ((v6 / (4096 : Int32)) - (v6 / (4096 : Int32)) / (99 : Int32) * (99 : Int32))) * r50)) / (360 : Int32) * (360 : Int32)) + (360 : Int32)) - ((((90 : Int32) - (((1 : Int32) + ((v6 / (4096 : Int32)) - (v6 / (4096 : Int32)) / (99 : Int32) * (99 : Int32))) * r50)) - ((90 : Int32) - (((1 : Int32) + ((v6 / (4096 : Int32)) - (v6 / (4096 : Int32)) / (99 : Int32) * (99 : Int32))) * r50)) / (360 : Int32) * (360 : Int32)) + (360 : Int32)) / (360 : Int32) * (360 : Int32))), (10, .int r50), (9, .int ((1 : Int32) + ((v6 / (4096 : Int32)) - (v6 / (4096 : Int32)) / (99 : Int32) * (99 : Int32)))), (0, .ref b), (1, .ref (A 0)), (2, .ref (A 18)), (3, .ref (A 19)), (5, .int v5), (6, .int v6)] hN (by decide) rfl dL_law_562 ?_
        refine g_eql (lv' := [(0, .ref b), (1, .ref (A 0)), (2, .ref (A 18)), (3, .ref (A 19)), (5, .int v5), (6, .int v6), (9, .int ((1 : Int32) + ((v6 / (4096 : Int32)) - (v6 / (4096 : Int32)) / (99 : Int32) * (99 : Int32)))), (10, .int r50), (11, .int (((((90 : Int32) - (((1 : Int32) + ((v6 / (4096 : Int32)) - (v6 / (4096 : Int32)) / (99 : Int32) * (99 : Int32))) * r50)) - ((90 : Int32) - (((1 : Int32) + ((v6 / (4096 : Int32)) - (v6 / (4096 : Int32)) / (99 : Int32) * (99 : Int32))) * r50)) / (360 : Int32) * (360 : Int32)) + (360 : Int32)) - ((((90 : Int32) - (((1 : Int32) + ((v6 / (4096 : Int32)) - (v6 / (4096 : Int32)) / (99 : Int32) * (99 : Int32))) * r50)) - ((90 : Int32) - (((1 : Int32) + ((v6 / (4096 : Int32)) - (v6 / (4096 : Int32)) / (99 : Int32) * (99 : Int32))) * r50)) / (360 : Int32) * (360 : Int32)) + (360 : Int32)) / (360 : Int32) * (360 : Int32))), (12, .int (-1 : Int32)), (13, .int (98 : Int32))]) [5, 6, 7, 8, 9, 10, 4, 3, 2, 1, 0] rfl ?_
        obtain ⟨n0, hw⟩ := hw
        exact J564 _ hK80 n0 σ49 kk v5 v6 ((1 : Int32) + ((v6 / (4096 : Int32)) - (v6 / (4096 : Int32)) / (99 : Int32) * (99 : Int32))) r50 (((((90 : Int32) - (((1 : Int32) + ((v6 / (4096 : Int32)) - (v6 / (4096 : Int32)) / (99 : Int32) * (99 : Int32))) * r50)) - ((90 : Int32) - (((1 : Int32) + ((v6 / (4096 : Int32)) - (v6 / (4096 : Int32)) / (99 : Int32) * (99 : Int32))) * r50)) / (360 : Int32) * (360 : Int32)) + (360 : Int32)) - ((((90 : Int32) - (((1 : Int32) + ((v6 / (4096 : Int32)) - (v6 / (4096 : Int32)) / (99 : Int32) * (99 : Int32))) * r50)) - ((90 : Int32) - (((1 : Int32) + ((v6 / (4096 : Int32)) - (v6 / (4096 : Int32)) / (99 : Int32) * (99 : Int32))) * r50)) / (360 : Int32) * (360 : Int32)) + (360 : Int32)) / (360 : Int32) * (360 : Int32)) (-1 : Int32) (98 : Int32) (by omega) hw
      · refine g_iconst (v := (0 : Int32)) C dL_law_438 (by decide) ?_
        refine g_istore C [(10, .int (0 : Int32)), (0, .ref b), (1, .ref (A 0)), (2, .ref (A 18)), (3, .ref (A 19)), (5, .int v5), (6, .int v6), (9, .int v9)] hN (by decide) rfl dL_law_439 ?_
        refine g_eql (lv' := [(0, .ref b), (1, .ref (A 0)), (2, .ref (A 18)), (3, .ref (A 19)), (5, .int v5), (6, .int v6), (9, .int v9), (10, .int (0 : Int32))]) [1, 2, 3, 4, 5, 6, 7, 0] rfl ?_
        obtain ⟨n0, hw⟩ := hw
        exact J441 _ hK80 _ ih n0 σ kk v5 v6 v9 (0 : Int32) (by omega) hw
  have J416 : ∀ (K80 : St → Nat → Int32 → Prop) (_ : ∀ (σ : St) (kk : Nat) (v5 : Int32), kk ≤ 600 → K80 σ kk v5 → GW κ (20 + kk) (245 + 3 * kk) (gW cy A σ) 80 [(0, .ref b), (1, .ref (A 0)), (2, .ref (A 18)), (3, .ref (A 19)), (5, .int v5)] []), ∀ (σ : St) (kk : Nat) (v5 : Int32) (v6 : Int32), kk ≤ 600 → wL_law_416 K80 L xs σ kk v5 v6 → GW κ (20 + kk) (245 + 3 * kk) (gW cy A σ) 416 [(0, .ref b), (1, .ref (A 0)), (2, .ref (A 18)), (3, .ref (A 19)), (5, .int v5), (6, .int v6)] [] := by
    intro K80 hK80 σ kk v5 v6 hk6 hw
    unfold wL_law_416 at hw
    refine g_aload_n C 1 rfl rfl dL_law_416 ?_
    refine g_aload_n C 2 rfl rfl dL_law_417 ?_
    refine gc_I (mc := 0) (ms := 0) C (gr_S (mc := 0) (ms := 0) (As := [.ref (A 0), .ref (A 18)]) (rest := []) C hK 2 (gd_S wt_441 wt_442 wt_0 wt_443) rfl rfl rfl hs_L_told ⟨⟨Nat.le_of_ble_eq_true rfl, Nat.le_of_ble_eq_true rfl⟩, (by show _ ≤ 888223; omega), (by show _ ≤ 6437580; omega)⟩ rfl rfl (Nat.le_of_ble_eq_true rfl) dL_law_418 (c_L_told (q_l κ) (q_D κ) cy A hQ18 hw)) (fun r48 σ47 hw => ?_)
    refine g_widen (k' := 20 + kk) (n' := 245 + 3 * kk) (by omega) (by omega) ?_
    refine g_if_ne C 426 (by decide) hw dL_law_421 (fun hw => ?_) (fun hw => ?_)
    · refine g_iconst (v := (0 : Int32)) C dL_law_426 (by decide) ?_
      refine g_istore C [(9, .int (0 : Int32)), (0, .ref b), (1, .ref (A 0)), (2, .ref (A 18)), (3, .ref (A 19)), (5, .int v5), (6, .int v6)] hN (by decide) rfl dL_law_427 ?_
      refine g_eql (lv' := [(0, .ref b), (1, .ref (A 0)), (2, .ref (A 18)), (3, .ref (A 19)), (5, .int v5), (6, .int v6), (9, .int (0 : Int32))]) [1, 2, 3, 4, 5, 6, 0] rfl ?_
      obtain ⟨n0, hw⟩ := hw
      exact J429 _ hK80 n0 σ47 kk v5 v6 (0 : Int32) (by omega) hw
    · refine g_iconst (v := (0 : Int32)) C dL_law_424 (by decide) ?_
      exact hret _ _ _ _ _ _ (by omega) (by omega) hw dL_law_425
  have J386 : ∀ (K80 : St → Nat → Int32 → Prop) (_ : ∀ (σ : St) (kk : Nat) (v5 : Int32), kk ≤ 600 → K80 σ kk v5 → GW κ (20 + kk) (245 + 3 * kk) (gW cy A σ) 80 [(0, .ref b), (1, .ref (A 0)), (2, .ref (A 18)), (3, .ref (A 19)), (5, .int v5)] []), ∀ (σ : St) (kk : Nat) (v5 : Int32) (v6 : Int32) (v7 : Int32), kk ≤ 600 → wL_law_386 K80 L xs σ kk v5 v6 v7 → GW κ (20 + kk) (245 + 3 * kk) (gW cy A σ) 386 [(0, .ref b), (1, .ref (A 0)), (2, .ref (A 18)), (3, .ref (A 19)), (5, .int v5), (6, .int v6), (7, .int v7)] [] := by
    intro K80 hK80 σ kk v5 v6 v7 hk6 hw
    unfold wL_law_386 at hw
    refine g_aload_n C 2 rfl rfl dL_law_386 ?_
    refine g_bipush (v := (6 : Int32)) C dL_law_387 (by decide) ?_
    refine g_iald C hK 18 2 (ga_18 cy A _) rfl hw.1 dL_law_389 ?_
    replace hw := hw.2
    refine g_iconst (v := (1 : Int32)) C dL_law_390 (by decide) ?_
    refine g_icmp_ne C 416 (by decide) hw dL_law_391 (fun hw => ?_) (fun hw => ?_)
    · refine g_eql (lv' := [(0, .ref b), (1, .ref (A 0)), (2, .ref (A 18)), (3, .ref (A 19)), (5, .int v5), (6, .int v6)]) [0, 1, 2, 3, 4, 5] rfl ?_
      exact J416 _ hK80 σ kk v5 v6 (by omega) hw
    · refine g_iload C 6 rfl dL_law_394 ?_
      refine g_bipush (v := (15 : Int32)) C dL_law_396 (by decide) ?_
      refine g_icmp_ne C 416 (by decide) hw dL_law_398 (fun hw => ?_) (fun hw => ?_)
      · refine g_eql (lv' := [(0, .ref b), (1, .ref (A 0)), (2, .ref (A 18)), (3, .ref (A 19)), (5, .int v5), (6, .int v6)]) [0, 1, 2, 3, 4, 5] rfl ?_
        exact J416 _ hK80 σ kk v5 v6 (by omega) hw
      · refine g_aload_n C 1 rfl rfl dL_law_401 ?_
        refine g_iload C 5 rfl dL_law_402 ?_
        refine g_bipush (v := (16 : Int32)) C dL_law_404 (by decide) ?_
        refine g_idiv C hw.1 dL_law_406 ?_
        replace hw := hw.2
        refine g_aload_n C 2 rfl rfl dL_law_407 ?_
        refine gc_I (mc := 0) (ms := 0) C (gr_S (mc := 0) (ms := 0) (As := [.ref (A 0), .int (v6 / (16 : Int32)), .ref (A 18)]) (rest := []) C hK 3 (gd_S wt_287 wt_288 wt_0 wt_289) rfl rfl rfl hs_L_wire ⟨⟨Nat.le_of_ble_eq_true rfl, Nat.le_of_ble_eq_true rfl⟩, (by show _ ≤ 888223; omega), (by show _ ≤ 6437580; omega)⟩ rfl rfl (Nat.le_of_ble_eq_true rfl) dL_law_408 (c_L_wire (q_l κ) (q_D κ) cy A hQ18 hw)) (fun r46 σ45 hw => ?_)
        refine g_widen (k' := 20 + kk) (n' := 245 + 3 * kk) (by omega) (by omega) ?_
        refine g_if_ne C 416 (by decide) hw dL_law_411 (fun hw => ?_) (fun hw => ?_)
        · refine g_eql (lv' := [(0, .ref b), (1, .ref (A 0)), (2, .ref (A 18)), (3, .ref (A 19)), (5, .int v5), (6, .int v6)]) [0, 1, 2, 3, 4, 5] rfl ?_
          exact J416 _ hK80 σ45 kk v5 v6 (by omega) hw
        · refine g_iconst (v := (0 : Int32)) C dL_law_414 (by decide) ?_
          exact hret _ _ _ _ _ _ (by omega) (by omega) hw dL_law_415
  have J355 : ∀ (K80 : St → Nat → Int32 → Prop) (_ : ∀ (σ : St) (kk : Nat) (v5 : Int32), kk ≤ 600 → K80 σ kk v5 → GW κ (20 + kk) (245 + 3 * kk) (gW cy A σ) 80 [(0, .ref b), (1, .ref (A 0)), (2, .ref (A 18)), (3, .ref (A 19)), (5, .int v5)] []), ∀ (σ : St) (kk : Nat) (v5 : Int32) (v6 : Int32) (v7 : Int32), kk ≤ 600 → wL_law_355 K80 L xs σ kk v5 v6 v7 → GW κ (20 + kk) (245 + 3 * kk) (gW cy A σ) 355 [(0, .ref b), (1, .ref (A 0)), (2, .ref (A 18)), (3, .ref (A 19)), (5, .int v5), (6, .int v6), (7, .int v7)] [] := by
    intro K80 hK80 σ kk v5 v6 v7 hk6 hw
    unfold wL_law_355 at hw
    refine g_iload C 6 rfl dL_law_355 ?_
    refine g_bipush (v := (14 : Int32)) C dL_law_357 (by decide) ?_
    refine g_icmp_ne C 386 (by decide) hw dL_law_359 (fun hw => ?_) (fun hw => ?_)
    · exact J386 _ hK80 σ kk v5 v6 v7 (by omega) hw
    · refine g_aload_n C 2 rfl rfl dL_law_362 ?_
      refine g_bipush (v := (7 : Int32)) C dL_law_363 (by decide) ?_
      refine g_iald C hK 18 2 (ga_18 cy A _) rfl hw.1 dL_law_365 ?_
      replace hw := hw.2
      refine g_bipush (v := (6 : Int32)) C dL_law_366 (by decide) ?_
      refine g_icmp_ge C 386 (by decide) hw dL_law_368 (fun hw => ?_) (fun hw => ?_)
      · exact J386 _ hK80 σ kk v5 v6 v7 (by omega) hw
      · refine g_aload_n C 1 rfl rfl dL_law_371 ?_
        refine g_iload C 5 rfl dL_law_372 ?_
        refine g_bipush (v := (16 : Int32)) C dL_law_374 (by decide) ?_
        refine g_idiv C hw.1 dL_law_376 ?_
        replace hw := hw.2
        refine g_aload_n C 2 rfl rfl dL_law_377 ?_
        obtain ⟨hk7, hw⟩ := hw
        refine g_widen (k' := 20 + kk) (n' := 245 + 3 * kk) (by omega) (by omega) ?_
        refine gc_I (mc := 1) (ms := 3) C (gr_S (mc := 1) (ms := 3) (As := [.ref (A 0), .int (v6 / (16 : Int32)), .ref (A 18)]) (rest := []) C hK 3 (gd_S wt_360 wt_361 wt_0 wt_362) rfl rfl rfl hs_L_thing ⟨⟨Nat.le_of_ble_eq_true rfl, Nat.le_of_ble_eq_true rfl⟩, (by show _ ≤ 888223; omega), (by show _ ≤ 6437580; omega)⟩ rfl rfl (Nat.le_of_ble_eq_true rfl) dL_law_378 (c_L_thing (q_l κ) (q_D κ) cy A hQ18 hw)) (fun r44 σ43 hw => ?_)
        refine g_widen (k' := 20 + (kk + 1)) (n' := 245 + 3 * (kk + 1)) (by omega) (by omega) ?_
        refine g_if_ne C 416 (by decide) hw dL_law_381 (fun hw => ?_) (fun hw => ?_)
        · refine g_eql (lv' := [(0, .ref b), (1, .ref (A 0)), (2, .ref (A 18)), (3, .ref (A 19)), (5, .int v5), (6, .int v6)]) [0, 1, 2, 3, 4, 5] rfl ?_
          exact J416 _ hK80 σ43 (kk + 1) v5 v6 (by omega) hw
        · refine g_iconst (v := (0 : Int32)) C dL_law_384 (by decide) ?_
          exact hret _ _ _ _ _ _ (by omega) (by omega) hw dL_law_385
  have J347 : ∀ (K80 : St → Nat → Int32 → Prop) (_ : ∀ (σ : St) (kk : Nat) (v5 : Int32), kk ≤ 600 → K80 σ kk v5 → GW κ (20 + kk) (245 + 3 * kk) (gW cy A σ) 80 [(0, .ref b), (1, .ref (A 0)), (2, .ref (A 18)), (3, .ref (A 19)), (5, .int v5)] []), ∀ (σ : St) (kk : Nat) (v5 : Int32) (v6 : Int32) (s0 : Int32) (s1 : Int32), kk ≤ 600 → wL_law_347 K80 L xs σ kk v5 v6 s0 s1 → GW κ (20 + kk) (245 + 3 * kk) (gW cy A σ) 347 [(0, .ref b), (1, .ref (A 0)), (2, .ref (A 18)), (3, .ref (A 19)), (5, .int v5), (6, .int v6)] [.int s0, .int s1] := by
    intro K80 hK80 σ kk v5 v6 s0 s1 hk6 hw
    unfold wL_law_347 at hw
    refine g_icmp_eq C 352 (by decide) hw dL_law_347 (fun hw => ?_) (fun hw => ?_)
    · refine g_goto C 416 (by decide) dL_law_352 ?_
      exact J416 _ hK80 σ kk v5 v6 (by omega) hw
    · refine g_iconst (v := (0 : Int32)) C dL_law_350 (by decide) ?_
      exact hret _ _ _ _ _ _ (by omega) (by omega) hw dL_law_351
  have J321 : ∀ (K80 : St → Nat → Int32 → Prop) (_ : ∀ (σ : St) (kk : Nat) (v5 : Int32), kk ≤ 600 → K80 σ kk v5 → GW κ (20 + kk) (245 + 3 * kk) (gW cy A σ) 80 [(0, .ref b), (1, .ref (A 0)), (2, .ref (A 18)), (3, .ref (A 19)), (5, .int v5)] []), ∀ (σ : St) (kk : Nat) (v5 : Int32) (v6 : Int32) (v8 : Int32) (v9 : Int32) (s0 : Int32) (s1 : Int32), kk ≤ 600 → wL_law_321 K80 L xs σ kk v5 v6 v8 v9 s0 s1 → GW κ (20 + kk) (245 + 3 * kk) (gW cy A σ) 321 [(0, .ref b), (1, .ref (A 0)), (2, .ref (A 18)), (3, .ref (A 19)), (5, .int v5), (6, .int v6), (8, .int v8), (9, .int v9)] [.int s0, .int s1, .ref (A 18)] := by
    intro K80 hK80 σ kk v5 v6 v8 v9 s0 s1 hk6 hw
    unfold wL_law_321 at hw
    refine g_iast C hK 18 2 (ga_18 cy A _) rfl hw.1 (gs_18 cy A _ _ _) dL_law_321 ?_
    replace hw := hw.2
    refine g_aload_n C 1 rfl rfl dL_law_322 ?_
    refine g_iload C 6 rfl dL_law_323 ?_
    refine gc_I (mc := 0) (ms := 0) C (gr_V (mc := 0) (ms := 0) (As := [.int v8]) (rest := []) C hK 1 (gd_V wt_200 wt_201 wt_202 wt_1 wt_203) rfl rfl rfl ⟨rfl, hs_X11_carry⟩ ⟨⟨Nat.le_of_ble_eq_true rfl, Nat.le_of_ble_eq_true rfl⟩, (by show _ ≤ 888223; omega), (by show _ ≤ 6437580; omega)⟩ rfl 0 (ga_0 cy A _) rfl rfl (Nat.le_of_ble_eq_true rfl) dL_law_325 (c_X11_carry (q_l κ) (q_D κ) cy A hw)) (fun r42 σ41 hw => ?_)
    refine g_widen (k' := 20 + kk) (n' := 245 + 3 * kk) (by omega) (by omega) ?_
    refine g_iload C 7 rfl dL_law_328 ?_
    refine g_if_eq C 345 (by decide) hw dL_law_330 (fun hw => ?_) (fun hw => ?_)
    · refine g_bipush (v := (-103 : Int32)) C dL_law_345 (by decide) ?_
      refine g_eql (lv' := [(0, .ref b), (1, .ref (A 0)), (2, .ref (A 18)), (3, .ref (A 19)), (5, .int v5), (6, .int v6)]) [0, 1, 2, 3, 4, 5] rfl ?_
      exact J347 _ hK80 σ41 kk v5 v6 (-103 : Int32) r42 (by omega) hw
    · refine g_aload_n C 2 rfl rfl dL_law_333 ?_
      refine g_bipush (v := (10 : Int32)) C dL_law_334 (by decide) ?_
      refine g_iconst (v := (4 : Int32)) C dL_law_336 (by decide) ?_
      refine g_iload C 6 rfl dL_law_337 ?_
      refine g_imul C dL_law_339 ?_
      refine g_iadd C dL_law_340 ?_
      refine g_iald C hK 18 2 (ga_18 cy A _) rfl hw.1 dL_law_341 ?_
      replace hw := hw.2
      refine g_goto C 347 (by decide) dL_law_342 ?_
      refine g_eql (lv' := [(0, .ref b), (1, .ref (A 0)), (2, .ref (A 18)), (3, .ref (A 19)), (5, .int v5), (6, .int v6)]) [0, 1, 2, 3, 4, 5] rfl ?_
      exact J347 _ hK80 σ41 kk v5 v6 (σ41.1 18 ((10 : Int32) + ((4 : Int32) * v8)).toNatClampNeg) r42 (by omega) hw
  have J283 : ∀ (K80 : St → Nat → Int32 → Prop) (_ : ∀ (σ : St) (kk : Nat) (v5 : Int32), kk ≤ 600 → K80 σ kk v5 → GW κ (20 + kk) (245 + 3 * kk) (gW cy A σ) 80 [(0, .ref b), (1, .ref (A 0)), (2, .ref (A 18)), (3, .ref (A 19)), (5, .int v5)] []), ∀ (σ : St) (kk : Nat) (v5 : Int32) (v6 : Int32) (v8 : Int32) (s0 : Int32), kk ≤ 600 → wL_law_283 K80 L xs σ kk v5 v6 v8 s0 → GW κ (20 + kk) (245 + 3 * kk) (gW cy A σ) 283 [(0, .ref b), (1, .ref (A 0)), (2, .ref (A 18)), (3, .ref (A 19)), (5, .int v5), (6, .int v6), (8, .int v8)] [.int s0] := by
    intro K80 hK80 σ kk v5 v6 v8 s0 hk6 hw
    unfold wL_law_283 at hw
    refine g_istore C [(9, .int s0), (0, .ref b), (1, .ref (A 0)), (2, .ref (A 18)), (3, .ref (A 19)), (5, .int v5), (6, .int v6), (8, .int v8)] hN (by decide) rfl dL_law_283 ?_
    refine g_aload_n C 3 rfl rfl dL_law_285 ?_
    refine g_bipush (v := (10 : Int32)) C dL_law_286 (by decide) ?_
    refine g_iconst (v := (4 : Int32)) C dL_law_288 (by decide) ?_
    refine g_iload C 7 rfl dL_law_289 ?_
    refine g_imul C dL_law_291 ?_
    refine g_iadd C dL_law_292 ?_
    refine g_iload C 0 rfl dL_law_293 ?_
    refine g_if_eq C 312 (by decide) hw dL_law_295 (fun hw => ?_) (fun hw => ?_)
    · refine g_aload_n C 3 rfl rfl dL_law_312 ?_
      refine g_bipush (v := (10 : Int32)) C dL_law_313 (by decide) ?_
      refine g_iconst (v := (4 : Int32)) C dL_law_315 (by decide) ?_
      refine g_iload C 7 rfl dL_law_316 ?_
      refine g_imul C dL_law_318 ?_
      refine g_iadd C dL_law_319 ?_
      refine g_iald C hK 18 2 (ga_18 cy A _) rfl hw.1 dL_law_320 ?_
      replace hw := hw.2
      refine g_eql (lv' := [(0, .ref b), (1, .ref (A 0)), (2, .ref (A 18)), (3, .ref (A 19)), (5, .int v5), (6, .int v6), (8, .int v8), (9, .int s0)]) [1, 2, 3, 4, 5, 6, 7, 0] rfl ?_
      exact J321 _ hK80 σ kk v5 v6 v8 s0 (σ.1 18 ((10 : Int32) + ((4 : Int32) * v8)).toNatClampNeg) ((10 : Int32) + ((4 : Int32) * v8)) (by omega) hw
    · refine g_iconst (v := (1 : Int32)) C dL_law_298 (by decide) ?_
      refine g_aload_n C 3 rfl rfl dL_law_299 ?_
      refine g_bipush (v := (10 : Int32)) C dL_law_300 (by decide) ?_
      refine g_iconst (v := (4 : Int32)) C dL_law_302 (by decide) ?_
      refine g_iload C 7 rfl dL_law_303 ?_
      refine g_imul C dL_law_305 ?_
      refine g_iadd C dL_law_306 ?_
      refine g_iald C hK 18 2 (ga_18 cy A _) rfl hw.1 dL_law_307 ?_
      replace hw := hw.2
      refine g_isub C dL_law_308 ?_
      refine g_goto C 321 (by decide) dL_law_309 ?_
      refine g_eql (lv' := [(0, .ref b), (1, .ref (A 0)), (2, .ref (A 18)), (3, .ref (A 19)), (5, .int v5), (6, .int v6), (8, .int v8), (9, .int s0)]) [1, 2, 3, 4, 5, 6, 7, 0] rfl ?_
      exact J321 _ hK80 σ kk v5 v6 v8 s0 ((1 : Int32) - (σ.1 18 ((10 : Int32) + ((4 : Int32) * v8)).toNatClampNeg)) ((10 : Int32) + ((4 : Int32) * v8)) (by omega) hw
  have J282 : ∀ (K80 : St → Nat → Int32 → Prop) (_ : ∀ (σ : St) (kk : Nat) (v5 : Int32), kk ≤ 600 → K80 σ kk v5 → GW κ (20 + kk) (245 + 3 * kk) (gW cy A σ) 80 [(0, .ref b), (1, .ref (A 0)), (2, .ref (A 18)), (3, .ref (A 19)), (5, .int v5)] []), ∀ (σ : St) (kk : Nat) (v5 : Int32) (v6 : Int32) (v8 : Int32), kk ≤ 600 → wL_law_282 K80 L xs σ kk v5 v6 v8 → GW κ (20 + kk) (245 + 3 * kk) (gW cy A σ) 282 [(0, .ref b), (1, .ref (A 0)), (2, .ref (A 18)), (3, .ref (A 19)), (5, .int v5), (6, .int v6), (8, .int v8)] [] := by
    intro K80 hK80 σ kk v5 v6 v8 hk6 hw
    unfold wL_law_282 at hw
    refine g_iconst (v := (0 : Int32)) C dL_law_282 (by decide) ?_
    exact J283 _ hK80 σ kk v5 v6 v8 (0 : Int32) (by omega) hw
  have J278 : ∀ (K80 : St → Nat → Int32 → Prop) (_ : ∀ (σ : St) (kk : Nat) (v5 : Int32), kk ≤ 600 → K80 σ kk v5 → GW κ (20 + kk) (245 + 3 * kk) (gW cy A σ) 80 [(0, .ref b), (1, .ref (A 0)), (2, .ref (A 18)), (3, .ref (A 19)), (5, .int v5)] []), ∀ (σ : St) (kk : Nat) (v5 : Int32) (v6 : Int32) (v8 : Int32), kk ≤ 600 → wL_law_278 K80 L xs σ kk v5 v6 v8 → GW κ (20 + kk) (245 + 3 * kk) (gW cy A σ) 278 [(0, .ref b), (1, .ref (A 0)), (2, .ref (A 18)), (3, .ref (A 19)), (5, .int v5), (6, .int v6), (8, .int v8)] [] := by
    intro K80 hK80 σ kk v5 v6 v8 hk6 hw
    unfold wL_law_278 at hw
    refine g_iconst (v := (1 : Int32)) C dL_law_278 (by decide) ?_
    refine g_goto C 283 (by decide) dL_law_279 ?_
    exact J283 _ hK80 σ kk v5 v6 v8 (1 : Int32) (by omega) hw
  have J225 : ∀ (K80 : St → Nat → Int32 → Prop) (_ : ∀ (σ : St) (kk : Nat) (v5 : Int32), kk ≤ 600 → K80 σ kk v5 → GW κ (20 + kk) (245 + 3 * kk) (gW cy A σ) 80 [(0, .ref b), (1, .ref (A 0)), (2, .ref (A 18)), (3, .ref (A 19)), (5, .int v5)] []), ∀ (σ : St) (kk : Nat) (v5 : Int32) (v6 : Int32) (s0 : Int32) (s1 : Int32), kk ≤ 600 → wL_law_225 K80 L xs σ kk v5 v6 s0 s1 → GW κ (20 + kk) (245 + 3 * kk) (gW cy A σ) 225 [(0, .ref b), (1, .ref (A 0)), (2, .ref (A 18)), (3, .ref (A 19)), (5, .int v5), (6, .int v6)] [.int s0, .int s1] := by
    intro K80 hK80 σ kk v5 v6 s0 s1 hk6 hw
    unfold wL_law_225 at hw
    refine g_icmp_eq C 230 (by decide) hw dL_law_225 (fun hw => ?_) (fun hw => ?_)
    · refine g_goto C 416 (by decide) dL_law_230 ?_
      exact J416 _ hK80 σ kk v5 v6 (by omega) hw
    · refine g_iconst (v := (0 : Int32)) C dL_law_228 (by decide) ?_
      exact hret _ _ _ _ _ _ (by omega) (by omega) hw dL_law_229
  have J201 : ∀ (K80 : St → Nat → Int32 → Prop) (_ : ∀ (σ : St) (kk : Nat) (v5 : Int32), kk ≤ 600 → K80 σ kk v5 → GW κ (20 + kk) (245 + 3 * kk) (gW cy A σ) 80 [(0, .ref b), (1, .ref (A 0)), (2, .ref (A 18)), (3, .ref (A 19)), (5, .int v5)] []), ∀ (σ : St) (kk : Nat) (v5 : Int32) (v6 : Int32) (v9 : Int32) (s0 : Int32), kk ≤ 600 → wL_law_201 K80 L xs σ kk v5 v6 v9 s0 → GW κ (20 + kk) (245 + 3 * kk) (gW cy A σ) 201 [(0, .ref b), (1, .ref (A 0)), (2, .ref (A 18)), (3, .ref (A 19)), (5, .int v5), (6, .int v6), (9, .int v9)] [.int s0] := by
    intro K80 hK80 σ kk v5 v6 v9 s0 hk6 hw
    unfold wL_law_201 at hw
    refine g_istore C [(10, .int s0), (0, .ref b), (1, .ref (A 0)), (2, .ref (A 18)), (3, .ref (A 19)), (5, .int v5), (6, .int v6), (9, .int v9)] hN (by decide) rfl dL_law_201 ?_
    refine g_aload_n C 2 rfl rfl dL_law_203 ?_
    refine g_iload C 7 rfl dL_law_204 ?_
    refine gc_I (mc := 0) (ms := 0) C (gr_V (mc := 0) (ms := 0) (As := [.int v9]) (rest := []) C hK 1 (gd_V wt_223 wt_224 wt_225 wt_1 wt_226) rfl rfl rfl ⟨rfl, hs_X11_hour⟩ ⟨⟨Nat.le_of_ble_eq_true rfl, Nat.le_of_ble_eq_true rfl⟩, (by show _ ≤ 888223; omega), (by show _ ≤ 6437580; omega)⟩ rfl 0 (ga_0 cy A _) rfl rfl (Nat.le_of_ble_eq_true rfl) dL_law_206 (c_X11_hour (q_l κ) (q_D κ) cy A hw)) (fun r38 σ37 hw => ?_)
    refine g_widen (k' := 20 + kk) (n' := 245 + 3 * kk) (by omega) (by omega) ?_
    refine g_iload C 0 rfl dL_law_209 ?_
    refine g_if_eq C 223 (by decide) hw dL_law_211 (fun hw => ?_) (fun hw => ?_)
    · refine g_bipush (v := (-103 : Int32)) C dL_law_223 (by decide) ?_
      refine g_eql (lv' := [(0, .ref b), (1, .ref (A 0)), (2, .ref (A 18)), (3, .ref (A 19)), (5, .int v5), (6, .int v6)]) [1, 2, 3, 4, 5, 6] rfl ?_
      exact J225 _ hK80 σ37 kk v5 v6 (-103 : Int32) r38 (by omega) hw
    · refine g_aload_n C 3 rfl rfl dL_law_214 ?_
      refine g_iload C 7 rfl dL_law_215 ?_
      refine gc_I (mc := 0) (ms := 0) C (gr_S (mc := 0) (ms := 0) (As := [.ref (A 18), .int v9]) (rest := [.int r38]) C hK 2 (gd_S wt_423 wt_424 wt_0 wt_425) rfl rfl rfl hs_L_hour ⟨⟨Nat.le_of_ble_eq_true rfl, Nat.le_of_ble_eq_true rfl⟩, (by show _ ≤ 888223; omega), (by show _ ≤ 6437580; omega)⟩ rfl rfl (Nat.le_of_ble_eq_true rfl) dL_law_217 (c_L_hour (q_l κ) (q_D κ) cy A hQ18 hw)) (fun r40 σ39 hw => ?_)
      refine g_widen (k' := 20 + kk) (n' := 245 + 3 * kk) (by omega) (by omega) ?_
      refine g_goto C 225 (by decide) dL_law_220 ?_
      refine g_eql (lv' := [(0, .ref b), (1, .ref (A 0)), (2, .ref (A 18)), (3, .ref (A 19)), (5, .int v5), (6, .int v6)]) [1, 2, 3, 4, 5, 6] rfl ?_
      exact J225 _ hK80 σ39 kk v5 v6 r40 r38 (by omega) hw
  have J200 : ∀ (K80 : St → Nat → Int32 → Prop) (_ : ∀ (σ : St) (kk : Nat) (v5 : Int32), kk ≤ 600 → K80 σ kk v5 → GW κ (20 + kk) (245 + 3 * kk) (gW cy A σ) 80 [(0, .ref b), (1, .ref (A 0)), (2, .ref (A 18)), (3, .ref (A 19)), (5, .int v5)] []), ∀ (σ : St) (kk : Nat) (v5 : Int32) (v6 : Int32) (v9 : Int32), kk ≤ 600 → wL_law_200 K80 L xs σ kk v5 v6 v9 → GW κ (20 + kk) (245 + 3 * kk) (gW cy A σ) 200 [(0, .ref b), (1, .ref (A 0)), (2, .ref (A 18)), (3, .ref (A 19)), (5, .int v5), (6, .int v6), (9, .int v9)] [] := by
    intro K80 hK80 σ kk v5 v6 v9 hk6 hw
    unfold wL_law_200 at hw
    refine g_iconst (v := (0 : Int32)) C dL_law_200 (by decide) ?_
    exact J201 _ hK80 σ kk v5 v6 v9 (0 : Int32) (by omega) hw
  have J165 : ∀ (K80 : St → Nat → Int32 → Prop) (_ : ∀ (σ : St) (kk : Nat) (v5 : Int32), kk ≤ 600 → K80 σ kk v5 → GW κ (20 + kk) (245 + 3 * kk) (gW cy A σ) 80 [(0, .ref b), (1, .ref (A 0)), (2, .ref (A 18)), (3, .ref (A 19)), (5, .int v5)] []), ∀ (σ : St) (kk : Nat) (v5 : Int32) (v6 : Int32) (s0 : Int32), kk ≤ 600 → wL_law_165 K80 L xs σ kk v5 v6 s0 → GW κ (20 + kk) (245 + 3 * kk) (gW cy A σ) 165 [(0, .ref b), (1, .ref (A 0)), (2, .ref (A 18)), (3, .ref (A 19)), (5, .int v5), (6, .int v6)] [.int s0] := by
    intro K80 hK80 σ kk v5 v6 s0 hk6 hw
    unfold wL_law_165 at hw
    refine g_istore C [(9, .int s0), (0, .ref b), (1, .ref (A 0)), (2, .ref (A 18)), (3, .ref (A 19)), (5, .int v5), (6, .int v6)] hN (by decide) rfl dL_law_165 ?_
    refine g_aload_n C 3 rfl rfl dL_law_167 ?_
    refine g_bipush (v := (6 : Int32)) C dL_law_168 (by decide) ?_
    refine g_iald C hK 18 2 (ga_18 cy A _) rfl hw.1 dL_law_170 ?_
    replace hw := hw.2
    refine g_if_ne C 200 (by decide) hw dL_law_171 (fun hw => ?_) (fun hw => ?_)
    · refine g_eql (lv' := [(0, .ref b), (1, .ref (A 0)), (2, .ref (A 18)), (3, .ref (A 19)), (5, .int v5), (6, .int v6), (9, .int s0)]) [1, 2, 3, 4, 5, 6, 0] rfl ?_
      exact J200 _ hK80 σ kk v5 v6 s0 (by omega) hw
    · refine g_aload_n C 3 rfl rfl dL_law_174 ?_
      refine g_iconst (v := (0 : Int32)) C dL_law_175 (by decide) ?_
      refine g_iald C hK 18 2 (ga_18 cy A _) rfl hw.1 dL_law_176 ?_
      replace hw := hw.2
      refine g_iload C 0 rfl dL_law_177 ?_
      refine g_isub C dL_law_179 ?_
      refine g_bipush (v := (9 : Int32)) C dL_law_180 (by decide) ?_
      refine g_icmp_le C 200 (by decide) hw dL_law_182 (fun hw => ?_) (fun hw => ?_)
      · refine g_eql (lv' := [(0, .ref b), (1, .ref (A 0)), (2, .ref (A 18)), (3, .ref (A 19)), (5, .int v5), (6, .int v6), (9, .int s0)]) [1, 2, 3, 4, 5, 6, 0] rfl ?_
        exact J200 _ hK80 σ kk v5 v6 s0 (by omega) hw
      · refine g_aload_n C 3 rfl rfl dL_law_185 ?_
        refine g_iconst (v := (0 : Int32)) C dL_law_186 (by decide) ?_
        refine g_iald C hK 18 2 (ga_18 cy A _) rfl hw.1 dL_law_187 ?_
        replace hw := hw.2
        refine g_iload C 0 rfl dL_law_188 ?_
        refine g_isub C dL_law_190 ?_
        refine g_bipush (v := (41 : Int32)) C dL_law_191 (by decide) ?_
        refine g_icmp_ge C 200 (by decide) hw dL_law_193 (fun hw => ?_) (fun hw => ?_)
        · refine g_eql (lv' := [(0, .ref b), (1, .ref (A 0)), (2, .ref (A 18)), (3, .ref (A 19)), (5, .int v5), (6, .int v6), (9, .int s0)]) [1, 2, 3, 4, 5, 6, 0] rfl ?_
          exact J200 _ hK80 σ kk v5 v6 s0 (by omega) hw
        · refine g_iconst (v := (1 : Int32)) C dL_law_196 (by decide) ?_
          refine g_goto C 201 (by decide) dL_law_197 ?_
          refine g_eql (lv' := [(0, .ref b), (1, .ref (A 0)), (2, .ref (A 18)), (3, .ref (A 19)), (5, .int v5), (6, .int v6), (9, .int s0)]) [1, 2, 3, 4, 5, 6, 0] rfl ?_
          exact J201 _ hK80 σ kk v5 v6 s0 (1 : Int32) (by omega) hw
  have J126 : ∀ (K80 : St → Nat → Int32 → Prop) (_ : ∀ (σ : St) (kk : Nat) (v5 : Int32), kk ≤ 600 → K80 σ kk v5 → GW κ (20 + kk) (245 + 3 * kk) (gW cy A σ) 80 [(0, .ref b), (1, .ref (A 0)), (2, .ref (A 18)), (3, .ref (A 19)), (5, .int v5)] []), ∀ (σ : St) (kk : Nat) (v5 : Int32) (v6 : Int32) (v7 : Int32) (s0 : Int32), kk ≤ 600 → wL_law_126 K80 L xs σ kk v5 v6 v7 s0 → GW κ (20 + kk) (245 + 3 * kk) (gW cy A σ) 126 [(0, .ref b), (1, .ref (A 0)), (2, .ref (A 18)), (3, .ref (A 19)), (5, .int v5), (6, .int v6), (7, .int v7)] [.int s0] := by
    intro K80 hK80 σ kk v5 v6 v7 s0 hk6 hw
    unfold wL_law_126 at hw
    refine g_istore C [(8, .int s0), (0, .ref b), (1, .ref (A 0)), (2, .ref (A 18)), (3, .ref (A 19)), (5, .int v5), (6, .int v6), (7, .int v7)] hN (by decide) rfl dL_law_126 ?_
    refine g_iload C 7 rfl dL_law_128 ?_
    refine g_bipush (v := (9 : Int32)) C dL_law_130 (by decide) ?_
    refine g_icmp_ge C 233 (by decide) hw dL_law_132 (fun hw => ?_) (fun hw => ?_)
    · refine g_iload C 7 rfl dL_law_233 ?_
      refine g_bipush (v := (14 : Int32)) C dL_law_235 (by decide) ?_
      refine g_icmp_ge C 355 (by decide) hw dL_law_237 (fun hw => ?_) (fun hw => ?_)
      · refine g_eql (lv' := [(0, .ref b), (1, .ref (A 0)), (2, .ref (A 18)), (3, .ref (A 19)), (5, .int v5), (6, .int v6), (7, .int v7)]) [1, 2, 3, 4, 5, 6, 7] rfl ?_
        exact J355 _ hK80 σ kk v5 v6 v7 (by omega) hw
      · refine g_aload_n C 3 rfl rfl dL_law_240 ?_
        refine g_bipush (v := (7 : Int32)) C dL_law_241 (by decide) ?_
        refine g_iald C hK 18 2 (ga_18 cy A _) rfl hw.1 dL_law_243 ?_
        replace hw := hw.2
        refine g_if_le C 355 (by decide) hw dL_law_244 (fun hw => ?_) (fun hw => ?_)
        · refine g_eql (lv' := [(0, .ref b), (1, .ref (A 0)), (2, .ref (A 18)), (3, .ref (A 19)), (5, .int v5), (6, .int v6), (7, .int v7)]) [1, 2, 3, 4, 5, 6, 7] rfl ?_
          exact J355 _ hK80 σ kk v5 v6 v7 (by omega) hw
        · refine g_aload_n C 3 rfl rfl dL_law_247 ?_
          refine g_bipush (v := (6 : Int32)) C dL_law_248 (by decide) ?_
          refine g_iald C hK 18 2 (ga_18 cy A _) rfl hw.1 dL_law_250 ?_
          replace hw := hw.2
          refine g_if_ne C 282 (by decide) hw dL_law_251 (fun hw => ?_) (fun hw => ?_)
          · refine g_eql (lv' := [(0, .ref b), (1, .ref (A 0)), (2, .ref (A 18)), (3, .ref (A 19)), (5, .int v5), (6, .int v6), (8, .int s0)]) [1, 2, 3, 4, 5, 6, 0] rfl ?_
            exact J282 _ hK80 σ kk v5 v6 s0 (by omega) hw
          · refine g_aload_n C 3 rfl rfl dL_law_254 ?_
            refine g_bipush (v := (8 : Int32)) C dL_law_255 (by decide) ?_
            refine g_iconst (v := (4 : Int32)) C dL_law_257 (by decide) ?_
            refine g_iload C 0 rfl dL_law_258 ?_
            refine g_imul C dL_law_260 ?_
            refine g_iadd C dL_law_261 ?_
            refine g_iald C hK 18 2 (ga_18 cy A _) rfl hw.1 dL_law_262 ?_
            replace hw := hw.2
            refine g_iconst (v := (2 : Int32)) C dL_law_263 (by decide) ?_
            refine g_icmp_ne C 278 (by decide) hw dL_law_264 (fun hw => ?_) (fun hw => ?_)
            · refine g_eql (lv' := [(0, .ref b), (1, .ref (A 0)), (2, .ref (A 18)), (3, .ref (A 19)), (5, .int v5), (6, .int v6), (8, .int s0)]) [1, 2, 3, 4, 5, 6, 0] rfl ?_
              exact J278 _ hK80 σ kk v5 v6 s0 (by omega) hw
            · refine g_aload_n C 3 rfl rfl dL_law_267 ?_
              refine g_aload_n C 3 rfl rfl dL_law_268 ?_
              refine g_iconst (v := (0 : Int32)) C dL_law_269 (by decide) ?_
              refine g_iald C hK 18 2 (ga_18 cy A _) rfl hw.1 dL_law_270 ?_
              replace hw := hw.2
              refine gc_I (mc := 0) (ms := 0) C (gr_S (mc := 0) (ms := 0) (As := [.ref (A 18), .int (σ.1 18 (0 : Int32).toNatClampNeg)]) (rest := []) C hK 2 (gd_S wt_420 wt_421 wt_0 wt_422) rfl rfl rfl hs_L_turns ⟨⟨Nat.le_of_ble_eq_true rfl, Nat.le_of_ble_eq_true rfl⟩, (by show _ ≤ 888223; omega), (by show _ ≤ 6437580; omega)⟩ rfl rfl (Nat.le_of_ble_eq_true rfl) dL_law_271 (c_L_turns (q_l κ) (q_D κ) cy A hQ18 hw)) (fun r36 σ35 hw => ?_)
              refine g_widen (k' := 20 + kk) (n' := 245 + 3 * kk) (by omega) (by omega) ?_
              refine g_iconst (v := (3 : Int32)) C dL_law_274 (by decide) ?_
              refine g_icmp_ge C 282 (by decide) hw dL_law_275 (fun hw => ?_) (fun hw => ?_)
              · refine g_eql (lv' := [(0, .ref b), (1, .ref (A 0)), (2, .ref (A 18)), (3, .ref (A 19)), (5, .int v5), (6, .int v6), (8, .int s0)]) [1, 2, 3, 4, 5, 6, 0] rfl ?_
                exact J282 _ hK80 σ35 kk v5 v6 s0 (by omega) hw
              · refine g_eql (lv' := [(0, .ref b), (1, .ref (A 0)), (2, .ref (A 18)), (3, .ref (A 19)), (5, .int v5), (6, .int v6), (8, .int s0)]) [1, 2, 3, 4, 5, 6, 0] rfl ?_
                exact J278 _ hK80 σ35 kk v5 v6 s0 (by omega) hw
    · refine g_iload C 6 rfl dL_law_135 ?_
      refine g_sipush (v := (128 : Int32)) C dL_law_137 (by decide) ?_
      refine g_idiv C hw.1 dL_law_140 ?_
      replace hw := hw.2
      refine g_bipush (v := (7 : Int32)) C dL_law_141 (by decide) ?_
      refine g_irem C hw.1 dL_law_143 ?_
      replace hw := hw.2
      refine g_iconst (v := (3 : Int32)) C dL_law_144 (by decide) ?_
      refine g_isub C dL_law_145 ?_
      refine g_istore C [(9, .int (((v6 / (128 : Int32)) - (v6 / (128 : Int32)) / (7 : Int32) * (7 : Int32)) - (3 : Int32))), (8, .int s0), (0, .ref b), (1, .ref (A 0)), (2, .ref (A 18)), (3, .ref (A 19)), (5, .int v5), (6, .int v6), (7, .int v7)] hN (by decide) rfl dL_law_146 ?_
      refine g_iload C 7 rfl dL_law_148 ?_
      refine g_sipush (v := (1024 : Int32)) C dL_law_150 (by decide) ?_
      refine g_idiv C hw.1 dL_law_153 ?_
      replace hw := hw.2
      refine g_iconst (v := (3 : Int32)) C dL_law_154 (by decide) ?_
      refine g_irem C hw.1 dL_law_155 ?_
      replace hw := hw.2
      refine g_if_ne C 163 (by decide) hw dL_law_156 (fun hw => ?_) (fun hw => ?_)
      · refine g_iload C 0 rfl dL_law_163 ?_
        refine g_eql (lv' := [(0, .ref b), (1, .ref (A 0)), (2, .ref (A 18)), (3, .ref (A 19)), (5, .int v5), (6, .int v6)]) [2, 3, 4, 5, 6, 7] rfl ?_
        exact J165 _ hK80 σ kk v5 v6 (((v6 / (128 : Int32)) - (v6 / (128 : Int32)) / (7 : Int32) * (7 : Int32)) - (3 : Int32)) (by omega) hw
      · refine g_iconst (v := (0 : Int32)) C dL_law_159 (by decide) ?_
        refine g_goto C 165 (by decide) dL_law_160 ?_
        refine g_eql (lv' := [(0, .ref b), (1, .ref (A 0)), (2, .ref (A 18)), (3, .ref (A 19)), (5, .int v5), (6, .int v6)]) [2, 3, 4, 5, 6, 7] rfl ?_
        exact J165 _ hK80 σ kk v5 v6 (0 : Int32) (by omega) hw
  have J80 : ∀ (n : Nat) (σ : St) (kk : Nat) (v5 : Int32), kk ≤ 600 → wL_law_80 L xs n σ kk v5 → GW κ (20 + kk) (245 + 3 * kk) (gW cy A σ) 80 [(0, .ref b), (1, .ref (A 0)), (2, .ref (A 18)), (3, .ref (A 19)), (5, .int v5)] [] := by
    intro n
    induction n with
    | zero => intro σ kk v5 hk6 hw; exact hw.elim
    | succ n ih =>
      intro σ kk v5 hk6 hw
      rw [wL_law_80] at hw
      refine g_iload C 4 rfl dL_law_80 ?_
      refine g_bipush (v := (44 : Int32)) C dL_law_82 (by decide) ?_
      refine g_icmp_ge C 959 (by decide) hw dL_law_84 (fun hw => ?_) (fun hw => ?_)
      · refine g_aload_n C 1 rfl rfl dL_law_959 ?_
        refine g_iconst (v := (2 : Int32)) C dL_law_960 (by decide) ?_
        refine g_iconst (v := (0 : Int32)) C dL_law_961 (by decide) ?_
        refine gc_I (mc := 0) (ms := 0) C (gr_V (mc := 0) (ms := 0) (As := [.int (2 : Int32), .int (0 : Int32)]) (rest := []) C hK 2 (gd_V wt_95 wt_96 wt_97 wt_1 wt_98) rfl rfl rfl ⟨rfl, hs_X11_cabin⟩ ⟨⟨Nat.le_of_ble_eq_true rfl, Nat.le_of_ble_eq_true rfl⟩, (by show _ ≤ 888223; omega), (by show _ ≤ 6437580; omega)⟩ rfl 0 (ga_0 cy A _) rfl rfl (Nat.le_of_ble_eq_true rfl) dL_law_962 (c_X11_cabin (q_l κ) (q_D κ) cy A hw)) (fun r6 σ5 hw => ?_)
        refine g_widen (k' := 20 + kk) (n' := 245 + 3 * kk) (by omega) (by omega) ?_
        refine g_bipush (v := (-101 : Int32)) C dL_law_965 (by decide) ?_
        refine g_icmp_ne C 1144 (by decide) hw dL_law_967 (fun hw => ?_) (fun hw => ?_)
        · refine g_iconst (v := (0 : Int32)) C dL_law_1144 (by decide) ?_
          exact hret _ _ _ _ _ _ (by omega) (by omega) hw dL_law_1145
        · refine g_aload_n C 1 rfl rfl dL_law_970 ?_
          refine g_iconst (v := (0 : Int32)) C dL_law_971 (by decide) ?_
          refine g_iconst (v := (4 : Int32)) C dL_law_972 (by decide) ?_
          refine gc_I (mc := 0) (ms := 0) C (gr_V (mc := 0) (ms := 0) (As := [.int (0 : Int32), .int (4 : Int32)]) (rest := []) C hK 2 (gd_V wt_95 wt_96 wt_97 wt_1 wt_98) rfl rfl rfl ⟨rfl, hs_X11_cabin⟩ ⟨⟨Nat.le_of_ble_eq_true rfl, Nat.le_of_ble_eq_true rfl⟩, (by show _ ≤ 888223; omega), (by show _ ≤ 6437580; omega)⟩ rfl 0 (ga_0 cy A _) rfl rfl (Nat.le_of_ble_eq_true rfl) dL_law_973 (c_X11_cabin (q_l κ) (q_D κ) cy A hw)) (fun r8 σ7 hw => ?_)
          refine g_widen (k' := 20 + kk) (n' := 245 + 3 * kk) (by omega) (by omega) ?_
          refine g_bipush (v := (-102 : Int32)) C dL_law_976 (by decide) ?_
          refine g_icmp_ne C 1144 (by decide) hw dL_law_978 (fun hw => ?_) (fun hw => ?_)
          · refine g_iconst (v := (0 : Int32)) C dL_law_1144 (by decide) ?_
            exact hret _ _ _ _ _ _ (by omega) (by omega) hw dL_law_1145
          · refine g_aload_n C 1 rfl rfl dL_law_981 ?_
            refine g_aload_n C 2 rfl rfl dL_law_982 ?_
            refine g_bipush (v := (7 : Int32)) C dL_law_983 (by decide) ?_
            refine g_iald C hK 18 2 (ga_18 cy A _) rfl hw.1 dL_law_985 ?_
            replace hw := hw.2
            refine g_iconst (v := (0 : Int32)) C dL_law_986 (by decide) ?_
            refine gc_I (mc := 0) (ms := 0) C (gr_V (mc := 0) (ms := 0) (As := [.int (σ7.1 18 (7 : Int32).toNatClampNeg), .int (0 : Int32)]) (rest := []) C hK 2 (gd_V wt_154 wt_155 wt_156 wt_1 wt_157) rfl rfl rfl ⟨rfl, hs_X11_about⟩ ⟨⟨Nat.le_of_ble_eq_true rfl, Nat.le_of_ble_eq_true rfl⟩, (by show _ ≤ 888223; omega), (by show _ ≤ 6437580; omega)⟩ rfl 0 (ga_0 cy A _) rfl rfl (Nat.le_of_ble_eq_true rfl) dL_law_987 (c_X11_about (q_l κ) (q_D κ) cy A hw)) (fun r10 σ9 hw => ?_)
            refine g_widen (k' := 20 + kk) (n' := 245 + 3 * kk) (by omega) (by omega) ?_
            refine g_bipush (v := (-101 : Int32)) C dL_law_990 (by decide) ?_
            refine g_icmp_ne C 1144 (by decide) hw dL_law_992 (fun hw => ?_) (fun hw => ?_)
            · refine g_iconst (v := (0 : Int32)) C dL_law_1144 (by decide) ?_
              exact hret _ _ _ _ _ _ (by omega) (by omega) hw dL_law_1145
            · refine g_aload_n C 1 rfl rfl dL_law_995 ?_
              refine g_aload_n C 2 rfl rfl dL_law_996 ?_
              refine g_bipush (v := (7 : Int32)) C dL_law_997 (by decide) ?_
              refine g_iald C hK 18 2 (ga_18 cy A _) rfl hw.1 dL_law_999 ?_
              replace hw := hw.2
              refine g_iconst (v := (0 : Int32)) C dL_law_1000 (by decide) ?_
              refine gc_I (mc := 0) (ms := 0) C (gr_V (mc := 0) (ms := 0) (As := [.int (σ9.1 18 (7 : Int32).toNatClampNeg), .int (0 : Int32)]) (rest := []) C hK 2 (gd_V wt_186 wt_187 wt_188 wt_1 wt_189) rfl rfl rfl ⟨rfl, hs_X11_as⟩ ⟨⟨Nat.le_of_ble_eq_true rfl, Nat.le_of_ble_eq_true rfl⟩, (by show _ ≤ 888223; omega), (by show _ ≤ 6437580; omega)⟩ rfl 0 (ga_0 cy A _) rfl rfl (Nat.le_of_ble_eq_true rfl) dL_law_1001 (c_X11_as (q_l κ) (q_D κ) cy A hw)) (fun r12 σ11 hw => ?_)
              refine g_widen (k' := 20 + kk) (n' := 245 + 3 * kk) (by omega) (by omega) ?_
              refine g_bipush (v := (-101 : Int32)) C dL_law_1004 (by decide) ?_
              refine g_icmp_ne C 1144 (by decide) hw dL_law_1006 (fun hw => ?_) (fun hw => ?_)
              · refine g_iconst (v := (0 : Int32)) C dL_law_1144 (by decide) ?_
                exact hret _ _ _ _ _ _ (by omega) (by omega) hw dL_law_1145
              · refine g_aload_n C 1 rfl rfl dL_law_1009 ?_
                refine g_bipush (v := (6 : Int32)) C dL_law_1010 (by decide) ?_
                refine gc_I (mc := 0) (ms := 0) C (gr_V (mc := 0) (ms := 0) (As := [.int (6 : Int32)]) (rest := []) C hK 1 (gd_V wt_200 wt_201 wt_202 wt_1 wt_203) rfl rfl rfl ⟨rfl, hs_X11_carry⟩ ⟨⟨Nat.le_of_ble_eq_true rfl, Nat.le_of_ble_eq_true rfl⟩, (by show _ ≤ 888223; omega), (by show _ ≤ 6437580; omega)⟩ rfl 0 (ga_0 cy A _) rfl rfl (Nat.le_of_ble_eq_true rfl) dL_law_1012 (c_X11_carry (q_l κ) (q_D κ) cy A hw)) (fun r14 σ13 hw => ?_)
                refine g_widen (k' := 20 + kk) (n' := 245 + 3 * kk) (by omega) (by omega) ?_
                refine g_bipush (v := (-101 : Int32)) C dL_law_1015 (by decide) ?_
                refine g_icmp_ne C 1144 (by decide) hw dL_law_1017 (fun hw => ?_) (fun hw => ?_)
                · refine g_iconst (v := (0 : Int32)) C dL_law_1144 (by decide) ?_
                  exact hret _ _ _ _ _ _ (by omega) (by omega) hw dL_law_1145
                · refine g_aload_n C 1 rfl rfl dL_law_1020 ?_
                  refine g_iconst (v := (4 : Int32)) C dL_law_1021 (by decide) ?_
                  refine gc_I (mc := 0) (ms := 0) C (gr_V (mc := 0) (ms := 0) (As := [.int (4 : Int32)]) (rest := []) C hK 1 (gd_V wt_223 wt_224 wt_225 wt_1 wt_226) rfl rfl rfl ⟨rfl, hs_X11_hour⟩ ⟨⟨Nat.le_of_ble_eq_true rfl, Nat.le_of_ble_eq_true rfl⟩, (by show _ ≤ 888223; omega), (by show _ ≤ 6437580; omega)⟩ rfl 0 (ga_0 cy A _) rfl rfl (Nat.le_of_ble_eq_true rfl) dL_law_1022 (c_X11_hour (q_l κ) (q_D κ) cy A hw)) (fun r16 σ15 hw => ?_)
                  refine g_widen (k' := 20 + kk) (n' := 245 + 3 * kk) (by omega) (by omega) ?_
                  refine g_bipush (v := (-102 : Int32)) C dL_law_1025 (by decide) ?_
                  refine g_icmp_ne C 1144 (by decide) hw dL_law_1027 (fun hw => ?_) (fun hw => ?_)
                  · refine g_iconst (v := (0 : Int32)) C dL_law_1144 (by decide) ?_
                    exact hret _ _ _ _ _ _ (by omega) (by omega) hw dL_law_1145
                  · refine g_aload_n C 1 rfl rfl dL_law_1030 ?_
                    refine g_bipush (v := (-4 : Int32)) C dL_law_1031 (by decide) ?_
                    refine gc_I (mc := 0) (ms := 0) C (gr_V (mc := 0) (ms := 0) (As := [.int (-4 : Int32)]) (rest := []) C hK 1 (gd_V wt_223 wt_224 wt_225 wt_1 wt_226) rfl rfl rfl ⟨rfl, hs_X11_hour⟩ ⟨⟨Nat.le_of_ble_eq_true rfl, Nat.le_of_ble_eq_true rfl⟩, (by show _ ≤ 888223; omega), (by show _ ≤ 6437580; omega)⟩ rfl 0 (ga_0 cy A _) rfl rfl (Nat.le_of_ble_eq_true rfl) dL_law_1033 (c_X11_hour (q_l κ) (q_D κ) cy A hw)) (fun r18 σ17 hw => ?_)
                    refine g_widen (k' := 20 + kk) (n' := 245 + 3 * kk) (by omega) (by omega) ?_
                    refine g_bipush (v := (-102 : Int32)) C dL_law_1036 (by decide) ?_
                    refine g_icmp_ne C 1144 (by decide) hw dL_law_1038 (fun hw => ?_) (fun hw => ?_)
                    · refine g_iconst (v := (0 : Int32)) C dL_law_1144 (by decide) ?_
                      exact hret _ _ _ _ _ _ (by omega) (by omega) hw dL_law_1145
                    · refine g_aload_n C 1 rfl rfl dL_law_1041 ?_
                      refine g_iconst (v := (0 : Int32)) C dL_law_1042 (by decide) ?_
                      refine gc_I (mc := 0) (ms := 0) C (gr_V (mc := 0) (ms := 0) (As := [.int (0 : Int32)]) (rest := []) C hK 1 (gd_V wt_250 wt_251 wt_252 wt_1 wt_253) rfl rfl rfl ⟨rfl, hs_X11_caught⟩ ⟨⟨Nat.le_of_ble_eq_true rfl, Nat.le_of_ble_eq_true rfl⟩, (by show _ ≤ 888223; omega), (by show _ ≤ 6437580; omega)⟩ rfl 0 (ga_0 cy A _) rfl rfl (Nat.le_of_ble_eq_true rfl) dL_law_1043 (c_X11_caught (q_l κ) (q_D κ) cy A hw)) (fun r20 σ19 hw => ?_)
                      refine g_widen (k' := 20 + kk) (n' := 245 + 3 * kk) (by omega) (by omega) ?_
                      refine g_bipush (v := (-102 : Int32)) C dL_law_1046 (by decide) ?_
                      refine g_icmp_ne C 1144 (by decide) hw dL_law_1048 (fun hw => ?_) (fun hw => ?_)
                      · refine g_iconst (v := (0 : Int32)) C dL_law_1144 (by decide) ?_
                        exact hret _ _ _ _ _ _ (by omega) (by omega) hw dL_law_1145
                      · refine g_aload_n C 1 rfl rfl dL_law_1051 ?_
                        refine g_bipush (v := (100 : Int32)) C dL_law_1052 (by decide) ?_
                        refine gc_I (mc := 0) (ms := 0) C (gr_V (mc := 0) (ms := 0) (As := [.int (100 : Int32)]) (rest := []) C hK 1 (gd_V wt_250 wt_251 wt_252 wt_1 wt_253) rfl rfl rfl ⟨rfl, hs_X11_caught⟩ ⟨⟨Nat.le_of_ble_eq_true rfl, Nat.le_of_ble_eq_true rfl⟩, (by show _ ≤ 888223; omega), (by show _ ≤ 6437580; omega)⟩ rfl 0 (ga_0 cy A _) rfl rfl (Nat.le_of_ble_eq_true rfl) dL_law_1054 (c_X11_caught (q_l κ) (q_D κ) cy A hw)) (fun r22 σ21 hw => ?_)
                        refine g_widen (k' := 20 + kk) (n' := 245 + 3 * kk) (by omega) (by omega) ?_
                        refine g_bipush (v := (-102 : Int32)) C dL_law_1057 (by decide) ?_
                        refine g_icmp_ne C 1144 (by decide) hw dL_law_1059 (fun hw => ?_) (fun hw => ?_)
                        · refine g_iconst (v := (0 : Int32)) C dL_law_1144 (by decide) ?_
                          exact hret _ _ _ _ _ _ (by omega) (by omega) hw dL_law_1145
                        · refine g_aload_n C 1 rfl rfl dL_law_1062 ?_
                          refine g_iconst (v := (0 : Int32)) C dL_law_1063 (by decide) ?_
                          refine g_iconst (v := (1 : Int32)) C dL_law_1064 (by decide) ?_
                          refine g_iconst (v := (0 : Int32)) C dL_law_1065 (by decide) ?_
                          refine gc_I (mc := 0) (ms := 0) C (gr_V (mc := 0) (ms := 0) (As := [.int (0 : Int32), .int (1 : Int32), .int (0 : Int32)]) (rest := []) C hK 3 (gd_V wt_262 wt_263 wt_264 wt_1 wt_265) rfl rfl rfl ⟨rfl, hs_X11_whirls⟩ ⟨⟨Nat.le_of_ble_eq_true rfl, Nat.le_of_ble_eq_true rfl⟩, (by show _ ≤ 888223; omega), (by show _ ≤ 6437580; omega)⟩ rfl 0 (ga_0 cy A _) rfl rfl (Nat.le_of_ble_eq_true rfl) dL_law_1066 (c_X11_whirls (q_l κ) (q_D κ) cy A hw)) (fun r24 σ23 hw => ?_)
                          refine g_widen (k' := 20 + kk) (n' := 245 + 3 * kk) (by omega) (by omega) ?_
                          refine g_bipush (v := (-102 : Int32)) C dL_law_1069 (by decide) ?_
                          refine g_icmp_ne C 1144 (by decide) hw dL_law_1071 (fun hw => ?_) (fun hw => ?_)
                          · refine g_iconst (v := (0 : Int32)) C dL_law_1144 (by decide) ?_
                            exact hret _ _ _ _ _ _ (by omega) (by omega) hw dL_law_1145
                          · refine g_aload_n C 1 rfl rfl dL_law_1074 ?_
                            refine g_bipush (v := (61 : Int32)) C dL_law_1075 (by decide) ?_
                            refine g_iconst (v := (1 : Int32)) C dL_law_1077 (by decide) ?_
                            refine g_iconst (v := (0 : Int32)) C dL_law_1078 (by decide) ?_
                            refine gc_I (mc := 0) (ms := 0) C (gr_V (mc := 0) (ms := 0) (As := [.int (61 : Int32), .int (1 : Int32), .int (0 : Int32)]) (rest := []) C hK 3 (gd_V wt_262 wt_263 wt_264 wt_1 wt_265) rfl rfl rfl ⟨rfl, hs_X11_whirls⟩ ⟨⟨Nat.le_of_ble_eq_true rfl, Nat.le_of_ble_eq_true rfl⟩, (by show _ ≤ 888223; omega), (by show _ ≤ 6437580; omega)⟩ rfl 0 (ga_0 cy A _) rfl rfl (Nat.le_of_ble_eq_true rfl) dL_law_1079 (c_X11_whirls (q_l κ) (q_D κ) cy A hw)) (fun r26 σ25 hw => ?_)
                            refine g_widen (k' := 20 + kk) (n' := 245 + 3 * kk) (by omega) (by omega) ?_
                            refine g_bipush (v := (-102 : Int32)) C dL_law_1082 (by decide) ?_
                            refine g_icmp_ne C 1144 (by decide) hw dL_law_1084 (fun hw => ?_) (fun hw => ?_)
                            · refine g_iconst (v := (0 : Int32)) C dL_law_1144 (by decide) ?_
                              exact hret _ _ _ _ _ _ (by omega) (by omega) hw dL_law_1145
                            · refine g_aload_n C 1 rfl rfl dL_law_1087 ?_
                              refine g_iconst (v := (1 : Int32)) C dL_law_1088 (by decide) ?_
                              refine g_iconst (v := (-1 : Int32)) C dL_law_1089 (by decide) ?_
                              refine g_iconst (v := (0 : Int32)) C dL_law_1090 (by decide) ?_
                              refine gc_I (mc := 0) (ms := 0) C (gr_V (mc := 0) (ms := 0) (As := [.int (1 : Int32), .int (-1 : Int32), .int (0 : Int32)]) (rest := []) C hK 3 (gd_V wt_262 wt_263 wt_264 wt_1 wt_265) rfl rfl rfl ⟨rfl, hs_X11_whirls⟩ ⟨⟨Nat.le_of_ble_eq_true rfl, Nat.le_of_ble_eq_true rfl⟩, (by show _ ≤ 888223; omega), (by show _ ≤ 6437580; omega)⟩ rfl 0 (ga_0 cy A _) rfl rfl (Nat.le_of_ble_eq_true rfl) dL_law_1091 (c_X11_whirls (q_l κ) (q_D κ) cy A hw)) (fun r28 σ27 hw => ?_)
                              refine g_widen (k' := 20 + kk) (n' := 245 + 3 * kk) (by omega) (by omega) ?_
                              refine g_bipush (v := (-102 : Int32)) C dL_law_1094 (by decide) ?_
                              refine g_icmp_ne C 1144 (by decide) hw dL_law_1096 (fun hw => ?_) (fun hw => ?_)
                              · refine g_iconst (v := (0 : Int32)) C dL_law_1144 (by decide) ?_
                                exact hret _ _ _ _ _ _ (by omega) (by omega) hw dL_law_1145
                              · refine g_aload_n C 1 rfl rfl dL_law_1099 ?_
                                refine g_iconst (v := (1 : Int32)) C dL_law_1100 (by decide) ?_
                                refine g_iconst (v := (1 : Int32)) C dL_law_1101 (by decide) ?_
                                refine g_iconst (v := (4 : Int32)) C dL_law_1102 (by decide) ?_
                                refine gc_I (mc := 0) (ms := 0) C (gr_V (mc := 0) (ms := 0) (As := [.int (1 : Int32), .int (1 : Int32), .int (4 : Int32)]) (rest := []) C hK 3 (gd_V wt_262 wt_263 wt_264 wt_1 wt_265) rfl rfl rfl ⟨rfl, hs_X11_whirls⟩ ⟨⟨Nat.le_of_ble_eq_true rfl, Nat.le_of_ble_eq_true rfl⟩, (by show _ ≤ 888223; omega), (by show _ ≤ 6437580; omega)⟩ rfl 0 (ga_0 cy A _) rfl rfl (Nat.le_of_ble_eq_true rfl) dL_law_1103 (c_X11_whirls (q_l κ) (q_D κ) cy A hw)) (fun r30 σ29 hw => ?_)
                                refine g_widen (k' := 20 + kk) (n' := 245 + 3 * kk) (by omega) (by omega) ?_
                                refine g_bipush (v := (-102 : Int32)) C dL_law_1106 (by decide) ?_
                                refine g_icmp_ne C 1144 (by decide) hw dL_law_1108 (fun hw => ?_) (fun hw => ?_)
                                · refine g_iconst (v := (0 : Int32)) C dL_law_1144 (by decide) ?_
                                  exact hret _ _ _ _ _ _ (by omega) (by omega) hw dL_law_1145
                                · refine g_aload_n C 2 rfl rfl dL_law_1111 ?_
                                  refine g_bipush (v := (7 : Int32)) C dL_law_1112 (by decide) ?_
                                  refine g_iald C hK 18 2 (ga_18 cy A _) rfl hw.1 dL_law_1114 ?_
                                  replace hw := hw.2
                                  refine g_if_eq C 1140 (by decide) hw dL_law_1115 (fun hw => ?_) (fun hw => ?_)
                                  · refine g_iconst (v := (1 : Int32)) C dL_law_1140 (by decide) ?_
                                    refine g_goto C 1145 (by decide) dL_law_1141 ?_
                                    exact hret _ _ _ _ _ _ (by omega) (by omega) hw dL_law_1145
                                  · refine g_aload_n C 1 rfl rfl dL_law_1118 ?_
                                    refine g_iconst (v := (0 : Int32)) C dL_law_1119 (by decide) ?_
                                    refine g_iconst (v := (5 : Int32)) C dL_law_1120 (by decide) ?_
                                    refine gc_I (mc := 0) (ms := 0) C (gr_V (mc := 0) (ms := 0) (As := [.int (0 : Int32), .int (5 : Int32)]) (rest := []) C hK 2 (gd_V wt_154 wt_155 wt_156 wt_1 wt_157) rfl rfl rfl ⟨rfl, hs_X11_about⟩ ⟨⟨Nat.le_of_ble_eq_true rfl, Nat.le_of_ble_eq_true rfl⟩, (by show _ ≤ 888223; omega), (by show _ ≤ 6437580; omega)⟩ rfl 0 (ga_0 cy A _) rfl rfl (Nat.le_of_ble_eq_true rfl) dL_law_1121 (c_X11_about (q_l κ) (q_D κ) cy A hw)) (fun r32 σ31 hw => ?_)
                                    refine g_widen (k' := 20 + kk) (n' := 245 + 3 * kk) (by omega) (by omega) ?_
                                    refine g_bipush (v := (-102 : Int32)) C dL_law_1124 (by decide) ?_
                                    refine g_icmp_ne C 1144 (by decide) hw dL_law_1126 (fun hw => ?_) (fun hw => ?_)
                                    · refine g_iconst (v := (0 : Int32)) C dL_law_1144 (by decide) ?_
                                      exact hret _ _ _ _ _ _ (by omega) (by omega) hw dL_law_1145
                                    · refine g_aload_n C 1 rfl rfl dL_law_1129 ?_
                                      refine g_iconst (v := (0 : Int32)) C dL_law_1130 (by decide) ?_
                                      refine g_iconst (v := (5 : Int32)) C dL_law_1131 (by decide) ?_
                                      refine gc_I (mc := 0) (ms := 0) C (gr_V (mc := 0) (ms := 0) (As := [.int (0 : Int32), .int (5 : Int32)]) (rest := []) C hK 2 (gd_V wt_186 wt_187 wt_188 wt_1 wt_189) rfl rfl rfl ⟨rfl, hs_X11_as⟩ ⟨⟨Nat.le_of_ble_eq_true rfl, Nat.le_of_ble_eq_true rfl⟩, (by show _ ≤ 888223; omega), (by show _ ≤ 6437580; omega)⟩ rfl 0 (ga_0 cy A _) rfl rfl (Nat.le_of_ble_eq_true rfl) dL_law_1132 (c_X11_as (q_l κ) (q_D κ) cy A hw)) (fun r34 σ33 hw => ?_)
                                      refine g_widen (k' := 20 + kk) (n' := 245 + 3 * kk) (by omega) (by omega) ?_
                                      refine g_bipush (v := (-102 : Int32)) C dL_law_1135 (by decide) ?_
                                      refine g_icmp_ne C 1144 (by decide) hw dL_law_1137 (fun hw => ?_) (fun hw => ?_)
                                      · refine g_iconst (v := (0 : Int32)) C dL_law_1144 (by decide) ?_
                                        exact hret _ _ _ _ _ _ (by omega) (by omega) hw dL_law_1145
                                      · refine g_iconst (v := (1 : Int32)) C dL_law_1140 (by decide) ?_
                                        refine g_goto C 1145 (by decide) dL_law_1141 ?_
                                        exact hret _ _ _ _ _ _ (by omega) (by omega) hw dL_law_1145
      · refine g_aload_n C 0 rfl rfl dL_law_87 ?_
        refine g_bipush (v := (8 : Int32)) C dL_law_88 (by decide) ?_
        refine g_iload C 4 rfl dL_law_90 ?_
        refine g_iadd C dL_law_92 ?_
        obtain ⟨h8, hw⟩ := hw
        refine g_cell (rest := []) C hX hbl hbA hL h8 (gd_S wt_283 wt_284 wt_0 wt_285) ⟨⟨Nat.le_of_ble_eq_true rfl, Nat.le_of_ble_eq_true rfl⟩, (by show _ ≤ 888223; omega), (by show _ ≤ 6437580; omega)⟩ (Nat.le_of_ble_eq_true rfl) dL_law_93 ?_
        refine g_istore C [(6, .int (cellV xs L ((8 : Int32) + v5))), (0, .ref b), (1, .ref (A 0)), (2, .ref (A 18)), (3, .ref (A 19)), (5, .int v5)] hN (by decide) rfl dL_law_96 ?_
        refine g_iload C 0 rfl dL_law_98 ?_
        refine g_bipush (v := (16 : Int32)) C dL_law_100 (by decide) ?_
        refine g_irem C hw.1 dL_law_102 ?_
        replace hw := hw.2
        refine g_istore C [(7, .int ((cellV xs L ((8 : Int32) + v5)) - (cellV xs L ((8 : Int32) + v5)) / (16 : Int32) * (16 : Int32))), (6, .int (cellV xs L ((8 : Int32) + v5))), (0, .ref b), (1, .ref (A 0)), (2, .ref (A 18)), (3, .ref (A 19)), (5, .int v5)] hN (by decide) rfl dL_law_103 ?_
        refine g_aload_n C 4 rfl rfl dL_law_105 ?_
        refine g_bipush (v := (7 : Int32)) C dL_law_106 (by decide) ?_
        refine g_iald C hK 18 2 (ga_18 cy A _) rfl hw.1 dL_law_108 ?_
        replace hw := hw.2
        refine g_if_ne C 116 (by decide) hw dL_law_109 (fun hw => ?_) (fun hw => ?_)
        · refine g_iload C 1 rfl dL_law_116 ?_
          refine g_bipush (v := (16 : Int32)) C dL_law_118 (by decide) ?_
          refine g_idiv C hw.1 dL_law_120 ?_
          replace hw := hw.2
          refine g_aload_n C 4 rfl rfl dL_law_121 ?_
          refine g_bipush (v := (7 : Int32)) C dL_law_122 (by decide) ?_
          refine g_iald C hK 18 2 (ga_18 cy A _) rfl hw.1 dL_law_124 ?_
          replace hw := hw.2
          refine g_irem C hw.1 dL_law_125 ?_
          replace hw := hw.2
          refine g_eql (lv' := [(0, .ref b), (1, .ref (A 0)), (2, .ref (A 18)), (3, .ref (A 19)), (5, .int v5), (6, .int (cellV xs L ((8 : Int32) + v5))), (7, .int ((cellV xs L ((8 : Int32) + v5)) - (cellV xs L ((8 : Int32) + v5)) / (16 : Int32) * (16 : Int32)))]) [2, 3, 4, 5, 6, 1, 0] rfl ?_
          exact J126 _ ih σ kk v5 (cellV xs L ((8 : Int32) + v5)) ((cellV xs L ((8 : Int32) + v5)) - (cellV xs L ((8 : Int32) + v5)) / (16 : Int32) * (16 : Int32)) (((cellV xs L ((8 : Int32) + v5)) / (16 : Int32)) - ((cellV xs L ((8 : Int32) + v5)) / (16 : Int32)) / (σ.1 18 (7 : Int32).toNatClampNeg) * (σ.1 18 (7 : Int32).toNatClampNeg)) (by omega) hw
        · refine g_iconst (v := (0 : Int32)) C dL_law_112 (by decide) ?_
          refine g_goto C 126 (by decide) dL_law_113 ?_
          refine g_eql (lv' := [(0, .ref b), (1, .ref (A 0)), (2, .ref (A 18)), (3, .ref (A 19)), (5, .int v5), (6, .int (cellV xs L ((8 : Int32) + v5))), (7, .int ((cellV xs L ((8 : Int32) + v5)) - (cellV xs L ((8 : Int32) + v5)) / (16 : Int32) * (16 : Int32)))]) [2, 3, 4, 5, 6, 1, 0] rfl ?_
          exact J126 _ ih σ kk v5 (cellV xs L ((8 : Int32) + v5)) ((cellV xs L ((8 : Int32) + v5)) - (cellV xs L ((8 : Int32) + v5)) / (16 : Int32) * (16 : Int32)) (0 : Int32) (by omega) hw
  have J46 : ∀ (n : Nat) (σ : St) (kk : Nat) (v4 : Int32) (v5 : Int32), kk ≤ 600 → wL_law_46 L xs n σ kk v4 v5 → GW κ (20 + kk) (245 + 3 * kk) (gW cy A σ) 46 [(0, .ref b), (1, .ref (A 0)), (2, .ref (A 18)), (3, .ref (A 19)), (4, .int v4), (5, .int v5)] [] := by
    intro n
    induction n with
    | zero => intro σ kk v4 v5 hk6 hw; exact hw.elim
    | succ n ih =>
      intro σ kk v4 v5 hk6 hw
      rw [wL_law_46] at hw
      refine g_iload C 5 rfl dL_law_46 ?_
      refine g_iload C 4 rfl dL_law_48 ?_
      refine g_icmp_ge C 77 (by decide) hw dL_law_50 (fun hw => ?_) (fun hw => ?_)
      · refine g_iconst (v := (0 : Int32)) C dL_law_77 (by decide) ?_
        refine g_istore C [(5, .int (0 : Int32)), (0, .ref b), (1, .ref (A 0)), (2, .ref (A 18)), (3, .ref (A 19)), (4, .int v4)] hN (by decide) rfl dL_law_78 ?_
        refine g_eql (lv' := [(0, .ref b), (1, .ref (A 0)), (2, .ref (A 18)), (3, .ref (A 19)), (5, .int (0 : Int32))]) [1, 2, 3, 4, 0] rfl ?_
        obtain ⟨n0, hw⟩ := hw
        exact J80 n0 σ kk (0 : Int32) (by omega) hw
      · refine g_aload_n C 1 rfl rfl dL_law_53 ?_
        refine g_aload_n C 0 rfl rfl dL_law_54 ?_
        refine g_iconst (v := (2 : Int32)) C dL_law_55 (by decide) ?_
        refine g_iload C 5 rfl dL_law_56 ?_
        refine g_iadd C dL_law_58 ?_
        obtain ⟨h8, hw⟩ := hw
        refine g_cell (rest := [.ref (A 0)]) C hX hbl hbA hL h8 (gd_S wt_283 wt_284 wt_0 wt_285) ⟨⟨Nat.le_of_ble_eq_true rfl, Nat.le_of_ble_eq_true rfl⟩, (by show _ ≤ 888223; omega), (by show _ ≤ 6437580; omega)⟩ (Nat.le_of_ble_eq_true rfl) dL_law_59 ?_
        refine g_aload_n C 2 rfl rfl dL_law_62 ?_
        obtain ⟨hk7, hw⟩ := hw
        refine g_widen (k' := 20 + kk) (n' := 245 + 3 * kk) (by omega) (by omega) ?_
        refine gc_I (mc := 1) (ms := 3) C (gr_S (mc := 1) (ms := 3) (As := [.ref (A 0), .int (cellV xs L ((2 : Int32) + v5)), .ref (A 18)]) (rest := []) C hK 3 (gd_S wt_360 wt_361 wt_0 wt_362) rfl rfl rfl hs_L_thing ⟨⟨Nat.le_of_ble_eq_true rfl, Nat.le_of_ble_eq_true rfl⟩, (by show _ ≤ 888223; omega), (by show _ ≤ 6437580; omega)⟩ rfl rfl (Nat.le_of_ble_eq_true rfl) dL_law_63 (c_L_thing (q_l κ) (q_D κ) cy A hQ18 hw)) (fun r4 σ3 hw => ?_)
        refine g_widen (k' := 20 + (kk + 1)) (n' := 245 + 3 * (kk + 1)) (by omega) (by omega) ?_
        refine g_if_ne C 71 (by decide) hw dL_law_66 (fun hw => ?_) (fun hw => ?_)
        · refine g_iinc (j := 5) C [(5, .int (v5 + 1)), (0, .ref b), (1, .ref (A 0)), (2, .ref (A 18)), (3, .ref (A 19)), (4, .int v4)] hN rfl rfl (by decide) rfl dL_law_71 ?_
          refine g_goto C 46 (by decide) dL_law_74 ?_
          refine g_eql (lv' := [(0, .ref b), (1, .ref (A 0)), (2, .ref (A 18)), (3, .ref (A 19)), (4, .int v4), (5, .int (v5 + 1))]) [1, 2, 3, 4, 5, 0] rfl ?_
          exact ih σ3 (kk + 1) v4 (v5 + 1) (by omega) hw
        · refine g_iconst (v := (0 : Int32)) C dL_law_69 (by decide) ?_
          exact hret _ _ _ _ _ _ (by omega) (by omega) hw dL_law_70
  unfold wL_law at hw
  refine g_aload_n C 1 rfl rfl dL_law_18 ?_
  refine g_aload_n C 0 rfl rfl dL_law_19 ?_
  refine g_iconst (v := (0 : Int32)) C dL_law_20 (by decide) ?_
  obtain ⟨h8, hw⟩ := hw
  refine g_cell (rest := [.ref (A 0)]) C hX hbl hbA hL h8 (gd_S wt_283 wt_284 wt_0 wt_285) ⟨⟨Nat.le_of_ble_eq_true rfl, Nat.le_of_ble_eq_true rfl⟩, (by show _ ≤ 888223; omega), (by show _ ≤ 6437580; omega)⟩ (Nat.le_of_ble_eq_true rfl) dL_law_21 ?_
  refine g_aload_n C 2 rfl rfl dL_law_24 ?_
  refine gc_I (mc := 0) (ms := 0) C (gr_S (mc := 0) (ms := 0) (As := [.ref (A 0), .int (cellV xs L (0 : Int32)), .ref (A 18)]) (rest := []) C hK 3 (gd_S wt_287 wt_288 wt_0 wt_289) rfl rfl rfl hs_L_wire ⟨⟨Nat.le_of_ble_eq_true rfl, Nat.le_of_ble_eq_true rfl⟩, (by show _ ≤ 888223; omega), (by show _ ≤ 6437580; omega)⟩ rfl rfl (Nat.le_of_ble_eq_true rfl) dL_law_25 (c_L_wire (q_l κ) (q_D κ) cy A hQ18 hw)) (fun r2 σ1 hw => ?_)
  refine g_widen (k' := 20 + kk) (n' := 245 + 3 * kk) (by omega) (by omega) ?_
  refine g_if_ne C 33 (by decide) hw dL_law_28 (fun hw => ?_) (fun hw => ?_)
  · refine g_aload_n C 0 rfl rfl dL_law_33 ?_
    refine g_iconst (v := (1 : Int32)) C dL_law_34 (by decide) ?_
    obtain ⟨h8, hw⟩ := hw
    refine g_cell (rest := []) C hX hbl hbA hL h8 (gd_S wt_283 wt_284 wt_0 wt_285) ⟨⟨Nat.le_of_ble_eq_true rfl, Nat.le_of_ble_eq_true rfl⟩, (by show _ ≤ 888223; omega), (by show _ ≤ 6437580; omega)⟩ (Nat.le_of_ble_eq_true rfl) dL_law_35 ?_
    refine g_bipush (v := (6 : Int32)) C dL_law_38 (by decide) ?_
    refine g_irem C hw.1 dL_law_40 ?_
    replace hw := hw.2
    refine g_istore C [(4, .int ((cellV xs L (1 : Int32)) - (cellV xs L (1 : Int32)) / (6 : Int32) * (6 : Int32))), (0, .ref b), (1, .ref (A 0)), (2, .ref (A 18)), (3, .ref (A 19))] hN (by decide) rfl dL_law_41 ?_
    refine g_iconst (v := (0 : Int32)) C dL_law_43 (by decide) ?_
    refine g_istore C [(5, .int (0 : Int32)), (4, .int ((cellV xs L (1 : Int32)) - (cellV xs L (1 : Int32)) / (6 : Int32) * (6 : Int32))), (0, .ref b), (1, .ref (A 0)), (2, .ref (A 18)), (3, .ref (A 19))] hN (by decide) rfl dL_law_44 ?_
    refine g_eql (lv' := [(0, .ref b), (1, .ref (A 0)), (2, .ref (A 18)), (3, .ref (A 19)), (4, .int ((cellV xs L (1 : Int32)) - (cellV xs L (1 : Int32)) / (6 : Int32) * (6 : Int32))), (5, .int (0 : Int32))]) [2, 3, 4, 5, 1, 0] rfl ?_
    obtain ⟨n0, hw⟩ := hw
    exact J46 n0 σ1 kk ((cellV xs L (1 : Int32)) - (cellV xs L (1 : Int32)) / (6 : Int32) * (6 : Int32)) (0 : Int32) (by omega) hw
  · refine g_iconst (v := (0 : Int32)) C dL_law_31 (by decide) ?_
    exact hret _ _ _ _ _ _ (by omega) (by omega) hw dL_law_32
end
