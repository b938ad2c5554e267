section
-- ===== PART A: goes FIRST, ahead of the names: the tables' words, and 'selects' of the private methods out of them =====
/-- a private method of a class that the tables say can be made, by its rows of tables_1 -/
def lw_okq (q : MethodName × Nat) : Prop := (q.1.cls ≠ "java/lang/invoke/MethodHandle" ∧ q.1.cls ≠ "java/lang/invoke/VarHandle") ∧ Cond.instantiable q.1.cls q.2 ∈ tables_1 ∧ Cond.privateMethod q.1 ∈ tables_1 ∧ Cond.instanceMethod q.1 ∈ tables_1
theorem lw_p0 : lw_okq (⟨"TwoOnACable", "tryHours", "(II)I"⟩, 10) := ⟨⟨by decide +kernel, by decide +kernel⟩, List.mem_of_getElem? (i := 15) (by decide +kernel), List.mem_of_getElem? (i := 355) (by decide +kernel), List.mem_of_getElem? (i := 356) (by decide +kernel)⟩
theorem lw_p1 : lw_okq (⟨"TwoOnACable$Page", "isWireLetter", "(I)Z"⟩, 2) := ⟨⟨by decide +kernel, by decide +kernel⟩, List.mem_of_getElem? (i := 23) (by decide +kernel), List.mem_of_getElem? (i := 410) (by decide +kernel), List.mem_of_getElem? (i := 411) (by decide +kernel)⟩
theorem lw_p2 : lw_okq (⟨"TwoOnACable$Page", "isBetween", "(ICC)Z"⟩, 2) := ⟨⟨by decide +kernel, by decide +kernel⟩, List.mem_of_getElem? (i := 23) (by decide +kernel), List.mem_of_getElem? (i := 414) (by decide +kernel), List.mem_of_getElem? (i := 415) (by decide +kernel)⟩
def lw_privs_1 : List (MethodName × Nat) := [(⟨"TwoOnACable", "tryHours", "(II)I"⟩, 10), (⟨"TwoOnACable$Page", "isWireLetter", "(I)Z"⟩, 2), (⟨"TwoOnACable$Page", "isBetween", "(ICC)Z"⟩, 2)]
theorem lw_r1 : ∀ q ∈ lw_privs_1, lw_okq q := List.forall_mem_cons.mpr ⟨lw_p0, List.forall_mem_cons.mpr ⟨lw_p1, List.forall_mem_cons.mpr ⟨lw_p2, fun _ h => absurd h List.not_mem_nil⟩⟩⟩
def lw_privs : List (MethodName × Nat) := lw_privs_1
def lw_tbl : List Cond := k2_sels lw_privs ++ tables_1
theorem lw_privs_ok : ∀ q ∈ lw_privs, lw_okq q := lw_r1
def RX0 : String := "TwoOnACable$Cable"
def TX0 : u_T := fun k => match k with
  | 0 => ("TwoOnACable$Cable", "length", "I", false)
  | 1 => ("TwoOnACable$Cable", "spin", "I", false)
  | 2 => ("TwoOnACable$Cable", "bears", "I", false)
  | 3 => ("TwoOnACable$Cable", "place", "I", false)
  | 4 => ("TwoOnACable$Cable", "hours", "I", false)
  | 5 => ("TwoOnACable$Cable", "old", "Z", false)
  | _ => ("TwoOnACable$Cable", "broken", "Z", false)
def tyX0 : Nat → FieldType := fun k => match k with
  | 0 => .int
  | 1 => .int
  | 2 => .int
  | 3 => .int
  | 4 => .int
  | 5 => .boolean
  | _ => .boolean
abbrev wsX00 : List Cond := u_ws RX0 TX0 7
theorem nmX0 : ∀ a, a < 7 → ∀ b, b < 7 → a ≠ b → (TX0 a).2.1 ≠ (TX0 b).2.1 := by decide +kernel
theorem tyX0_ok : ∀ k, k < 7 → parseFieldDescriptor (TX0 k).2.2.1 = some (tyX0 k) := by decide +kernel
abbrev cX0_init : ByteArray := prog_2_method_1_code
def yX0_init : MethodName := ⟨RX0, "<init>", "()V"⟩
abbrev cX0_hang : ByteArray := prog_2_method_2_code
def yX0_hang : MethodName := ⟨RX0, "hang", "(LTwoOnACable$Page;)V"⟩
abbrev cX0_becomeLike : ByteArray := prog_2_method_3_code
def yX0_becomeLike : MethodName := ⟨RX0, "becomeLike", "(LTwoOnACable$Cable;)V"⟩
abbrev cX0_isThere : ByteArray := prog_2_method_4_code
def yX0_isThere : MethodName := ⟨RX0, "isThere", "()Z"⟩
abbrev cX0_isWhole : ByteArray := prog_2_method_5_code
def yX0_isWhole : MethodName := ⟨RX0, "isWhole", "()Z"⟩
abbrev cX0_turnsAt : ByteArray := prog_2_method_6_code
def yX0_turnsAt : MethodName := ⟨RX0, "turnsAt", "(I)I"⟩
abbrev cX0_turnsNow : ByteArray := prog_2_method_7_code
def yX0_turnsNow : MethodName := ⟨RX0, "turnsNow", "()I"⟩
abbrev cX0_armAt : ByteArray := prog_2_method_8_code
def yX0_armAt : MethodName := ⟨RX0, "armAt", "(IIII)I"⟩
abbrev cX0_floorAt : ByteArray := prog_2_method_9_code
def yX0_floorAt : MethodName := ⟨RX0, "floorAt", "(IIII)I"⟩
abbrev cX0_strainBy : ByteArray := prog_2_method_10_code
def yX0_strainBy : MethodName := ⟨RX0, "strainBy", "(II)I"⟩
abbrev cX0_armNow : ByteArray := prog_2_method_11_code
def yX0_armNow : MethodName := ⟨RX0, "armNow", "(ILTwoOnACable$Load;)I"⟩
abbrev cX0_floorNow : ByteArray := prog_2_method_12_code
def yX0_floorNow : MethodName := ⟨RX0, "floorNow", "(ILTwoOnACable$Load;)I"⟩
abbrev cX0_strainNow : ByteArray := prog_2_method_13_code
def yX0_strainNow : MethodName := ⟨RX0, "strainNow", "(LTwoOnACable$Load;)I"⟩
abbrev cX0_placeAfter : ByteArray := prog_2_method_14_code
def yX0_placeAfter : MethodName := ⟨RX0, "placeAfter", "(I)I"⟩
abbrev cX0_goHour : ByteArray := prog_2_method_15_code
def yX0_goHour : MethodName := ⟨RX0, "goHour", "(ILTwoOnACable$Load;)V"⟩
def RX1 : String := "TwoOnACable$Cook"
def TX1 : u_T := fun k => match k with
  | 0 => ("TwoOnACable$Thing", "weight", "I", true)
  | 1 => ("TwoOnACable$Thing", "came", "I", true)
  | _ => ("TwoOnACable$Thing", "place", "I", false)
def tyX1 : Nat → FieldType := fun k => match k with
  | 0 => .int
  | 1 => .int
  | _ => .int
abbrev wsX10 : List Cond := u_ws RX1 TX1 3
theorem nmX1 : ∀ a, a < 3 → ∀ b, b < 3 → a ≠ b → (TX1 a).2.1 ≠ (TX1 b).2.1 := by decide +kernel
theorem tyX1_ok : ∀ k, k < 3 → parseFieldDescriptor (TX1 k).2.2.1 = some (tyX1 k) := by decide +kernel
abbrev cX1_init : ByteArray := prog_3_method_1_code
def yX1_init : MethodName := ⟨RX1, "<init>", "(III)V"⟩
abbrev cX1_kind : ByteArray := prog_3_method_2_code
def yX1_kind : MethodName := ⟨RX1, "kind", "()I"⟩
abbrev cX1_weighs : ByteArray := prog_3_method_3_code
def yX1_weighs : MethodName := ⟨RX1, "weighs", "(I)I"⟩
def RX2 : String := "TwoOnACable$Evening"
def TX2 : u_T := fun k => match k with
  | 0 => ("TwoOnACable$Evening", "weighs", "[I", true)
  | 1 => ("TwoOnACable$Evening", "gains", "[I", true)
  | 2 => ("TwoOnACable$Evening", "apart", "I", false)
  | 3 => ("TwoOnACable$Evening", "bits", "I", false)
  | 4 => ("TwoOnACable$Evening", "staying", "I", false)
  | 5 => ("TwoOnACable$Evening", "first", "I", false)
  | _ => ("TwoOnACable$Evening", "both", "I", false)
def tyX2 : Nat → FieldType := fun k => match k with
  | 0 => .array .int
  | 1 => .array .int
  | 2 => .int
  | 3 => .int
  | 4 => .int
  | 5 => .int
  | _ => .int
abbrev wsX20 : List Cond := u_ws RX2 TX2 7
theorem nmX2 : ∀ a, a < 7 → ∀ b, b < 7 → a ≠ b → (TX2 a).2.1 ≠ (TX2 b).2.1 := by decide +kernel
theorem tyX2_ok : ∀ k, k < 7 → parseFieldDescriptor (TX2 k).2.2.1 = some (tyX2 k) := by decide +kernel
abbrev cX2_init : ByteArray := prog_4_method_1_code
def yX2_init : MethodName := ⟨RX2, "<init>", "()V"⟩
def RX3 : String := "TwoOnACable$Guest"
def TX3 : u_T := fun k => match k with
  | 0 => ("TwoOnACable$Thing", "weight", "I", true)
  | 1 => ("TwoOnACable$Thing", "came", "I", true)
  | _ => ("TwoOnACable$Thing", "place", "I", false)
def tyX3 : Nat → FieldType := fun k => match k with
  | 0 => .int
  | 1 => .int
  | _ => .int
abbrev wsX30 : List Cond := u_ws RX3 TX3 3
theorem nmX3 : ∀ a, a < 3 → ∀ b, b < 3 → a ≠ b → (TX3 a).2.1 ≠ (TX3 b).2.1 := by decide +kernel
theorem tyX3_ok : ∀ k, k < 3 → parseFieldDescriptor (TX3 k).2.2.1 = some (tyX3 k) := by decide +kernel
abbrev cX3_init : ByteArray := prog_5_method_1_code
def yX3_init : MethodName := ⟨RX3, "<init>", "(III)V"⟩
abbrev cX3_kind : ByteArray := prog_5_method_2_code
def yX3_kind : MethodName := ⟨RX3, "kind", "()I"⟩
abbrev cX3_goesAcross : ByteArray := prog_5_method_3_code
def yX3_goesAcross : MethodName := ⟨RX3, "goesAcross", "(I)Z"⟩
def RX4 : String := "TwoOnACable$Hens"
def TX4 : u_T := fun k => match k with
  | 0 => ("TwoOnACable$Thing", "weight", "I", true)
  | 1 => ("TwoOnACable$Thing", "came", "I", true)
  | _ => ("TwoOnACable$Thing", "place", "I", false)
def tyX4 : Nat → FieldType := fun k => match k with
  | 0 => .int
  | 1 => .int
  | _ => .int
abbrev wsX40 : List Cond := u_ws RX4 TX4 3
theorem nmX4 : ∀ a, a < 3 → ∀ b, b < 3 → a ≠ b → (TX4 a).2.1 ≠ (TX4 b).2.1 := by decide +kernel
theorem tyX4_ok : ∀ k, k < 3 → parseFieldDescriptor (TX4 k).2.2.1 = some (tyX4 k) := by decide +kernel
abbrev cX4_init : ByteArray := prog_6_method_1_code
def yX4_init : MethodName := ⟨RX4, "<init>", "(III)V"⟩
abbrev cX4_kind : ByteArray := prog_6_method_2_code
def yX4_kind : MethodName := ⟨RX4, "kind", "()I"⟩
abbrev cX4_weighs : ByteArray := prog_6_method_3_code
def yX4_weighs : MethodName := ⟨RX4, "weighs", "(I)I"⟩
def RX5 : String := "TwoOnACable$Live"
def TX5 : u_T := fun k => match k with
  | 0 => ("TwoOnACable$Thing", "weight", "I", true)
  | 1 => ("TwoOnACable$Thing", "came", "I", true)
  | _ => ("TwoOnACable$Thing", "place", "I", false)
def tyX5 : Nat → FieldType := fun k => match k with
  | 0 => .int
  | 1 => .int
  | _ => .int
abbrev wsX50 : List Cond := u_ws RX5 TX5 3
theorem nmX5 : ∀ a, a < 3 → ∀ b, b < 3 → a ≠ b → (TX5 a).2.1 ≠ (TX5 b).2.1 := by decide +kernel
theorem tyX5_ok : ∀ k, k < 3 → parseFieldDescriptor (TX5 k).2.2.1 = some (tyX5 k) := by decide +kernel
abbrev cX5_init : ByteArray := prog_7_method_1_code
def yX5_init : MethodName := ⟨RX5, "<init>", "(III)V"⟩
abbrev cX5_kind : ByteArray := prog_7_method_2_code
def yX5_kind : MethodName := ⟨RX5, "kind", "()I"⟩
abbrev cX5_weighs : ByteArray := prog_7_method_3_code
def yX5_weighs : MethodName := ⟨RX5, "weighs", "(I)I"⟩
def RX6 : String := "TwoOnACable$Load"
def TX6 : u_T := fun k => match k with
  | 0 => ("TwoOnACable$Load", "things", "[LTwoOnACable$Thing;", true)
  | 1 => ("TwoOnACable$Load", "keptPlaces", "[I", true)
  | 2 => ("TwoOnACable$Load", "size", "I", false)
  | _ => ("TwoOnACable$Load", "keptSize", "I", false)
def tyX6 : Nat → FieldType := fun k => match k with
  | 0 => .array (.object "TwoOnACable$Thing")
  | 1 => .array .int
  | 2 => .int
  | _ => .int
abbrev wsX60 : List Cond := u_ws RX6 TX6 4
theorem nmX6 : ∀ a, a < 4 → ∀ b, b < 4 → a ≠ b → (TX6 a).2.1 ≠ (TX6 b).2.1 := by decide +kernel
theorem tyX6_ok : ∀ k, k < 4 → parseFieldDescriptor (TX6 k).2.2.1 = some (tyX6 k) := by decide +kernel
abbrev cX6_init : ByteArray := prog_8_method_1_code
def yX6_init : MethodName := ⟨RX6, "<init>", "()V"⟩
abbrev cX6_isFull : ByteArray := prog_8_method_2_code
def yX6_isFull : MethodName := ⟨RX6, "isFull", "()Z"⟩
abbrev cX6_put : ByteArray := prog_8_method_3_code
def yX6_put : MethodName := ⟨RX6, "put", "(LTwoOnACable$Thing;)I"⟩
abbrev cX6_at : ByteArray := prog_8_method_4_code
def yX6_at : MethodName := ⟨RX6, "at", "(I)LTwoOnACable$Thing;"⟩
abbrev cX6_cutTo : ByteArray := prog_8_method_5_code
def yX6_cutTo : MethodName := ⟨RX6, "cutTo", "(I)V"⟩
abbrev cX6_weighsIn : ByteArray := prog_8_method_8_code
def yX6_weighsIn : MethodName := ⟨RX6, "weighsIn", "(II)I"⟩
abbrev cX6_sizeIn : ByteArray := prog_8_method_9_code
def yX6_sizeIn : MethodName := ⟨RX6, "sizeIn", "(I)I"⟩
def RX7 : String := "TwoOnACable$Page"
def TX7 : u_T := fun k => match k with
  | 0 => ("TwoOnACable$Page", "row", "[C", true)
  | _ => ("TwoOnACable$Page", "size", "I", false)
def tyX7 : Nat → FieldType := fun k => match k with
  | 0 => .array .char
  | _ => .int
abbrev wsX70 : List Cond := u_ws RX7 TX7 2
theorem nmX7 : ∀ a, a < 2 → ∀ b, b < 2 → a ≠ b → (TX7 a).2.1 ≠ (TX7 b).2.1 := by decide +kernel
theorem tyX7_ok : ∀ k, k < 2 → parseFieldDescriptor (TX7 k).2.2.1 = some (tyX7 k) := by decide +kernel
abbrev cX7_init : ByteArray := prog_9_method_1_code
def yX7_init : MethodName := ⟨RX7, "<init>", "()V"⟩
abbrev cX7_hasRoomFor : ByteArray := prog_9_method_2_code
def yX7_hasRoomFor : MethodName := ⟨RX7, "hasRoomFor", "(I)Z"⟩
abbrev cX7_put : ByteArray := prog_9_method_3_code
def yX7_put : MethodName := ⟨RX7, "put", "(C)V"⟩
abbrev cX7_at : ByteArray := prog_9_method_4_code
def yX7_at : MethodName := ⟨RX7, "at", "(I)I"⟩
abbrev cX7_emptied : ByteArray := prog_9_method_5_code
def yX7_emptied : MethodName := ⟨RX7, "emptied", "()I"⟩
abbrev cX7_firstWrong : ByteArray := prog_9_method_6_code
def yX7_firstWrong : MethodName := ⟨RX7, "firstWrong", "()I"⟩
abbrev cX7_isWire : ByteArray := prog_9_method_7_code
def yX7_isWire : MethodName := ⟨RX7, "isWire", "()Z"⟩
abbrev cX7_digitAt : ByteArray := prog_9_method_8_code
def yX7_digitAt : MethodName := ⟨RX7, "digitAt", "(I)I"⟩
abbrev cX7_isWireLetter : ByteArray := prog_9_method_9_code
def yX7_isWireLetter : MethodName := ⟨RX7, "isWireLetter", "(I)Z"⟩
abbrev cX7_isBetween : ByteArray := prog_9_method_10_code
def yX7_isBetween : MethodName := ⟨RX7, "isBetween", "(ICC)Z"⟩
def RX8 : String := "TwoOnACable$Search"
def TX8 : u_T := fun k => match k with
  | 0 => ("TwoOnACable$Search", "now", "[I", true)
  | 1 => ("TwoOnACable$Search", "next", "[I", true)
  | 2 => ("TwoOnACable$Search", "hours", "I", false)
  | _ => ("TwoOnACable$Search", "first", "I", false)
def tyX8 : Nat → FieldType := fun k => match k with
  | 0 => .array .int
  | 1 => .array .int
  | 2 => .int
  | _ => .int
abbrev wsX80 : List Cond := u_ws RX8 TX8 4
theorem nmX8 : ∀ a, a < 4 → ∀ b, b < 4 → a ≠ b → (TX8 a).2.1 ≠ (TX8 b).2.1 := by decide +kernel
theorem tyX8_ok : ∀ k, k < 4 → parseFieldDescriptor (TX8 k).2.2.1 = some (tyX8 k) := by decide +kernel
abbrev cX8_init : ByteArray := prog_10_method_1_code
def yX8_init : MethodName := ⟨RX8, "<init>", "()V"⟩
def RX9 : String := "TwoOnACable$Thing"
def TX9 : u_T := fun k => match k with
  | 0 => ("TwoOnACable$Thing", "weight", "I", true)
  | 1 => ("TwoOnACable$Thing", "came", "I", true)
  | _ => ("TwoOnACable$Thing", "place", "I", false)
def tyX9 : Nat → FieldType := fun k => match k with
  | 0 => .int
  | 1 => .int
  | _ => .int
abbrev wsX90 : List Cond := u_ws RX9 TX9 3
theorem nmX9 : ∀ a, a < 3 → ∀ b, b < 3 → a ≠ b → (TX9 a).2.1 ≠ (TX9 b).2.1 := by decide +kernel
theorem tyX9_ok : ∀ k, k < 3 → parseFieldDescriptor (TX9 k).2.2.1 = some (tyX9 k) := by decide +kernel
abbrev cX9_init : ByteArray := prog_11_method_1_code
def yX9_init : MethodName := ⟨RX9, "<init>", "(III)V"⟩
abbrev cX9_kind : ByteArray := prog_11_method_2_code
def yX9_kind : MethodName := ⟨RX9, "kind", "()I"⟩
abbrev cX9_weighs : ByteArray := prog_11_method_3_code
def yX9_weighs : MethodName := ⟨RX9, "weighs", "(I)I"⟩
abbrev cX9_goesAcross : ByteArray := prog_11_method_4_code
def yX9_goesAcross : MethodName := ⟨RX9, "goesAcross", "(I)Z"⟩
abbrev cX9_hoursHere : ByteArray := prog_11_method_5_code
def yX9_hoursHere : MethodName := ⟨RX9, "hoursHere", "(I)I"⟩
def RX10 : String := "TwoOnACable$Told"
def TX10 : u_T := fun k => match k with
  | 0 => ("TwoOnACable$Told", "lengths", "[I", true)
  | 1 => ("TwoOnACable$Told", "turns", "[I", true)
  | _ => ("TwoOnACable$Told", "size", "I", false)
def tyX10 : Nat → FieldType := fun k => match k with
  | 0 => .array .int
  | 1 => .array .int
  | _ => .int
abbrev wsX100 : List Cond := u_ws RX10 TX10 3
theorem nmX10 : ∀ a, a < 3 → ∀ b, b < 3 → a ≠ b → (TX10 a).2.1 ≠ (TX10 b).2.1 := by decide +kernel
theorem tyX10_ok : ∀ k, k < 3 → parseFieldDescriptor (TX10 k).2.2.1 = some (tyX10 k) := by decide +kernel
abbrev cX10_init : ByteArray := prog_12_method_1_code
def yX10_init : MethodName := ⟨RX10, "<init>", "()V"⟩
abbrev cX10_emptied : ByteArray := prog_12_method_4_code
def yX10_emptied : MethodName := ⟨RX10, "emptied", "()I"⟩
def RX11 : String := "TwoOnACable"
def TX11 : u_T := fun k => match k with
  | 0 => ("TwoOnACable", "page", "LTwoOnACable$Page;", true)
  | 1 => ("TwoOnACable", "cable", "LTwoOnACable$Cable;", true)
  | 2 => ("TwoOnACable", "load", "LTwoOnACable$Load;", true)
  | 3 => ("TwoOnACable", "told", "LTwoOnACable$Told;", true)
  | 4 => ("TwoOnACable", "evening", "LTwoOnACable$Evening;", true)
  | 5 => ("TwoOnACable", "search", "LTwoOnACable$Search;", true)
  | 6 => ("TwoOnACable", "trial", "LTwoOnACable$Cable;", true)
  | 7 => ("TwoOnACable", "keptCable", "LTwoOnACable$Cable;", true)
  | 8 => ("TwoOnACable", "isKept", "Z", false)
  | _ => ("TwoOnACable", "reads", "I", false)
def tyX11 : Nat → FieldType := fun k => match k with
  | 0 => .object "TwoOnACable$Page"
  | 1 => .object "TwoOnACable$Cable"
  | 2 => .object "TwoOnACable$Load"
  | 3 => .object "TwoOnACable$Told"
  | 4 => .object "TwoOnACable$Evening"
  | 5 => .object "TwoOnACable$Search"
  | 6 => .object "TwoOnACable$Cable"
  | 7 => .object "TwoOnACable$Cable"
  | 8 => .boolean
  | _ => .int
abbrev wsX110 : List Cond := u_ws RX11 TX11 10
theorem nmX11 : ∀ a, a < 10 → ∀ b, b < 10 → a ≠ b → (TX11 a).2.1 ≠ (TX11 b).2.1 := by decide +kernel
theorem tyX11_ok : ∀ k, k < 10 → parseFieldDescriptor (TX11 k).2.2.1 = some (tyX11 k) := by decide +kernel
abbrev cX11_init : ByteArray := prog_1_method_1_code
def yX11_init : MethodName := ⟨RX11, "<init>", "()V"⟩
abbrev cX11_letters : ByteArray := prog_1_method_2_code
def yX11_letters : MethodName := ⟨RX11, "letters", "(J)I"⟩
abbrev cX11_fault : ByteArray := prog_1_method_4_code
def yX11_fault : MethodName := ⟨RX11, "fault", "()I"⟩
abbrev cX11_wire : ByteArray := prog_1_method_5_code
def yX11_wire : MethodName := ⟨RX11, "wire", "()I"⟩
abbrev cX11_cabin : ByteArray := prog_1_method_6_code
def yX11_cabin : MethodName := ⟨RX11, "cabin", "(II)I"⟩
abbrev cX11_thing : ByteArray := prog_1_method_7_code
def yX11_thing : MethodName := ⟨RX11, "thing", "(III)I"⟩
abbrev cX11_about : ByteArray := prog_1_method_8_code
def yX11_about : MethodName := ⟨RX11, "about", "(II)I"⟩
abbrev cX11_as : ByteArray := prog_1_method_9_code
def yX11_as : MethodName := ⟨RX11, "as", "(II)I"⟩
abbrev cX11_carry : ByteArray := prog_1_method_10_code
def yX11_carry : MethodName := ⟨RX11, "carry", "(I)I"⟩
abbrev cX11_hour : ByteArray := prog_1_method_11_code
def yX11_hour : MethodName := ⟨RX11, "hour", "(I)I"⟩
abbrev cX11_caught : ByteArray := prog_1_method_14_code
def yX11_caught : MethodName := ⟨RX11, "caught", "(I)I"⟩
abbrev cX11_whirls : ByteArray := prog_1_method_19_code
def yX11_whirls : MethodName := ⟨RX11, "whirls", "(III)I"⟩
abbrev cX11_count : ByteArray := prog_1_method_22_code
def yX11_count : MethodName := ⟨RX11, "count", "(I)I"⟩
abbrev cX11_tryHours : ByteArray := prog_1_method_27_code
def yX11_tryHours : MethodName := ⟨RX11, "tryHours", "(II)I"⟩
abbrev cX11_nextSeed : ByteArray := prog_1_method_28_code
def yX11_nextSeed : MethodName := ⟨RX11, "nextSeed", "(I)I"⟩
abbrev cX11_byteOf : ByteArray := prog_1_method_30_code
def yX11_byteOf : MethodName := ⟨RX11, "byteOf", "(JI)I"⟩
abbrev cX11_lettersIn : ByteArray := prog_1_method_31_code
def yX11_lettersIn : MethodName := ⟨RX11, "lettersIn", "(J)I"⟩
abbrev cX11_isCabin : ByteArray := prog_1_method_32_code
def yX11_isCabin : MethodName := ⟨RX11, "isCabin", "(I)Z"⟩
abbrev cX11_isKind : ByteArray := prog_1_method_33_code
def yX11_isKind : MethodName := ⟨RX11, "isKind", "(I)Z"⟩
abbrev cX11_isLength : ByteArray := prog_1_method_34_code
def yX11_isLength : MethodName := ⟨RX11, "isLength", "(I)Z"⟩
abbrev cX11_apartOnCircle : ByteArray := prog_1_method_35_code
def yX11_apartOnCircle : MethodName := ⟨RX11, "apartOnCircle", "(II)I"⟩
abbrev cX11_windingOf : ByteArray := prog_1_method_36_code
def yX11_windingOf : MethodName := ⟨RX11, "windingOf", "(I)I"⟩
abbrev cX11_newThing : ByteArray := prog_1_method_39_code
def yX11_newThing : MethodName := ⟨RX11, "newThing", "(IIII)LTwoOnACable$Thing;"⟩
abbrev cX11_isOfKind : ByteArray := prog_1_method_40_code
def yX11_isOfKind : MethodName := ⟨RX11, "isOfKind", "(LTwoOnACable$Thing;I)Z"⟩
def RX12 : String := "TwoOnACableModel"
def TX12 : u_T := fun k => match k with
  | _ => ("", "", "", false)
def tyX12 : Nat → FieldType := fun k => match k with
  | _ => .int
abbrev wsX120 : List Cond := u_ws RX12 TX12 0
theorem nmX12 : ∀ a, a < 0 → ∀ b, b < 0 → a ≠ b → (TX12 a).2.1 ≠ (TX12 b).2.1 := by decide +kernel
theorem tyX12_ok : ∀ k, k < 0 → parseFieldDescriptor (TX12 k).2.2.1 = some (tyX12 k) := by decide +kernel
def RJ9 : String := "java/lang/Math"
def TJ9 : u_T := fun k => match k with
  | _ => ("", "", "", false)
def tyJ9 : Nat → FieldType := fun k => match k with
  | _ => .int
abbrev wsJ90 : List Cond := u_ws RJ9 TJ9 0
theorem nmJ9 : ∀ a, a < 0 → ∀ b, b < 0 → a ≠ b → (TJ9 a).2.1 ≠ (TJ9 b).2.1 := by decide +kernel
theorem tyJ9_ok : ∀ k, k < 0 → parseFieldDescriptor (TJ9 k).2.2.1 = some (tyJ9 k) := by decide +kernel
abbrev cJ9_floorMod_7cf53 : ByteArray := prog_15_method_50_code
def yJ9_floorMod_7cf53 : MethodName := ⟨RJ9, "floorMod", "(II)I"⟩
abbrev cJ9_min_7cf53 : ByteArray := prog_15_method_69_code
def yJ9_min_7cf53 : MethodName := ⟨RJ9, "min", "(II)I"⟩
def RL : String := "TwoOnACableLaw"
abbrev cL_cell : ByteArray := method_2_code
def yL_cell : MethodName := ⟨RL, "cell", "([II)I"⟩
abbrev cL_put : ByteArray := method_3_code
def yL_put : MethodName := ⟨RL, "put", "(LTwoOnACable;I)Z"⟩
abbrev cL_wire : ByteArray := method_4_code
def yL_wire : MethodName := ⟨RL, "wire", "(LTwoOnACable;I[I)Z"⟩
abbrev cL_thing : ByteArray := method_5_code
def yL_thing : MethodName := ⟨RL, "thing", "(LTwoOnACable;I[I)Z"⟩
abbrev cL_weighs : ByteArray := method_6_code
def yL_weighs : MethodName := ⟨RL, "weighs", "([III)I"⟩
abbrev cL_cabin : ByteArray := method_7_code
def yL_cabin : MethodName := ⟨RL, "cabin", "([IIII)I"⟩
abbrev cL_turns : ByteArray := method_8_code
def yL_turns : MethodName := ⟨RL, "turns", "([II)I"⟩
abbrev cL_arm : ByteArray := method_9_code
def yL_arm : MethodName := ⟨RL, "arm", "([IIIII)I"⟩
abbrev cL_floor : ByteArray := method_10_code
def yL_floor : MethodName := ⟨RL, "floor", "([IIIII)I"⟩
abbrev cL_strain : ByteArray := method_11_code
def yL_strain : MethodName := ⟨RL, "strain", "([III)I"⟩
abbrev cL_hour : ByteArray := method_12_code
def yL_hour : MethodName := ⟨RL, "hour", "([II)I"⟩
abbrev cL_told : ByteArray := method_13_code
def yL_told : MethodName := ⟨RL, "told", "(LTwoOnACable;[I)Z"⟩
abbrev cL_law : ByteArray := code
def yL_law : MethodName := ⟨RL, "law", "([I)Z"⟩
abbrev vwCl : List vw_C := [(RX0, TX0, 7), (RX1, TX1, 3), (RX2, TX2, 7), (RX3, TX3, 3), (RX4, TX4, 3), (RX5, TX5, 3), (RX6, TX6, 4), (RX7, TX7, 2), (RX8, TX8, 4), (RX9, TX9, 3), (RX10, TX10, 3), (RX11, TX11, 10)]
end
section
/-! the tables' words that a callee may take over: one list for all methods -/
def gL : List Cond := lw_tbl.filter goodWord
theorem gd_all {ws : List Cond} (h : ∀ w ∈ ws, w ∈ gL) : GoodIn gL ws := fun w hw => ⟨h w hw, good_of_word (List.mem_filter.mp (h w hw)).2⟩
theorem gd_V {own C : String} {idx : Nat} {y : MethodName} {cw : Cond} (h1 : Cond.methodLink own idx y ∈ gL) (h2 : Cond.instanceMethod y ∈ gL) (h3 : Cond.selects C y y ∈ gL) (h4 : Cond.initialized C ∈ gL) (h5 : cw ∈ gL) : GoodIn gL (wsV own idx C y (cw :: gL)) := gd_all fun w hw => by
  simp only [wsV, List.cons_append, List.nil_append, List.mem_cons] at hw
  rcases hw with rfl | rfl | rfl | rfl | rfl | hw <;> assumption
theorem gd_S {own : String} {idx : Nat} {y : MethodName} {cw : Cond} (h1 : Cond.methodLink own idx y ∈ gL) (h2 : Cond.static y ∈ gL) (h4 : Cond.initialized y.cls ∈ gL) (h5 : cw ∈ gL) : GoodIn gL (va_wsS own idx y (cw :: gL)) := gd_all fun w hw => by
  simp only [va_wsS, List.cons_append, List.nil_append, List.mem_cons] at hw
  rcases hw with rfl | rfl | rfl | rfl | hw <;> assumption
theorem gd_U {own C owner : String} {idx : Nat} {x y : MethodName} {cw : Cond} (h1 : Cond.methodLink own idx x ∈ gL) (h2 : Cond.sameMethod x.cls owner x.name x.desc ∈ gL) (h3 : Cond.selects C x y ∈ gL) (h4 : Cond.instanceMethod y ∈ gL) (h6 : Cond.initialized y.cls ∈ gL) (h5 : cw ∈ gL) : GoodIn gL (va_wsU own idx C owner x y (cw :: gL)) := gd_all fun w hw => by
  simp only [va_wsU, List.cons_append, List.nil_append, List.mem_cons] at hw
  rcases hw with rfl | rfl | rfl | rfl | rfl | rfl | hw <;> assumption
theorem gd_O {own C owner : String} {idx : Nat} {x y : MethodName} {cw : Cond} (h1 : Cond.methodLink own idx x ∈ gL) (h2 : Cond.sameMethod x.cls owner x.name x.desc ∈ gL) (h7 : Cond.instanceMethod ⟨owner, x.name, x.desc⟩ ∈ gL) (h3 : Cond.selects C x y ∈ gL) (h4 : Cond.instanceMethod y ∈ gL) (h6 : Cond.initialized y.cls ∈ gL) (h5 : cw ∈ gL) : GoodIn gL (va_wsO own idx C owner x y (cw :: gL)) := gd_all fun w hw => by
  simp only [va_wsO, List.cons_append, List.nil_append, List.mem_cons] at hw
  rcases hw with rfl | rfl | rfl | rfl | rfl | rfl | rfl | hw <;> assumption
theorem gd_N {cw : Cond} (h5 : cw ∈ gL) : GoodIn gL (cw :: gL) := gd_all fun w hw => by
  simp only [List.mem_cons] at hw
  rcases hw with rfl | hw <;> assumption
theorem gm_1 {w : Cond} (h : w ∈ tables_1_1) (g : goodWord w = true) : w ∈ gL := List.mem_filter.mpr ⟨List.mem_append_right _ (List.mem_append_left _ h), g⟩
theorem gm_2 {w : Cond} (h : w ∈ tables_1_2) (g : goodWord w = true) : w ∈ gL := List.mem_filter.mpr ⟨List.mem_append_right _ (List.mem_append_right _ (List.mem_append_left _ h)), g⟩
theorem gm_3 {w : Cond} (h : w ∈ tables_1_3) (g : goodWord w = true) : w ∈ gL := List.mem_filter.mpr ⟨List.mem_append_right _ (List.mem_append_right _ (List.mem_append_right _ (h))), g⟩
theorem gm_0 {w : Cond} (h : w ∈ k2_sels lw_privs) (g : goodWord w = true) : w ∈ gL := List.mem_filter.mpr ⟨List.mem_append_left _ h, g⟩
theorem wt_0 : Cond.initialized "TwoOnACableLaw" ∈ gL := gm_1 (List.mem_of_getElem? (i := 0) (by decide +kernel)) rfl
theorem wt_1 : Cond.initialized "TwoOnACable" ∈ gL := gm_1 (List.mem_of_getElem? (i := 1) (by decide +kernel)) rfl
theorem wt_2 : Cond.initialized "TwoOnACable$Page" ∈ gL := gm_1 (List.mem_of_getElem? (i := 2) (by decide +kernel)) rfl
theorem wt_3 : Cond.initialized "TwoOnACable$Cable" ∈ gL := gm_1 (List.mem_of_getElem? (i := 3) (by decide +kernel)) rfl
theorem wt_4 : Cond.initialized "TwoOnACable$Load" ∈ gL := gm_1 (List.mem_of_getElem? (i := 4) (by decide +kernel)) rfl
theorem wt_5 : Cond.initialized "TwoOnACable$Told" ∈ gL := gm_1 (List.mem_of_getElem? (i := 5) (by decide +kernel)) rfl
theorem wt_6 : Cond.initialized "TwoOnACable$Evening" ∈ gL := gm_1 (List.mem_of_getElem? (i := 6) (by decide +kernel)) rfl
theorem wt_7 : Cond.initialized "TwoOnACable$Search" ∈ gL := gm_1 (List.mem_of_getElem? (i := 7) (by decide +kernel)) rfl
theorem wt_8 : Cond.initialized "java/lang/Math" ∈ gL := gm_1 (List.mem_of_getElem? (i := 8) (by decide +kernel)) rfl
theorem wt_9 : Cond.initialized "TwoOnACable$Thing" ∈ gL := gm_1 (List.mem_of_getElem? (i := 9) (by decide +kernel)) rfl
theorem wt_10 : Cond.initialized "TwoOnACable$Cook" ∈ gL := gm_1 (List.mem_of_getElem? (i := 10) (by decide +kernel)) rfl
theorem wt_11 : Cond.initialized "TwoOnACable$Guest" ∈ gL := gm_1 (List.mem_of_getElem? (i := 11) (by decide +kernel)) rfl
theorem wt_12 : Cond.initialized "TwoOnACable$Live" ∈ gL := gm_1 (List.mem_of_getElem? (i := 12) (by decide +kernel)) rfl
theorem wt_13 : Cond.initialized "TwoOnACable$Hens" ∈ gL := gm_1 (List.mem_of_getElem? (i := 13) (by decide +kernel)) rfl
theorem wt_14 : Cond.classLink "TwoOnACableLaw" 9 "TwoOnACable" ∈ gL := gm_1 (List.mem_of_getElem? (i := 14) (by decide +kernel)) rfl
theorem wt_15 : Cond.instantiable "TwoOnACable" 10 ∈ gL := gm_1 (List.mem_of_getElem? (i := 15) (by decide +kernel)) rfl
theorem wt_16 : Cond.methodLink "TwoOnACableLaw" 64 yX11_init ∈ gL := gm_1 (List.mem_of_getElem? (i := 16) (by decide +kernel)) rfl
theorem wt_17 : Cond.instanceMethod yX11_init ∈ gL := gm_1 (List.mem_of_getElem? (i := 17) (by decide +kernel)) rfl
theorem wt_18 : Cond.code yX11_init prog_1_method_1_code 1 (none : Option FieldType) ∈ gL := gm_1 (List.mem_of_getElem? (i := 18) (by decide +kernel)) rfl
theorem wt_19 : Cond.methodLink "TwoOnACable" 1 objectInit ∈ gL := gm_1 (List.mem_of_getElem? (i := 19) (by decide +kernel)) rfl
theorem wt_20 : Cond.instanceMethod objectInit ∈ gL := gm_1 (List.mem_of_getElem? (i := 20) (by decide +kernel)) rfl
theorem wt_21 : Cond.code objectInit object_method_1_code 1 (none : Option FieldType) ∈ gL := gm_1 (List.mem_of_getElem? (i := 21) (by decide +kernel)) rfl
theorem wt_22 : Cond.classLink "TwoOnACable" 7 "TwoOnACable$Page" ∈ gL := gm_1 (List.mem_of_getElem? (i := 22) (by decide +kernel)) rfl
theorem wt_23 : Cond.instantiable "TwoOnACable$Page" 2 ∈ gL := gm_1 (List.mem_of_getElem? (i := 23) (by decide +kernel)) rfl
theorem wt_24 : Cond.instanceMethod yX7_init ∈ gL := gm_1 (List.mem_of_getElem? (i := 25) (by decide +kernel)) rfl
theorem wt_25 : Cond.code yX7_init prog_9_method_1_code 1 (none : Option FieldType) ∈ gL := gm_1 (List.mem_of_getElem? (i := 26) (by decide +kernel)) rfl
theorem wt_26 : Cond.methodLink "TwoOnACable$Page" 3 objectInit ∈ gL := gm_1 (List.mem_of_getElem? (i := 27) (by decide +kernel)) rfl
theorem wt_27 : Cond.fieldLink "TwoOnACable$Page" 9 "TwoOnACable$Page" "row" "[C" ∈ gL := gm_1 (List.mem_of_getElem? (i := 28) (by decide +kernel)) rfl
theorem wt_28 : Cond.fieldLink "TwoOnACable$Page" 15 "TwoOnACable$Page" "size" "I" ∈ gL := gm_1 (List.mem_of_getElem? (i := 29) (by decide +kernel)) rfl
theorem wt_29 : Cond.fieldLink "TwoOnACable" 73 "TwoOnACable$Page" "size" "I" ∈ gL := gm_1 (List.mem_of_getElem? (i := 30) (by decide +kernel)) rfl
theorem wt_30 : Cond.fieldLink "TwoOnACable$Cable" 27 "TwoOnACable$Page" "size" "I" ∈ gL := gm_1 (List.mem_of_getElem? (i := 31) (by decide +kernel)) rfl
theorem wt_31 : Cond.arrayClass FieldType.char ∈ gL := gm_1 (List.mem_of_getElem? (i := 37) (by decide +kernel)) rfl
theorem wt_32 : Cond.classLink "TwoOnACable" 16 "TwoOnACable$Cable" ∈ gL := gm_1 (List.mem_of_getElem? (i := 38) (by decide +kernel)) rfl
theorem wt_33 : Cond.instantiable "TwoOnACable$Cable" 7 ∈ gL := gm_1 (List.mem_of_getElem? (i := 39) (by decide +kernel)) rfl
theorem wt_34 : Cond.instanceMethod yX0_init ∈ gL := gm_1 (List.mem_of_getElem? (i := 41) (by decide +kernel)) rfl
theorem wt_35 : Cond.code yX0_init prog_2_method_1_code 1 (none : Option FieldType) ∈ gL := gm_1 (List.mem_of_getElem? (i := 42) (by decide +kernel)) rfl
theorem wt_36 : Cond.methodLink "TwoOnACable$Cable" 3 objectInit ∈ gL := gm_1 (List.mem_of_getElem? (i := 43) (by decide +kernel)) rfl
theorem wt_37 : Cond.fieldLink "TwoOnACable$Cable" 15 "TwoOnACable$Cable" "length" "I" ∈ gL := gm_1 (List.mem_of_getElem? (i := 44) (by decide +kernel)) rfl
theorem wt_38 : Cond.fieldLink "TwoOnACable" 178 "TwoOnACable$Cable" "length" "I" ∈ gL := gm_1 (List.mem_of_getElem? (i := 45) (by decide +kernel)) rfl
theorem wt_39 : Cond.fieldLink "TwoOnACable$Cable" 21 "TwoOnACable$Cable" "spin" "I" ∈ gL := gm_1 (List.mem_of_getElem? (i := 46) (by decide +kernel)) rfl
theorem wt_40 : Cond.fieldLink "TwoOnACable" 104 "TwoOnACable$Cable" "spin" "I" ∈ gL := gm_1 (List.mem_of_getElem? (i := 47) (by decide +kernel)) rfl
theorem wt_41 : Cond.fieldLink "TwoOnACable$Cable" 24 "TwoOnACable$Cable" "bears" "I" ∈ gL := gm_1 (List.mem_of_getElem? (i := 48) (by decide +kernel)) rfl
theorem wt_42 : Cond.fieldLink "TwoOnACable" 260 "TwoOnACable$Cable" "bears" "I" ∈ gL := gm_1 (List.mem_of_getElem? (i := 49) (by decide +kernel)) rfl
theorem wt_43 : Cond.fieldLink "TwoOnACable$Cable" 34 "TwoOnACable$Cable" "place" "I" ∈ gL := gm_1 (List.mem_of_getElem? (i := 50) (by decide +kernel)) rfl
theorem wt_44 : Cond.fieldLink "TwoOnACable" 249 "TwoOnACable$Cable" "place" "I" ∈ gL := gm_1 (List.mem_of_getElem? (i := 51) (by decide +kernel)) rfl
theorem wt_45 : Cond.fieldLink "TwoOnACable$Cable" 37 "TwoOnACable$Cable" "hours" "I" ∈ gL := gm_1 (List.mem_of_getElem? (i := 52) (by decide +kernel)) rfl
theorem wt_46 : Cond.fieldLink "TwoOnACable" 113 "TwoOnACable$Cable" "hours" "I" ∈ gL := gm_1 (List.mem_of_getElem? (i := 53) (by decide +kernel)) rfl
theorem wt_47 : Cond.fieldLink "TwoOnACable$Cable" 30 "TwoOnACable$Cable" "old" "Z" ∈ gL := gm_1 (List.mem_of_getElem? (i := 54) (by decide +kernel)) rfl
theorem wt_48 : Cond.fieldLink "TwoOnACable" 263 "TwoOnACable$Cable" "old" "Z" ∈ gL := gm_1 (List.mem_of_getElem? (i := 55) (by decide +kernel)) rfl
theorem wt_49 : Cond.fieldLink "TwoOnACable$Cable" 40 "TwoOnACable$Cable" "broken" "Z" ∈ gL := gm_1 (List.mem_of_getElem? (i := 56) (by decide +kernel)) rfl
theorem wt_50 : Cond.fieldLink "TwoOnACable" 188 "TwoOnACable$Cable" "broken" "Z" ∈ gL := gm_1 (List.mem_of_getElem? (i := 57) (by decide +kernel)) rfl
theorem wt_51 : Cond.classLink "TwoOnACable" 23 "TwoOnACable$Load" ∈ gL := gm_1 (List.mem_of_getElem? (i := 73) (by decide +kernel)) rfl
theorem wt_52 : Cond.instantiable "TwoOnACable$Load" 4 ∈ gL := gm_1 (List.mem_of_getElem? (i := 74) (by decide +kernel)) rfl
theorem wt_53 : Cond.instanceMethod yX6_init ∈ gL := gm_1 (List.mem_of_getElem? (i := 76) (by decide +kernel)) rfl
theorem wt_54 : Cond.code yX6_init prog_8_method_1_code 1 (none : Option FieldType) ∈ gL := gm_1 (List.mem_of_getElem? (i := 77) (by decide +kernel)) rfl
theorem wt_55 : Cond.methodLink "TwoOnACable$Load" 3 objectInit ∈ gL := gm_1 (List.mem_of_getElem? (i := 78) (by decide +kernel)) rfl
theorem wt_56 : Cond.classLink "TwoOnACable$Load" 9 "TwoOnACable$Thing" ∈ gL := gm_1 (List.mem_of_getElem? (i := 79) (by decide +kernel)) rfl
theorem wt_57 : Cond.fieldLink "TwoOnACable$Load" 11 "TwoOnACable$Load" "things" "[LTwoOnACable$Thing;" ∈ gL := gm_1 (List.mem_of_getElem? (i := 81) (by decide +kernel)) rfl
theorem wt_58 : Cond.fieldLink "TwoOnACable$Load" 17 "TwoOnACable$Load" "keptPlaces" "[I" ∈ gL := gm_1 (List.mem_of_getElem? (i := 82) (by decide +kernel)) rfl
theorem wt_59 : Cond.fieldLink "TwoOnACable$Load" 21 "TwoOnACable$Load" "size" "I" ∈ gL := gm_1 (List.mem_of_getElem? (i := 83) (by decide +kernel)) rfl
theorem wt_60 : Cond.fieldLink "TwoOnACable" 266 "TwoOnACable$Load" "size" "I" ∈ gL := gm_1 (List.mem_of_getElem? (i := 84) (by decide +kernel)) rfl
theorem wt_61 : Cond.arrayClass FieldType.int ∈ gL := gm_1 (List.mem_of_getElem? (i := 94) (by decide +kernel)) rfl
theorem wt_62 : Cond.classLink "TwoOnACable" 30 "TwoOnACable$Told" ∈ gL := gm_1 (List.mem_of_getElem? (i := 95) (by decide +kernel)) rfl
theorem wt_63 : Cond.instantiable "TwoOnACable$Told" 3 ∈ gL := gm_1 (List.mem_of_getElem? (i := 96) (by decide +kernel)) rfl
theorem wt_64 : Cond.instanceMethod yX10_init ∈ gL := gm_1 (List.mem_of_getElem? (i := 98) (by decide +kernel)) rfl
theorem wt_65 : Cond.code yX10_init prog_12_method_1_code 1 (none : Option FieldType) ∈ gL := gm_1 (List.mem_of_getElem? (i := 99) (by decide +kernel)) rfl
theorem wt_66 : Cond.methodLink "TwoOnACable$Told" 3 objectInit ∈ gL := gm_1 (List.mem_of_getElem? (i := 100) (by decide +kernel)) rfl
theorem wt_67 : Cond.fieldLink "TwoOnACable$Told" 9 "TwoOnACable$Told" "lengths" "[I" ∈ gL := gm_1 (List.mem_of_getElem? (i := 101) (by decide +kernel)) rfl
theorem wt_68 : Cond.fieldLink "TwoOnACable$Told" 15 "TwoOnACable$Told" "turns" "[I" ∈ gL := gm_1 (List.mem_of_getElem? (i := 102) (by decide +kernel)) rfl
theorem wt_69 : Cond.fieldLink "TwoOnACable$Told" 18 "TwoOnACable$Told" "size" "I" ∈ gL := gm_1 (List.mem_of_getElem? (i := 103) (by decide +kernel)) rfl
theorem wt_70 : Cond.fieldLink "TwoOnACable" 267 "TwoOnACable$Told" "size" "I" ∈ gL := gm_1 (List.mem_of_getElem? (i := 104) (by decide +kernel)) rfl
theorem wt_71 : Cond.classLink "TwoOnACable" 37 "TwoOnACable$Evening" ∈ gL := gm_1 (List.mem_of_getElem? (i := 112) (by decide +kernel)) rfl
theorem wt_72 : Cond.instantiable "TwoOnACable$Evening" 7 ∈ gL := gm_1 (List.mem_of_getElem? (i := 113) (by decide +kernel)) rfl
theorem wt_73 : Cond.instanceMethod yX2_init ∈ gL := gm_1 (List.mem_of_getElem? (i := 115) (by decide +kernel)) rfl
theorem wt_74 : Cond.code yX2_init prog_4_method_1_code 1 (none : Option FieldType) ∈ gL := gm_1 (List.mem_of_getElem? (i := 116) (by decide +kernel)) rfl
theorem wt_75 : Cond.methodLink "TwoOnACable$Evening" 3 objectInit ∈ gL := gm_1 (List.mem_of_getElem? (i := 117) (by decide +kernel)) rfl
theorem wt_76 : Cond.fieldLink "TwoOnACable$Evening" 9 "TwoOnACable$Evening" "weighs" "[I" ∈ gL := gm_1 (List.mem_of_getElem? (i := 118) (by decide +kernel)) rfl
theorem wt_77 : Cond.fieldLink "TwoOnACable$Evening" 15 "TwoOnACable$Evening" "gains" "[I" ∈ gL := gm_1 (List.mem_of_getElem? (i := 119) (by decide +kernel)) rfl
theorem wt_78 : Cond.classLink "TwoOnACable" 44 "TwoOnACable$Search" ∈ gL := gm_1 (List.mem_of_getElem? (i := 135) (by decide +kernel)) rfl
theorem wt_79 : Cond.instantiable "TwoOnACable$Search" 4 ∈ gL := gm_1 (List.mem_of_getElem? (i := 136) (by decide +kernel)) rfl
theorem wt_80 : Cond.instanceMethod yX8_init ∈ gL := gm_1 (List.mem_of_getElem? (i := 138) (by decide +kernel)) rfl
theorem wt_81 : Cond.code yX8_init prog_10_method_1_code 1 (none : Option FieldType) ∈ gL := gm_1 (List.mem_of_getElem? (i := 139) (by decide +kernel)) rfl
theorem wt_82 : Cond.methodLink "TwoOnACable$Search" 3 objectInit ∈ gL := gm_1 (List.mem_of_getElem? (i := 140) (by decide +kernel)) rfl
theorem wt_83 : Cond.fieldLink "TwoOnACable$Search" 9 "TwoOnACable$Search" "now" "[I" ∈ gL := gm_1 (List.mem_of_getElem? (i := 141) (by decide +kernel)) rfl
theorem wt_84 : Cond.fieldLink "TwoOnACable$Search" 15 "TwoOnACable$Search" "next" "[I" ∈ gL := gm_1 (List.mem_of_getElem? (i := 142) (by decide +kernel)) rfl
theorem wt_85 : Cond.fieldLink "TwoOnACable" 10 "TwoOnACable" "page" "LTwoOnACable$Page;" ∈ gL := gm_1 (List.mem_of_getElem? (i := 152) (by decide +kernel)) rfl
theorem wt_86 : Cond.fieldLink "TwoOnACable" 19 "TwoOnACable" "cable" "LTwoOnACable$Cable;" ∈ gL := gm_1 (List.mem_of_getElem? (i := 153) (by decide +kernel)) rfl
theorem wt_87 : Cond.fieldLink "TwoOnACable" 26 "TwoOnACable" "load" "LTwoOnACable$Load;" ∈ gL := gm_1 (List.mem_of_getElem? (i := 154) (by decide +kernel)) rfl
theorem wt_88 : Cond.fieldLink "TwoOnACable" 33 "TwoOnACable" "told" "LTwoOnACable$Told;" ∈ gL := gm_1 (List.mem_of_getElem? (i := 155) (by decide +kernel)) rfl
theorem wt_89 : Cond.fieldLink "TwoOnACable" 40 "TwoOnACable" "evening" "LTwoOnACable$Evening;" ∈ gL := gm_1 (List.mem_of_getElem? (i := 156) (by decide +kernel)) rfl
theorem wt_90 : Cond.fieldLink "TwoOnACable" 47 "TwoOnACable" "search" "LTwoOnACable$Search;" ∈ gL := gm_1 (List.mem_of_getElem? (i := 157) (by decide +kernel)) rfl
theorem wt_91 : Cond.fieldLink "TwoOnACable" 51 "TwoOnACable" "trial" "LTwoOnACable$Cable;" ∈ gL := gm_1 (List.mem_of_getElem? (i := 158) (by decide +kernel)) rfl
theorem wt_92 : Cond.fieldLink "TwoOnACable" 54 "TwoOnACable" "keptCable" "LTwoOnACable$Cable;" ∈ gL := gm_1 (List.mem_of_getElem? (i := 159) (by decide +kernel)) rfl
theorem wt_93 : Cond.fieldLink "TwoOnACable" 97 "TwoOnACable" "isKept" "Z" ∈ gL := gm_1 (List.mem_of_getElem? (i := 160) (by decide +kernel)) rfl
theorem wt_94 : Cond.fieldLink "TwoOnACable" 101 "TwoOnACable" "reads" "I" ∈ gL := gm_1 (List.mem_of_getElem? (i := 161) (by decide +kernel)) rfl
theorem wt_95 : Cond.methodLink "TwoOnACableLaw" 62 yX11_cabin ∈ gL := gm_1 (List.mem_of_getElem? (i := 183) (by decide +kernel)) rfl
theorem wt_96 : Cond.instanceMethod yX11_cabin ∈ gL := gm_1 (List.mem_of_getElem? (i := 184) (by decide +kernel)) rfl
theorem wt_97 : Cond.selects "TwoOnACable" yX11_cabin yX11_cabin ∈ gL := gm_1 (List.mem_of_getElem? (i := 185) (by decide +kernel)) rfl
theorem wt_98 : Cond.code yX11_cabin prog_1_method_6_code 3 (some FieldType.int) ∈ gL := gm_1 (List.mem_of_getElem? (i := 186) (by decide +kernel)) rfl
theorem wt_99 : Cond.methodLink "TwoOnACable" 107 yX11_isCabin ∈ gL := gm_1 (List.mem_of_getElem? (i := 187) (by decide +kernel)) rfl
theorem wt_100 : Cond.static yX11_isCabin ∈ gL := gm_1 (List.mem_of_getElem? (i := 188) (by decide +kernel)) rfl
theorem wt_101 : Cond.code yX11_isCabin prog_1_method_32_code 1 (some FieldType.boolean) ∈ gL := gm_1 (List.mem_of_getElem? (i := 189) (by decide +kernel)) rfl
theorem wt_102 : Cond.methodLink "TwoOnACable" 110 yX0_isThere ∈ gL := gm_1 (List.mem_of_getElem? (i := 190) (by decide +kernel)) rfl
theorem wt_103 : Cond.instanceMethod yX0_isThere ∈ gL := gm_1 (List.mem_of_getElem? (i := 191) (by decide +kernel)) rfl
theorem wt_104 : Cond.selects "TwoOnACable$Cable" yX0_isThere yX0_isThere ∈ gL := gm_1 (List.mem_of_getElem? (i := 192) (by decide +kernel)) rfl
theorem wt_105 : Cond.code yX0_isThere prog_2_method_4_code 1 (some FieldType.boolean) ∈ gL := gm_1 (List.mem_of_getElem? (i := 193) (by decide +kernel)) rfl
theorem wt_106 : Cond.methodLink "TwoOnACable" 116 yX6_weighsIn ∈ gL := gm_1 (List.mem_of_getElem? (i := 194) (by decide +kernel)) rfl
theorem wt_107 : Cond.instanceMethod yX6_weighsIn ∈ gL := gm_1 (List.mem_of_getElem? (i := 195) (by decide +kernel)) rfl
theorem wt_108 : Cond.selects "TwoOnACable$Load" yX6_weighsIn yX6_weighsIn ∈ gL := gm_1 (List.mem_of_getElem? (i := 196) (by decide +kernel)) rfl
theorem wt_109 : Cond.code yX6_weighsIn prog_8_method_8_code 6 (some FieldType.int) ∈ gL := gm_1 (List.mem_of_getElem? (i := 197) (by decide +kernel)) rfl
theorem wt_110 : Cond.methodLink "TwoOnACable$Load" 34 yX6_at ∈ gL := gm_1 (List.mem_of_getElem? (i := 198) (by decide +kernel)) rfl
theorem wt_111 : Cond.instanceMethod yX6_at ∈ gL := gm_1 (List.mem_of_getElem? (i := 199) (by decide +kernel)) rfl
theorem wt_112 : Cond.selects "TwoOnACable$Load" yX6_at yX6_at ∈ gL := gm_1 (List.mem_of_getElem? (i := 200) (by decide +kernel)) rfl
theorem wt_113 : Cond.code yX6_at prog_8_method_4_code 2 (some (FieldType.object "TwoOnACable$Thing")) ∈ gL := gm_1 (List.mem_of_getElem? (i := 201) (by decide +kernel)) rfl
theorem wt_114 : Cond.methodLink "TwoOnACable$Load" 45 yX9_weighs ∈ gL := gm_1 (List.mem_of_getElem? (i := 202) (by decide +kernel)) rfl
theorem wt_115 : Cond.instanceMethod yX9_weighs ∈ gL := gm_1 (List.mem_of_getElem? (i := 203) (by decide +kernel)) rfl
theorem wt_116 : Cond.selects "TwoOnACable$Thing" yX9_weighs yX9_weighs ∈ gL := gm_1 (List.mem_of_getElem? (i := 204) (by decide +kernel)) rfl
theorem wt_117 : Cond.sameMethod "TwoOnACable$Thing" "TwoOnACable$Thing" "weighs" "(I)I" ∈ gL := gm_1 (List.mem_of_getElem? (i := 205) (by decide +kernel)) rfl
theorem wt_118 : Cond.selects "TwoOnACable$Cook" yX9_weighs yX1_weighs ∈ gL := gm_1 (List.mem_of_getElem? (i := 206) (by decide +kernel)) rfl
theorem wt_119 : Cond.instanceMethod yX1_weighs ∈ gL := gm_1 (List.mem_of_getElem? (i := 207) (by decide +kernel)) rfl
theorem wt_120 : Cond.code yX1_weighs prog_3_method_3_code 2 (some FieldType.int) ∈ gL := gm_1 (List.mem_of_getElem? (i := 208) (by decide +kernel)) rfl
theorem wt_121 : Cond.selects "TwoOnACable$Guest" yX9_weighs yX9_weighs ∈ gL := gm_1 (List.mem_of_getElem? (i := 209) (by decide +kernel)) rfl
theorem wt_122 : Cond.selects "TwoOnACable$Hens" yX9_weighs yX4_weighs ∈ gL := gm_1 (List.mem_of_getElem? (i := 210) (by decide +kernel)) rfl
theorem wt_123 : Cond.instanceMethod yX4_weighs ∈ gL := gm_1 (List.mem_of_getElem? (i := 211) (by decide +kernel)) rfl
theorem wt_124 : Cond.code yX4_weighs prog_6_method_3_code 2 (some FieldType.int) ∈ gL := gm_1 (List.mem_of_getElem? (i := 212) (by decide +kernel)) rfl
theorem wt_125 : Cond.selects "TwoOnACable$Live" yX9_weighs yX5_weighs ∈ gL := gm_1 (List.mem_of_getElem? (i := 213) (by decide +kernel)) rfl
theorem wt_126 : Cond.instanceMethod yX5_weighs ∈ gL := gm_1 (List.mem_of_getElem? (i := 214) (by decide +kernel)) rfl
theorem wt_127 : Cond.code yX5_weighs prog_7_method_3_code 2 (some FieldType.int) ∈ gL := gm_1 (List.mem_of_getElem? (i := 215) (by decide +kernel)) rfl
theorem wt_128 : Cond.code yX9_weighs prog_11_method_3_code 2 (some FieldType.int) ∈ gL := gm_1 (List.mem_of_getElem? (i := 216) (by decide +kernel)) rfl
theorem wt_129 : Cond.methodLink "TwoOnACable" 120 yX0_armNow ∈ gL := gm_1 (List.mem_of_getElem? (i := 217) (by decide +kernel)) rfl
theorem wt_130 : Cond.instanceMethod yX0_armNow ∈ gL := gm_1 (List.mem_of_getElem? (i := 218) (by decide +kernel)) rfl
theorem wt_131 : Cond.selects "TwoOnACable$Cable" yX0_armNow yX0_armNow ∈ gL := gm_1 (List.mem_of_getElem? (i := 219) (by decide +kernel)) rfl
theorem wt_132 : Cond.code yX0_armNow prog_2_method_11_code 3 (some FieldType.int) ∈ gL := gm_1 (List.mem_of_getElem? (i := 220) (by decide +kernel)) rfl
theorem wt_133 : Cond.methodLink "TwoOnACable$Cable" 50 yX6_weighsIn ∈ gL := gm_1 (List.mem_of_getElem? (i := 221) (by decide +kernel)) rfl
theorem wt_134 : Cond.methodLink "TwoOnACable$Cable" 46 yX0_armAt ∈ gL := gm_1 (List.mem_of_getElem? (i := 222) (by decide +kernel)) rfl
theorem wt_135 : Cond.instanceMethod yX0_armAt ∈ gL := gm_1 (List.mem_of_getElem? (i := 223) (by decide +kernel)) rfl
theorem wt_136 : Cond.selects "TwoOnACable$Cable" yX0_armAt yX0_armAt ∈ gL := gm_1 (List.mem_of_getElem? (i := 224) (by decide +kernel)) rfl
theorem wt_137 : Cond.code yX0_armAt prog_2_method_8_code 7 (some FieldType.int) ∈ gL := gm_1 (List.mem_of_getElem? (i := 225) (by decide +kernel)) rfl
theorem wt_138 : Cond.methodLink "TwoOnACable" 124 yX0_floorNow ∈ gL := gm_1 (List.mem_of_getElem? (i := 226) (by decide +kernel)) rfl
theorem wt_139 : Cond.instanceMethod yX0_floorNow ∈ gL := gm_1 (List.mem_of_getElem? (i := 227) (by decide +kernel)) rfl
theorem wt_140 : Cond.selects "TwoOnACable$Cable" yX0_floorNow yX0_floorNow ∈ gL := gm_1 (List.mem_of_getElem? (i := 228) (by decide +kernel)) rfl
theorem wt_141 : Cond.code yX0_floorNow prog_2_method_12_code 3 (some FieldType.int) ∈ gL := gm_1 (List.mem_of_getElem? (i := 229) (by decide +kernel)) rfl
theorem wt_142 : Cond.methodLink "TwoOnACable$Cable" 56 yX0_floorAt ∈ gL := gm_1 (List.mem_of_getElem? (i := 230) (by decide +kernel)) rfl
theorem wt_143 : Cond.instanceMethod yX0_floorAt ∈ gL := gm_1 (List.mem_of_getElem? (i := 231) (by decide +kernel)) rfl
theorem wt_144 : Cond.selects "TwoOnACable$Cable" yX0_floorAt yX0_floorAt ∈ gL := gm_1 (List.mem_of_getElem? (i := 232) (by decide +kernel)) rfl
theorem wt_145 : Cond.code yX0_floorAt prog_2_method_9_code 6 (some FieldType.int) ∈ gL := gm_1 (List.mem_of_getElem? (i := 233) (by decide +kernel)) rfl
theorem wt_146 : Cond.methodLink "TwoOnACable$Cable" 43 yX0_turnsAt ∈ gL := gm_1 (List.mem_of_getElem? (i := 234) (by decide +kernel)) rfl
theorem wt_147 : Cond.instanceMethod yX0_turnsAt ∈ gL := gm_1 (List.mem_of_getElem? (i := 235) (by decide +kernel)) rfl
theorem wt_148 : Cond.selects "TwoOnACable$Cable" yX0_turnsAt yX0_turnsAt ∈ gL := gm_1 (List.mem_of_getElem? (i := 236) (by decide +kernel)) rfl
theorem wt_149 : Cond.code yX0_turnsAt prog_2_method_6_code 2 (some FieldType.int) ∈ gL := gm_1 (List.mem_of_getElem? (i := 237) (by decide +kernel)) rfl
theorem wt_150 : Cond.methodLink "TwoOnACable" 127 yX6_sizeIn ∈ gL := gm_1 (List.mem_of_getElem? (i := 238) (by decide +kernel)) rfl
theorem wt_151 : Cond.instanceMethod yX6_sizeIn ∈ gL := gm_1 (List.mem_of_getElem? (i := 239) (by decide +kernel)) rfl
theorem wt_152 : Cond.selects "TwoOnACable$Load" yX6_sizeIn yX6_sizeIn ∈ gL := gm_2 (List.mem_of_getElem? (i := 0) (by decide +kernel)) rfl
theorem wt_153 : Cond.code yX6_sizeIn prog_8_method_9_code 5 (some FieldType.int) ∈ gL := gm_2 (List.mem_of_getElem? (i := 1) (by decide +kernel)) rfl
theorem wt_154 : Cond.methodLink "TwoOnACableLaw" 58 yX11_about ∈ gL := gm_2 (List.mem_of_getElem? (i := 2) (by decide +kernel)) rfl
theorem wt_155 : Cond.instanceMethod yX11_about ∈ gL := gm_2 (List.mem_of_getElem? (i := 3) (by decide +kernel)) rfl
theorem wt_156 : Cond.selects "TwoOnACable" yX11_about yX11_about ∈ gL := gm_2 (List.mem_of_getElem? (i := 4) (by decide +kernel)) rfl
theorem wt_157 : Cond.code yX11_about prog_1_method_8_code 4 (some FieldType.int) ∈ gL := gm_2 (List.mem_of_getElem? (i := 5) (by decide +kernel)) rfl
theorem wt_158 : Cond.methodLink "TwoOnACable" 144 yX6_at ∈ gL := gm_2 (List.mem_of_getElem? (i := 6) (by decide +kernel)) rfl
theorem wt_159 : Cond.methodLink "TwoOnACable" 148 yX9_kind ∈ gL := gm_2 (List.mem_of_getElem? (i := 7) (by decide +kernel)) rfl
theorem wt_160 : Cond.instanceMethod yX9_kind ∈ gL := gm_2 (List.mem_of_getElem? (i := 8) (by decide +kernel)) rfl
theorem wt_161 : Cond.selects "TwoOnACable$Thing" yX9_kind yX9_kind ∈ gL := gm_2 (List.mem_of_getElem? (i := 9) (by decide +kernel)) rfl
theorem wt_162 : Cond.sameMethod "TwoOnACable$Thing" "TwoOnACable$Thing" "kind" "()I" ∈ gL := gm_2 (List.mem_of_getElem? (i := 10) (by decide +kernel)) rfl
theorem wt_163 : Cond.selects "TwoOnACable$Cook" yX9_kind yX1_kind ∈ gL := gm_2 (List.mem_of_getElem? (i := 11) (by decide +kernel)) rfl
theorem wt_164 : Cond.instanceMethod yX1_kind ∈ gL := gm_2 (List.mem_of_getElem? (i := 12) (by decide +kernel)) rfl
theorem wt_165 : Cond.code yX1_kind prog_3_method_2_code 1 (some FieldType.int) ∈ gL := gm_2 (List.mem_of_getElem? (i := 13) (by decide +kernel)) rfl
theorem wt_166 : Cond.selects "TwoOnACable$Guest" yX9_kind yX3_kind ∈ gL := gm_2 (List.mem_of_getElem? (i := 14) (by decide +kernel)) rfl
theorem wt_167 : Cond.instanceMethod yX3_kind ∈ gL := gm_2 (List.mem_of_getElem? (i := 15) (by decide +kernel)) rfl
theorem wt_168 : Cond.code yX3_kind prog_5_method_2_code 1 (some FieldType.int) ∈ gL := gm_2 (List.mem_of_getElem? (i := 16) (by decide +kernel)) rfl
theorem wt_169 : Cond.selects "TwoOnACable$Hens" yX9_kind yX4_kind ∈ gL := gm_2 (List.mem_of_getElem? (i := 17) (by decide +kernel)) rfl
theorem wt_170 : Cond.instanceMethod yX4_kind ∈ gL := gm_2 (List.mem_of_getElem? (i := 18) (by decide +kernel)) rfl
theorem wt_171 : Cond.code yX4_kind prog_6_method_2_code 1 (some FieldType.int) ∈ gL := gm_2 (List.mem_of_getElem? (i := 19) (by decide +kernel)) rfl
theorem wt_172 : Cond.selects "TwoOnACable$Live" yX9_kind yX5_kind ∈ gL := gm_2 (List.mem_of_getElem? (i := 20) (by decide +kernel)) rfl
theorem wt_173 : Cond.instanceMethod yX5_kind ∈ gL := gm_2 (List.mem_of_getElem? (i := 21) (by decide +kernel)) rfl
theorem wt_174 : Cond.code yX5_kind prog_7_method_2_code 1 (some FieldType.int) ∈ gL := gm_2 (List.mem_of_getElem? (i := 22) (by decide +kernel)) rfl
theorem wt_175 : Cond.code yX9_kind prog_11_method_2_code 1 (some FieldType.int) ∈ gL := gm_2 (List.mem_of_getElem? (i := 23) (by decide +kernel)) rfl
theorem wt_176 : Cond.methodLink "TwoOnACable" 159 yX9_weighs ∈ gL := gm_2 (List.mem_of_getElem? (i := 24) (by decide +kernel)) rfl
theorem wt_177 : Cond.methodLink "TwoOnACable" 162 yX9_hoursHere ∈ gL := gm_2 (List.mem_of_getElem? (i := 25) (by decide +kernel)) rfl
theorem wt_178 : Cond.instanceMethod yX9_hoursHere ∈ gL := gm_2 (List.mem_of_getElem? (i := 26) (by decide +kernel)) rfl
theorem wt_179 : Cond.selects "TwoOnACable$Thing" yX9_hoursHere yX9_hoursHere ∈ gL := gm_2 (List.mem_of_getElem? (i := 27) (by decide +kernel)) rfl
theorem wt_180 : Cond.sameMethod "TwoOnACable$Thing" "TwoOnACable$Thing" "hoursHere" "(I)I" ∈ gL := gm_2 (List.mem_of_getElem? (i := 28) (by decide +kernel)) rfl
theorem wt_181 : Cond.selects "TwoOnACable$Cook" yX9_hoursHere yX9_hoursHere ∈ gL := gm_2 (List.mem_of_getElem? (i := 29) (by decide +kernel)) rfl
theorem wt_182 : Cond.selects "TwoOnACable$Guest" yX9_hoursHere yX9_hoursHere ∈ gL := gm_2 (List.mem_of_getElem? (i := 30) (by decide +kernel)) rfl
theorem wt_183 : Cond.selects "TwoOnACable$Hens" yX9_hoursHere yX9_hoursHere ∈ gL := gm_2 (List.mem_of_getElem? (i := 31) (by decide +kernel)) rfl
theorem wt_184 : Cond.selects "TwoOnACable$Live" yX9_hoursHere yX9_hoursHere ∈ gL := gm_2 (List.mem_of_getElem? (i := 32) (by decide +kernel)) rfl
theorem wt_185 : Cond.code yX9_hoursHere prog_11_method_5_code 2 (some FieldType.int) ∈ gL := gm_2 (List.mem_of_getElem? (i := 33) (by decide +kernel)) rfl
theorem wt_186 : Cond.methodLink "TwoOnACableLaw" 85 yX11_as ∈ gL := gm_2 (List.mem_of_getElem? (i := 34) (by decide +kernel)) rfl
theorem wt_187 : Cond.instanceMethod yX11_as ∈ gL := gm_2 (List.mem_of_getElem? (i := 35) (by decide +kernel)) rfl
theorem wt_188 : Cond.selects "TwoOnACable" yX11_as yX11_as ∈ gL := gm_2 (List.mem_of_getElem? (i := 36) (by decide +kernel)) rfl
theorem wt_189 : Cond.code yX11_as prog_1_method_9_code 4 (some FieldType.int) ∈ gL := gm_2 (List.mem_of_getElem? (i := 37) (by decide +kernel)) rfl
theorem wt_190 : Cond.methodLink "TwoOnACable" 131 yX11_isKind ∈ gL := gm_2 (List.mem_of_getElem? (i := 38) (by decide +kernel)) rfl
theorem wt_191 : Cond.static yX11_isKind ∈ gL := gm_2 (List.mem_of_getElem? (i := 39) (by decide +kernel)) rfl
theorem wt_192 : Cond.code yX11_isKind prog_1_method_33_code 1 (some FieldType.boolean) ∈ gL := gm_2 (List.mem_of_getElem? (i := 40) (by decide +kernel)) rfl
theorem wt_193 : Cond.methodLink "TwoOnACable" 165 yX11_isOfKind ∈ gL := gm_2 (List.mem_of_getElem? (i := 41) (by decide +kernel)) rfl
theorem wt_194 : Cond.static yX11_isOfKind ∈ gL := gm_2 (List.mem_of_getElem? (i := 42) (by decide +kernel)) rfl
theorem wt_195 : Cond.code yX11_isOfKind prog_1_method_40_code 2 (some FieldType.boolean) ∈ gL := gm_2 (List.mem_of_getElem? (i := 43) (by decide +kernel)) rfl
theorem wt_196 : Cond.classLink "TwoOnACable" 325 "TwoOnACable$Cook" ∈ gL := gm_2 (List.mem_of_getElem? (i := 44) (by decide +kernel)) rfl
theorem wt_197 : Cond.classLink "TwoOnACable" 330 "TwoOnACable$Guest" ∈ gL := gm_2 (List.mem_of_getElem? (i := 45) (by decide +kernel)) rfl
theorem wt_198 : Cond.classLink "TwoOnACable" 333 "TwoOnACable$Live" ∈ gL := gm_2 (List.mem_of_getElem? (i := 46) (by decide +kernel)) rfl
theorem wt_199 : Cond.classLink "TwoOnACable" 336 "TwoOnACable$Hens" ∈ gL := gm_2 (List.mem_of_getElem? (i := 47) (by decide +kernel)) rfl
theorem wt_200 : Cond.methodLink "TwoOnACableLaw" 78 yX11_carry ∈ gL := gm_2 (List.mem_of_getElem? (i := 48) (by decide +kernel)) rfl
theorem wt_201 : Cond.instanceMethod yX11_carry ∈ gL := gm_2 (List.mem_of_getElem? (i := 49) (by decide +kernel)) rfl
theorem wt_202 : Cond.selects "TwoOnACable" yX11_carry yX11_carry ∈ gL := gm_2 (List.mem_of_getElem? (i := 50) (by decide +kernel)) rfl
theorem wt_203 : Cond.code yX11_carry prog_1_method_10_code 3 (some FieldType.int) ∈ gL := gm_2 (List.mem_of_getElem? (i := 51) (by decide +kernel)) rfl
theorem wt_204 : Cond.methodLink "TwoOnACable" 169 yX0_isWhole ∈ gL := gm_2 (List.mem_of_getElem? (i := 52) (by decide +kernel)) rfl
theorem wt_205 : Cond.instanceMethod yX0_isWhole ∈ gL := gm_2 (List.mem_of_getElem? (i := 53) (by decide +kernel)) rfl
theorem wt_206 : Cond.selects "TwoOnACable$Cable" yX0_isWhole yX0_isWhole ∈ gL := gm_2 (List.mem_of_getElem? (i := 54) (by decide +kernel)) rfl
theorem wt_207 : Cond.code yX0_isWhole prog_2_method_5_code 1 (some FieldType.boolean) ∈ gL := gm_2 (List.mem_of_getElem? (i := 55) (by decide +kernel)) rfl
theorem wt_208 : Cond.methodLink "TwoOnACable" 172 yX0_turnsNow ∈ gL := gm_2 (List.mem_of_getElem? (i := 56) (by decide +kernel)) rfl
theorem wt_209 : Cond.instanceMethod yX0_turnsNow ∈ gL := gm_2 (List.mem_of_getElem? (i := 57) (by decide +kernel)) rfl
theorem wt_210 : Cond.selects "TwoOnACable$Cable" yX0_turnsNow yX0_turnsNow ∈ gL := gm_2 (List.mem_of_getElem? (i := 58) (by decide +kernel)) rfl
theorem wt_211 : Cond.code yX0_turnsNow prog_2_method_7_code 1 (some FieldType.int) ∈ gL := gm_2 (List.mem_of_getElem? (i := 59) (by decide +kernel)) rfl
theorem wt_212 : Cond.methodLink "TwoOnACable" 175 yX9_goesAcross ∈ gL := gm_2 (List.mem_of_getElem? (i := 60) (by decide +kernel)) rfl
theorem wt_213 : Cond.instanceMethod yX9_goesAcross ∈ gL := gm_2 (List.mem_of_getElem? (i := 61) (by decide +kernel)) rfl
theorem wt_214 : Cond.selects "TwoOnACable$Thing" yX9_goesAcross yX9_goesAcross ∈ gL := gm_2 (List.mem_of_getElem? (i := 62) (by decide +kernel)) rfl
theorem wt_215 : Cond.sameMethod "TwoOnACable$Thing" "TwoOnACable$Thing" "goesAcross" "(I)Z" ∈ gL := gm_2 (List.mem_of_getElem? (i := 63) (by decide +kernel)) rfl
theorem wt_216 : Cond.selects "TwoOnACable$Cook" yX9_goesAcross yX9_goesAcross ∈ gL := gm_2 (List.mem_of_getElem? (i := 64) (by decide +kernel)) rfl
theorem wt_217 : Cond.selects "TwoOnACable$Guest" yX9_goesAcross yX3_goesAcross ∈ gL := gm_2 (List.mem_of_getElem? (i := 65) (by decide +kernel)) rfl
theorem wt_218 : Cond.instanceMethod yX3_goesAcross ∈ gL := gm_2 (List.mem_of_getElem? (i := 66) (by decide +kernel)) rfl
theorem wt_219 : Cond.code yX3_goesAcross prog_5_method_3_code 2 (some FieldType.boolean) ∈ gL := gm_2 (List.mem_of_getElem? (i := 67) (by decide +kernel)) rfl
theorem wt_220 : Cond.selects "TwoOnACable$Hens" yX9_goesAcross yX9_goesAcross ∈ gL := gm_2 (List.mem_of_getElem? (i := 68) (by decide +kernel)) rfl
theorem wt_221 : Cond.selects "TwoOnACable$Live" yX9_goesAcross yX9_goesAcross ∈ gL := gm_2 (List.mem_of_getElem? (i := 69) (by decide +kernel)) rfl
theorem wt_222 : Cond.code yX9_goesAcross prog_11_method_4_code 2 (some FieldType.boolean) ∈ gL := gm_2 (List.mem_of_getElem? (i := 70) (by decide +kernel)) rfl
theorem wt_223 : Cond.methodLink "TwoOnACableLaw" 73 yX11_hour ∈ gL := gm_2 (List.mem_of_getElem? (i := 71) (by decide +kernel)) rfl
theorem wt_224 : Cond.instanceMethod yX11_hour ∈ gL := gm_2 (List.mem_of_getElem? (i := 72) (by decide +kernel)) rfl
theorem wt_225 : Cond.selects "TwoOnACable" yX11_hour yX11_hour ∈ gL := gm_2 (List.mem_of_getElem? (i := 73) (by decide +kernel)) rfl
theorem wt_226 : Cond.code yX11_hour prog_1_method_11_code 2 (some FieldType.int) ∈ gL := gm_2 (List.mem_of_getElem? (i := 74) (by decide +kernel)) rfl
theorem wt_227 : Cond.methodLink "TwoOnACable" 181 yX11_isLength ∈ gL := gm_2 (List.mem_of_getElem? (i := 75) (by decide +kernel)) rfl
theorem wt_228 : Cond.static yX11_isLength ∈ gL := gm_2 (List.mem_of_getElem? (i := 76) (by decide +kernel)) rfl
theorem wt_229 : Cond.code yX11_isLength prog_1_method_34_code 1 (some FieldType.boolean) ∈ gL := gm_2 (List.mem_of_getElem? (i := 77) (by decide +kernel)) rfl
theorem wt_230 : Cond.methodLink "TwoOnACable" 184 yX0_goHour ∈ gL := gm_2 (List.mem_of_getElem? (i := 78) (by decide +kernel)) rfl
theorem wt_231 : Cond.instanceMethod yX0_goHour ∈ gL := gm_2 (List.mem_of_getElem? (i := 79) (by decide +kernel)) rfl
theorem wt_232 : Cond.selects "TwoOnACable$Cable" yX0_goHour yX0_goHour ∈ gL := gm_2 (List.mem_of_getElem? (i := 80) (by decide +kernel)) rfl
theorem wt_233 : Cond.code yX0_goHour prog_2_method_15_code 3 (none : Option FieldType) ∈ gL := gm_2 (List.mem_of_getElem? (i := 81) (by decide +kernel)) rfl
theorem wt_234 : Cond.methodLink "TwoOnACable$Cable" 71 yX0_placeAfter ∈ gL := gm_2 (List.mem_of_getElem? (i := 82) (by decide +kernel)) rfl
theorem wt_235 : Cond.instanceMethod yX0_placeAfter ∈ gL := gm_2 (List.mem_of_getElem? (i := 83) (by decide +kernel)) rfl
theorem wt_236 : Cond.selects "TwoOnACable$Cable" yX0_placeAfter yX0_placeAfter ∈ gL := gm_2 (List.mem_of_getElem? (i := 84) (by decide +kernel)) rfl
theorem wt_237 : Cond.code yX0_placeAfter prog_2_method_14_code 2 (some FieldType.int) ∈ gL := gm_2 (List.mem_of_getElem? (i := 85) (by decide +kernel)) rfl
theorem wt_238 : Cond.methodLink "TwoOnACable$Cable" 62 yX0_turnsNow ∈ gL := gm_2 (List.mem_of_getElem? (i := 86) (by decide +kernel)) rfl
theorem wt_239 : Cond.methodLink "TwoOnACable$Cable" 66 yJ9_floorMod_7cf53 ∈ gL := gm_2 (List.mem_of_getElem? (i := 87) (by decide +kernel)) rfl
theorem wt_240 : Cond.static yJ9_floorMod_7cf53 ∈ gL := gm_2 (List.mem_of_getElem? (i := 88) (by decide +kernel)) rfl
theorem wt_241 : Cond.code yJ9_floorMod_7cf53 prog_15_method_50_code 3 (some FieldType.int) ∈ gL := gm_2 (List.mem_of_getElem? (i := 89) (by decide +kernel)) rfl
theorem wt_242 : Cond.methodLink "TwoOnACable$Cable" 74 yX0_strainNow ∈ gL := gm_2 (List.mem_of_getElem? (i := 90) (by decide +kernel)) rfl
theorem wt_243 : Cond.instanceMethod yX0_strainNow ∈ gL := gm_2 (List.mem_of_getElem? (i := 91) (by decide +kernel)) rfl
theorem wt_244 : Cond.selects "TwoOnACable$Cable" yX0_strainNow yX0_strainNow ∈ gL := gm_2 (List.mem_of_getElem? (i := 92) (by decide +kernel)) rfl
theorem wt_245 : Cond.code yX0_strainNow prog_2_method_13_code 3 (some FieldType.int) ∈ gL := gm_2 (List.mem_of_getElem? (i := 93) (by decide +kernel)) rfl
theorem wt_246 : Cond.methodLink "TwoOnACable$Cable" 59 yX0_strainBy ∈ gL := gm_2 (List.mem_of_getElem? (i := 94) (by decide +kernel)) rfl
theorem wt_247 : Cond.instanceMethod yX0_strainBy ∈ gL := gm_2 (List.mem_of_getElem? (i := 95) (by decide +kernel)) rfl
theorem wt_248 : Cond.selects "TwoOnACable$Cable" yX0_strainBy yX0_strainBy ∈ gL := gm_2 (List.mem_of_getElem? (i := 96) (by decide +kernel)) rfl
theorem wt_249 : Cond.code yX0_strainBy prog_2_method_10_code 3 (some FieldType.int) ∈ gL := gm_2 (List.mem_of_getElem? (i := 97) (by decide +kernel)) rfl
theorem wt_250 : Cond.methodLink "TwoOnACableLaw" 88 yX11_caught ∈ gL := gm_2 (List.mem_of_getElem? (i := 98) (by decide +kernel)) rfl
theorem wt_251 : Cond.instanceMethod yX11_caught ∈ gL := gm_2 (List.mem_of_getElem? (i := 99) (by decide +kernel)) rfl
theorem wt_252 : Cond.selects "TwoOnACable" yX11_caught yX11_caught ∈ gL := gm_2 (List.mem_of_getElem? (i := 100) (by decide +kernel)) rfl
theorem wt_253 : Cond.code yX11_caught prog_1_method_14_code 5 (some FieldType.int) ∈ gL := gm_2 (List.mem_of_getElem? (i := 101) (by decide +kernel)) rfl
theorem wt_254 : Cond.methodLink "TwoOnACable" 208 yJ9_floorMod_7cf53 ∈ gL := gm_2 (List.mem_of_getElem? (i := 102) (by decide +kernel)) rfl
theorem wt_255 : Cond.methodLink "TwoOnACable" 213 yX0_placeAfter ∈ gL := gm_2 (List.mem_of_getElem? (i := 103) (by decide +kernel)) rfl
theorem wt_256 : Cond.methodLink "TwoOnACable" 216 yX11_apartOnCircle ∈ gL := gm_2 (List.mem_of_getElem? (i := 104) (by decide +kernel)) rfl
theorem wt_257 : Cond.static yX11_apartOnCircle ∈ gL := gm_2 (List.mem_of_getElem? (i := 105) (by decide +kernel)) rfl
theorem wt_258 : Cond.code yX11_apartOnCircle prog_1_method_35_code 3 (some FieldType.int) ∈ gL := gm_2 (List.mem_of_getElem? (i := 106) (by decide +kernel)) rfl
theorem wt_259 : Cond.methodLink "TwoOnACable" 322 yJ9_min_7cf53 ∈ gL := gm_2 (List.mem_of_getElem? (i := 107) (by decide +kernel)) rfl
theorem wt_260 : Cond.static yJ9_min_7cf53 ∈ gL := gm_2 (List.mem_of_getElem? (i := 108) (by decide +kernel)) rfl
theorem wt_261 : Cond.code yJ9_min_7cf53 prog_15_method_69_code 2 (some FieldType.int) ∈ gL := gm_2 (List.mem_of_getElem? (i := 109) (by decide +kernel)) rfl
theorem wt_262 : Cond.methodLink "TwoOnACableLaw" 101 yX11_whirls ∈ gL := gm_2 (List.mem_of_getElem? (i := 110) (by decide +kernel)) rfl
theorem wt_263 : Cond.instanceMethod yX11_whirls ∈ gL := gm_2 (List.mem_of_getElem? (i := 111) (by decide +kernel)) rfl
theorem wt_264 : Cond.selects "TwoOnACable" yX11_whirls yX11_whirls ∈ gL := gm_2 (List.mem_of_getElem? (i := 112) (by decide +kernel)) rfl
theorem wt_265 : Cond.code yX11_whirls prog_1_method_19_code 5 (some FieldType.int) ∈ gL := gm_2 (List.mem_of_getElem? (i := 113) (by decide +kernel)) rfl
theorem wt_266 : Cond.methodLink "TwoOnACable" 246 yX11_tryHours ∈ gL := gm_2 (List.mem_of_getElem? (i := 114) (by decide +kernel)) rfl
theorem wt_267 : Cond.instanceMethod yX11_tryHours ∈ gL := gm_2 (List.mem_of_getElem? (i := 116) (by decide +kernel)) rfl
theorem wt_268 : Cond.code yX11_tryHours prog_1_method_27_code 6 (some FieldType.int) ∈ gL := gm_2 (List.mem_of_getElem? (i := 117) (by decide +kernel)) rfl
theorem wt_269 : Cond.methodLink "TwoOnACable" 250 yX0_becomeLike ∈ gL := gm_2 (List.mem_of_getElem? (i := 118) (by decide +kernel)) rfl
theorem wt_270 : Cond.instanceMethod yX0_becomeLike ∈ gL := gm_2 (List.mem_of_getElem? (i := 119) (by decide +kernel)) rfl
theorem wt_271 : Cond.selects "TwoOnACable$Cable" yX0_becomeLike yX0_becomeLike ∈ gL := gm_2 (List.mem_of_getElem? (i := 120) (by decide +kernel)) rfl
theorem wt_272 : Cond.code yX0_becomeLike prog_2_method_3_code 2 (none : Option FieldType) ∈ gL := gm_2 (List.mem_of_getElem? (i := 121) (by decide +kernel)) rfl
theorem wt_273 : Cond.methodLink "TwoOnACable" 307 yX11_nextSeed ∈ gL := gm_2 (List.mem_of_getElem? (i := 122) (by decide +kernel)) rfl
theorem wt_274 : Cond.static yX11_nextSeed ∈ gL := gm_2 (List.mem_of_getElem? (i := 123) (by decide +kernel)) rfl
theorem wt_275 : Cond.code yX11_nextSeed prog_1_method_28_code 1 (some FieldType.int) ∈ gL := gm_2 (List.mem_of_getElem? (i := 124) (by decide +kernel)) rfl
theorem wt_276 : Cond.constantLong "TwoOnACable" 314 (1103515245 : Int64) ∈ gL := gm_2 (List.mem_of_getElem? (i := 125) (by decide +kernel)) rfl
theorem wt_277 : Cond.constantLong "TwoOnACable" 316 (12345 : Int64) ∈ gL := gm_2 (List.mem_of_getElem? (i := 126) (by decide +kernel)) rfl
theorem wt_278 : Cond.constantLong "TwoOnACable" 318 (2147483648 : Int64) ∈ gL := gm_2 (List.mem_of_getElem? (i := 127) (by decide +kernel)) rfl
theorem wt_279 : Cond.constant "TwoOnACable" 310 (65536 : Int32) ∈ gL := gm_2 (List.mem_of_getElem? (i := 128) (by decide +kernel)) rfl
theorem wt_280 : Cond.methodLink "TwoOnACable" 311 yX11_windingOf ∈ gL := gm_2 (List.mem_of_getElem? (i := 129) (by decide +kernel)) rfl
theorem wt_281 : Cond.static yX11_windingOf ∈ gL := gm_2 (List.mem_of_getElem? (i := 130) (by decide +kernel)) rfl
theorem wt_282 : Cond.code yX11_windingOf prog_1_method_36_code 1 (some FieldType.int) ∈ gL := gm_2 (List.mem_of_getElem? (i := 131) (by decide +kernel)) rfl
theorem wt_283 : Cond.methodLink "TwoOnACableLaw" 65 yL_cell ∈ gL := gm_2 (List.mem_of_getElem? (i := 132) (by decide +kernel)) rfl
theorem wt_284 : Cond.static yL_cell ∈ gL := gm_2 (List.mem_of_getElem? (i := 133) (by decide +kernel)) rfl
theorem wt_285 : Cond.code yL_cell method_2_code 2 (some FieldType.int) ∈ gL := gm_2 (List.mem_of_getElem? (i := 134) (by decide +kernel)) rfl
theorem wt_286 : Cond.constant "TwoOnACableLaw" 7 (2147483647 : Int32) ∈ gL := gm_2 (List.mem_of_getElem? (i := 135) (by decide +kernel)) rfl
theorem wt_287 : Cond.methodLink "TwoOnACableLaw" 68 yL_wire ∈ gL := gm_2 (List.mem_of_getElem? (i := 136) (by decide +kernel)) rfl
theorem wt_288 : Cond.static yL_wire ∈ gL := gm_2 (List.mem_of_getElem? (i := 137) (by decide +kernel)) rfl
theorem wt_289 : Cond.code yL_wire method_4_code 7 (some FieldType.boolean) ∈ gL := gm_2 (List.mem_of_getElem? (i := 138) (by decide +kernel)) rfl
theorem wt_290 : Cond.constant "TwoOnACableLaw" 14 (524288 : Int32) ∈ gL := gm_2 (List.mem_of_getElem? (i := 139) (by decide +kernel)) rfl
theorem wt_291 : Cond.methodLink "TwoOnACableLaw" 15 yL_put ∈ gL := gm_2 (List.mem_of_getElem? (i := 140) (by decide +kernel)) rfl
theorem wt_292 : Cond.static yL_put ∈ gL := gm_2 (List.mem_of_getElem? (i := 141) (by decide +kernel)) rfl
theorem wt_293 : Cond.code yL_put method_3_code 2 (some FieldType.boolean) ∈ gL := gm_2 (List.mem_of_getElem? (i := 142) (by decide +kernel)) rfl
theorem wt_294 : Cond.methodLink "TwoOnACableLaw" 8 yX11_letters ∈ gL := gm_2 (List.mem_of_getElem? (i := 143) (by decide +kernel)) rfl
theorem wt_295 : Cond.instanceMethod yX11_letters ∈ gL := gm_2 (List.mem_of_getElem? (i := 144) (by decide +kernel)) rfl
theorem wt_296 : Cond.selects "TwoOnACable" yX11_letters yX11_letters ∈ gL := gm_2 (List.mem_of_getElem? (i := 145) (by decide +kernel)) rfl
theorem wt_297 : Cond.code yX11_letters prog_1_method_2_code 5 (some FieldType.int) ∈ gL := gm_2 (List.mem_of_getElem? (i := 146) (by decide +kernel)) rfl
theorem wt_298 : Cond.methodLink "TwoOnACable" 57 yX11_lettersIn ∈ gL := gm_2 (List.mem_of_getElem? (i := 147) (by decide +kernel)) rfl
theorem wt_299 : Cond.static yX11_lettersIn ∈ gL := gm_2 (List.mem_of_getElem? (i := 148) (by decide +kernel)) rfl
theorem wt_300 : Cond.code yX11_lettersIn prog_1_method_31_code 6 (some FieldType.int) ∈ gL := gm_2 (List.mem_of_getElem? (i := 149) (by decide +kernel)) rfl
theorem wt_301 : Cond.methodLink "TwoOnACable" 65 yX11_byteOf ∈ gL := gm_2 (List.mem_of_getElem? (i := 150) (by decide +kernel)) rfl
theorem wt_302 : Cond.static yX11_byteOf ∈ gL := gm_2 (List.mem_of_getElem? (i := 151) (by decide +kernel)) rfl
theorem wt_303 : Cond.code yX11_byteOf prog_1_method_30_code 3 (some FieldType.int) ∈ gL := gm_2 (List.mem_of_getElem? (i := 152) (by decide +kernel)) rfl
theorem wt_304 : Cond.methodLink "TwoOnACable" 61 yX7_hasRoomFor ∈ gL := gm_2 (List.mem_of_getElem? (i := 153) (by decide +kernel)) rfl
theorem wt_305 : Cond.instanceMethod yX7_hasRoomFor ∈ gL := gm_2 (List.mem_of_getElem? (i := 154) (by decide +kernel)) rfl
theorem wt_306 : Cond.selects "TwoOnACable$Page" yX7_hasRoomFor yX7_hasRoomFor ∈ gL := gm_2 (List.mem_of_getElem? (i := 155) (by decide +kernel)) rfl
theorem wt_307 : Cond.code yX7_hasRoomFor prog_9_method_2_code 2 (some FieldType.boolean) ∈ gL := gm_2 (List.mem_of_getElem? (i := 156) (by decide +kernel)) rfl
theorem wt_308 : Cond.methodLink "TwoOnACable" 69 yX7_put ∈ gL := gm_2 (List.mem_of_getElem? (i := 157) (by decide +kernel)) rfl
theorem wt_309 : Cond.instanceMethod yX7_put ∈ gL := gm_2 (List.mem_of_getElem? (i := 158) (by decide +kernel)) rfl
theorem wt_310 : Cond.selects "TwoOnACable$Page" yX7_put yX7_put ∈ gL := gm_2 (List.mem_of_getElem? (i := 159) (by decide +kernel)) rfl
theorem wt_311 : Cond.code yX7_put prog_9_method_3_code 2 (none : Option FieldType) ∈ gL := gm_2 (List.mem_of_getElem? (i := 160) (by decide +kernel)) rfl
theorem wt_312 : Cond.methodLink "TwoOnACableLaw" 21 yX11_fault ∈ gL := gm_2 (List.mem_of_getElem? (i := 161) (by decide +kernel)) rfl
theorem wt_313 : Cond.instanceMethod yX11_fault ∈ gL := gm_2 (List.mem_of_getElem? (i := 162) (by decide +kernel)) rfl
theorem wt_314 : Cond.selects "TwoOnACable" yX11_fault yX11_fault ∈ gL := gm_2 (List.mem_of_getElem? (i := 163) (by decide +kernel)) rfl
theorem wt_315 : Cond.code yX11_fault prog_1_method_4_code 1 (some FieldType.int) ∈ gL := gm_2 (List.mem_of_getElem? (i := 164) (by decide +kernel)) rfl
theorem wt_316 : Cond.methodLink "TwoOnACable" 81 yX7_firstWrong ∈ gL := gm_2 (List.mem_of_getElem? (i := 165) (by decide +kernel)) rfl
theorem wt_317 : Cond.instanceMethod yX7_firstWrong ∈ gL := gm_2 (List.mem_of_getElem? (i := 166) (by decide +kernel)) rfl
theorem wt_318 : Cond.selects "TwoOnACable$Page" yX7_firstWrong yX7_firstWrong ∈ gL := gm_2 (List.mem_of_getElem? (i := 167) (by decide +kernel)) rfl
theorem wt_319 : Cond.code yX7_firstWrong prog_9_method_6_code 2 (some FieldType.int) ∈ gL := gm_2 (List.mem_of_getElem? (i := 168) (by decide +kernel)) rfl
theorem wt_320 : Cond.methodLink "TwoOnACable$Page" 19 yX7_isWireLetter ∈ gL := gm_2 (List.mem_of_getElem? (i := 169) (by decide +kernel)) rfl
theorem wt_321 : Cond.instanceMethod yX7_isWireLetter ∈ gL := gm_2 (List.mem_of_getElem? (i := 171) (by decide +kernel)) rfl
theorem wt_322 : Cond.code yX7_isWireLetter prog_9_method_9_code 2 (some FieldType.boolean) ∈ gL := gm_2 (List.mem_of_getElem? (i := 172) (by decide +kernel)) rfl
theorem wt_323 : Cond.methodLink "TwoOnACable$Page" 31 yX7_isBetween ∈ gL := gm_2 (List.mem_of_getElem? (i := 173) (by decide +kernel)) rfl
theorem wt_324 : Cond.instanceMethod yX7_isBetween ∈ gL := gm_2 (List.mem_of_getElem? (i := 175) (by decide +kernel)) rfl
theorem wt_325 : Cond.code yX7_isBetween prog_9_method_10_code 4 (some FieldType.boolean) ∈ gL := gm_2 (List.mem_of_getElem? (i := 176) (by decide +kernel)) rfl
theorem wt_326 : Cond.methodLink "TwoOnACable$Page" 27 yX7_at ∈ gL := gm_2 (List.mem_of_getElem? (i := 177) (by decide +kernel)) rfl
theorem wt_327 : Cond.instanceMethod yX7_at ∈ gL := gm_2 (List.mem_of_getElem? (i := 178) (by decide +kernel)) rfl
theorem wt_328 : Cond.selects "TwoOnACable$Page" yX7_at yX7_at ∈ gL := gm_2 (List.mem_of_getElem? (i := 179) (by decide +kernel)) rfl
theorem wt_329 : Cond.code yX7_at prog_9_method_4_code 2 (some FieldType.int) ∈ gL := gm_2 (List.mem_of_getElem? (i := 180) (by decide +kernel)) rfl
theorem wt_330 : Cond.methodLink "TwoOnACableLaw" 25 yX11_wire ∈ gL := gm_2 (List.mem_of_getElem? (i := 181) (by decide +kernel)) rfl
theorem wt_331 : Cond.instanceMethod yX11_wire ∈ gL := gm_2 (List.mem_of_getElem? (i := 182) (by decide +kernel)) rfl
theorem wt_332 : Cond.selects "TwoOnACable" yX11_wire yX11_wire ∈ gL := gm_2 (List.mem_of_getElem? (i := 183) (by decide +kernel)) rfl
theorem wt_333 : Cond.code yX11_wire prog_1_method_5_code 1 (some FieldType.int) ∈ gL := gm_2 (List.mem_of_getElem? (i := 184) (by decide +kernel)) rfl
theorem wt_334 : Cond.methodLink "TwoOnACable" 84 yX7_isWire ∈ gL := gm_2 (List.mem_of_getElem? (i := 185) (by decide +kernel)) rfl
theorem wt_335 : Cond.instanceMethod yX7_isWire ∈ gL := gm_2 (List.mem_of_getElem? (i := 186) (by decide +kernel)) rfl
theorem wt_336 : Cond.selects "TwoOnACable$Page" yX7_isWire yX7_isWire ∈ gL := gm_2 (List.mem_of_getElem? (i := 187) (by decide +kernel)) rfl
theorem wt_337 : Cond.code yX7_isWire prog_9_method_7_code 1 (some FieldType.boolean) ∈ gL := gm_2 (List.mem_of_getElem? (i := 188) (by decide +kernel)) rfl
theorem wt_338 : Cond.methodLink "TwoOnACable$Page" 23 yX7_firstWrong ∈ gL := gm_2 (List.mem_of_getElem? (i := 189) (by decide +kernel)) rfl
theorem wt_339 : Cond.methodLink "TwoOnACable" 88 yX0_hang ∈ gL := gm_2 (List.mem_of_getElem? (i := 190) (by decide +kernel)) rfl
theorem wt_340 : Cond.instanceMethod yX0_hang ∈ gL := gm_2 (List.mem_of_getElem? (i := 191) (by decide +kernel)) rfl
theorem wt_341 : Cond.selects "TwoOnACable$Cable" yX0_hang yX0_hang ∈ gL := gm_2 (List.mem_of_getElem? (i := 192) (by decide +kernel)) rfl
theorem wt_342 : Cond.code yX0_hang prog_2_method_2_code 2 (none : Option FieldType) ∈ gL := gm_2 (List.mem_of_getElem? (i := 193) (by decide +kernel)) rfl
theorem wt_343 : Cond.methodLink "TwoOnACable$Cable" 9 yX7_digitAt ∈ gL := gm_2 (List.mem_of_getElem? (i := 194) (by decide +kernel)) rfl
theorem wt_344 : Cond.instanceMethod yX7_digitAt ∈ gL := gm_2 (List.mem_of_getElem? (i := 195) (by decide +kernel)) rfl
theorem wt_345 : Cond.selects "TwoOnACable$Page" yX7_digitAt yX7_digitAt ∈ gL := gm_2 (List.mem_of_getElem? (i := 196) (by decide +kernel)) rfl
theorem wt_346 : Cond.code yX7_digitAt prog_9_method_8_code 2 (some FieldType.int) ∈ gL := gm_2 (List.mem_of_getElem? (i := 197) (by decide +kernel)) rfl
theorem wt_347 : Cond.methodLink "TwoOnACable" 77 yX7_emptied ∈ gL := gm_2 (List.mem_of_getElem? (i := 198) (by decide +kernel)) rfl
theorem wt_348 : Cond.instanceMethod yX7_emptied ∈ gL := gm_2 (List.mem_of_getElem? (i := 199) (by decide +kernel)) rfl
theorem wt_349 : Cond.selects "TwoOnACable$Page" yX7_emptied yX7_emptied ∈ gL := gm_2 (List.mem_of_getElem? (i := 200) (by decide +kernel)) rfl
theorem wt_350 : Cond.code yX7_emptied prog_9_method_5_code 2 (some FieldType.int) ∈ gL := gm_2 (List.mem_of_getElem? (i := 201) (by decide +kernel)) rfl
theorem wt_351 : Cond.methodLink "TwoOnACable" 92 yX6_cutTo ∈ gL := gm_2 (List.mem_of_getElem? (i := 202) (by decide +kernel)) rfl
theorem wt_352 : Cond.instanceMethod yX6_cutTo ∈ gL := gm_2 (List.mem_of_getElem? (i := 203) (by decide +kernel)) rfl
theorem wt_353 : Cond.selects "TwoOnACable$Load" yX6_cutTo yX6_cutTo ∈ gL := gm_2 (List.mem_of_getElem? (i := 204) (by decide +kernel)) rfl
theorem wt_354 : Cond.code yX6_cutTo prog_8_method_5_code 3 (none : Option FieldType) ∈ gL := gm_2 (List.mem_of_getElem? (i := 205) (by decide +kernel)) rfl
theorem wt_355 : Cond.methodLink "TwoOnACable$Load" 25 yJ9_min_7cf53 ∈ gL := gm_2 (List.mem_of_getElem? (i := 206) (by decide +kernel)) rfl
theorem wt_356 : Cond.methodLink "TwoOnACable" 96 yX10_emptied ∈ gL := gm_2 (List.mem_of_getElem? (i := 207) (by decide +kernel)) rfl
theorem wt_357 : Cond.instanceMethod yX10_emptied ∈ gL := gm_2 (List.mem_of_getElem? (i := 208) (by decide +kernel)) rfl
theorem wt_358 : Cond.selects "TwoOnACable$Told" yX10_emptied yX10_emptied ∈ gL := gm_2 (List.mem_of_getElem? (i := 209) (by decide +kernel)) rfl
theorem wt_359 : Cond.code yX10_emptied prog_12_method_4_code 2 (some FieldType.int) ∈ gL := gm_2 (List.mem_of_getElem? (i := 210) (by decide +kernel)) rfl
theorem wt_360 : Cond.methodLink "TwoOnACableLaw" 71 yL_thing ∈ gL := gm_2 (List.mem_of_getElem? (i := 211) (by decide +kernel)) rfl
theorem wt_361 : Cond.static yL_thing ∈ gL := gm_2 (List.mem_of_getElem? (i := 212) (by decide +kernel)) rfl
theorem wt_362 : Cond.code yL_thing method_5_code 4 (some FieldType.boolean) ∈ gL := gm_2 (List.mem_of_getElem? (i := 213) (by decide +kernel)) rfl
theorem wt_363 : Cond.methodLink "TwoOnACableLaw" 28 yX11_thing ∈ gL := gm_2 (List.mem_of_getElem? (i := 214) (by decide +kernel)) rfl
theorem wt_364 : Cond.instanceMethod yX11_thing ∈ gL := gm_2 (List.mem_of_getElem? (i := 215) (by decide +kernel)) rfl
theorem wt_365 : Cond.selects "TwoOnACable" yX11_thing yX11_thing ∈ gL := gm_2 (List.mem_of_getElem? (i := 216) (by decide +kernel)) rfl
theorem wt_366 : Cond.code yX11_thing prog_1_method_7_code 4 (some FieldType.int) ∈ gL := gm_2 (List.mem_of_getElem? (i := 217) (by decide +kernel)) rfl
theorem wt_367 : Cond.methodLink "TwoOnACable" 134 yX6_isFull ∈ gL := gm_2 (List.mem_of_getElem? (i := 218) (by decide +kernel)) rfl
theorem wt_368 : Cond.instanceMethod yX6_isFull ∈ gL := gm_2 (List.mem_of_getElem? (i := 219) (by decide +kernel)) rfl
theorem wt_369 : Cond.selects "TwoOnACable$Load" yX6_isFull yX6_isFull ∈ gL := gm_2 (List.mem_of_getElem? (i := 220) (by decide +kernel)) rfl
theorem wt_370 : Cond.code yX6_isFull prog_8_method_2_code 1 (some FieldType.boolean) ∈ gL := gm_2 (List.mem_of_getElem? (i := 221) (by decide +kernel)) rfl
theorem wt_371 : Cond.methodLink "TwoOnACable" 137 yX11_newThing ∈ gL := gm_2 (List.mem_of_getElem? (i := 222) (by decide +kernel)) rfl
theorem wt_372 : Cond.static yX11_newThing ∈ gL := gm_2 (List.mem_of_getElem? (i := 223) (by decide +kernel)) rfl
theorem wt_373 : Cond.code yX11_newThing prog_1_method_39_code 4 (some (FieldType.object "TwoOnACable$Thing")) ∈ gL := gm_2 (List.mem_of_getElem? (i := 224) (by decide +kernel)) rfl
theorem wt_374 : Cond.instantiable "TwoOnACable$Cook" 3 ∈ gL := gm_2 (List.mem_of_getElem? (i := 225) (by decide +kernel)) rfl
theorem wt_375 : Cond.methodLink "TwoOnACable" 327 yX1_init ∈ gL := gm_2 (List.mem_of_getElem? (i := 226) (by decide +kernel)) rfl
theorem wt_376 : Cond.instanceMethod yX1_init ∈ gL := gm_2 (List.mem_of_getElem? (i := 227) (by decide +kernel)) rfl
theorem wt_377 : Cond.code yX1_init prog_3_method_1_code 4 (none : Option FieldType) ∈ gL := gm_2 (List.mem_of_getElem? (i := 228) (by decide +kernel)) rfl
theorem wt_378 : Cond.methodLink "TwoOnACable$Cook" 3 yX9_init ∈ gL := gm_2 (List.mem_of_getElem? (i := 229) (by decide +kernel)) rfl
theorem wt_379 : Cond.instanceMethod yX9_init ∈ gL := gm_2 (List.mem_of_getElem? (i := 230) (by decide +kernel)) rfl
theorem wt_380 : Cond.code yX9_init prog_11_method_1_code 4 (none : Option FieldType) ∈ gL := gm_2 (List.mem_of_getElem? (i := 231) (by decide +kernel)) rfl
theorem wt_381 : Cond.methodLink "TwoOnACable$Thing" 3 objectInit ∈ gL := gm_2 (List.mem_of_getElem? (i := 232) (by decide +kernel)) rfl
theorem wt_382 : Cond.fieldLink "TwoOnACable$Thing" 9 "TwoOnACable$Thing" "weight" "I" ∈ gL := gm_2 (List.mem_of_getElem? (i := 233) (by decide +kernel)) rfl
theorem wt_383 : Cond.fieldLink "TwoOnACable$Cook" 9 "TwoOnACable$Cook" "weight" "I" ∈ gL := gm_2 (List.mem_of_getElem? (i := 234) (by decide +kernel)) rfl
theorem wt_384 : Cond.sameField "TwoOnACable$Cook" "TwoOnACable$Thing" "weight" "I" ∈ gL := gm_2 (List.mem_of_getElem? (i := 235) (by decide +kernel)) rfl
theorem wt_385 : Cond.fieldLink "TwoOnACable$Hens" 9 "TwoOnACable$Hens" "weight" "I" ∈ gL := gm_2 (List.mem_of_getElem? (i := 236) (by decide +kernel)) rfl
theorem wt_386 : Cond.sameField "TwoOnACable$Hens" "TwoOnACable$Thing" "weight" "I" ∈ gL := gm_2 (List.mem_of_getElem? (i := 237) (by decide +kernel)) rfl
theorem wt_387 : Cond.fieldLink "TwoOnACable$Live" 9 "TwoOnACable$Live" "weight" "I" ∈ gL := gm_2 (List.mem_of_getElem? (i := 238) (by decide +kernel)) rfl
theorem wt_388 : Cond.sameField "TwoOnACable$Live" "TwoOnACable$Thing" "weight" "I" ∈ gL := gm_2 (List.mem_of_getElem? (i := 239) (by decide +kernel)) rfl
theorem wt_389 : Cond.fieldLink "TwoOnACable" 153 "TwoOnACable$Thing" "weight" "I" ∈ gL := gm_3 (List.mem_of_getElem? (i := 0) (by decide +kernel)) rfl
theorem wt_390 : Cond.fieldLink "TwoOnACable$Thing" 18 "TwoOnACable$Thing" "came" "I" ∈ gL := gm_3 (List.mem_of_getElem? (i := 1) (by decide +kernel)) rfl
theorem wt_391 : Cond.fieldLink "TwoOnACable$Live" 15 "TwoOnACable$Live" "came" "I" ∈ gL := gm_3 (List.mem_of_getElem? (i := 2) (by decide +kernel)) rfl
theorem wt_392 : Cond.sameField "TwoOnACable$Live" "TwoOnACable$Thing" "came" "I" ∈ gL := gm_3 (List.mem_of_getElem? (i := 3) (by decide +kernel)) rfl
theorem wt_393 : Cond.fieldLink "TwoOnACable$Hens" 15 "TwoOnACable$Hens" "came" "I" ∈ gL := gm_3 (List.mem_of_getElem? (i := 4) (by decide +kernel)) rfl
theorem wt_394 : Cond.sameField "TwoOnACable$Hens" "TwoOnACable$Thing" "came" "I" ∈ gL := gm_3 (List.mem_of_getElem? (i := 5) (by decide +kernel)) rfl
theorem wt_395 : Cond.fieldLink "TwoOnACable$Thing" 15 "TwoOnACable$Thing" "place" "I" ∈ gL := gm_3 (List.mem_of_getElem? (i := 6) (by decide +kernel)) rfl
theorem wt_396 : Cond.fieldLink "TwoOnACable$Load" 38 "TwoOnACable$Thing" "place" "I" ∈ gL := gm_3 (List.mem_of_getElem? (i := 7) (by decide +kernel)) rfl
theorem wt_397 : Cond.fieldLink "TwoOnACable" 156 "TwoOnACable$Thing" "place" "I" ∈ gL := gm_3 (List.mem_of_getElem? (i := 8) (by decide +kernel)) rfl
theorem wt_398 : Cond.instantiable "TwoOnACable$Guest" 3 ∈ gL := gm_3 (List.mem_of_getElem? (i := 16) (by decide +kernel)) rfl
theorem wt_399 : Cond.methodLink "TwoOnACable" 332 yX3_init ∈ gL := gm_3 (List.mem_of_getElem? (i := 17) (by decide +kernel)) rfl
theorem wt_400 : Cond.instanceMethod yX3_init ∈ gL := gm_3 (List.mem_of_getElem? (i := 18) (by decide +kernel)) rfl
theorem wt_401 : Cond.code yX3_init prog_5_method_1_code 4 (none : Option FieldType) ∈ gL := gm_3 (List.mem_of_getElem? (i := 19) (by decide +kernel)) rfl
theorem wt_402 : Cond.methodLink "TwoOnACable$Guest" 3 yX9_init ∈ gL := gm_3 (List.mem_of_getElem? (i := 20) (by decide +kernel)) rfl
theorem wt_403 : Cond.instantiable "TwoOnACable$Live" 3 ∈ gL := gm_3 (List.mem_of_getElem? (i := 25) (by decide +kernel)) rfl
theorem wt_404 : Cond.methodLink "TwoOnACable" 335 yX5_init ∈ gL := gm_3 (List.mem_of_getElem? (i := 26) (by decide +kernel)) rfl
theorem wt_405 : Cond.instanceMethod yX5_init ∈ gL := gm_3 (List.mem_of_getElem? (i := 27) (by decide +kernel)) rfl
theorem wt_406 : Cond.code yX5_init prog_7_method_1_code 4 (none : Option FieldType) ∈ gL := gm_3 (List.mem_of_getElem? (i := 28) (by decide +kernel)) rfl
theorem wt_407 : Cond.methodLink "TwoOnACable$Live" 3 yX9_init ∈ gL := gm_3 (List.mem_of_getElem? (i := 29) (by decide +kernel)) rfl
theorem wt_408 : Cond.instantiable "TwoOnACable$Hens" 3 ∈ gL := gm_3 (List.mem_of_getElem? (i := 34) (by decide +kernel)) rfl
theorem wt_409 : Cond.methodLink "TwoOnACable" 338 yX4_init ∈ gL := gm_3 (List.mem_of_getElem? (i := 35) (by decide +kernel)) rfl
theorem wt_410 : Cond.instanceMethod yX4_init ∈ gL := gm_3 (List.mem_of_getElem? (i := 36) (by decide +kernel)) rfl
theorem wt_411 : Cond.code yX4_init prog_6_method_1_code 4 (none : Option FieldType) ∈ gL := gm_3 (List.mem_of_getElem? (i := 37) (by decide +kernel)) rfl
theorem wt_412 : Cond.methodLink "TwoOnACable$Hens" 3 yX5_init ∈ gL := gm_3 (List.mem_of_getElem? (i := 38) (by decide +kernel)) rfl
theorem wt_413 : Cond.classLink "TwoOnACable" 149 "TwoOnACable$Thing" ∈ gL := gm_3 (List.mem_of_getElem? (i := 43) (by decide +kernel)) rfl
theorem wt_414 : Cond.instantiable "TwoOnACable$Thing" 3 ∈ gL := gm_3 (List.mem_of_getElem? (i := 44) (by decide +kernel)) rfl
theorem wt_415 : Cond.methodLink "TwoOnACable" 339 yX9_init ∈ gL := gm_3 (List.mem_of_getElem? (i := 45) (by decide +kernel)) rfl
theorem wt_416 : Cond.methodLink "TwoOnACable" 141 yX6_put ∈ gL := gm_3 (List.mem_of_getElem? (i := 50) (by decide +kernel)) rfl
theorem wt_417 : Cond.instanceMethod yX6_put ∈ gL := gm_3 (List.mem_of_getElem? (i := 51) (by decide +kernel)) rfl
theorem wt_418 : Cond.selects "TwoOnACable$Load" yX6_put yX6_put ∈ gL := gm_3 (List.mem_of_getElem? (i := 52) (by decide +kernel)) rfl
theorem wt_419 : Cond.code yX6_put prog_8_method_3_code 2 (some FieldType.int) ∈ gL := gm_3 (List.mem_of_getElem? (i := 53) (by decide +kernel)) rfl
theorem wt_420 : Cond.methodLink "TwoOnACableLaw" 40 yL_turns ∈ gL := gm_3 (List.mem_of_getElem? (i := 54) (by decide +kernel)) rfl
theorem wt_421 : Cond.static yL_turns ∈ gL := gm_3 (List.mem_of_getElem? (i := 55) (by decide +kernel)) rfl
theorem wt_422 : Cond.code yL_turns method_8_code 2 (some FieldType.int) ∈ gL := gm_3 (List.mem_of_getElem? (i := 56) (by decide +kernel)) rfl
theorem wt_423 : Cond.methodLink "TwoOnACableLaw" 76 yL_hour ∈ gL := gm_3 (List.mem_of_getElem? (i := 57) (by decide +kernel)) rfl
theorem wt_424 : Cond.static yL_hour ∈ gL := gm_3 (List.mem_of_getElem? (i := 58) (by decide +kernel)) rfl
theorem wt_425 : Cond.code yL_hour method_12_code 2 (some FieldType.int) ∈ gL := gm_3 (List.mem_of_getElem? (i := 59) (by decide +kernel)) rfl
theorem wt_426 : Cond.methodLink "TwoOnACableLaw" 51 yL_strain ∈ gL := gm_3 (List.mem_of_getElem? (i := 60) (by decide +kernel)) rfl
theorem wt_427 : Cond.static yL_strain ∈ gL := gm_3 (List.mem_of_getElem? (i := 61) (by decide +kernel)) rfl
theorem wt_428 : Cond.code yL_strain method_11_code 3 (some FieldType.int) ∈ gL := gm_3 (List.mem_of_getElem? (i := 62) (by decide +kernel)) rfl
theorem wt_429 : Cond.methodLink "TwoOnACableLaw" 48 yL_floor ∈ gL := gm_3 (List.mem_of_getElem? (i := 63) (by decide +kernel)) rfl
theorem wt_430 : Cond.static yL_floor ∈ gL := gm_3 (List.mem_of_getElem? (i := 64) (by decide +kernel)) rfl
theorem wt_431 : Cond.code yL_floor method_10_code 6 (some FieldType.int) ∈ gL := gm_3 (List.mem_of_getElem? (i := 65) (by decide +kernel)) rfl
theorem wt_432 : Cond.methodLink "TwoOnACableLaw" 44 yL_arm ∈ gL := gm_3 (List.mem_of_getElem? (i := 66) (by decide +kernel)) rfl
theorem wt_433 : Cond.static yL_arm ∈ gL := gm_3 (List.mem_of_getElem? (i := 67) (by decide +kernel)) rfl
theorem wt_434 : Cond.code yL_arm method_9_code 8 (some FieldType.int) ∈ gL := gm_3 (List.mem_of_getElem? (i := 68) (by decide +kernel)) rfl
theorem wt_435 : Cond.methodLink "TwoOnACableLaw" 36 yL_cabin ∈ gL := gm_3 (List.mem_of_getElem? (i := 69) (by decide +kernel)) rfl
theorem wt_436 : Cond.static yL_cabin ∈ gL := gm_3 (List.mem_of_getElem? (i := 70) (by decide +kernel)) rfl
theorem wt_437 : Cond.code yL_cabin method_7_code 7 (some FieldType.int) ∈ gL := gm_3 (List.mem_of_getElem? (i := 71) (by decide +kernel)) rfl
theorem wt_438 : Cond.methodLink "TwoOnACableLaw" 32 yL_weighs ∈ gL := gm_3 (List.mem_of_getElem? (i := 72) (by decide +kernel)) rfl
theorem wt_439 : Cond.static yL_weighs ∈ gL := gm_3 (List.mem_of_getElem? (i := 73) (by decide +kernel)) rfl
theorem wt_440 : Cond.code yL_weighs method_6_code 5 (some FieldType.int) ∈ gL := gm_3 (List.mem_of_getElem? (i := 74) (by decide +kernel)) rfl
theorem wt_441 : Cond.methodLink "TwoOnACableLaw" 81 yL_told ∈ gL := gm_3 (List.mem_of_getElem? (i := 75) (by decide +kernel)) rfl
theorem wt_442 : Cond.static yL_told ∈ gL := gm_3 (List.mem_of_getElem? (i := 76) (by decide +kernel)) rfl
theorem wt_443 : Cond.code yL_told method_13_code 5 (some FieldType.boolean) ∈ gL := gm_3 (List.mem_of_getElem? (i := 77) (by decide +kernel)) rfl
theorem wt_444 : Cond.methodLink "TwoOnACableLaw" 54 yX11_count ∈ gL := gm_3 (List.mem_of_getElem? (i := 78) (by decide +kernel)) rfl
theorem wt_445 : Cond.instanceMethod yX11_count ∈ gL := gm_3 (List.mem_of_getElem? (i := 79) (by decide +kernel)) rfl
theorem wt_446 : Cond.selects "TwoOnACable" yX11_count yX11_count ∈ gL := gm_3 (List.mem_of_getElem? (i := 80) (by decide +kernel)) rfl
theorem wt_447 : Cond.code yX11_count prog_1_method_22_code 2 (some FieldType.int) ∈ gL := gm_3 (List.mem_of_getElem? (i := 81) (by decide +kernel)) rfl
theorem wt_448 : Cond.methodLink "TwoOnACable" 232 yX0_strainNow ∈ gL := gm_3 (List.mem_of_getElem? (i := 82) (by decide +kernel)) rfl
theorem wt_449 : Cond.constantLong "TwoOnACableLaw" 91 (1103515245 : Int64) ∈ gL := gm_3 (List.mem_of_getElem? (i := 83) (by decide +kernel)) rfl
theorem wt_450 : Cond.constantLong "TwoOnACableLaw" 93 (12345 : Int64) ∈ gL := gm_3 (List.mem_of_getElem? (i := 84) (by decide +kernel)) rfl
theorem wt_451 : Cond.constantLong "TwoOnACableLaw" 95 (2147483648 : Int64) ∈ gL := gm_3 (List.mem_of_getElem? (i := 85) (by decide +kernel)) rfl
theorem wt_452 : Cond.constantLong "TwoOnACableLaw" 97 (65536 : Int64) ∈ gL := gm_3 (List.mem_of_getElem? (i := 86) (by decide +kernel)) rfl
theorem wt_453 : Cond.constantLong "TwoOnACableLaw" 99 (7 : Int64) ∈ gL := gm_3 (List.mem_of_getElem? (i := 87) (by decide +kernel)) rfl
theorem wt_454 : Cond.constantLong "TwoOnACableLaw" 104 (-103 : Int64) ∈ gL := gm_3 (List.mem_of_getElem? (i := 88) (by decide +kernel)) rfl
theorem wt_455 : Cond.selects RX11 yX11_tryHours yX11_tryHours ∈ gL := gm_0 (by decide +kernel) rfl
theorem wt_456 : Cond.selects RX7 yX7_isWireLetter yX7_isWireLetter ∈ gL := gm_0 (by decide +kernel) rfl
theorem wt_457 : Cond.selects RX7 yX7_isBetween yX7_isBetween ∈ gL := gm_0 (by decide +kernel) rfl
theorem inX0 : ∀ w ∈ u_ws RX0 TX0 7, w ∈ gL := by decide +kernel
theorem inX1 : ∀ w ∈ u_ws RX1 TX1 3, w ∈ gL := by decide +kernel
theorem inX2 : ∀ w ∈ u_ws RX2 TX2 7, w ∈ gL := by decide +kernel
theorem inX3 : ∀ w ∈ u_ws RX3 TX3 3, w ∈ gL := by decide +kernel
theorem inX4 : ∀ w ∈ u_ws RX4 TX4 3, w ∈ gL := by decide +kernel
theorem inX5 : ∀ w ∈ u_ws RX5 TX5 3, w ∈ gL := by decide +kernel
theorem inX6 : ∀ w ∈ u_ws RX6 TX6 4, w ∈ gL := by decide +kernel
theorem inX7 : ∀ w ∈ u_ws RX7 TX7 2, w ∈ gL := by decide +kernel
theorem inX8 : ∀ w ∈ u_ws RX8 TX8 4, w ∈ gL := by decide +kernel
theorem inX9 : ∀ w ∈ u_ws RX9 TX9 3, w ∈ gL := by decide +kernel
theorem inX10 : ∀ w ∈ u_ws RX10 TX10 3, w ∈ gL := by decide +kernel
theorem inX11 : ∀ w ∈ u_ws RX11 TX11 10, w ∈ gL := by decide +kernel
theorem inX12 : ∀ w ∈ u_ws RX12 TX12 0, w ∈ gL := by decide +kernel
theorem inJ9 : ∀ w ∈ u_ws RJ9 TJ9 0, w ∈ gL := by decide +kernel
end
section
theorem dX0_init_0 : decode cX0_init 0 = .ok (.aload_n 0, 1) := by decide +kernel
theorem dX0_init_1 : decode cX0_init 1 = .ok (.invokespecial 3, 3) := by decide +kernel
theorem dX0_init_4 : decode cX0_init 4 = .ok (.return_, 1) := by decide +kernel
theorem dX0_hang_0 : decode cX0_hang 0 = .ok (.aload_n 0, 1) := by decide +kernel
theorem dX0_hang_1 : decode cX0_hang 1 = .ok (.bipush 10, 2) := by decide +kernel
theorem dX0_hang_3 : decode cX0_hang 3 = .ok (.aload_n 1, 1) := by decide +kernel
theorem dX0_hang_4 : decode cX0_hang 4 = .ok (.iconst 0, 1) := by decide +kernel
theorem dX0_hang_5 : decode cX0_hang 5 = .ok (.invokevirtual 9, 3) := by decide +kernel
theorem dX0_hang_8 : decode cX0_hang 8 = .ok (.imul, 1) := by decide +kernel
theorem dX0_hang_9 : decode cX0_hang 9 = .ok (.aload_n 1, 1) := by decide +kernel
theorem dX0_hang_10 : decode cX0_hang 10 = .ok (.iconst 1, 1) := by decide +kernel
theorem dX0_hang_11 : decode cX0_hang 11 = .ok (.invokevirtual 9, 3) := by decide +kernel
theorem dX0_hang_14 : decode cX0_hang 14 = .ok (.iadd, 1) := by decide +kernel
theorem dX0_hang_15 : decode cX0_hang 15 = .ok (.putfield 15, 3) := by decide +kernel
theorem dX0_hang_18 : decode cX0_hang 18 = .ok (.aload_n 0, 1) := by decide +kernel
theorem dX0_hang_19 : decode cX0_hang 19 = .ok (.aload_n 0, 1) := by decide +kernel
theorem dX0_hang_20 : decode cX0_hang 20 = .ok (.getfield 15, 3) := by decide +kernel
theorem dX0_hang_23 : decode cX0_hang 23 = .ok (.aload_n 0, 1) := by decide +kernel
theorem dX0_hang_24 : decode cX0_hang 24 = .ok (.getfield 15, 3) := by decide +kernel
theorem dX0_hang_27 : decode cX0_hang 27 = .ok (.imul, 1) := by decide +kernel
theorem dX0_hang_28 : decode cX0_hang 28 = .ok (.aload_n 1, 1) := by decide +kernel
theorem dX0_hang_29 : decode cX0_hang 29 = .ok (.iconst 3, 1) := by decide +kernel
theorem dX0_hang_30 : decode cX0_hang 30 = .ok (.invokevirtual 9, 3) := by decide +kernel
theorem dX0_hang_33 : decode cX0_hang 33 = .ok (.imul, 1) := by decide +kernel
theorem dX0_hang_34 : decode cX0_hang 34 = .ok (.putfield 21, 3) := by decide +kernel
theorem dX0_hang_37 : decode cX0_hang 37 = .ok (.aload_n 0, 1) := by decide +kernel
theorem dX0_hang_38 : decode cX0_hang 38 = .ok (.bipush 100, 2) := by decide +kernel
theorem dX0_hang_40 : decode cX0_hang 40 = .ok (.aload_n 1, 1) := by decide +kernel
theorem dX0_hang_41 : decode cX0_hang 41 = .ok (.iconst 5, 1) := by decide +kernel
theorem dX0_hang_42 : decode cX0_hang 42 = .ok (.invokevirtual 9, 3) := by decide +kernel
theorem dX0_hang_45 : decode cX0_hang 45 = .ok (.imul, 1) := by decide +kernel
theorem dX0_hang_46 : decode cX0_hang 46 = .ok (.bipush 10, 2) := by decide +kernel
theorem dX0_hang_48 : decode cX0_hang 48 = .ok (.aload_n 1, 1) := by decide +kernel
theorem dX0_hang_49 : decode cX0_hang 49 = .ok (.bipush 6, 2) := by decide +kernel
theorem dX0_hang_51 : decode cX0_hang 51 = .ok (.invokevirtual 9, 3) := by decide +kernel
theorem dX0_hang_54 : decode cX0_hang 54 = .ok (.imul, 1) := by decide +kernel
theorem dX0_hang_55 : decode cX0_hang 55 = .ok (.iadd, 1) := by decide +kernel
theorem dX0_hang_56 : decode cX0_hang 56 = .ok (.aload_n 1, 1) := by decide +kernel
theorem dX0_hang_57 : decode cX0_hang 57 = .ok (.bipush 7, 2) := by decide +kernel
theorem dX0_hang_59 : decode cX0_hang 59 = .ok (.invokevirtual 9, 3) := by decide +kernel
theorem dX0_hang_62 : decode cX0_hang 62 = .ok (.iadd, 1) := by decide +kernel
theorem dX0_hang_63 : decode cX0_hang 63 = .ok (.putfield 24, 3) := by decide +kernel
theorem dX0_hang_66 : decode cX0_hang 66 = .ok (.aload_n 0, 1) := by decide +kernel
theorem dX0_hang_67 : decode cX0_hang 67 = .ok (.aload_n 1, 1) := by decide +kernel
theorem dX0_hang_68 : decode cX0_hang 68 = .ok (.getfield 27, 3) := by decide +kernel
theorem dX0_hang_71 : decode cX0_hang 71 = .ok (.bipush 8, 2) := by decide +kernel
theorem dX0_hang_73 : decode cX0_hang 73 = .ok (.if_icmp .le 7, 3) := by decide +kernel
theorem dX0_hang_76 : decode cX0_hang 76 = .ok (.iconst 1, 1) := by decide +kernel
theorem dX0_hang_77 : decode cX0_hang 77 = .ok (.goto 4, 3) := by decide +kernel
theorem dX0_hang_80 : decode cX0_hang 80 = .ok (.iconst 0, 1) := by decide +kernel
theorem dX0_hang_81 : decode cX0_hang 81 = .ok (.putfield 30, 3) := by decide +kernel
theorem dX0_hang_84 : decode cX0_hang 84 = .ok (.aload_n 0, 1) := by decide +kernel
theorem dX0_hang_85 : decode cX0_hang 85 = .ok (.iconst 0, 1) := by decide +kernel
theorem dX0_hang_86 : decode cX0_hang 86 = .ok (.putfield 34, 3) := by decide +kernel
theorem dX0_hang_89 : decode cX0_hang 89 = .ok (.aload_n 0, 1) := by decide +kernel
theorem dX0_hang_90 : decode cX0_hang 90 = .ok (.iconst 0, 1) := by decide +kernel
theorem dX0_hang_91 : decode cX0_hang 91 = .ok (.putfield 37, 3) := by decide +kernel
theorem dX0_hang_94 : decode cX0_hang 94 = .ok (.aload_n 0, 1) := by decide +kernel
theorem dX0_hang_95 : decode cX0_hang 95 = .ok (.iconst 0, 1) := by decide +kernel
theorem dX0_hang_96 : decode cX0_hang 96 = .ok (.putfield 40, 3) := by decide +kernel
theorem dX0_hang_99 : decode cX0_hang 99 = .ok (.return_, 1) := by decide +kernel
theorem dX0_becomeLike_0 : decode cX0_becomeLike 0 = .ok (.aload_n 0, 1) := by decide +kernel
theorem dX0_becomeLike_1 : decode cX0_becomeLike 1 = .ok (.aload_n 1, 1) := by decide +kernel
theorem dX0_becomeLike_2 : decode cX0_becomeLike 2 = .ok (.getfield 15, 3) := by decide +kernel
theorem dX0_becomeLike_5 : decode cX0_becomeLike 5 = .ok (.putfield 15, 3) := by decide +kernel
theorem dX0_becomeLike_8 : decode cX0_becomeLike 8 = .ok (.aload_n 0, 1) := by decide +kernel
theorem dX0_becomeLike_9 : decode cX0_becomeLike 9 = .ok (.aload_n 1, 1) := by decide +kernel
theorem dX0_becomeLike_10 : decode cX0_becomeLike 10 = .ok (.getfield 21, 3) := by decide +kernel
theorem dX0_becomeLike_13 : decode cX0_becomeLike 13 = .ok (.putfield 21, 3) := by decide +kernel
theorem dX0_becomeLike_16 : decode cX0_becomeLike 16 = .ok (.aload_n 0, 1) := by decide +kernel
theorem dX0_becomeLike_17 : decode cX0_becomeLike 17 = .ok (.aload_n 1, 1) := by decide +kernel
theorem dX0_becomeLike_18 : decode cX0_becomeLike 18 = .ok (.getfield 24, 3) := by decide +kernel
theorem dX0_becomeLike_21 : decode cX0_becomeLike 21 = .ok (.putfield 24, 3) := by decide +kernel
theorem dX0_becomeLike_24 : decode cX0_becomeLike 24 = .ok (.aload_n 0, 1) := by decide +kernel
theorem dX0_becomeLike_25 : decode cX0_becomeLike 25 = .ok (.aload_n 1, 1) := by decide +kernel
theorem dX0_becomeLike_26 : decode cX0_becomeLike 26 = .ok (.getfield 34, 3) := by decide +kernel
theorem dX0_becomeLike_29 : decode cX0_becomeLike 29 = .ok (.putfield 34, 3) := by decide +kernel
theorem dX0_becomeLike_32 : decode cX0_becomeLike 32 = .ok (.aload_n 0, 1) := by decide +kernel
theorem dX0_becomeLike_33 : decode cX0_becomeLike 33 = .ok (.aload_n 1, 1) := by decide +kernel
theorem dX0_becomeLike_34 : decode cX0_becomeLike 34 = .ok (.getfield 37, 3) := by decide +kernel
theorem dX0_becomeLike_37 : decode cX0_becomeLike 37 = .ok (.putfield 37, 3) := by decide +kernel
theorem dX0_becomeLike_40 : decode cX0_becomeLike 40 = .ok (.aload_n 0, 1) := by decide +kernel
theorem dX0_becomeLike_41 : decode cX0_becomeLike 41 = .ok (.aload_n 1, 1) := by decide +kernel
theorem dX0_becomeLike_42 : decode cX0_becomeLike 42 = .ok (.getfield 30, 3) := by decide +kernel
theorem dX0_becomeLike_45 : decode cX0_becomeLike 45 = .ok (.putfield 30, 3) := by decide +kernel
theorem dX0_becomeLike_48 : decode cX0_becomeLike 48 = .ok (.aload_n 0, 1) := by decide +kernel
theorem dX0_becomeLike_49 : decode cX0_becomeLike 49 = .ok (.aload_n 1, 1) := by decide +kernel
theorem dX0_becomeLike_50 : decode cX0_becomeLike 50 = .ok (.getfield 40, 3) := by decide +kernel
theorem dX0_becomeLike_53 : decode cX0_becomeLike 53 = .ok (.putfield 40, 3) := by decide +kernel
theorem dX0_becomeLike_56 : decode cX0_becomeLike 56 = .ok (.return_, 1) := by decide +kernel
theorem dX0_isThere_0 : decode cX0_isThere 0 = .ok (.aload_n 0, 1) := by decide +kernel
theorem dX0_isThere_1 : decode cX0_isThere 1 = .ok (.getfield 15, 3) := by decide +kernel
theorem dX0_isThere_4 : decode cX0_isThere 4 = .ok (.ifCond .le 7, 3) := by decide +kernel
theorem dX0_isThere_7 : decode cX0_isThere 7 = .ok (.iconst 1, 1) := by decide +kernel
theorem dX0_isThere_8 : decode cX0_isThere 8 = .ok (.goto 4, 3) := by decide +kernel
theorem dX0_isThere_11 : decode cX0_isThere 11 = .ok (.iconst 0, 1) := by decide +kernel
theorem dX0_isThere_12 : decode cX0_isThere 12 = .ok (.ireturn, 1) := by decide +kernel
theorem dX0_isWhole_0 : decode cX0_isWhole 0 = .ok (.aload_n 0, 1) := by decide +kernel
theorem dX0_isWhole_1 : decode cX0_isWhole 1 = .ok (.getfield 15, 3) := by decide +kernel
theorem dX0_isWhole_4 : decode cX0_isWhole 4 = .ok (.ifCond .le 14, 3) := by decide +kernel
theorem dX0_isWhole_7 : decode cX0_isWhole 7 = .ok (.aload_n 0, 1) := by decide +kernel
theorem dX0_isWhole_8 : decode cX0_isWhole 8 = .ok (.getfield 40, 3) := by decide +kernel
theorem dX0_isWhole_11 : decode cX0_isWhole 11 = .ok (.ifCond .ne 7, 3) := by decide +kernel
theorem dX0_isWhole_14 : decode cX0_isWhole 14 = .ok (.iconst 1, 1) := by decide +kernel
theorem dX0_isWhole_15 : decode cX0_isWhole 15 = .ok (.goto 4, 3) := by decide +kernel
theorem dX0_isWhole_18 : decode cX0_isWhole 18 = .ok (.iconst 0, 1) := by decide +kernel
theorem dX0_isWhole_19 : decode cX0_isWhole 19 = .ok (.ireturn, 1) := by decide +kernel
theorem dX0_turnsAt_0 : decode cX0_turnsAt 0 = .ok (.iload_n 1, 1) := by decide +kernel
theorem dX0_turnsAt_1 : decode cX0_turnsAt 1 = .ok (.bipush 10, 2) := by decide +kernel
theorem dX0_turnsAt_3 : decode cX0_turnsAt 3 = .ok (.if_icmp .lt 20, 3) := by decide +kernel
theorem dX0_turnsAt_6 : decode cX0_turnsAt 6 = .ok (.iload_n 1, 1) := by decide +kernel
theorem dX0_turnsAt_7 : decode cX0_turnsAt 7 = .ok (.bipush 40, 2) := by decide +kernel
theorem dX0_turnsAt_9 : decode cX0_turnsAt 9 = .ok (.if_icmp .gt 14, 3) := by decide +kernel
theorem dX0_turnsAt_12 : decode cX0_turnsAt 12 = .ok (.aload_n 0, 1) := by decide +kernel
theorem dX0_turnsAt_13 : decode cX0_turnsAt 13 = .ok (.getfield 21, 3) := by decide +kernel
theorem dX0_turnsAt_16 : decode cX0_turnsAt 16 = .ok (.iload_n 1, 1) := by decide +kernel
theorem dX0_turnsAt_17 : decode cX0_turnsAt 17 = .ok (.iload_n 1, 1) := by decide +kernel
theorem dX0_turnsAt_18 : decode cX0_turnsAt 18 = .ok (.imul, 1) := by decide +kernel
theorem dX0_turnsAt_19 : decode cX0_turnsAt 19 = .ok (.idiv, 1) := by decide +kernel
theorem dX0_turnsAt_20 : decode cX0_turnsAt 20 = .ok (.goto 4, 3) := by decide +kernel
theorem dX0_turnsAt_23 : decode cX0_turnsAt 23 = .ok (.iconst 0, 1) := by decide +kernel
theorem dX0_turnsAt_24 : decode cX0_turnsAt 24 = .ok (.ireturn, 1) := by decide +kernel
theorem dX0_turnsNow_0 : decode cX0_turnsNow 0 = .ok (.aload_n 0, 1) := by decide +kernel
theorem dX0_turnsNow_1 : decode cX0_turnsNow 1 = .ok (.aload_n 0, 1) := by decide +kernel
theorem dX0_turnsNow_2 : decode cX0_turnsNow 2 = .ok (.getfield 15, 3) := by decide +kernel
theorem dX0_turnsNow_5 : decode cX0_turnsNow 5 = .ok (.invokevirtual 43, 3) := by decide +kernel
theorem dX0_turnsNow_8 : decode cX0_turnsNow 8 = .ok (.ireturn, 1) := by decide +kernel
theorem dX0_armAt_0 : decode cX0_armAt 0 = .ok (.iload_n 3, 1) := by decide +kernel
theorem dX0_armAt_1 : decode cX0_armAt 1 = .ok (.iload 4, 2) := by decide +kernel
theorem dX0_armAt_3 : decode cX0_armAt 3 = .ok (.iadd, 1) := by decide +kernel
theorem dX0_armAt_4 : decode cX0_armAt 4 = .ok (.istore 5, 2) := by decide +kernel
theorem dX0_armAt_6 : decode cX0_armAt 6 = .ok (.iload 5, 2) := by decide +kernel
theorem dX0_armAt_8 : decode cX0_armAt 8 = .ok (.ifCond .le 13, 3) := by decide +kernel
theorem dX0_armAt_11 : decode cX0_armAt 11 = .ok (.iload_n 2, 1) := by decide +kernel
theorem dX0_armAt_12 : decode cX0_armAt 12 = .ok (.iload 4, 2) := by decide +kernel
theorem dX0_armAt_14 : decode cX0_armAt 14 = .ok (.imul, 1) := by decide +kernel
theorem dX0_armAt_15 : decode cX0_armAt 15 = .ok (.iload 5, 2) := by decide +kernel
theorem dX0_armAt_17 : decode cX0_armAt 17 = .ok (.idiv, 1) := by decide +kernel
theorem dX0_armAt_18 : decode cX0_armAt 18 = .ok (.goto 4, 3) := by decide +kernel
theorem dX0_armAt_21 : decode cX0_armAt 21 = .ok (.iconst 0, 1) := by decide +kernel
theorem dX0_armAt_22 : decode cX0_armAt 22 = .ok (.istore 6, 2) := by decide +kernel
theorem dX0_armAt_24 : decode cX0_armAt 24 = .ok (.iload_n 1, 1) := by decide +kernel
theorem dX0_armAt_25 : decode cX0_armAt 25 = .ok (.ifCond .ne 8, 3) := by decide +kernel
theorem dX0_armAt_28 : decode cX0_armAt 28 = .ok (.iload 6, 2) := by decide +kernel
theorem dX0_armAt_30 : decode cX0_armAt 30 = .ok (.goto 7, 3) := by decide +kernel
theorem dX0_armAt_33 : decode cX0_armAt 33 = .ok (.iload_n 2, 1) := by decide +kernel
theorem dX0_armAt_34 : decode cX0_armAt 34 = .ok (.iload 6, 2) := by decide +kernel
theorem dX0_armAt_36 : decode cX0_armAt 36 = .ok (.isub, 1) := by decide +kernel
theorem dX0_armAt_37 : decode cX0_armAt 37 = .ok (.ireturn, 1) := by decide +kernel
theorem dX0_floorAt_0 : decode cX0_floorAt 0 = .ok (.aload_n 0, 1) := by decide +kernel
theorem dX0_floorAt_1 : decode cX0_floorAt 1 = .ok (.iload_n 2, 1) := by decide +kernel
theorem dX0_floorAt_2 : decode cX0_floorAt 2 = .ok (.invokevirtual 43, 3) := by decide +kernel
theorem dX0_floorAt_5 : decode cX0_floorAt 5 = .ok (.istore 5, 2) := by decide +kernel
theorem dX0_floorAt_7 : decode cX0_floorAt 7 = .ok (.aload_n 0, 1) := by decide +kernel
theorem dX0_floorAt_8 : decode cX0_floorAt 8 = .ok (.iload_n 1, 1) := by decide +kernel
theorem dX0_floorAt_9 : decode cX0_floorAt 9 = .ok (.iload_n 2, 1) := by decide +kernel
theorem dX0_floorAt_10 : decode cX0_floorAt 10 = .ok (.iload_n 3, 1) := by decide +kernel
theorem dX0_floorAt_11 : decode cX0_floorAt 11 = .ok (.iload 4, 2) := by decide +kernel
theorem dX0_floorAt_13 : decode cX0_floorAt 13 = .ok (.invokevirtual 46, 3) := by decide +kernel
theorem dX0_floorAt_16 : decode cX0_floorAt 16 = .ok (.iload 5, 2) := by decide +kernel
theorem dX0_floorAt_18 : decode cX0_floorAt 18 = .ok (.imul, 1) := by decide +kernel
theorem dX0_floorAt_19 : decode cX0_floorAt 19 = .ok (.iload 5, 2) := by decide +kernel
theorem dX0_floorAt_21 : decode cX0_floorAt 21 = .ok (.imul, 1) := by decide +kernel
theorem dX0_floorAt_22 : decode cX0_floorAt 22 = .ok (.ireturn, 1) := by decide +kernel
theorem dX0_strainBy_0 : decode cX0_strainBy 0 = .ok (.iload_n 1, 1) := by decide +kernel
theorem dX0_strainBy_1 : decode cX0_strainBy 1 = .ok (.iload_n 2, 1) := by decide +kernel
theorem dX0_strainBy_2 : decode cX0_strainBy 2 = .ok (.imul, 1) := by decide +kernel
theorem dX0_strainBy_3 : decode cX0_strainBy 3 = .ok (.bipush 100, 2) := by decide +kernel
theorem dX0_strainBy_5 : decode cX0_strainBy 5 = .ok (.idiv, 1) := by decide +kernel
theorem dX0_strainBy_6 : decode cX0_strainBy 6 = .ok (.ireturn, 1) := by decide +kernel
theorem dX0_armNow_0 : decode cX0_armNow 0 = .ok (.aload_n 0, 1) := by decide +kernel
theorem dX0_armNow_1 : decode cX0_armNow 1 = .ok (.iload_n 1, 1) := by decide +kernel
theorem dX0_armNow_2 : decode cX0_armNow 2 = .ok (.aload_n 0, 1) := by decide +kernel
theorem dX0_armNow_3 : decode cX0_armNow 3 = .ok (.getfield 15, 3) := by decide +kernel
theorem dX0_armNow_6 : decode cX0_armNow 6 = .ok (.aload_n 2, 1) := by decide +kernel
theorem dX0_armNow_7 : decode cX0_armNow 7 = .ok (.iconst 0, 1) := by decide +kernel
theorem dX0_armNow_8 : decode cX0_armNow 8 = .ok (.aload_n 0, 1) := by decide +kernel
theorem dX0_armNow_9 : decode cX0_armNow 9 = .ok (.getfield 37, 3) := by decide +kernel
theorem dX0_armNow_12 : decode cX0_armNow 12 = .ok (.invokevirtual 50, 3) := by decide +kernel
theorem dX0_armNow_15 : decode cX0_armNow 15 = .ok (.aload_n 2, 1) := by decide +kernel
theorem dX0_armNow_16 : decode cX0_armNow 16 = .ok (.iconst 1, 1) := by decide +kernel
theorem dX0_armNow_17 : decode cX0_armNow 17 = .ok (.aload_n 0, 1) := by decide +kernel
theorem dX0_armNow_18 : decode cX0_armNow 18 = .ok (.getfield 37, 3) := by decide +kernel
theorem dX0_armNow_21 : decode cX0_armNow 21 = .ok (.invokevirtual 50, 3) := by decide +kernel
theorem dX0_armNow_24 : decode cX0_armNow 24 = .ok (.invokevirtual 46, 3) := by decide +kernel
theorem dX0_armNow_27 : decode cX0_armNow 27 = .ok (.ireturn, 1) := by decide +kernel
theorem dX0_floorNow_0 : decode cX0_floorNow 0 = .ok (.aload_n 0, 1) := by decide +kernel
theorem dX0_floorNow_1 : decode cX0_floorNow 1 = .ok (.iload_n 1, 1) := by decide +kernel
theorem dX0_floorNow_2 : decode cX0_floorNow 2 = .ok (.aload_n 0, 1) := by decide +kernel
theorem dX0_floorNow_3 : decode cX0_floorNow 3 = .ok (.getfield 15, 3) := by decide +kernel
theorem dX0_floorNow_6 : decode cX0_floorNow 6 = .ok (.aload_n 2, 1) := by decide +kernel
theorem dX0_floorNow_7 : decode cX0_floorNow 7 = .ok (.iconst 0, 1) := by decide +kernel
theorem dX0_floorNow_8 : decode cX0_floorNow 8 = .ok (.aload_n 0, 1) := by decide +kernel
theorem dX0_floorNow_9 : decode cX0_floorNow 9 = .ok (.getfield 37, 3) := by decide +kernel
theorem dX0_floorNow_12 : decode cX0_floorNow 12 = .ok (.invokevirtual 50, 3) := by decide +kernel
theorem dX0_floorNow_15 : decode cX0_floorNow 15 = .ok (.aload_n 2, 1) := by decide +kernel
theorem dX0_floorNow_16 : decode cX0_floorNow 16 = .ok (.iconst 1, 1) := by decide +kernel
theorem dX0_floorNow_17 : decode cX0_floorNow 17 = .ok (.aload_n 0, 1) := by decide +kernel
theorem dX0_floorNow_18 : decode cX0_floorNow 18 = .ok (.getfield 37, 3) := by decide +kernel
theorem dX0_floorNow_21 : decode cX0_floorNow 21 = .ok (.invokevirtual 50, 3) := by decide +kernel
theorem dX0_floorNow_24 : decode cX0_floorNow 24 = .ok (.invokevirtual 56, 3) := by decide +kernel
theorem dX0_floorNow_27 : decode cX0_floorNow 27 = .ok (.ireturn, 1) := by decide +kernel
theorem dX0_strainNow_0 : decode cX0_strainNow 0 = .ok (.aload_n 1, 1) := by decide +kernel
theorem dX0_strainNow_1 : decode cX0_strainNow 1 = .ok (.iconst 0, 1) := by decide +kernel
theorem dX0_strainNow_2 : decode cX0_strainNow 2 = .ok (.aload_n 0, 1) := by decide +kernel
theorem dX0_strainNow_3 : decode cX0_strainNow 3 = .ok (.getfield 37, 3) := by decide +kernel
theorem dX0_strainNow_6 : decode cX0_strainNow 6 = .ok (.invokevirtual 50, 3) := by decide +kernel
theorem dX0_strainNow_9 : decode cX0_strainNow 9 = .ok (.istore_n 2, 1) := by decide +kernel
theorem dX0_strainNow_10 : decode cX0_strainNow 10 = .ok (.aload_n 0, 1) := by decide +kernel
theorem dX0_strainNow_11 : decode cX0_strainNow 11 = .ok (.iload_n 2, 1) := by decide +kernel
theorem dX0_strainNow_12 : decode cX0_strainNow 12 = .ok (.aload_n 0, 1) := by decide +kernel
theorem dX0_strainNow_13 : decode cX0_strainNow 13 = .ok (.iconst 0, 1) := by decide +kernel
theorem dX0_strainNow_14 : decode cX0_strainNow 14 = .ok (.aload_n 0, 1) := by decide +kernel
theorem dX0_strainNow_15 : decode cX0_strainNow 15 = .ok (.getfield 15, 3) := by decide +kernel
theorem dX0_strainNow_18 : decode cX0_strainNow 18 = .ok (.iload_n 2, 1) := by decide +kernel
theorem dX0_strainNow_19 : decode cX0_strainNow 19 = .ok (.aload_n 1, 1) := by decide +kernel
theorem dX0_strainNow_20 : decode cX0_strainNow 20 = .ok (.iconst 1, 1) := by decide +kernel
theorem dX0_strainNow_21 : decode cX0_strainNow 21 = .ok (.aload_n 0, 1) := by decide +kernel
theorem dX0_strainNow_22 : decode cX0_strainNow 22 = .ok (.getfield 37, 3) := by decide +kernel
theorem dX0_strainNow_25 : decode cX0_strainNow 25 = .ok (.invokevirtual 50, 3) := by decide +kernel
theorem dX0_strainNow_28 : decode cX0_strainNow 28 = .ok (.invokevirtual 56, 3) := by decide +kernel
theorem dX0_strainNow_31 : decode cX0_strainNow 31 = .ok (.invokevirtual 59, 3) := by decide +kernel
theorem dX0_strainNow_34 : decode cX0_strainNow 34 = .ok (.ireturn, 1) := by decide +kernel
theorem dX0_placeAfter_0 : decode cX0_placeAfter 0 = .ok (.aload_n 0, 1) := by decide +kernel
theorem dX0_placeAfter_1 : decode cX0_placeAfter 1 = .ok (.getfield 34, 3) := by decide +kernel
theorem dX0_placeAfter_4 : decode cX0_placeAfter 4 = .ok (.iload_n 1, 1) := by decide +kernel
theorem dX0_placeAfter_5 : decode cX0_placeAfter 5 = .ok (.aload_n 0, 1) := by decide +kernel
theorem dX0_placeAfter_6 : decode cX0_placeAfter 6 = .ok (.invokevirtual 62, 3) := by decide +kernel
theorem dX0_placeAfter_9 : decode cX0_placeAfter 9 = .ok (.imul, 1) := by decide +kernel
theorem dX0_placeAfter_10 : decode cX0_placeAfter 10 = .ok (.bipush 10, 2) := by decide +kernel
theorem dX0_placeAfter_12 : decode cX0_placeAfter 12 = .ok (.imul, 1) := by decide +kernel
theorem dX0_placeAfter_13 : decode cX0_placeAfter 13 = .ok (.iadd, 1) := by decide +kernel
theorem dX0_placeAfter_14 : decode cX0_placeAfter 14 = .ok (.sipush 360, 3) := by decide +kernel
theorem dX0_placeAfter_17 : decode cX0_placeAfter 17 = .ok (.invokestatic 66, 3) := by decide +kernel
theorem dX0_placeAfter_20 : decode cX0_placeAfter 20 = .ok (.ireturn, 1) := by decide +kernel
theorem dX0_goHour_0 : decode cX0_goHour 0 = .ok (.aload_n 0, 1) := by decide +kernel
theorem dX0_goHour_1 : decode cX0_goHour 1 = .ok (.dup, 1) := by decide +kernel
theorem dX0_goHour_2 : decode cX0_goHour 2 = .ok (.getfield 15, 3) := by decide +kernel
theorem dX0_goHour_5 : decode cX0_goHour 5 = .ok (.iload_n 1, 1) := by decide +kernel
theorem dX0_goHour_6 : decode cX0_goHour 6 = .ok (.isub, 1) := by decide +kernel
theorem dX0_goHour_7 : decode cX0_goHour 7 = .ok (.putfield 15, 3) := by decide +kernel
theorem dX0_goHour_10 : decode cX0_goHour 10 = .ok (.aload_n 0, 1) := by decide +kernel
theorem dX0_goHour_11 : decode cX0_goHour 11 = .ok (.dup, 1) := by decide +kernel
theorem dX0_goHour_12 : decode cX0_goHour 12 = .ok (.getfield 37, 3) := by decide +kernel
theorem dX0_goHour_15 : decode cX0_goHour 15 = .ok (.iconst 1, 1) := by decide +kernel
theorem dX0_goHour_16 : decode cX0_goHour 16 = .ok (.iadd, 1) := by decide +kernel
theorem dX0_goHour_17 : decode cX0_goHour 17 = .ok (.putfield 37, 3) := by decide +kernel
theorem dX0_goHour_20 : decode cX0_goHour 20 = .ok (.aload_n 0, 1) := by decide +kernel
theorem dX0_goHour_21 : decode cX0_goHour 21 = .ok (.aload_n 0, 1) := by decide +kernel
theorem dX0_goHour_22 : decode cX0_goHour 22 = .ok (.iconst 1, 1) := by decide +kernel
theorem dX0_goHour_23 : decode cX0_goHour 23 = .ok (.invokevirtual 71, 3) := by decide +kernel
theorem dX0_goHour_26 : decode cX0_goHour 26 = .ok (.putfield 34, 3) := by decide +kernel
theorem dX0_goHour_29 : decode cX0_goHour 29 = .ok (.aload_n 0, 1) := by decide +kernel
theorem dX0_goHour_30 : decode cX0_goHour 30 = .ok (.aload_n 0, 1) := by decide +kernel
theorem dX0_goHour_31 : decode cX0_goHour 31 = .ok (.aload_n 2, 1) := by decide +kernel
theorem dX0_goHour_32 : decode cX0_goHour 32 = .ok (.invokevirtual 74, 3) := by decide +kernel
theorem dX0_goHour_35 : decode cX0_goHour 35 = .ok (.aload_n 0, 1) := by decide +kernel
theorem dX0_goHour_36 : decode cX0_goHour 36 = .ok (.getfield 24, 3) := by decide +kernel
theorem dX0_goHour_39 : decode cX0_goHour 39 = .ok (.if_icmp .le 7, 3) := by decide +kernel
theorem dX0_goHour_42 : decode cX0_goHour 42 = .ok (.iconst 1, 1) := by decide +kernel
theorem dX0_goHour_43 : decode cX0_goHour 43 = .ok (.goto 4, 3) := by decide +kernel
theorem dX0_goHour_46 : decode cX0_goHour 46 = .ok (.iconst 0, 1) := by decide +kernel
theorem dX0_goHour_47 : decode cX0_goHour 47 = .ok (.putfield 40, 3) := by decide +kernel
theorem dX0_goHour_50 : decode cX0_goHour 50 = .ok (.return_, 1) := by decide +kernel
theorem dX1_init_0 : decode cX1_init 0 = .ok (.aload_n 0, 1) := by decide +kernel
theorem dX1_init_1 : decode cX1_init 1 = .ok (.iload_n 1, 1) := by decide +kernel
theorem dX1_init_2 : decode cX1_init 2 = .ok (.iload_n 2, 1) := by decide +kernel
theorem dX1_init_3 : decode cX1_init 3 = .ok (.iload_n 3, 1) := by decide +kernel
theorem dX1_init_4 : decode cX1_init 4 = .ok (.invokespecial 3, 3) := by decide +kernel
theorem dX1_init_7 : decode cX1_init 7 = .ok (.return_, 1) := by decide +kernel
theorem dX1_kind_0 : decode cX1_kind 0 = .ok (.iconst 1, 1) := by decide +kernel
theorem dX1_kind_1 : decode cX1_kind 1 = .ok (.ireturn, 1) := by decide +kernel
theorem dX1_weighs_0 : decode cX1_weighs 0 = .ok (.aload_n 0, 1) := by decide +kernel
theorem dX1_weighs_1 : decode cX1_weighs 1 = .ok (.getfield 9, 3) := by decide +kernel
theorem dX1_weighs_4 : decode cX1_weighs 4 = .ok (.iconst 2, 1) := by decide +kernel
theorem dX1_weighs_5 : decode cX1_weighs 5 = .ok (.iadd, 1) := by decide +kernel
theorem dX1_weighs_6 : decode cX1_weighs 6 = .ok (.ireturn, 1) := by decide +kernel
theorem dX2_init_0 : decode cX2_init 0 = .ok (.aload_n 0, 1) := by decide +kernel
theorem dX2_init_1 : decode cX2_init 1 = .ok (.invokespecial 3, 3) := by decide +kernel
theorem dX2_init_4 : decode cX2_init 4 = .ok (.aload_n 0, 1) := by decide +kernel
theorem dX2_init_5 : decode cX2_init 5 = .ok (.bipush 6, 2) := by decide +kernel
theorem dX2_init_7 : decode cX2_init 7 = .ok (.newarray .int, 2) := by decide +kernel
theorem dX2_init_9 : decode cX2_init 9 = .ok (.putfield 9, 3) := by decide +kernel
theorem dX2_init_12 : decode cX2_init 12 = .ok (.aload_n 0, 1) := by decide +kernel
theorem dX2_init_13 : decode cX2_init 13 = .ok (.bipush 6, 2) := by decide +kernel
theorem dX2_init_15 : decode cX2_init 15 = .ok (.newarray .int, 2) := by decide +kernel
theorem dX2_init_17 : decode cX2_init 17 = .ok (.putfield 15, 3) := by decide +kernel
theorem dX2_init_20 : decode cX2_init 20 = .ok (.return_, 1) := by decide +kernel
theorem dX3_init_0 : decode cX3_init 0 = .ok (.aload_n 0, 1) := by decide +kernel
theorem dX3_init_1 : decode cX3_init 1 = .ok (.iload_n 1, 1) := by decide +kernel
theorem dX3_init_2 : decode cX3_init 2 = .ok (.iload_n 2, 1) := by decide +kernel
theorem dX3_init_3 : decode cX3_init 3 = .ok (.iload_n 3, 1) := by decide +kernel
theorem dX3_init_4 : decode cX3_init 4 = .ok (.invokespecial 3, 3) := by decide +kernel
theorem dX3_init_7 : decode cX3_init 7 = .ok (.return_, 1) := by decide +kernel
theorem dX3_kind_0 : decode cX3_kind 0 = .ok (.iconst 2, 1) := by decide +kernel
theorem dX3_kind_1 : decode cX3_kind 1 = .ok (.ireturn, 1) := by decide +kernel
theorem dX3_goesAcross_0 : decode cX3_goesAcross 0 = .ok (.iload_n 1, 1) := by decide +kernel
theorem dX3_goesAcross_1 : decode cX3_goesAcross 1 = .ok (.iconst 2, 1) := by decide +kernel
theorem dX3_goesAcross_2 : decode cX3_goesAcross 2 = .ok (.if_icmp .gt 7, 3) := by decide +kernel
theorem dX3_goesAcross_5 : decode cX3_goesAcross 5 = .ok (.iconst 1, 1) := by decide +kernel
theorem dX3_goesAcross_6 : decode cX3_goesAcross 6 = .ok (.goto 4, 3) := by decide +kernel
theorem dX3_goesAcross_9 : decode cX3_goesAcross 9 = .ok (.iconst 0, 1) := by decide +kernel
theorem dX3_goesAcross_10 : decode cX3_goesAcross 10 = .ok (.ireturn, 1) := by decide +kernel
theorem dX4_init_0 : decode cX4_init 0 = .ok (.aload_n 0, 1) := by decide +kernel
theorem dX4_init_1 : decode cX4_init 1 = .ok (.iload_n 1, 1) := by decide +kernel
theorem dX4_init_2 : decode cX4_init 2 = .ok (.iload_n 2, 1) := by decide +kernel
theorem dX4_init_3 : decode cX4_init 3 = .ok (.iload_n 3, 1) := by decide +kernel
theorem dX4_init_4 : decode cX4_init 4 = .ok (.invokespecial 3, 3) := by decide +kernel
theorem dX4_init_7 : decode cX4_init 7 = .ok (.return_, 1) := by decide +kernel
theorem dX4_kind_0 : decode cX4_kind 0 = .ok (.iconst 4, 1) := by decide +kernel
theorem dX4_kind_1 : decode cX4_kind 1 = .ok (.ireturn, 1) := by decide +kernel
theorem dX4_weighs_0 : decode cX4_weighs 0 = .ok (.aload_n 0, 1) := by decide +kernel
theorem dX4_weighs_1 : decode cX4_weighs 1 = .ok (.getfield 9, 3) := by decide +kernel
theorem dX4_weighs_4 : decode cX4_weighs 4 = .ok (.iconst 2, 1) := by decide +kernel
theorem dX4_weighs_5 : decode cX4_weighs 5 = .ok (.iload_n 1, 1) := by decide +kernel
theorem dX4_weighs_6 : decode cX4_weighs 6 = .ok (.aload_n 0, 1) := by decide +kernel
theorem dX4_weighs_7 : decode cX4_weighs 7 = .ok (.getfield 15, 3) := by decide +kernel
theorem dX4_weighs_10 : decode cX4_weighs 10 = .ok (.isub, 1) := by decide +kernel
theorem dX4_weighs_11 : decode cX4_weighs 11 = .ok (.bipush 6, 2) := by decide +kernel
theorem dX4_weighs_13 : decode cX4_weighs 13 = .ok (.idiv, 1) := by decide +kernel
theorem dX4_weighs_14 : decode cX4_weighs 14 = .ok (.imul, 1) := by decide +kernel
theorem dX4_weighs_15 : decode cX4_weighs 15 = .ok (.iadd, 1) := by decide +kernel
theorem dX4_weighs_16 : decode cX4_weighs 16 = .ok (.ireturn, 1) := by decide +kernel
theorem dX5_init_0 : decode cX5_init 0 = .ok (.aload_n 0, 1) := by decide +kernel
theorem dX5_init_1 : decode cX5_init 1 = .ok (.iload_n 1, 1) := by decide +kernel
theorem dX5_init_2 : decode cX5_init 2 = .ok (.iload_n 2, 1) := by decide +kernel
theorem dX5_init_3 : decode cX5_init 3 = .ok (.iload_n 3, 1) := by decide +kernel
theorem dX5_init_4 : decode cX5_init 4 = .ok (.invokespecial 3, 3) := by decide +kernel
theorem dX5_init_7 : decode cX5_init 7 = .ok (.return_, 1) := by decide +kernel
theorem dX5_kind_0 : decode cX5_kind 0 = .ok (.iconst 3, 1) := by decide +kernel
theorem dX5_kind_1 : decode cX5_kind 1 = .ok (.ireturn, 1) := by decide +kernel
theorem dX5_weighs_0 : decode cX5_weighs 0 = .ok (.aload_n 0, 1) := by decide +kernel
theorem dX5_weighs_1 : decode cX5_weighs 1 = .ok (.getfield 9, 3) := by decide +kernel
theorem dX5_weighs_4 : decode cX5_weighs 4 = .ok (.iload_n 1, 1) := by decide +kernel
theorem dX5_weighs_5 : decode cX5_weighs 5 = .ok (.aload_n 0, 1) := by decide +kernel
theorem dX5_weighs_6 : decode cX5_weighs 6 = .ok (.getfield 15, 3) := by decide +kernel
theorem dX5_weighs_9 : decode cX5_weighs 9 = .ok (.isub, 1) := by decide +kernel
theorem dX5_weighs_10 : decode cX5_weighs 10 = .ok (.bipush 6, 2) := by decide +kernel
theorem dX5_weighs_12 : decode cX5_weighs 12 = .ok (.idiv, 1) := by decide +kernel
theorem dX5_weighs_13 : decode cX5_weighs 13 = .ok (.iadd, 1) := by decide +kernel
theorem dX5_weighs_14 : decode cX5_weighs 14 = .ok (.ireturn, 1) := by decide +kernel
theorem dX6_init_0 : decode cX6_init 0 = .ok (.aload_n 0, 1) := by decide +kernel
theorem dX6_init_1 : decode cX6_init 1 = .ok (.invokespecial 3, 3) := by decide +kernel
theorem dX6_init_4 : decode cX6_init 4 = .ok (.aload_n 0, 1) := by decide +kernel
theorem dX6_init_5 : decode cX6_init 5 = .ok (.bipush 6, 2) := by decide +kernel
theorem dX6_init_7 : decode cX6_init 7 = .ok (.anewarray 9, 3) := by decide +kernel
theorem dX6_init_10 : decode cX6_init 10 = .ok (.putfield 11, 3) := by decide +kernel
theorem dX6_init_13 : decode cX6_init 13 = .ok (.aload_n 0, 1) := by decide +kernel
theorem dX6_init_14 : decode cX6_init 14 = .ok (.bipush 6, 2) := by decide +kernel
theorem dX6_init_16 : decode cX6_init 16 = .ok (.newarray .int, 2) := by decide +kernel
theorem dX6_init_18 : decode cX6_init 18 = .ok (.putfield 17, 3) := by decide +kernel
theorem dX6_init_21 : decode cX6_init 21 = .ok (.return_, 1) := by decide +kernel
theorem dX6_isFull_0 : decode cX6_isFull 0 = .ok (.aload_n 0, 1) := by decide +kernel
theorem dX6_isFull_1 : decode cX6_isFull 1 = .ok (.getfield 21, 3) := by decide +kernel
theorem dX6_isFull_4 : decode cX6_isFull 4 = .ok (.aload_n 0, 1) := by decide +kernel
theorem dX6_isFull_5 : decode cX6_isFull 5 = .ok (.getfield 11, 3) := by decide +kernel
theorem dX6_isFull_8 : decode cX6_isFull 8 = .ok (.arraylength, 1) := by decide +kernel
theorem dX6_isFull_9 : decode cX6_isFull 9 = .ok (.if_icmp .lt 7, 3) := by decide +kernel
theorem dX6_isFull_12 : decode cX6_isFull 12 = .ok (.iconst 1, 1) := by decide +kernel
theorem dX6_isFull_13 : decode cX6_isFull 13 = .ok (.goto 4, 3) := by decide +kernel
theorem dX6_isFull_16 : decode cX6_isFull 16 = .ok (.iconst 0, 1) := by decide +kernel
theorem dX6_isFull_17 : decode cX6_isFull 17 = .ok (.ireturn, 1) := by decide +kernel
theorem dX6_put_0 : decode cX6_put 0 = .ok (.aload_n 0, 1) := by decide +kernel
theorem dX6_put_1 : decode cX6_put 1 = .ok (.getfield 21, 3) := by decide +kernel
theorem dX6_put_4 : decode cX6_put 4 = .ok (.ifCond .lt 15, 3) := by decide +kernel
theorem dX6_put_7 : decode cX6_put 7 = .ok (.aload_n 0, 1) := by decide +kernel
theorem dX6_put_8 : decode cX6_put 8 = .ok (.getfield 21, 3) := by decide +kernel
theorem dX6_put_11 : decode cX6_put 11 = .ok (.aload_n 0, 1) := by decide +kernel
theorem dX6_put_12 : decode cX6_put 12 = .ok (.getfield 11, 3) := by decide +kernel
theorem dX6_put_15 : decode cX6_put 15 = .ok (.arraylength, 1) := by decide +kernel
theorem dX6_put_16 : decode cX6_put 16 = .ok (.if_icmp .lt 6, 3) := by decide +kernel
theorem dX6_put_19 : decode cX6_put 19 = .ok (.bipush (-104), 2) := by decide +kernel
theorem dX6_put_21 : decode cX6_put 21 = .ok (.ireturn, 1) := by decide +kernel
theorem dX6_put_22 : decode cX6_put 22 = .ok (.aload_n 0, 1) := by decide +kernel
theorem dX6_put_23 : decode cX6_put 23 = .ok (.getfield 11, 3) := by decide +kernel
theorem dX6_put_26 : decode cX6_put 26 = .ok (.aload_n 0, 1) := by decide +kernel
theorem dX6_put_27 : decode cX6_put 27 = .ok (.getfield 21, 3) := by decide +kernel
theorem dX6_put_30 : decode cX6_put 30 = .ok (.aload_n 1, 1) := by decide +kernel
theorem dX6_put_31 : decode cX6_put 31 = .ok (.aastore, 1) := by decide +kernel
theorem dX6_put_32 : decode cX6_put 32 = .ok (.aload_n 0, 1) := by decide +kernel
theorem dX6_put_33 : decode cX6_put 33 = .ok (.dup, 1) := by decide +kernel
theorem dX6_put_34 : decode cX6_put 34 = .ok (.getfield 21, 3) := by decide +kernel
theorem dX6_put_37 : decode cX6_put 37 = .ok (.iconst 1, 1) := by decide +kernel
theorem dX6_put_38 : decode cX6_put 38 = .ok (.iadd, 1) := by decide +kernel
theorem dX6_put_39 : decode cX6_put 39 = .ok (.putfield 21, 3) := by decide +kernel
theorem dX6_put_42 : decode cX6_put 42 = .ok (.aload_n 0, 1) := by decide +kernel
theorem dX6_put_43 : decode cX6_put 43 = .ok (.getfield 21, 3) := by decide +kernel
theorem dX6_put_46 : decode cX6_put 46 = .ok (.iconst 1, 1) := by decide +kernel
theorem dX6_put_47 : decode cX6_put 47 = .ok (.isub, 1) := by decide +kernel
theorem dX6_put_48 : decode cX6_put 48 = .ok (.ireturn, 1) := by decide +kernel
theorem dX6_at_0 : decode cX6_at 0 = .ok (.iload_n 1, 1) := by decide +kernel
theorem dX6_at_1 : decode cX6_at 1 = .ok (.ifCond .lt 29, 3) := by decide +kernel
theorem dX6_at_4 : decode cX6_at 4 = .ok (.iload_n 1, 1) := by decide +kernel
theorem dX6_at_5 : decode cX6_at 5 = .ok (.aload_n 0, 1) := by decide +kernel
theorem dX6_at_6 : decode cX6_at 6 = .ok (.getfield 21, 3) := by decide +kernel
theorem dX6_at_9 : decode cX6_at 9 = .ok (.if_icmp .ge 21, 3) := by decide +kernel
theorem dX6_at_12 : decode cX6_at 12 = .ok (.iload_n 1, 1) := by decide +kernel
theorem dX6_at_13 : decode cX6_at 13 = .ok (.aload_n 0, 1) := by decide +kernel
theorem dX6_at_14 : decode cX6_at 14 = .ok (.getfield 11, 3) := by decide +kernel
theorem dX6_at_17 : decode cX6_at 17 = .ok (.arraylength, 1) := by decide +kernel
theorem dX6_at_18 : decode cX6_at 18 = .ok (.if_icmp .ge 12, 3) := by decide +kernel
theorem dX6_at_21 : decode cX6_at 21 = .ok (.aload_n 0, 1) := by decide +kernel
theorem dX6_at_22 : decode cX6_at 22 = .ok (.getfield 11, 3) := by decide +kernel
theorem dX6_at_25 : decode cX6_at 25 = .ok (.iload_n 1, 1) := by decide +kernel
theorem dX6_at_26 : decode cX6_at 26 = .ok (.aaload, 1) := by decide +kernel
theorem dX6_at_27 : decode cX6_at 27 = .ok (.goto 4, 3) := by decide +kernel
theorem dX6_at_30 : decode cX6_at 30 = .ok (.aconst_null, 1) := by decide +kernel
theorem dX6_at_31 : decode cX6_at 31 = .ok (.areturn, 1) := by decide +kernel
theorem dX6_cutTo_0 : decode cX6_cutTo 0 = .ok (.iconst 0, 1) := by decide +kernel
theorem dX6_cutTo_1 : decode cX6_cutTo 1 = .ok (.istore_n 2, 1) := by decide +kernel
theorem dX6_cutTo_2 : decode cX6_cutTo 2 = .ok (.iload_n 2, 1) := by decide +kernel
theorem dX6_cutTo_3 : decode cX6_cutTo 3 = .ok (.aload_n 0, 1) := by decide +kernel
theorem dX6_cutTo_4 : decode cX6_cutTo 4 = .ok (.getfield 11, 3) := by decide +kernel
theorem dX6_cutTo_7 : decode cX6_cutTo 7 = .ok (.arraylength, 1) := by decide +kernel
theorem dX6_cutTo_8 : decode cX6_cutTo 8 = .ok (.if_icmp .ge 21, 3) := by decide +kernel
theorem dX6_cutTo_11 : decode cX6_cutTo 11 = .ok (.iload_n 2, 1) := by decide +kernel
theorem dX6_cutTo_12 : decode cX6_cutTo 12 = .ok (.iload_n 1, 1) := by decide +kernel
theorem dX6_cutTo_13 : decode cX6_cutTo 13 = .ok (.if_icmp .lt 10, 3) := by decide +kernel
theorem dX6_cutTo_16 : decode cX6_cutTo 16 = .ok (.aload_n 0, 1) := by decide +kernel
theorem dX6_cutTo_17 : decode cX6_cutTo 17 = .ok (.getfield 11, 3) := by decide +kernel
theorem dX6_cutTo_20 : decode cX6_cutTo 20 = .ok (.iload_n 2, 1) := by decide +kernel
theorem dX6_cutTo_21 : decode cX6_cutTo 21 = .ok (.aconst_null, 1) := by decide +kernel
theorem dX6_cutTo_22 : decode cX6_cutTo 22 = .ok (.aastore, 1) := by decide +kernel
theorem dX6_cutTo_23 : decode cX6_cutTo 23 = .ok (.iinc 2 1, 3) := by decide +kernel
theorem dX6_cutTo_26 : decode cX6_cutTo 26 = .ok (.goto (-24), 3) := by decide +kernel
theorem dX6_cutTo_29 : decode cX6_cutTo 29 = .ok (.aload_n 0, 1) := by decide +kernel
theorem dX6_cutTo_30 : decode cX6_cutTo 30 = .ok (.aload_n 0, 1) := by decide +kernel
theorem dX6_cutTo_31 : decode cX6_cutTo 31 = .ok (.getfield 21, 3) := by decide +kernel
theorem dX6_cutTo_34 : decode cX6_cutTo 34 = .ok (.iload_n 1, 1) := by decide +kernel
theorem dX6_cutTo_35 : decode cX6_cutTo 35 = .ok (.invokestatic 25, 3) := by decide +kernel
theorem dX6_cutTo_38 : decode cX6_cutTo 38 = .ok (.putfield 21, 3) := by decide +kernel
theorem dX6_cutTo_41 : decode cX6_cutTo 41 = .ok (.return_, 1) := by decide +kernel
theorem dX6_weighsIn_0 : decode cX6_weighsIn 0 = .ok (.bipush 10, 2) := by decide +kernel
theorem dX6_weighsIn_2 : decode cX6_weighsIn 2 = .ok (.istore_n 3, 1) := by decide +kernel
theorem dX6_weighsIn_3 : decode cX6_weighsIn 3 = .ok (.iconst 0, 1) := by decide +kernel
theorem dX6_weighsIn_4 : decode cX6_weighsIn 4 = .ok (.istore 4, 2) := by decide +kernel
theorem dX6_weighsIn_6 : decode cX6_weighsIn 6 = .ok (.iload 4, 2) := by decide +kernel
theorem dX6_weighsIn_8 : decode cX6_weighsIn 8 = .ok (.aload_n 0, 1) := by decide +kernel
theorem dX6_weighsIn_9 : decode cX6_weighsIn 9 = .ok (.getfield 21, 3) := by decide +kernel
theorem dX6_weighsIn_12 : decode cX6_weighsIn 12 = .ok (.if_icmp .ge 40, 3) := by decide +kernel
theorem dX6_weighsIn_15 : decode cX6_weighsIn 15 = .ok (.aload_n 0, 1) := by decide +kernel
theorem dX6_weighsIn_16 : decode cX6_weighsIn 16 = .ok (.iload 4, 2) := by decide +kernel
theorem dX6_weighsIn_18 : decode cX6_weighsIn 18 = .ok (.invokevirtual 34, 3) := by decide +kernel
theorem dX6_weighsIn_21 : decode cX6_weighsIn 21 = .ok (.astore 5, 2) := by decide +kernel
theorem dX6_weighsIn_23 : decode cX6_weighsIn 23 = .ok (.aload 5, 2) := by decide +kernel
theorem dX6_weighsIn_25 : decode cX6_weighsIn 25 = .ok (.ifnull 21, 3) := by decide +kernel
theorem dX6_weighsIn_28 : decode cX6_weighsIn 28 = .ok (.aload 5, 2) := by decide +kernel
theorem dX6_weighsIn_30 : decode cX6_weighsIn 30 = .ok (.getfield 38, 3) := by decide +kernel
theorem dX6_weighsIn_33 : decode cX6_weighsIn 33 = .ok (.iload_n 1, 1) := by decide +kernel
theorem dX6_weighsIn_34 : decode cX6_weighsIn 34 = .ok (.if_icmp .ne 12, 3) := by decide +kernel
theorem dX6_weighsIn_37 : decode cX6_weighsIn 37 = .ok (.iload_n 3, 1) := by decide +kernel
theorem dX6_weighsIn_38 : decode cX6_weighsIn 38 = .ok (.aload 5, 2) := by decide +kernel
theorem dX6_weighsIn_40 : decode cX6_weighsIn 40 = .ok (.iload_n 2, 1) := by decide +kernel
theorem dX6_weighsIn_41 : decode cX6_weighsIn 41 = .ok (.invokevirtual 45, 3) := by decide +kernel
theorem dX6_weighsIn_44 : decode cX6_weighsIn 44 = .ok (.iadd, 1) := by decide +kernel
theorem dX6_weighsIn_45 : decode cX6_weighsIn 45 = .ok (.istore_n 3, 1) := by decide +kernel
theorem dX6_weighsIn_46 : decode cX6_weighsIn 46 = .ok (.iinc 4 1, 3) := by decide +kernel
theorem dX6_weighsIn_49 : decode cX6_weighsIn 49 = .ok (.goto (-43), 3) := by decide +kernel
theorem dX6_weighsIn_52 : decode cX6_weighsIn 52 = .ok (.iload_n 3, 1) := by decide +kernel
theorem dX6_weighsIn_53 : decode cX6_weighsIn 53 = .ok (.ireturn, 1) := by decide +kernel
theorem dX6_sizeIn_0 : decode cX6_sizeIn 0 = .ok (.iconst 0, 1) := by decide +kernel
theorem dX6_sizeIn_1 : decode cX6_sizeIn 1 = .ok (.istore_n 2, 1) := by decide +kernel
theorem dX6_sizeIn_2 : decode cX6_sizeIn 2 = .ok (.iconst 0, 1) := by decide +kernel
theorem dX6_sizeIn_3 : decode cX6_sizeIn 3 = .ok (.istore_n 3, 1) := by decide +kernel
theorem dX6_sizeIn_4 : decode cX6_sizeIn 4 = .ok (.iload_n 3, 1) := by decide +kernel
theorem dX6_sizeIn_5 : decode cX6_sizeIn 5 = .ok (.aload_n 0, 1) := by decide +kernel
theorem dX6_sizeIn_6 : decode cX6_sizeIn 6 = .ok (.getfield 21, 3) := by decide +kernel
theorem dX6_sizeIn_9 : decode cX6_sizeIn 9 = .ok (.if_icmp .ge 33, 3) := by decide +kernel
theorem dX6_sizeIn_12 : decode cX6_sizeIn 12 = .ok (.aload_n 0, 1) := by decide +kernel
theorem dX6_sizeIn_13 : decode cX6_sizeIn 13 = .ok (.iload_n 3, 1) := by decide +kernel
theorem dX6_sizeIn_14 : decode cX6_sizeIn 14 = .ok (.invokevirtual 34, 3) := by decide +kernel
theorem dX6_sizeIn_17 : decode cX6_sizeIn 17 = .ok (.astore 4, 2) := by decide +kernel
theorem dX6_sizeIn_19 : decode cX6_sizeIn 19 = .ok (.aload 4, 2) := by decide +kernel
theorem dX6_sizeIn_21 : decode cX6_sizeIn 21 = .ok (.ifnull 15, 3) := by decide +kernel
theorem dX6_sizeIn_24 : decode cX6_sizeIn 24 = .ok (.aload 4, 2) := by decide +kernel
theorem dX6_sizeIn_26 : decode cX6_sizeIn 26 = .ok (.getfield 38, 3) := by decide +kernel
theorem dX6_sizeIn_29 : decode cX6_sizeIn 29 = .ok (.iload_n 1, 1) := by decide +kernel
theorem dX6_sizeIn_30 : decode cX6_sizeIn 30 = .ok (.if_icmp .ne 6, 3) := by decide +kernel
theorem dX6_sizeIn_33 : decode cX6_sizeIn 33 = .ok (.iinc 2 1, 3) := by decide +kernel
theorem dX6_sizeIn_36 : decode cX6_sizeIn 36 = .ok (.iinc 3 1, 3) := by decide +kernel
theorem dX6_sizeIn_39 : decode cX6_sizeIn 39 = .ok (.goto (-35), 3) := by decide +kernel
theorem dX6_sizeIn_42 : decode cX6_sizeIn 42 = .ok (.iload_n 2, 1) := by decide +kernel
theorem dX6_sizeIn_43 : decode cX6_sizeIn 43 = .ok (.ireturn, 1) := by decide +kernel
theorem dX7_init_0 : decode cX7_init 0 = .ok (.aload_n 0, 1) := by decide +kernel
theorem dX7_init_1 : decode cX7_init 1 = .ok (.invokespecial 3, 3) := by decide +kernel
theorem dX7_init_4 : decode cX7_init 4 = .ok (.aload_n 0, 1) := by decide +kernel
theorem dX7_init_5 : decode cX7_init 5 = .ok (.bipush 12, 2) := by decide +kernel
theorem dX7_init_7 : decode cX7_init 7 = .ok (.newarray .char, 2) := by decide +kernel
theorem dX7_init_9 : decode cX7_init 9 = .ok (.putfield 9, 3) := by decide +kernel
theorem dX7_init_12 : decode cX7_init 12 = .ok (.return_, 1) := by decide +kernel
theorem dX7_hasRoomFor_0 : decode cX7_hasRoomFor 0 = .ok (.aload_n 0, 1) := by decide +kernel
theorem dX7_hasRoomFor_1 : decode cX7_hasRoomFor 1 = .ok (.getfield 15, 3) := by decide +kernel
theorem dX7_hasRoomFor_4 : decode cX7_hasRoomFor 4 = .ok (.iload_n 1, 1) := by decide +kernel
theorem dX7_hasRoomFor_5 : decode cX7_hasRoomFor 5 = .ok (.iadd, 1) := by decide +kernel
theorem dX7_hasRoomFor_6 : decode cX7_hasRoomFor 6 = .ok (.aload_n 0, 1) := by decide +kernel
theorem dX7_hasRoomFor_7 : decode cX7_hasRoomFor 7 = .ok (.getfield 9, 3) := by decide +kernel
theorem dX7_hasRoomFor_10 : decode cX7_hasRoomFor 10 = .ok (.arraylength, 1) := by decide +kernel
theorem dX7_hasRoomFor_11 : decode cX7_hasRoomFor 11 = .ok (.if_icmp .gt 7, 3) := by decide +kernel
theorem dX7_hasRoomFor_14 : decode cX7_hasRoomFor 14 = .ok (.iconst 1, 1) := by decide +kernel
theorem dX7_hasRoomFor_15 : decode cX7_hasRoomFor 15 = .ok (.goto 4, 3) := by decide +kernel
theorem dX7_hasRoomFor_18 : decode cX7_hasRoomFor 18 = .ok (.iconst 0, 1) := by decide +kernel
theorem dX7_hasRoomFor_19 : decode cX7_hasRoomFor 19 = .ok (.ireturn, 1) := by decide +kernel
theorem dX7_put_0 : decode cX7_put 0 = .ok (.aload_n 0, 1) := by decide +kernel
theorem dX7_put_1 : decode cX7_put 1 = .ok (.getfield 15, 3) := by decide +kernel
theorem dX7_put_4 : decode cX7_put 4 = .ok (.ifCond .lt 35, 3) := by decide +kernel
theorem dX7_put_7 : decode cX7_put 7 = .ok (.aload_n 0, 1) := by decide +kernel
theorem dX7_put_8 : decode cX7_put 8 = .ok (.getfield 15, 3) := by decide +kernel
theorem dX7_put_11 : decode cX7_put 11 = .ok (.aload_n 0, 1) := by decide +kernel
theorem dX7_put_12 : decode cX7_put 12 = .ok (.getfield 9, 3) := by decide +kernel
theorem dX7_put_15 : decode cX7_put 15 = .ok (.arraylength, 1) := by decide +kernel
theorem dX7_put_16 : decode cX7_put 16 = .ok (.if_icmp .ge 23, 3) := by decide +kernel
theorem dX7_put_19 : decode cX7_put 19 = .ok (.aload_n 0, 1) := by decide +kernel
theorem dX7_put_20 : decode cX7_put 20 = .ok (.getfield 9, 3) := by decide +kernel
theorem dX7_put_23 : decode cX7_put 23 = .ok (.aload_n 0, 1) := by decide +kernel
theorem dX7_put_24 : decode cX7_put 24 = .ok (.getfield 15, 3) := by decide +kernel
theorem dX7_put_27 : decode cX7_put 27 = .ok (.iload_n 1, 1) := by decide +kernel
theorem dX7_put_28 : decode cX7_put 28 = .ok (.castore, 1) := by decide +kernel
theorem dX7_put_29 : decode cX7_put 29 = .ok (.aload_n 0, 1) := by decide +kernel
theorem dX7_put_30 : decode cX7_put 30 = .ok (.dup, 1) := by decide +kernel
theorem dX7_put_31 : decode cX7_put 31 = .ok (.getfield 15, 3) := by decide +kernel
theorem dX7_put_34 : decode cX7_put 34 = .ok (.iconst 1, 1) := by decide +kernel
theorem dX7_put_35 : decode cX7_put 35 = .ok (.iadd, 1) := by decide +kernel
theorem dX7_put_36 : decode cX7_put 36 = .ok (.putfield 15, 3) := by decide +kernel
theorem dX7_put_39 : decode cX7_put 39 = .ok (.return_, 1) := by decide +kernel
theorem dX7_at_0 : decode cX7_at 0 = .ok (.iload_n 1, 1) := by decide +kernel
theorem dX7_at_1 : decode cX7_at 1 = .ok (.ifCond .lt 29, 3) := by decide +kernel
theorem dX7_at_4 : decode cX7_at 4 = .ok (.iload_n 1, 1) := by decide +kernel
theorem dX7_at_5 : decode cX7_at 5 = .ok (.aload_n 0, 1) := by decide +kernel
theorem dX7_at_6 : decode cX7_at 6 = .ok (.getfield 15, 3) := by decide +kernel
theorem dX7_at_9 : decode cX7_at 9 = .ok (.if_icmp .ge 21, 3) := by decide +kernel
theorem dX7_at_12 : decode cX7_at 12 = .ok (.iload_n 1, 1) := by decide +kernel
theorem dX7_at_13 : decode cX7_at 13 = .ok (.aload_n 0, 1) := by decide +kernel
theorem dX7_at_14 : decode cX7_at 14 = .ok (.getfield 9, 3) := by decide +kernel
theorem dX7_at_17 : decode cX7_at 17 = .ok (.arraylength, 1) := by decide +kernel
theorem dX7_at_18 : decode cX7_at 18 = .ok (.if_icmp .ge 12, 3) := by decide +kernel
theorem dX7_at_21 : decode cX7_at 21 = .ok (.aload_n 0, 1) := by decide +kernel
theorem dX7_at_22 : decode cX7_at 22 = .ok (.getfield 9, 3) := by decide +kernel
theorem dX7_at_25 : decode cX7_at 25 = .ok (.iload_n 1, 1) := by decide +kernel
theorem dX7_at_26 : decode cX7_at 26 = .ok (.caload, 1) := by decide +kernel
theorem dX7_at_27 : decode cX7_at 27 = .ok (.goto 4, 3) := by decide +kernel
theorem dX7_at_30 : decode cX7_at 30 = .ok (.iconst 0, 1) := by decide +kernel
theorem dX7_at_31 : decode cX7_at 31 = .ok (.ireturn, 1) := by decide +kernel
theorem dX7_emptied_0 : decode cX7_emptied 0 = .ok (.aload_n 0, 1) := by decide +kernel
theorem dX7_emptied_1 : decode cX7_emptied 1 = .ok (.getfield 15, 3) := by decide +kernel
theorem dX7_emptied_4 : decode cX7_emptied 4 = .ok (.istore_n 1, 1) := by decide +kernel
theorem dX7_emptied_5 : decode cX7_emptied 5 = .ok (.aload_n 0, 1) := by decide +kernel
theorem dX7_emptied_6 : decode cX7_emptied 6 = .ok (.iconst 0, 1) := by decide +kernel
theorem dX7_emptied_7 : decode cX7_emptied 7 = .ok (.putfield 15, 3) := by decide +kernel
theorem dX7_emptied_10 : decode cX7_emptied 10 = .ok (.iload_n 1, 1) := by decide +kernel
theorem dX7_emptied_11 : decode cX7_emptied 11 = .ok (.ireturn, 1) := by decide +kernel
theorem dX7_firstWrong_0 : decode cX7_firstWrong 0 = .ok (.iconst 0, 1) := by decide +kernel
theorem dX7_firstWrong_1 : decode cX7_firstWrong 1 = .ok (.istore_n 1, 1) := by decide +kernel
theorem dX7_firstWrong_2 : decode cX7_firstWrong 2 = .ok (.iload_n 1, 1) := by decide +kernel
theorem dX7_firstWrong_3 : decode cX7_firstWrong 3 = .ok (.aload_n 0, 1) := by decide +kernel
theorem dX7_firstWrong_4 : decode cX7_firstWrong 4 = .ok (.getfield 15, 3) := by decide +kernel
theorem dX7_firstWrong_7 : decode cX7_firstWrong 7 = .ok (.if_icmp .ge 19, 3) := by decide +kernel
theorem dX7_firstWrong_10 : decode cX7_firstWrong 10 = .ok (.aload_n 0, 1) := by decide +kernel
theorem dX7_firstWrong_11 : decode cX7_firstWrong 11 = .ok (.iload_n 1, 1) := by decide +kernel
theorem dX7_firstWrong_12 : decode cX7_firstWrong 12 = .ok (.invokevirtual 19, 3) := by decide +kernel
theorem dX7_firstWrong_15 : decode cX7_firstWrong 15 = .ok (.ifCond .ne 5, 3) := by decide +kernel
theorem dX7_firstWrong_18 : decode cX7_firstWrong 18 = .ok (.iload_n 1, 1) := by decide +kernel
theorem dX7_firstWrong_19 : decode cX7_firstWrong 19 = .ok (.ireturn, 1) := by decide +kernel
theorem dX7_firstWrong_20 : decode cX7_firstWrong 20 = .ok (.iinc 1 1, 3) := by decide +kernel
theorem dX7_firstWrong_23 : decode cX7_firstWrong 23 = .ok (.goto (-21), 3) := by decide +kernel
theorem dX7_firstWrong_26 : decode cX7_firstWrong 26 = .ok (.aload_n 0, 1) := by decide +kernel
theorem dX7_firstWrong_27 : decode cX7_firstWrong 27 = .ok (.getfield 15, 3) := by decide +kernel
theorem dX7_firstWrong_30 : decode cX7_firstWrong 30 = .ok (.ireturn, 1) := by decide +kernel
theorem dX7_isWire_0 : decode cX7_isWire 0 = .ok (.aload_n 0, 1) := by decide +kernel
theorem dX7_isWire_1 : decode cX7_isWire 1 = .ok (.getfield 15, 3) := by decide +kernel
theorem dX7_isWire_4 : decode cX7_isWire 4 = .ok (.bipush 8, 2) := by decide +kernel
theorem dX7_isWire_6 : decode cX7_isWire 6 = .ok (.if_icmp .lt 18, 3) := by decide +kernel
theorem dX7_isWire_9 : decode cX7_isWire 9 = .ok (.aload_n 0, 1) := by decide +kernel
theorem dX7_isWire_10 : decode cX7_isWire 10 = .ok (.invokevirtual 23, 3) := by decide +kernel
theorem dX7_isWire_13 : decode cX7_isWire 13 = .ok (.aload_n 0, 1) := by decide +kernel
theorem dX7_isWire_14 : decode cX7_isWire 14 = .ok (.getfield 15, 3) := by decide +kernel
theorem dX7_isWire_17 : decode cX7_isWire 17 = .ok (.if_icmp .ne 7, 3) := by decide +kernel
theorem dX7_isWire_20 : decode cX7_isWire 20 = .ok (.iconst 1, 1) := by decide +kernel
theorem dX7_isWire_21 : decode cX7_isWire 21 = .ok (.goto 4, 3) := by decide +kernel
theorem dX7_isWire_24 : decode cX7_isWire 24 = .ok (.iconst 0, 1) := by decide +kernel
theorem dX7_isWire_25 : decode cX7_isWire 25 = .ok (.ireturn, 1) := by decide +kernel
theorem dX7_digitAt_0 : decode cX7_digitAt 0 = .ok (.aload_n 0, 1) := by decide +kernel
theorem dX7_digitAt_1 : decode cX7_digitAt 1 = .ok (.iload_n 1, 1) := by decide +kernel
theorem dX7_digitAt_2 : decode cX7_digitAt 2 = .ok (.invokevirtual 27, 3) := by decide +kernel
theorem dX7_digitAt_5 : decode cX7_digitAt 5 = .ok (.bipush 48, 2) := by decide +kernel
theorem dX7_digitAt_7 : decode cX7_digitAt 7 = .ok (.isub, 1) := by decide +kernel
theorem dX7_digitAt_8 : decode cX7_digitAt 8 = .ok (.ireturn, 1) := by decide +kernel
theorem dX7_isWireLetter_0 : decode cX7_isWireLetter 0 = .ok (.iload_n 1, 1) := by decide +kernel
theorem dX7_isWireLetter_1 : decode cX7_isWireLetter 1 = .ok (.tableswitch 138 0 8 #[51, 61, 86, 102, 86, 102, 112, 112, 122], 51) := by decide +kernel
theorem dX7_isWireLetter_52 : decode cX7_isWireLetter 52 = .ok (.aload_n 0, 1) := by decide +kernel
theorem dX7_isWireLetter_53 : decode cX7_isWireLetter 53 = .ok (.iload_n 1, 1) := by decide +kernel
theorem dX7_isWireLetter_54 : decode cX7_isWireLetter 54 = .ok (.bipush 49, 2) := by decide +kernel
theorem dX7_isWireLetter_56 : decode cX7_isWireLetter 56 = .ok (.bipush 52, 2) := by decide +kernel
theorem dX7_isWireLetter_58 : decode cX7_isWireLetter 58 = .ok (.invokevirtual 31, 3) := by decide +kernel
theorem dX7_isWireLetter_61 : decode cX7_isWireLetter 61 = .ok (.ireturn, 1) := by decide +kernel
theorem dX7_isWireLetter_62 : decode cX7_isWireLetter 62 = .ok (.aload_n 0, 1) := by decide +kernel
theorem dX7_isWireLetter_63 : decode cX7_isWireLetter 63 = .ok (.iload_n 1, 1) := by decide +kernel
theorem dX7_isWireLetter_64 : decode cX7_isWireLetter 64 = .ok (.bipush 48, 2) := by decide +kernel
theorem dX7_isWireLetter_66 : decode cX7_isWireLetter 66 = .ok (.aload_n 0, 1) := by decide +kernel
theorem dX7_isWireLetter_67 : decode cX7_isWireLetter 67 = .ok (.iconst 0, 1) := by decide +kernel
theorem dX7_isWireLetter_68 : decode cX7_isWireLetter 68 = .ok (.invokevirtual 27, 3) := by decide +kernel
theorem dX7_isWireLetter_71 : decode cX7_isWireLetter 71 = .ok (.bipush 52, 2) := by decide +kernel
theorem dX7_isWireLetter_73 : decode cX7_isWireLetter 73 = .ok (.if_icmp .ne 8, 3) := by decide +kernel
theorem dX7_isWireLetter_76 : decode cX7_isWireLetter 76 = .ok (.bipush 48, 2) := by decide +kernel
theorem dX7_isWireLetter_78 : decode cX7_isWireLetter 78 = .ok (.goto 5, 3) := by decide +kernel
theorem dX7_isWireLetter_81 : decode cX7_isWireLetter 81 = .ok (.bipush 57, 2) := by decide +kernel
theorem dX7_isWireLetter_83 : decode cX7_isWireLetter 83 = .ok (.invokevirtual 31, 3) := by decide +kernel
theorem dX7_isWireLetter_86 : decode cX7_isWireLetter 86 = .ok (.ireturn, 1) := by decide +kernel
theorem dX7_isWireLetter_87 : decode cX7_isWireLetter 87 = .ok (.aload_n 0, 1) := by decide +kernel
theorem dX7_isWireLetter_88 : decode cX7_isWireLetter 88 = .ok (.iload_n 1, 1) := by decide +kernel
theorem dX7_isWireLetter_89 : decode cX7_isWireLetter 89 = .ok (.invokevirtual 27, 3) := by decide +kernel
theorem dX7_isWireLetter_92 : decode cX7_isWireLetter 92 = .ok (.bipush 58, 2) := by decide +kernel
theorem dX7_isWireLetter_94 : decode cX7_isWireLetter 94 = .ok (.if_icmp .ne 7, 3) := by decide +kernel
theorem dX7_isWireLetter_97 : decode cX7_isWireLetter 97 = .ok (.iconst 1, 1) := by decide +kernel
theorem dX7_isWireLetter_98 : decode cX7_isWireLetter 98 = .ok (.goto 4, 3) := by decide +kernel
theorem dX7_isWireLetter_101 : decode cX7_isWireLetter 101 = .ok (.iconst 0, 1) := by decide +kernel
theorem dX7_isWireLetter_102 : decode cX7_isWireLetter 102 = .ok (.ireturn, 1) := by decide +kernel
theorem dX7_isWireLetter_103 : decode cX7_isWireLetter 103 = .ok (.aload_n 0, 1) := by decide +kernel
theorem dX7_isWireLetter_104 : decode cX7_isWireLetter 104 = .ok (.iload_n 1, 1) := by decide +kernel
theorem dX7_isWireLetter_105 : decode cX7_isWireLetter 105 = .ok (.bipush 49, 2) := by decide +kernel
theorem dX7_isWireLetter_107 : decode cX7_isWireLetter 107 = .ok (.bipush 57, 2) := by decide +kernel
theorem dX7_isWireLetter_109 : decode cX7_isWireLetter 109 = .ok (.invokevirtual 31, 3) := by decide +kernel
theorem dX7_isWireLetter_112 : decode cX7_isWireLetter 112 = .ok (.ireturn, 1) := by decide +kernel
theorem dX7_isWireLetter_113 : decode cX7_isWireLetter 113 = .ok (.aload_n 0, 1) := by decide +kernel
theorem dX7_isWireLetter_114 : decode cX7_isWireLetter 114 = .ok (.iload_n 1, 1) := by decide +kernel
theorem dX7_isWireLetter_115 : decode cX7_isWireLetter 115 = .ok (.bipush 48, 2) := by decide +kernel
theorem dX7_isWireLetter_117 : decode cX7_isWireLetter 117 = .ok (.bipush 57, 2) := by decide +kernel
theorem dX7_isWireLetter_119 : decode cX7_isWireLetter 119 = .ok (.invokevirtual 31, 3) := by decide +kernel
theorem dX7_isWireLetter_122 : decode cX7_isWireLetter 122 = .ok (.ireturn, 1) := by decide +kernel
theorem dX7_isWireLetter_123 : decode cX7_isWireLetter 123 = .ok (.aload_n 0, 1) := by decide +kernel
theorem dX7_isWireLetter_124 : decode cX7_isWireLetter 124 = .ok (.iload_n 1, 1) := by decide +kernel
theorem dX7_isWireLetter_125 : decode cX7_isWireLetter 125 = .ok (.invokevirtual 27, 3) := by decide +kernel
theorem dX7_isWireLetter_128 : decode cX7_isWireLetter 128 = .ok (.bipush 111, 2) := by decide +kernel
theorem dX7_isWireLetter_130 : decode cX7_isWireLetter 130 = .ok (.if_icmp .ne 7, 3) := by decide +kernel
theorem dX7_isWireLetter_133 : decode cX7_isWireLetter 133 = .ok (.iconst 1, 1) := by decide +kernel
theorem dX7_isWireLetter_134 : decode cX7_isWireLetter 134 = .ok (.goto 4, 3) := by decide +kernel
theorem dX7_isWireLetter_137 : decode cX7_isWireLetter 137 = .ok (.iconst 0, 1) := by decide +kernel
theorem dX7_isWireLetter_138 : decode cX7_isWireLetter 138 = .ok (.ireturn, 1) := by decide +kernel
theorem dX7_isWireLetter_139 : decode cX7_isWireLetter 139 = .ok (.iconst 0, 1) := by decide +kernel
theorem dX7_isWireLetter_140 : decode cX7_isWireLetter 140 = .ok (.ireturn, 1) := by decide +kernel
theorem dX7_isBetween_0 : decode cX7_isBetween 0 = .ok (.aload_n 0, 1) := by decide +kernel
theorem dX7_isBetween_1 : decode cX7_isBetween 1 = .ok (.iload_n 1, 1) := by decide +kernel
theorem dX7_isBetween_2 : decode cX7_isBetween 2 = .ok (.invokevirtual 27, 3) := by decide +kernel
theorem dX7_isBetween_5 : decode cX7_isBetween 5 = .ok (.iload_n 2, 1) := by decide +kernel
theorem dX7_isBetween_6 : decode cX7_isBetween 6 = .ok (.if_icmp .lt 16, 3) := by decide +kernel
theorem dX7_isBetween_9 : decode cX7_isBetween 9 = .ok (.aload_n 0, 1) := by decide +kernel
theorem dX7_isBetween_10 : decode cX7_isBetween 10 = .ok (.iload_n 1, 1) := by decide +kernel
theorem dX7_isBetween_11 : decode cX7_isBetween 11 = .ok (.invokevirtual 27, 3) := by decide +kernel
theorem dX7_isBetween_14 : decode cX7_isBetween 14 = .ok (.iload_n 3, 1) := by decide +kernel
theorem dX7_isBetween_15 : decode cX7_isBetween 15 = .ok (.if_icmp .gt 7, 3) := by decide +kernel
theorem dX7_isBetween_18 : decode cX7_isBetween 18 = .ok (.iconst 1, 1) := by decide +kernel
theorem dX7_isBetween_19 : decode cX7_isBetween 19 = .ok (.goto 4, 3) := by decide +kernel
theorem dX7_isBetween_22 : decode cX7_isBetween 22 = .ok (.iconst 0, 1) := by decide +kernel
theorem dX7_isBetween_23 : decode cX7_isBetween 23 = .ok (.ireturn, 1) := by decide +kernel
theorem dX8_init_0 : decode cX8_init 0 = .ok (.aload_n 0, 1) := by decide +kernel
theorem dX8_init_1 : decode cX8_init 1 = .ok (.invokespecial 3, 3) := by decide +kernel
theorem dX8_init_4 : decode cX8_init 4 = .ok (.aload_n 0, 1) := by decide +kernel
theorem dX8_init_5 : decode cX8_init 5 = .ok (.bipush 41, 2) := by decide +kernel
theorem dX8_init_7 : decode cX8_init 7 = .ok (.newarray .int, 2) := by decide +kernel
theorem dX8_init_9 : decode cX8_init 9 = .ok (.putfield 9, 3) := by decide +kernel
theorem dX8_init_12 : decode cX8_init 12 = .ok (.aload_n 0, 1) := by decide +kernel
theorem dX8_init_13 : decode cX8_init 13 = .ok (.bipush 41, 2) := by decide +kernel
theorem dX8_init_15 : decode cX8_init 15 = .ok (.newarray .int, 2) := by decide +kernel
theorem dX8_init_17 : decode cX8_init 17 = .ok (.putfield 15, 3) := by decide +kernel
theorem dX8_init_20 : decode cX8_init 20 = .ok (.return_, 1) := by decide +kernel
theorem dX9_init_0 : decode cX9_init 0 = .ok (.aload_n 0, 1) := by decide +kernel
theorem dX9_init_1 : decode cX9_init 1 = .ok (.invokespecial 3, 3) := by decide +kernel
theorem dX9_init_4 : decode cX9_init 4 = .ok (.aload_n 0, 1) := by decide +kernel
theorem dX9_init_5 : decode cX9_init 5 = .ok (.iload_n 1, 1) := by decide +kernel
theorem dX9_init_6 : decode cX9_init 6 = .ok (.putfield 9, 3) := by decide +kernel
theorem dX9_init_9 : decode cX9_init 9 = .ok (.aload_n 0, 1) := by decide +kernel
theorem dX9_init_10 : decode cX9_init 10 = .ok (.iload_n 2, 1) := by decide +kernel
theorem dX9_init_11 : decode cX9_init 11 = .ok (.putfield 15, 3) := by decide +kernel
theorem dX9_init_14 : decode cX9_init 14 = .ok (.aload_n 0, 1) := by decide +kernel
theorem dX9_init_15 : decode cX9_init 15 = .ok (.iload_n 3, 1) := by decide +kernel
theorem dX9_init_16 : decode cX9_init 16 = .ok (.putfield 18, 3) := by decide +kernel
theorem dX9_init_19 : decode cX9_init 19 = .ok (.return_, 1) := by decide +kernel
theorem dX9_kind_0 : decode cX9_kind 0 = .ok (.iconst 0, 1) := by decide +kernel
theorem dX9_kind_1 : decode cX9_kind 1 = .ok (.ireturn, 1) := by decide +kernel
theorem dX9_weighs_0 : decode cX9_weighs 0 = .ok (.aload_n 0, 1) := by decide +kernel
theorem dX9_weighs_1 : decode cX9_weighs 1 = .ok (.getfield 9, 3) := by decide +kernel
theorem dX9_weighs_4 : decode cX9_weighs 4 = .ok (.ireturn, 1) := by decide +kernel
theorem dX9_goesAcross_0 : decode cX9_goesAcross 0 = .ok (.iconst 1, 1) := by decide +kernel
theorem dX9_goesAcross_1 : decode cX9_goesAcross 1 = .ok (.ireturn, 1) := by decide +kernel
theorem dX9_hoursHere_0 : decode cX9_hoursHere 0 = .ok (.iload_n 1, 1) := by decide +kernel
theorem dX9_hoursHere_1 : decode cX9_hoursHere 1 = .ok (.aload_n 0, 1) := by decide +kernel
theorem dX9_hoursHere_2 : decode cX9_hoursHere 2 = .ok (.getfield 18, 3) := by decide +kernel
theorem dX9_hoursHere_5 : decode cX9_hoursHere 5 = .ok (.isub, 1) := by decide +kernel
theorem dX9_hoursHere_6 : decode cX9_hoursHere 6 = .ok (.ireturn, 1) := by decide +kernel
theorem dX10_init_0 : decode cX10_init 0 = .ok (.aload_n 0, 1) := by decide +kernel
theorem dX10_init_1 : decode cX10_init 1 = .ok (.invokespecial 3, 3) := by decide +kernel
theorem dX10_init_4 : decode cX10_init 4 = .ok (.aload_n 0, 1) := by decide +kernel
theorem dX10_init_5 : decode cX10_init 5 = .ok (.bipush 6, 2) := by decide +kernel
theorem dX10_init_7 : decode cX10_init 7 = .ok (.newarray .int, 2) := by decide +kernel
theorem dX10_init_9 : decode cX10_init 9 = .ok (.putfield 9, 3) := by decide +kernel
theorem dX10_init_12 : decode cX10_init 12 = .ok (.aload_n 0, 1) := by decide +kernel
theorem dX10_init_13 : decode cX10_init 13 = .ok (.bipush 6, 2) := by decide +kernel
theorem dX10_init_15 : decode cX10_init 15 = .ok (.newarray .int, 2) := by decide +kernel
theorem dX10_init_17 : decode cX10_init 17 = .ok (.putfield 15, 3) := by decide +kernel
theorem dX10_init_20 : decode cX10_init 20 = .ok (.return_, 1) := by decide +kernel
theorem dX10_emptied_0 : decode cX10_emptied 0 = .ok (.aload_n 0, 1) := by decide +kernel
theorem dX10_emptied_1 : decode cX10_emptied 1 = .ok (.getfield 18, 3) := by decide +kernel
theorem dX10_emptied_4 : decode cX10_emptied 4 = .ok (.istore_n 1, 1) := by decide +kernel
theorem dX10_emptied_5 : decode cX10_emptied 5 = .ok (.aload_n 0, 1) := by decide +kernel
theorem dX10_emptied_6 : decode cX10_emptied 6 = .ok (.iconst 0, 1) := by decide +kernel
theorem dX10_emptied_7 : decode cX10_emptied 7 = .ok (.putfield 18, 3) := by decide +kernel
theorem dX10_emptied_10 : decode cX10_emptied 10 = .ok (.iload_n 1, 1) := by decide +kernel
theorem dX10_emptied_11 : decode cX10_emptied 11 = .ok (.ireturn, 1) := by decide +kernel
theorem dJ9_floorMod_7cf53_0 : decode cJ9_floorMod_7cf53 0 = .ok (.iload_n 0, 1) := by decide +kernel
theorem dJ9_floorMod_7cf53_1 : decode cJ9_floorMod_7cf53 1 = .ok (.iload_n 1, 1) := by decide +kernel
theorem dJ9_floorMod_7cf53_2 : decode cJ9_floorMod_7cf53 2 = .ok (.irem, 1) := by decide +kernel
theorem dJ9_floorMod_7cf53_3 : decode cJ9_floorMod_7cf53 3 = .ok (.istore_n 2, 1) := by decide +kernel
theorem dJ9_floorMod_7cf53_4 : decode cJ9_floorMod_7cf53 4 = .ok (.iload_n 0, 1) := by decide +kernel
theorem dJ9_floorMod_7cf53_5 : decode cJ9_floorMod_7cf53 5 = .ok (.iload_n 1, 1) := by decide +kernel
theorem dJ9_floorMod_7cf53_6 : decode cJ9_floorMod_7cf53 6 = .ok (.ixor, 1) := by decide +kernel
theorem dJ9_floorMod_7cf53_7 : decode cJ9_floorMod_7cf53 7 = .ok (.ifCond .ge 11, 3) := by decide +kernel
theorem dJ9_floorMod_7cf53_10 : decode cJ9_floorMod_7cf53 10 = .ok (.iload_n 2, 1) := by decide +kernel
theorem dJ9_floorMod_7cf53_11 : decode cJ9_floorMod_7cf53 11 = .ok (.ifCond .eq 7, 3) := by decide +kernel
theorem dJ9_floorMod_7cf53_14 : decode cJ9_floorMod_7cf53 14 = .ok (.iload_n 2, 1) := by decide +kernel
theorem dJ9_floorMod_7cf53_15 : decode cJ9_floorMod_7cf53 15 = .ok (.iload_n 1, 1) := by decide +kernel
theorem dJ9_floorMod_7cf53_16 : decode cJ9_floorMod_7cf53 16 = .ok (.iadd, 1) := by decide +kernel
theorem dJ9_floorMod_7cf53_17 : decode cJ9_floorMod_7cf53 17 = .ok (.ireturn, 1) := by decide +kernel
theorem dJ9_floorMod_7cf53_18 : decode cJ9_floorMod_7cf53 18 = .ok (.iload_n 2, 1) := by decide +kernel
theorem dJ9_floorMod_7cf53_19 : decode cJ9_floorMod_7cf53 19 = .ok (.ireturn, 1) := by decide +kernel
theorem dJ9_min_7cf53_0 : decode cJ9_min_7cf53 0 = .ok (.iload_n 0, 1) := by decide +kernel
theorem dJ9_min_7cf53_1 : decode cJ9_min_7cf53 1 = .ok (.iload_n 1, 1) := by decide +kernel
theorem dJ9_min_7cf53_2 : decode cJ9_min_7cf53 2 = .ok (.if_icmp .gt 7, 3) := by decide +kernel
theorem dJ9_min_7cf53_5 : decode cJ9_min_7cf53 5 = .ok (.iload_n 0, 1) := by decide +kernel
theorem dJ9_min_7cf53_6 : decode cJ9_min_7cf53 6 = .ok (.goto 4, 3) := by decide +kernel
theorem dJ9_min_7cf53_9 : decode cJ9_min_7cf53 9 = .ok (.iload_n 1, 1) := by decide +kernel
theorem dJ9_min_7cf53_10 : decode cJ9_min_7cf53 10 = .ok (.ireturn, 1) := by decide +kernel
end
section
theorem dL_cell_0 : decode cL_cell 0 = .ok (.iload_n 1, 1) := by decide +kernel
theorem dL_cell_1 : decode cL_cell 1 = .ok (.aload_n 0, 1) := by decide +kernel
theorem dL_cell_2 : decode cL_cell 2 = .ok (.arraylength, 1) := by decide +kernel
theorem dL_cell_3 : decode cL_cell 3 = .ok (.if_icmp .ge 9, 3) := by decide +kernel
theorem dL_cell_6 : decode cL_cell 6 = .ok (.aload_n 0, 1) := by decide +kernel
theorem dL_cell_7 : decode cL_cell 7 = .ok (.iload_n 1, 1) := by decide +kernel
theorem dL_cell_8 : decode cL_cell 8 = .ok (.iaload, 1) := by decide +kernel
theorem dL_cell_9 : decode cL_cell 9 = .ok (.goto 11, 3) := by decide +kernel
theorem dL_cell_12 : decode cL_cell 12 = .ok (.sipush 7919, 3) := by decide +kernel
theorem dL_cell_15 : decode cL_cell 15 = .ok (.iload_n 1, 1) := by decide +kernel
theorem dL_cell_16 : decode cL_cell 16 = .ok (.imul, 1) := by decide +kernel
theorem dL_cell_17 : decode cL_cell 17 = .ok (.bipush 13, 2) := by decide +kernel
theorem dL_cell_19 : decode cL_cell 19 = .ok (.iadd, 1) := by decide +kernel
theorem dL_cell_20 : decode cL_cell 20 = .ok (.ldc 7, 2) := by decide +kernel
theorem dL_cell_22 : decode cL_cell 22 = .ok (.iand, 1) := by decide +kernel
theorem dL_cell_23 : decode cL_cell 23 = .ok (.ireturn, 1) := by decide +kernel
theorem dL_put_0 : decode cL_put 0 = .ok (.aload_n 0, 1) := by decide +kernel
theorem dL_put_1 : decode cL_put 1 = .ok (.iload_n 1, 1) := by decide +kernel
theorem dL_put_2 : decode cL_put 2 = .ok (.i2l, 1) := by decide +kernel
theorem dL_put_3 : decode cL_put 3 = .ok (.invokevirtual 8, 3) := by decide +kernel
theorem dL_put_6 : decode cL_put 6 = .ok (.ifCond .le 7, 3) := by decide +kernel
theorem dL_put_9 : decode cL_put 9 = .ok (.iconst 1, 1) := by decide +kernel
theorem dL_put_10 : decode cL_put 10 = .ok (.goto 4, 3) := by decide +kernel
theorem dL_put_13 : decode cL_put 13 = .ok (.iconst 0, 1) := by decide +kernel
theorem dL_put_14 : decode cL_put 14 = .ok (.ireturn, 1) := by decide +kernel
theorem dL_wire_0 : decode cL_wire 0 = .ok (.bipush 10, 2) := by decide +kernel
theorem dL_wire_2 : decode cL_wire 2 = .ok (.iload_n 1, 1) := by decide +kernel
theorem dL_wire_3 : decode cL_wire 3 = .ok (.bipush 31, 2) := by decide +kernel
theorem dL_wire_5 : decode cL_wire 5 = .ok (.irem, 1) := by decide +kernel
theorem dL_wire_6 : decode cL_wire 6 = .ok (.iadd, 1) := by decide +kernel
theorem dL_wire_7 : decode cL_wire 7 = .ok (.istore_n 3, 1) := by decide +kernel
theorem dL_wire_8 : decode cL_wire 8 = .ok (.iconst 1, 1) := by decide +kernel
theorem dL_wire_9 : decode cL_wire 9 = .ok (.iload_n 1, 1) := by decide +kernel
theorem dL_wire_10 : decode cL_wire 10 = .ok (.bipush 32, 2) := by decide +kernel
theorem dL_wire_12 : decode cL_wire 12 = .ok (.idiv, 1) := by decide +kernel
theorem dL_wire_13 : decode cL_wire 13 = .ok (.bipush 9, 2) := by decide +kernel
theorem dL_wire_15 : decode cL_wire 15 = .ok (.irem, 1) := by decide +kernel
theorem dL_wire_16 : decode cL_wire 16 = .ok (.iload_n 1, 1) := by decide +kernel
theorem dL_wire_17 : decode cL_wire 17 = .ok (.iconst 3, 1) := by decide +kernel
theorem dL_wire_18 : decode cL_wire 18 = .ok (.irem, 1) := by decide +kernel
theorem dL_wire_19 : decode cL_wire 19 = .ok (.iconst 1, 1) := by decide +kernel
theorem dL_wire_20 : decode cL_wire 20 = .ok (.iadd, 1) := by decide +kernel
theorem dL_wire_21 : decode cL_wire 21 = .ok (.idiv, 1) := by decide +kernel
theorem dL_wire_22 : decode cL_wire 22 = .ok (.iadd, 1) := by decide +kernel
theorem dL_wire_23 : decode cL_wire 23 = .ok (.istore 4, 2) := by decide +kernel
theorem dL_wire_25 : decode cL_wire 25 = .ok (.bipush 100, 2) := by decide +kernel
theorem dL_wire_27 : decode cL_wire 27 = .ok (.iload_n 1, 1) := by decide +kernel
theorem dL_wire_28 : decode cL_wire 28 = .ok (.sipush 512, 3) := by decide +kernel
theorem dL_wire_31 : decode cL_wire 31 = .ok (.idiv, 1) := by decide +kernel
theorem dL_wire_32 : decode cL_wire 32 = .ok (.sipush 900, 3) := by decide +kernel
theorem dL_wire_35 : decode cL_wire 35 = .ok (.irem, 1) := by decide +kernel
theorem dL_wire_36 : decode cL_wire 36 = .ok (.iadd, 1) := by decide +kernel
theorem dL_wire_37 : decode cL_wire 37 = .ok (.istore 5, 2) := by decide +kernel
theorem dL_wire_39 : decode cL_wire 39 = .ok (.iconst 0, 1) := by decide +kernel
theorem dL_wire_40 : decode cL_wire 40 = .ok (.istore 6, 2) := by decide +kernel
theorem dL_wire_42 : decode cL_wire 42 = .ok (.iload 6, 2) := by decide +kernel
theorem dL_wire_44 : decode cL_wire 44 = .ok (.bipush 32, 2) := by decide +kernel
theorem dL_wire_46 : decode cL_wire 46 = .ok (.if_icmp .ge 14, 3) := by decide +kernel
theorem dL_wire_49 : decode cL_wire 49 = .ok (.aload_n 2, 1) := by decide +kernel
theorem dL_wire_50 : decode cL_wire 50 = .ok (.iload 6, 2) := by decide +kernel
theorem dL_wire_52 : decode cL_wire 52 = .ok (.iconst 0, 1) := by decide +kernel
theorem dL_wire_53 : decode cL_wire 53 = .ok (.iastore, 1) := by decide +kernel
theorem dL_wire_54 : decode cL_wire 54 = .ok (.iinc 6 1, 3) := by decide +kernel
theorem dL_wire_57 : decode cL_wire 57 = .ok (.goto (-15), 3) := by decide +kernel
theorem dL_wire_60 : decode cL_wire 60 = .ok (.aload_n 2, 1) := by decide +kernel
theorem dL_wire_61 : decode cL_wire 61 = .ok (.iconst 0, 1) := by decide +kernel
theorem dL_wire_62 : decode cL_wire 62 = .ok (.iload_n 3, 1) := by decide +kernel
theorem dL_wire_63 : decode cL_wire 63 = .ok (.iastore, 1) := by decide +kernel
theorem dL_wire_64 : decode cL_wire 64 = .ok (.aload_n 2, 1) := by decide +kernel
theorem dL_wire_65 : decode cL_wire 65 = .ok (.iconst 1, 1) := by decide +kernel
theorem dL_wire_66 : decode cL_wire 66 = .ok (.iload_n 3, 1) := by decide +kernel
theorem dL_wire_67 : decode cL_wire 67 = .ok (.iload_n 3, 1) := by decide +kernel
theorem dL_wire_68 : decode cL_wire 68 = .ok (.imul, 1) := by decide +kernel
theorem dL_wire_69 : decode cL_wire 69 = .ok (.iload 4, 2) := by decide +kernel
theorem dL_wire_71 : decode cL_wire 71 = .ok (.imul, 1) := by decide +kernel
theorem dL_wire_72 : decode cL_wire 72 = .ok (.iastore, 1) := by decide +kernel
theorem dL_wire_73 : decode cL_wire 73 = .ok (.aload_n 2, 1) := by decide +kernel
theorem dL_wire_74 : decode cL_wire 74 = .ok (.iconst 2, 1) := by decide +kernel
theorem dL_wire_75 : decode cL_wire 75 = .ok (.iload 5, 2) := by decide +kernel
theorem dL_wire_77 : decode cL_wire 77 = .ok (.iastore, 1) := by decide +kernel
theorem dL_wire_78 : decode cL_wire 78 = .ok (.aload_n 2, 1) := by decide +kernel
theorem dL_wire_79 : decode cL_wire 79 = .ok (.iconst 3, 1) := by decide +kernel
theorem dL_wire_80 : decode cL_wire 80 = .ok (.iload_n 1, 1) := by decide +kernel
theorem dL_wire_81 : decode cL_wire 81 = .ok (.ldc 14, 2) := by decide +kernel
theorem dL_wire_83 : decode cL_wire 83 = .ok (.idiv, 1) := by decide +kernel
theorem dL_wire_84 : decode cL_wire 84 = .ok (.iconst 2, 1) := by decide +kernel
theorem dL_wire_85 : decode cL_wire 85 = .ok (.irem, 1) := by decide +kernel
theorem dL_wire_86 : decode cL_wire 86 = .ok (.iastore, 1) := by decide +kernel
theorem dL_wire_87 : decode cL_wire 87 = .ok (.aload_n 0, 1) := by decide +kernel
theorem dL_wire_88 : decode cL_wire 88 = .ok (.bipush 48, 2) := by decide +kernel
theorem dL_wire_90 : decode cL_wire 90 = .ok (.iload_n 3, 1) := by decide +kernel
theorem dL_wire_91 : decode cL_wire 91 = .ok (.bipush 10, 2) := by decide +kernel
theorem dL_wire_93 : decode cL_wire 93 = .ok (.idiv, 1) := by decide +kernel
theorem dL_wire_94 : decode cL_wire 94 = .ok (.iadd, 1) := by decide +kernel
theorem dL_wire_95 : decode cL_wire 95 = .ok (.invokestatic 15, 3) := by decide +kernel
theorem dL_wire_98 : decode cL_wire 98 = .ok (.ifCond .eq 114, 3) := by decide +kernel
theorem dL_wire_101 : decode cL_wire 101 = .ok (.aload_n 0, 1) := by decide +kernel
theorem dL_wire_102 : decode cL_wire 102 = .ok (.bipush 48, 2) := by decide +kernel
theorem dL_wire_104 : decode cL_wire 104 = .ok (.iload_n 3, 1) := by decide +kernel
theorem dL_wire_105 : decode cL_wire 105 = .ok (.bipush 10, 2) := by decide +kernel
theorem dL_wire_107 : decode cL_wire 107 = .ok (.irem, 1) := by decide +kernel
theorem dL_wire_108 : decode cL_wire 108 = .ok (.iadd, 1) := by decide +kernel
theorem dL_wire_109 : decode cL_wire 109 = .ok (.invokestatic 15, 3) := by decide +kernel
theorem dL_wire_112 : decode cL_wire 112 = .ok (.ifCond .eq 100, 3) := by decide +kernel
theorem dL_wire_115 : decode cL_wire 115 = .ok (.aload_n 0, 1) := by decide +kernel
theorem dL_wire_116 : decode cL_wire 116 = .ok (.bipush 58, 2) := by decide +kernel
theorem dL_wire_118 : decode cL_wire 118 = .ok (.invokestatic 15, 3) := by decide +kernel
theorem dL_wire_121 : decode cL_wire 121 = .ok (.ifCond .eq 91, 3) := by decide +kernel
theorem dL_wire_124 : decode cL_wire 124 = .ok (.aload_n 0, 1) := by decide +kernel
theorem dL_wire_125 : decode cL_wire 125 = .ok (.bipush 48, 2) := by decide +kernel
theorem dL_wire_127 : decode cL_wire 127 = .ok (.iload 4, 2) := by decide +kernel
theorem dL_wire_129 : decode cL_wire 129 = .ok (.iadd, 1) := by decide +kernel
theorem dL_wire_130 : decode cL_wire 130 = .ok (.invokestatic 15, 3) := by decide +kernel
theorem dL_wire_133 : decode cL_wire 133 = .ok (.ifCond .eq 79, 3) := by decide +kernel
theorem dL_wire_136 : decode cL_wire 136 = .ok (.aload_n 0, 1) := by decide +kernel
theorem dL_wire_137 : decode cL_wire 137 = .ok (.bipush 58, 2) := by decide +kernel
theorem dL_wire_139 : decode cL_wire 139 = .ok (.invokestatic 15, 3) := by decide +kernel
theorem dL_wire_142 : decode cL_wire 142 = .ok (.ifCond .eq 70, 3) := by decide +kernel
theorem dL_wire_145 : decode cL_wire 145 = .ok (.aload_n 0, 1) := by decide +kernel
theorem dL_wire_146 : decode cL_wire 146 = .ok (.bipush 48, 2) := by decide +kernel
theorem dL_wire_148 : decode cL_wire 148 = .ok (.iload 5, 2) := by decide +kernel
theorem dL_wire_150 : decode cL_wire 150 = .ok (.bipush 100, 2) := by decide +kernel
theorem dL_wire_152 : decode cL_wire 152 = .ok (.idiv, 1) := by decide +kernel
theorem dL_wire_153 : decode cL_wire 153 = .ok (.iadd, 1) := by decide +kernel
theorem dL_wire_154 : decode cL_wire 154 = .ok (.invokestatic 15, 3) := by decide +kernel
theorem dL_wire_157 : decode cL_wire 157 = .ok (.ifCond .eq 55, 3) := by decide +kernel
theorem dL_wire_160 : decode cL_wire 160 = .ok (.aload_n 0, 1) := by decide +kernel
theorem dL_wire_161 : decode cL_wire 161 = .ok (.bipush 48, 2) := by decide +kernel
theorem dL_wire_163 : decode cL_wire 163 = .ok (.iload 5, 2) := by decide +kernel
theorem dL_wire_165 : decode cL_wire 165 = .ok (.bipush 10, 2) := by decide +kernel
theorem dL_wire_167 : decode cL_wire 167 = .ok (.idiv, 1) := by decide +kernel
theorem dL_wire_168 : decode cL_wire 168 = .ok (.bipush 10, 2) := by decide +kernel
theorem dL_wire_170 : decode cL_wire 170 = .ok (.irem, 1) := by decide +kernel
theorem dL_wire_171 : decode cL_wire 171 = .ok (.iadd, 1) := by decide +kernel
theorem dL_wire_172 : decode cL_wire 172 = .ok (.invokestatic 15, 3) := by decide +kernel
theorem dL_wire_175 : decode cL_wire 175 = .ok (.ifCond .eq 37, 3) := by decide +kernel
theorem dL_wire_178 : decode cL_wire 178 = .ok (.aload_n 0, 1) := by decide +kernel
theorem dL_wire_179 : decode cL_wire 179 = .ok (.bipush 48, 2) := by decide +kernel
theorem dL_wire_181 : decode cL_wire 181 = .ok (.iload 5, 2) := by decide +kernel
theorem dL_wire_183 : decode cL_wire 183 = .ok (.bipush 10, 2) := by decide +kernel
theorem dL_wire_185 : decode cL_wire 185 = .ok (.irem, 1) := by decide +kernel
theorem dL_wire_186 : decode cL_wire 186 = .ok (.iadd, 1) := by decide +kernel
theorem dL_wire_187 : decode cL_wire 187 = .ok (.invokestatic 15, 3) := by decide +kernel
theorem dL_wire_190 : decode cL_wire 190 = .ok (.ifCond .eq 22, 3) := by decide +kernel
theorem dL_wire_193 : decode cL_wire 193 = .ok (.aload_n 2, 1) := by decide +kernel
theorem dL_wire_194 : decode cL_wire 194 = .ok (.iconst 3, 1) := by decide +kernel
theorem dL_wire_195 : decode cL_wire 195 = .ok (.iaload, 1) := by decide +kernel
theorem dL_wire_196 : decode cL_wire 196 = .ok (.ifCond .eq 12, 3) := by decide +kernel
theorem dL_wire_199 : decode cL_wire 199 = .ok (.aload_n 0, 1) := by decide +kernel
theorem dL_wire_200 : decode cL_wire 200 = .ok (.bipush 111, 2) := by decide +kernel
theorem dL_wire_202 : decode cL_wire 202 = .ok (.invokestatic 15, 3) := by decide +kernel
theorem dL_wire_205 : decode cL_wire 205 = .ok (.ifCond .eq 7, 3) := by decide +kernel
theorem dL_wire_208 : decode cL_wire 208 = .ok (.iconst 1, 1) := by decide +kernel
theorem dL_wire_209 : decode cL_wire 209 = .ok (.goto 4, 3) := by decide +kernel
theorem dL_wire_212 : decode cL_wire 212 = .ok (.iconst 0, 1) := by decide +kernel
theorem dL_wire_213 : decode cL_wire 213 = .ok (.istore 6, 2) := by decide +kernel
theorem dL_wire_215 : decode cL_wire 215 = .ok (.iload 6, 2) := by decide +kernel
theorem dL_wire_217 : decode cL_wire 217 = .ok (.ifCond .eq 30, 3) := by decide +kernel
theorem dL_wire_220 : decode cL_wire 220 = .ok (.aload_n 0, 1) := by decide +kernel
theorem dL_wire_221 : decode cL_wire 221 = .ok (.invokevirtual 21, 3) := by decide +kernel
theorem dL_wire_224 : decode cL_wire 224 = .ok (.bipush 8, 2) := by decide +kernel
theorem dL_wire_226 : decode cL_wire 226 = .ok (.aload_n 2, 1) := by decide +kernel
theorem dL_wire_227 : decode cL_wire 227 = .ok (.iconst 3, 1) := by decide +kernel
theorem dL_wire_228 : decode cL_wire 228 = .ok (.iaload, 1) := by decide +kernel
theorem dL_wire_229 : decode cL_wire 229 = .ok (.iadd, 1) := by decide +kernel
theorem dL_wire_230 : decode cL_wire 230 = .ok (.if_icmp .ne 17, 3) := by decide +kernel
theorem dL_wire_233 : decode cL_wire 233 = .ok (.aload_n 0, 1) := by decide +kernel
theorem dL_wire_234 : decode cL_wire 234 = .ok (.invokevirtual 25, 3) := by decide +kernel
theorem dL_wire_237 : decode cL_wire 237 = .ok (.aload_n 2, 1) := by decide +kernel
theorem dL_wire_238 : decode cL_wire 238 = .ok (.iconst 1, 1) := by decide +kernel
theorem dL_wire_239 : decode cL_wire 239 = .ok (.iaload, 1) := by decide +kernel
theorem dL_wire_240 : decode cL_wire 240 = .ok (.if_icmp .ne 7, 3) := by decide +kernel
theorem dL_wire_243 : decode cL_wire 243 = .ok (.iconst 1, 1) := by decide +kernel
theorem dL_wire_244 : decode cL_wire 244 = .ok (.goto 4, 3) := by decide +kernel
theorem dL_wire_247 : decode cL_wire 247 = .ok (.iconst 0, 1) := by decide +kernel
theorem dL_wire_248 : decode cL_wire 248 = .ok (.ireturn, 1) := by decide +kernel
theorem dL_thing_0 : decode cL_thing 0 = .ok (.bipush 8, 2) := by decide +kernel
theorem dL_thing_2 : decode cL_thing 2 = .ok (.iconst 4, 1) := by decide +kernel
theorem dL_thing_3 : decode cL_thing 3 = .ok (.aload_n 2, 1) := by decide +kernel
theorem dL_thing_4 : decode cL_thing 4 = .ok (.bipush 7, 2) := by decide +kernel
theorem dL_thing_6 : decode cL_thing 6 = .ok (.iaload, 1) := by decide +kernel
theorem dL_thing_7 : decode cL_thing 7 = .ok (.imul, 1) := by decide +kernel
theorem dL_thing_8 : decode cL_thing 8 = .ok (.iadd, 1) := by decide +kernel
theorem dL_thing_9 : decode cL_thing 9 = .ok (.istore_n 3, 1) := by decide +kernel
theorem dL_thing_10 : decode cL_thing 10 = .ok (.aload_n 2, 1) := by decide +kernel
theorem dL_thing_11 : decode cL_thing 11 = .ok (.iload_n 3, 1) := by decide +kernel
theorem dL_thing_12 : decode cL_thing 12 = .ok (.iload_n 1, 1) := by decide +kernel
theorem dL_thing_13 : decode cL_thing 13 = .ok (.iconst 5, 1) := by decide +kernel
theorem dL_thing_14 : decode cL_thing 14 = .ok (.irem, 1) := by decide +kernel
theorem dL_thing_15 : decode cL_thing 15 = .ok (.iastore, 1) := by decide +kernel
theorem dL_thing_16 : decode cL_thing 16 = .ok (.aload_n 2, 1) := by decide +kernel
theorem dL_thing_17 : decode cL_thing 17 = .ok (.iload_n 3, 1) := by decide +kernel
theorem dL_thing_18 : decode cL_thing 18 = .ok (.iconst 1, 1) := by decide +kernel
theorem dL_thing_19 : decode cL_thing 19 = .ok (.iadd, 1) := by decide +kernel
theorem dL_thing_20 : decode cL_thing 20 = .ok (.iconst 1, 1) := by decide +kernel
theorem dL_thing_21 : decode cL_thing 21 = .ok (.iload_n 1, 1) := by decide +kernel
theorem dL_thing_22 : decode cL_thing 22 = .ok (.bipush 8, 2) := by decide +kernel
theorem dL_thing_24 : decode cL_thing 24 = .ok (.idiv, 1) := by decide +kernel
theorem dL_thing_25 : decode cL_thing 25 = .ok (.bipush 20, 2) := by decide +kernel
theorem dL_thing_27 : decode cL_thing 27 = .ok (.irem, 1) := by decide +kernel
theorem dL_thing_28 : decode cL_thing 28 = .ok (.iadd, 1) := by decide +kernel
theorem dL_thing_29 : decode cL_thing 29 = .ok (.iastore, 1) := by decide +kernel
theorem dL_thing_30 : decode cL_thing 30 = .ok (.aload_n 2, 1) := by decide +kernel
theorem dL_thing_31 : decode cL_thing 31 = .ok (.iload_n 3, 1) := by decide +kernel
theorem dL_thing_32 : decode cL_thing 32 = .ok (.iconst 2, 1) := by decide +kernel
theorem dL_thing_33 : decode cL_thing 33 = .ok (.iadd, 1) := by decide +kernel
theorem dL_thing_34 : decode cL_thing 34 = .ok (.iload_n 1, 1) := by decide +kernel
theorem dL_thing_35 : decode cL_thing 35 = .ok (.sipush 256, 3) := by decide +kernel
theorem dL_thing_38 : decode cL_thing 38 = .ok (.idiv, 1) := by decide +kernel
theorem dL_thing_39 : decode cL_thing 39 = .ok (.iconst 2, 1) := by decide +kernel
theorem dL_thing_40 : decode cL_thing 40 = .ok (.irem, 1) := by decide +kernel
theorem dL_thing_41 : decode cL_thing 41 = .ok (.iastore, 1) := by decide +kernel
theorem dL_thing_42 : decode cL_thing 42 = .ok (.aload_n 2, 1) := by decide +kernel
theorem dL_thing_43 : decode cL_thing 43 = .ok (.iload_n 3, 1) := by decide +kernel
theorem dL_thing_44 : decode cL_thing 44 = .ok (.iconst 3, 1) := by decide +kernel
theorem dL_thing_45 : decode cL_thing 45 = .ok (.iadd, 1) := by decide +kernel
theorem dL_thing_46 : decode cL_thing 46 = .ok (.aload_n 2, 1) := by decide +kernel
theorem dL_thing_47 : decode cL_thing 47 = .ok (.iconst 5, 1) := by decide +kernel
theorem dL_thing_48 : decode cL_thing 48 = .ok (.iaload, 1) := by decide +kernel
theorem dL_thing_49 : decode cL_thing 49 = .ok (.iastore, 1) := by decide +kernel
theorem dL_thing_50 : decode cL_thing 50 = .ok (.aload_n 2, 1) := by decide +kernel
theorem dL_thing_51 : decode cL_thing 51 = .ok (.bipush 7, 2) := by decide +kernel
theorem dL_thing_53 : decode cL_thing 53 = .ok (.dup2, 1) := by decide +kernel
theorem dL_thing_54 : decode cL_thing 54 = .ok (.iaload, 1) := by decide +kernel
theorem dL_thing_55 : decode cL_thing 55 = .ok (.iconst 1, 1) := by decide +kernel
theorem dL_thing_56 : decode cL_thing 56 = .ok (.iadd, 1) := by decide +kernel
theorem dL_thing_57 : decode cL_thing 57 = .ok (.iastore, 1) := by decide +kernel
theorem dL_thing_58 : decode cL_thing 58 = .ok (.aload_n 0, 1) := by decide +kernel
theorem dL_thing_59 : decode cL_thing 59 = .ok (.iload_n 1, 1) := by decide +kernel
theorem dL_thing_60 : decode cL_thing 60 = .ok (.iconst 5, 1) := by decide +kernel
theorem dL_thing_61 : decode cL_thing 61 = .ok (.irem, 1) := by decide +kernel
theorem dL_thing_62 : decode cL_thing 62 = .ok (.aload_n 2, 1) := by decide +kernel
theorem dL_thing_63 : decode cL_thing 63 = .ok (.iload_n 3, 1) := by decide +kernel
theorem dL_thing_64 : decode cL_thing 64 = .ok (.iconst 1, 1) := by decide +kernel
theorem dL_thing_65 : decode cL_thing 65 = .ok (.iadd, 1) := by decide +kernel
theorem dL_thing_66 : decode cL_thing 66 = .ok (.iaload, 1) := by decide +kernel
theorem dL_thing_67 : decode cL_thing 67 = .ok (.aload_n 2, 1) := by decide +kernel
theorem dL_thing_68 : decode cL_thing 68 = .ok (.iload_n 3, 1) := by decide +kernel
theorem dL_thing_69 : decode cL_thing 69 = .ok (.iconst 2, 1) := by decide +kernel
theorem dL_thing_70 : decode cL_thing 70 = .ok (.iadd, 1) := by decide +kernel
theorem dL_thing_71 : decode cL_thing 71 = .ok (.iaload, 1) := by decide +kernel
theorem dL_thing_72 : decode cL_thing 72 = .ok (.invokevirtual 28, 3) := by decide +kernel
theorem dL_thing_75 : decode cL_thing 75 = .ok (.aload_n 2, 1) := by decide +kernel
theorem dL_thing_76 : decode cL_thing 76 = .ok (.bipush 7, 2) := by decide +kernel
theorem dL_thing_78 : decode cL_thing 78 = .ok (.iaload, 1) := by decide +kernel
theorem dL_thing_79 : decode cL_thing 79 = .ok (.iconst 1, 1) := by decide +kernel
theorem dL_thing_80 : decode cL_thing 80 = .ok (.isub, 1) := by decide +kernel
theorem dL_thing_81 : decode cL_thing 81 = .ok (.if_icmp .ne 7, 3) := by decide +kernel
theorem dL_thing_84 : decode cL_thing 84 = .ok (.iconst 1, 1) := by decide +kernel
theorem dL_thing_85 : decode cL_thing 85 = .ok (.goto 4, 3) := by decide +kernel
theorem dL_thing_88 : decode cL_thing 88 = .ok (.iconst 0, 1) := by decide +kernel
theorem dL_thing_89 : decode cL_thing 89 = .ok (.ireturn, 1) := by decide +kernel
theorem dL_weighs_0 : decode cL_weighs 0 = .ok (.aload_n 0, 1) := by decide +kernel
theorem dL_weighs_1 : decode cL_weighs 1 = .ok (.bipush 8, 2) := by decide +kernel
theorem dL_weighs_3 : decode cL_weighs 3 = .ok (.iconst 4, 1) := by decide +kernel
theorem dL_weighs_4 : decode cL_weighs 4 = .ok (.iload_n 1, 1) := by decide +kernel
theorem dL_weighs_5 : decode cL_weighs 5 = .ok (.imul, 1) := by decide +kernel
theorem dL_weighs_6 : decode cL_weighs 6 = .ok (.iadd, 1) := by decide +kernel
theorem dL_weighs_7 : decode cL_weighs 7 = .ok (.iaload, 1) := by decide +kernel
theorem dL_weighs_8 : decode cL_weighs 8 = .ok (.istore_n 3, 1) := by decide +kernel
theorem dL_weighs_9 : decode cL_weighs 9 = .ok (.aload_n 0, 1) := by decide +kernel
theorem dL_weighs_10 : decode cL_weighs 10 = .ok (.iconst 5, 1) := by decide +kernel
theorem dL_weighs_11 : decode cL_weighs 11 = .ok (.iaload, 1) := by decide +kernel
theorem dL_weighs_12 : decode cL_weighs 12 = .ok (.iload_n 2, 1) := by decide +kernel
theorem dL_weighs_13 : decode cL_weighs 13 = .ok (.iadd, 1) := by decide +kernel
theorem dL_weighs_14 : decode cL_weighs 14 = .ok (.aload_n 0, 1) := by decide +kernel
theorem dL_weighs_15 : decode cL_weighs 15 = .ok (.bipush 11, 2) := by decide +kernel
theorem dL_weighs_17 : decode cL_weighs 17 = .ok (.iconst 4, 1) := by decide +kernel
theorem dL_weighs_18 : decode cL_weighs 18 = .ok (.iload_n 1, 1) := by decide +kernel
theorem dL_weighs_19 : decode cL_weighs 19 = .ok (.imul, 1) := by decide +kernel
theorem dL_weighs_20 : decode cL_weighs 20 = .ok (.iadd, 1) := by decide +kernel
theorem dL_weighs_21 : decode cL_weighs 21 = .ok (.iaload, 1) := by decide +kernel
theorem dL_weighs_22 : decode cL_weighs 22 = .ok (.isub, 1) := by decide +kernel
theorem dL_weighs_23 : decode cL_weighs 23 = .ok (.bipush 6, 2) := by decide +kernel
theorem dL_weighs_25 : decode cL_weighs 25 = .ok (.idiv, 1) := by decide +kernel
theorem dL_weighs_26 : decode cL_weighs 26 = .ok (.istore 4, 2) := by decide +kernel
theorem dL_weighs_28 : decode cL_weighs 28 = .ok (.aload_n 0, 1) := by decide +kernel
theorem dL_weighs_29 : decode cL_weighs 29 = .ok (.bipush 9, 2) := by decide +kernel
theorem dL_weighs_31 : decode cL_weighs 31 = .ok (.iconst 4, 1) := by decide +kernel
theorem dL_weighs_32 : decode cL_weighs 32 = .ok (.iload_n 1, 1) := by decide +kernel
theorem dL_weighs_33 : decode cL_weighs 33 = .ok (.imul, 1) := by decide +kernel
theorem dL_weighs_34 : decode cL_weighs 34 = .ok (.iadd, 1) := by decide +kernel
theorem dL_weighs_35 : decode cL_weighs 35 = .ok (.iaload, 1) := by decide +kernel
theorem dL_weighs_36 : decode cL_weighs 36 = .ok (.iload_n 3, 1) := by decide +kernel
theorem dL_weighs_37 : decode cL_weighs 37 = .ok (.iconst 1, 1) := by decide +kernel
theorem dL_weighs_38 : decode cL_weighs 38 = .ok (.if_icmp .ne 7, 3) := by decide +kernel
theorem dL_weighs_41 : decode cL_weighs 41 = .ok (.iconst 2, 1) := by decide +kernel
theorem dL_weighs_42 : decode cL_weighs 42 = .ok (.goto 27, 3) := by decide +kernel
theorem dL_weighs_45 : decode cL_weighs 45 = .ok (.iload_n 3, 1) := by decide +kernel
theorem dL_weighs_46 : decode cL_weighs 46 = .ok (.iconst 3, 1) := by decide +kernel
theorem dL_weighs_47 : decode cL_weighs 47 = .ok (.if_icmp .ne 8, 3) := by decide +kernel
theorem dL_weighs_50 : decode cL_weighs 50 = .ok (.iload 4, 2) := by decide +kernel
theorem dL_weighs_52 : decode cL_weighs 52 = .ok (.goto 17, 3) := by decide +kernel
theorem dL_weighs_55 : decode cL_weighs 55 = .ok (.iload_n 3, 1) := by decide +kernel
theorem dL_weighs_56 : decode cL_weighs 56 = .ok (.iconst 4, 1) := by decide +kernel
theorem dL_weighs_57 : decode cL_weighs 57 = .ok (.if_icmp .ne 11, 3) := by decide +kernel
theorem dL_weighs_60 : decode cL_weighs 60 = .ok (.iload 4, 2) := by decide +kernel
theorem dL_weighs_62 : decode cL_weighs 62 = .ok (.iload 4, 2) := by decide +kernel
theorem dL_weighs_64 : decode cL_weighs 64 = .ok (.iadd, 1) := by decide +kernel
theorem dL_weighs_65 : decode cL_weighs 65 = .ok (.goto 4, 3) := by decide +kernel
theorem dL_weighs_68 : decode cL_weighs 68 = .ok (.iconst 0, 1) := by decide +kernel
theorem dL_weighs_69 : decode cL_weighs 69 = .ok (.iadd, 1) := by decide +kernel
theorem dL_weighs_70 : decode cL_weighs 70 = .ok (.ireturn, 1) := by decide +kernel
theorem dL_cabin_0 : decode cL_cabin 0 = .ok (.bipush 10, 2) := by decide +kernel
theorem dL_cabin_2 : decode cL_cabin 2 = .ok (.istore 4, 2) := by decide +kernel
theorem dL_cabin_4 : decode cL_cabin 4 = .ok (.iconst 0, 1) := by decide +kernel
theorem dL_cabin_5 : decode cL_cabin 5 = .ok (.istore 5, 2) := by decide +kernel
theorem dL_cabin_7 : decode cL_cabin 7 = .ok (.iload 5, 2) := by decide +kernel
theorem dL_cabin_9 : decode cL_cabin 9 = .ok (.aload_n 0, 1) := by decide +kernel
theorem dL_cabin_10 : decode cL_cabin 10 = .ok (.bipush 7, 2) := by decide +kernel
theorem dL_cabin_12 : decode cL_cabin 12 = .ok (.iaload, 1) := by decide +kernel
theorem dL_cabin_13 : decode cL_cabin 13 = .ok (.if_icmp .ge 51, 3) := by decide +kernel
theorem dL_cabin_16 : decode cL_cabin 16 = .ok (.aload_n 0, 1) := by decide +kernel
theorem dL_cabin_17 : decode cL_cabin 17 = .ok (.bipush 10, 2) := by decide +kernel
theorem dL_cabin_19 : decode cL_cabin 19 = .ok (.iconst 4, 1) := by decide +kernel
theorem dL_cabin_20 : decode cL_cabin 20 = .ok (.iload 5, 2) := by decide +kernel
theorem dL_cabin_22 : decode cL_cabin 22 = .ok (.imul, 1) := by decide +kernel
theorem dL_cabin_23 : decode cL_cabin 23 = .ok (.iadd, 1) := by decide +kernel
theorem dL_cabin_24 : decode cL_cabin 24 = .ok (.iaload, 1) := by decide +kernel
theorem dL_cabin_25 : decode cL_cabin 25 = .ok (.iload_n 2, 1) := by decide +kernel
theorem dL_cabin_26 : decode cL_cabin 26 = .ok (.iload 5, 2) := by decide +kernel
theorem dL_cabin_28 : decode cL_cabin 28 = .ok (.ishr, 1) := by decide +kernel
theorem dL_cabin_29 : decode cL_cabin 29 = .ok (.iconst 1, 1) := by decide +kernel
theorem dL_cabin_30 : decode cL_cabin 30 = .ok (.iand, 1) := by decide +kernel
theorem dL_cabin_31 : decode cL_cabin 31 = .ok (.iadd, 1) := by decide +kernel
theorem dL_cabin_32 : decode cL_cabin 32 = .ok (.iconst 2, 1) := by decide +kernel
theorem dL_cabin_33 : decode cL_cabin 33 = .ok (.irem, 1) := by decide +kernel
theorem dL_cabin_34 : decode cL_cabin 34 = .ok (.istore 6, 2) := by decide +kernel
theorem dL_cabin_36 : decode cL_cabin 36 = .ok (.iload 4, 2) := by decide +kernel
theorem dL_cabin_38 : decode cL_cabin 38 = .ok (.iload 6, 2) := by decide +kernel
theorem dL_cabin_40 : decode cL_cabin 40 = .ok (.iload_n 1, 1) := by decide +kernel
theorem dL_cabin_41 : decode cL_cabin 41 = .ok (.if_icmp .ne 13, 3) := by decide +kernel
theorem dL_cabin_44 : decode cL_cabin 44 = .ok (.aload_n 0, 1) := by decide +kernel
theorem dL_cabin_45 : decode cL_cabin 45 = .ok (.iload 5, 2) := by decide +kernel
theorem dL_cabin_47 : decode cL_cabin 47 = .ok (.iload_n 3, 1) := by decide +kernel
theorem dL_cabin_48 : decode cL_cabin 48 = .ok (.invokestatic 32, 3) := by decide +kernel
theorem dL_cabin_51 : decode cL_cabin 51 = .ok (.goto 4, 3) := by decide +kernel
theorem dL_cabin_54 : decode cL_cabin 54 = .ok (.iconst 0, 1) := by decide +kernel
theorem dL_cabin_55 : decode cL_cabin 55 = .ok (.iadd, 1) := by decide +kernel
theorem dL_cabin_56 : decode cL_cabin 56 = .ok (.istore 4, 2) := by decide +kernel
theorem dL_cabin_58 : decode cL_cabin 58 = .ok (.iinc 5 1, 3) := by decide +kernel
theorem dL_cabin_61 : decode cL_cabin 61 = .ok (.goto (-54), 3) := by decide +kernel
theorem dL_cabin_64 : decode cL_cabin 64 = .ok (.iload 4, 2) := by decide +kernel
theorem dL_cabin_66 : decode cL_cabin 66 = .ok (.ireturn, 1) := by decide +kernel
theorem dL_turns_0 : decode cL_turns 0 = .ok (.aload_n 0, 1) := by decide +kernel
theorem dL_turns_1 : decode cL_turns 1 = .ok (.iconst 1, 1) := by decide +kernel
theorem dL_turns_2 : decode cL_turns 2 = .ok (.iaload, 1) := by decide +kernel
theorem dL_turns_3 : decode cL_turns 3 = .ok (.iload_n 1, 1) := by decide +kernel
theorem dL_turns_4 : decode cL_turns 4 = .ok (.iload_n 1, 1) := by decide +kernel
theorem dL_turns_5 : decode cL_turns 5 = .ok (.imul, 1) := by decide +kernel
theorem dL_turns_6 : decode cL_turns 6 = .ok (.idiv, 1) := by decide +kernel
theorem dL_turns_7 : decode cL_turns 7 = .ok (.ireturn, 1) := by decide +kernel
theorem dL_arm_0 : decode cL_arm 0 = .ok (.aload_n 0, 1) := by decide +kernel
theorem dL_arm_1 : decode cL_arm 1 = .ok (.iconst 0, 1) := by decide +kernel
theorem dL_arm_2 : decode cL_arm 2 = .ok (.iload_n 2, 1) := by decide +kernel
theorem dL_arm_3 : decode cL_arm 3 = .ok (.iload 4, 2) := by decide +kernel
theorem dL_arm_5 : decode cL_arm 5 = .ok (.invokestatic 36, 3) := by decide +kernel
theorem dL_arm_8 : decode cL_arm 8 = .ok (.istore 5, 2) := by decide +kernel
theorem dL_arm_10 : decode cL_arm 10 = .ok (.aload_n 0, 1) := by decide +kernel
theorem dL_arm_11 : decode cL_arm 11 = .ok (.iconst 1, 1) := by decide +kernel
theorem dL_arm_12 : decode cL_arm 12 = .ok (.iload_n 2, 1) := by decide +kernel
theorem dL_arm_13 : decode cL_arm 13 = .ok (.iload 4, 2) := by decide +kernel
theorem dL_arm_15 : decode cL_arm 15 = .ok (.invokestatic 36, 3) := by decide +kernel
theorem dL_arm_18 : decode cL_arm 18 = .ok (.istore 6, 2) := by decide +kernel
theorem dL_arm_20 : decode cL_arm 20 = .ok (.iload_n 3, 1) := by decide +kernel
theorem dL_arm_21 : decode cL_arm 21 = .ok (.iload 6, 2) := by decide +kernel
theorem dL_arm_23 : decode cL_arm 23 = .ok (.imul, 1) := by decide +kernel
theorem dL_arm_24 : decode cL_arm 24 = .ok (.iload_n 3, 1) := by decide +kernel
theorem dL_arm_25 : decode cL_arm 25 = .ok (.iload 6, 2) := by decide +kernel
theorem dL_arm_27 : decode cL_arm 27 = .ok (.imul, 1) := by decide +kernel
theorem dL_arm_28 : decode cL_arm 28 = .ok (.iload 5, 2) := by decide +kernel
theorem dL_arm_30 : decode cL_arm 30 = .ok (.iload 6, 2) := by decide +kernel
theorem dL_arm_32 : decode cL_arm 32 = .ok (.iadd, 1) := by decide +kernel
theorem dL_arm_33 : decode cL_arm 33 = .ok (.irem, 1) := by decide +kernel
theorem dL_arm_34 : decode cL_arm 34 = .ok (.isub, 1) := by decide +kernel
theorem dL_arm_35 : decode cL_arm 35 = .ok (.iload 5, 2) := by decide +kernel
theorem dL_arm_37 : decode cL_arm 37 = .ok (.iload 6, 2) := by decide +kernel
theorem dL_arm_39 : decode cL_arm 39 = .ok (.iadd, 1) := by decide +kernel
theorem dL_arm_40 : decode cL_arm 40 = .ok (.idiv, 1) := by decide +kernel
theorem dL_arm_41 : decode cL_arm 41 = .ok (.istore 7, 2) := by decide +kernel
theorem dL_arm_43 : decode cL_arm 43 = .ok (.iload_n 1, 1) := by decide +kernel
theorem dL_arm_44 : decode cL_arm 44 = .ok (.ifCond .ne 8, 3) := by decide +kernel
theorem dL_arm_47 : decode cL_arm 47 = .ok (.iload 7, 2) := by decide +kernel
theorem dL_arm_49 : decode cL_arm 49 = .ok (.goto 7, 3) := by decide +kernel
theorem dL_arm_52 : decode cL_arm 52 = .ok (.iload_n 3, 1) := by decide +kernel
theorem dL_arm_53 : decode cL_arm 53 = .ok (.iload 7, 2) := by decide +kernel
theorem dL_arm_55 : decode cL_arm 55 = .ok (.isub, 1) := by decide +kernel
theorem dL_arm_56 : decode cL_arm 56 = .ok (.ireturn, 1) := by decide +kernel
theorem dL_floor_0 : decode cL_floor 0 = .ok (.aload_n 0, 1) := by decide +kernel
theorem dL_floor_1 : decode cL_floor 1 = .ok (.iload_n 3, 1) := by decide +kernel
theorem dL_floor_2 : decode cL_floor 2 = .ok (.invokestatic 40, 3) := by decide +kernel
theorem dL_floor_5 : decode cL_floor 5 = .ok (.istore 5, 2) := by decide +kernel
theorem dL_floor_7 : decode cL_floor 7 = .ok (.iload 5, 2) := by decide +kernel
theorem dL_floor_9 : decode cL_floor 9 = .ok (.aload_n 0, 1) := by decide +kernel
theorem dL_floor_10 : decode cL_floor 10 = .ok (.iload_n 1, 1) := by decide +kernel
theorem dL_floor_11 : decode cL_floor 11 = .ok (.iload_n 2, 1) := by decide +kernel
theorem dL_floor_12 : decode cL_floor 12 = .ok (.iload_n 3, 1) := by decide +kernel
theorem dL_floor_13 : decode cL_floor 13 = .ok (.iload 4, 2) := by decide +kernel
theorem dL_floor_15 : decode cL_floor 15 = .ok (.invokestatic 44, 3) := by decide +kernel
theorem dL_floor_18 : decode cL_floor 18 = .ok (.imul, 1) := by decide +kernel
theorem dL_floor_19 : decode cL_floor 19 = .ok (.iload 5, 2) := by decide +kernel
theorem dL_floor_21 : decode cL_floor 21 = .ok (.imul, 1) := by decide +kernel
theorem dL_floor_22 : decode cL_floor 22 = .ok (.ireturn, 1) := by decide +kernel
theorem dL_strain_0 : decode cL_strain 0 = .ok (.aload_n 0, 1) := by decide +kernel
theorem dL_strain_1 : decode cL_strain 1 = .ok (.iconst 0, 1) := by decide +kernel
theorem dL_strain_2 : decode cL_strain 2 = .ok (.iconst 0, 1) := by decide +kernel
theorem dL_strain_3 : decode cL_strain 3 = .ok (.iload_n 1, 1) := by decide +kernel
theorem dL_strain_4 : decode cL_strain 4 = .ok (.iload_n 2, 1) := by decide +kernel
theorem dL_strain_5 : decode cL_strain 5 = .ok (.invokestatic 48, 3) := by decide +kernel
theorem dL_strain_8 : decode cL_strain 8 = .ok (.aload_n 0, 1) := by decide +kernel
theorem dL_strain_9 : decode cL_strain 9 = .ok (.iconst 0, 1) := by decide +kernel
theorem dL_strain_10 : decode cL_strain 10 = .ok (.iconst 0, 1) := by decide +kernel
theorem dL_strain_11 : decode cL_strain 11 = .ok (.iload_n 2, 1) := by decide +kernel
theorem dL_strain_12 : decode cL_strain 12 = .ok (.invokestatic 36, 3) := by decide +kernel
theorem dL_strain_15 : decode cL_strain 15 = .ok (.imul, 1) := by decide +kernel
theorem dL_strain_16 : decode cL_strain 16 = .ok (.bipush 100, 2) := by decide +kernel
theorem dL_strain_18 : decode cL_strain 18 = .ok (.idiv, 1) := by decide +kernel
theorem dL_strain_19 : decode cL_strain 19 = .ok (.ireturn, 1) := by decide +kernel
theorem dL_hour_0 : decode cL_hour 0 = .ok (.aload_n 0, 1) := by decide +kernel
theorem dL_hour_1 : decode cL_hour 1 = .ok (.iconst 0, 1) := by decide +kernel
theorem dL_hour_2 : decode cL_hour 2 = .ok (.dup2, 1) := by decide +kernel
theorem dL_hour_3 : decode cL_hour 3 = .ok (.iaload, 1) := by decide +kernel
theorem dL_hour_4 : decode cL_hour 4 = .ok (.iload_n 1, 1) := by decide +kernel
theorem dL_hour_5 : decode cL_hour 5 = .ok (.isub, 1) := by decide +kernel
theorem dL_hour_6 : decode cL_hour 6 = .ok (.iastore, 1) := by decide +kernel
theorem dL_hour_7 : decode cL_hour 7 = .ok (.aload_n 0, 1) := by decide +kernel
theorem dL_hour_8 : decode cL_hour 8 = .ok (.iconst 5, 1) := by decide +kernel
theorem dL_hour_9 : decode cL_hour 9 = .ok (.dup2, 1) := by decide +kernel
theorem dL_hour_10 : decode cL_hour 10 = .ok (.iaload, 1) := by decide +kernel
theorem dL_hour_11 : decode cL_hour 11 = .ok (.iconst 1, 1) := by decide +kernel
theorem dL_hour_12 : decode cL_hour 12 = .ok (.iadd, 1) := by decide +kernel
theorem dL_hour_13 : decode cL_hour 13 = .ok (.iastore, 1) := by decide +kernel
theorem dL_hour_14 : decode cL_hour 14 = .ok (.aload_n 0, 1) := by decide +kernel
theorem dL_hour_15 : decode cL_hour 15 = .ok (.iconst 4, 1) := by decide +kernel
theorem dL_hour_16 : decode cL_hour 16 = .ok (.aload_n 0, 1) := by decide +kernel
theorem dL_hour_17 : decode cL_hour 17 = .ok (.iconst 4, 1) := by decide +kernel
theorem dL_hour_18 : decode cL_hour 18 = .ok (.iaload, 1) := by decide +kernel
theorem dL_hour_19 : decode cL_hour 19 = .ok (.aload_n 0, 1) := by decide +kernel
theorem dL_hour_20 : decode cL_hour 20 = .ok (.aload_n 0, 1) := by decide +kernel
theorem dL_hour_21 : decode cL_hour 21 = .ok (.iconst 0, 1) := by decide +kernel
theorem dL_hour_22 : decode cL_hour 22 = .ok (.iaload, 1) := by decide +kernel
theorem dL_hour_23 : decode cL_hour 23 = .ok (.invokestatic 40, 3) := by decide +kernel
theorem dL_hour_26 : decode cL_hour 26 = .ok (.bipush 10, 2) := by decide +kernel
theorem dL_hour_28 : decode cL_hour 28 = .ok (.imul, 1) := by decide +kernel
theorem dL_hour_29 : decode cL_hour 29 = .ok (.iadd, 1) := by decide +kernel
theorem dL_hour_30 : decode cL_hour 30 = .ok (.sipush 360, 3) := by decide +kernel
theorem dL_hour_33 : decode cL_hour 33 = .ok (.irem, 1) := by decide +kernel
theorem dL_hour_34 : decode cL_hour 34 = .ok (.iastore, 1) := by decide +kernel
theorem dL_hour_35 : decode cL_hour 35 = .ok (.aload_n 0, 1) := by decide +kernel
theorem dL_hour_36 : decode cL_hour 36 = .ok (.bipush 6, 2) := by decide +kernel
theorem dL_hour_38 : decode cL_hour 38 = .ok (.aload_n 0, 1) := by decide +kernel
theorem dL_hour_39 : decode cL_hour 39 = .ok (.aload_n 0, 1) := by decide +kernel
theorem dL_hour_40 : decode cL_hour 40 = .ok (.iconst 0, 1) := by decide +kernel
theorem dL_hour_41 : decode cL_hour 41 = .ok (.iaload, 1) := by decide +kernel
theorem dL_hour_42 : decode cL_hour 42 = .ok (.iconst 0, 1) := by decide +kernel
theorem dL_hour_43 : decode cL_hour 43 = .ok (.invokestatic 51, 3) := by decide +kernel
theorem dL_hour_46 : decode cL_hour 46 = .ok (.aload_n 0, 1) := by decide +kernel
theorem dL_hour_47 : decode cL_hour 47 = .ok (.iconst 2, 1) := by decide +kernel
theorem dL_hour_48 : decode cL_hour 48 = .ok (.iaload, 1) := by decide +kernel
theorem dL_hour_49 : decode cL_hour 49 = .ok (.if_icmp .le 7, 3) := by decide +kernel
theorem dL_hour_52 : decode cL_hour 52 = .ok (.iconst 1, 1) := by decide +kernel
theorem dL_hour_53 : decode cL_hour 53 = .ok (.goto 4, 3) := by decide +kernel
theorem dL_hour_56 : decode cL_hour 56 = .ok (.iconst 0, 1) := by decide +kernel
theorem dL_hour_57 : decode cL_hour 57 = .ok (.iastore, 1) := by decide +kernel
theorem dL_hour_58 : decode cL_hour 58 = .ok (.aload_n 0, 1) := by decide +kernel
theorem dL_hour_59 : decode cL_hour 59 = .ok (.bipush 6, 2) := by decide +kernel
theorem dL_hour_61 : decode cL_hour 61 = .ok (.iaload, 1) := by decide +kernel
theorem dL_hour_62 : decode cL_hour 62 = .ok (.iconst 1, 1) := by decide +kernel
theorem dL_hour_63 : decode cL_hour 63 = .ok (.if_icmp .ne 7, 3) := by decide +kernel
theorem dL_hour_66 : decode cL_hour 66 = .ok (.iconst (-1), 1) := by decide +kernel
theorem dL_hour_67 : decode cL_hour 67 = .ok (.goto 6, 3) := by decide +kernel
theorem dL_hour_70 : decode cL_hour 70 = .ok (.aload_n 0, 1) := by decide +kernel
theorem dL_hour_71 : decode cL_hour 71 = .ok (.iconst 0, 1) := by decide +kernel
theorem dL_hour_72 : decode cL_hour 72 = .ok (.iaload, 1) := by decide +kernel
theorem dL_hour_73 : decode cL_hour 73 = .ok (.ireturn, 1) := by decide +kernel
theorem dL_told_0 : decode cL_told 0 = .ok (.aload_n 0, 1) := by decide +kernel
theorem dL_told_1 : decode cL_told 1 = .ok (.iconst 0, 1) := by decide +kernel
theorem dL_told_2 : decode cL_told 2 = .ok (.invokevirtual 54, 3) := by decide +kernel
theorem dL_told_5 : decode cL_told 5 = .ok (.aload_n 1, 1) := by decide +kernel
theorem dL_told_6 : decode cL_told 6 = .ok (.iconst 0, 1) := by decide +kernel
theorem dL_told_7 : decode cL_told 7 = .ok (.iaload, 1) := by decide +kernel
theorem dL_told_8 : decode cL_told 8 = .ok (.if_icmp .ne 121, 3) := by decide +kernel
theorem dL_told_11 : decode cL_told 11 = .ok (.aload_n 0, 1) := by decide +kernel
theorem dL_told_12 : decode cL_told 12 = .ok (.iconst 1, 1) := by decide +kernel
theorem dL_told_13 : decode cL_told 13 = .ok (.invokevirtual 54, 3) := by decide +kernel
theorem dL_told_16 : decode cL_told 16 = .ok (.aload_n 1, 1) := by decide +kernel
theorem dL_told_17 : decode cL_told 17 = .ok (.aload_n 1, 1) := by decide +kernel
theorem dL_told_18 : decode cL_told 18 = .ok (.iconst 0, 1) := by decide +kernel
theorem dL_told_19 : decode cL_told 19 = .ok (.iaload, 1) := by decide +kernel
theorem dL_told_20 : decode cL_told 20 = .ok (.invokestatic 40, 3) := by decide +kernel
theorem dL_told_23 : decode cL_told 23 = .ok (.if_icmp .ne 106, 3) := by decide +kernel
theorem dL_told_26 : decode cL_told 26 = .ok (.aload_n 0, 1) := by decide +kernel
theorem dL_told_27 : decode cL_told 27 = .ok (.iconst 2, 1) := by decide +kernel
theorem dL_told_28 : decode cL_told 28 = .ok (.invokevirtual 54, 3) := by decide +kernel
theorem dL_told_31 : decode cL_told 31 = .ok (.aload_n 1, 1) := by decide +kernel
theorem dL_told_32 : decode cL_told 32 = .ok (.iconst 1, 1) := by decide +kernel
theorem dL_told_33 : decode cL_told 33 = .ok (.iaload, 1) := by decide +kernel
theorem dL_told_34 : decode cL_told 34 = .ok (.if_icmp .ne 95, 3) := by decide +kernel
theorem dL_told_37 : decode cL_told 37 = .ok (.aload_n 0, 1) := by decide +kernel
theorem dL_told_38 : decode cL_told 38 = .ok (.iconst 3, 1) := by decide +kernel
theorem dL_told_39 : decode cL_told 39 = .ok (.invokevirtual 54, 3) := by decide +kernel
theorem dL_told_42 : decode cL_told 42 = .ok (.aload_n 1, 1) := by decide +kernel
theorem dL_told_43 : decode cL_told 43 = .ok (.aload_n 1, 1) := by decide +kernel
theorem dL_told_44 : decode cL_told 44 = .ok (.iconst 0, 1) := by decide +kernel
theorem dL_told_45 : decode cL_told 45 = .ok (.iaload, 1) := by decide +kernel
theorem dL_told_46 : decode cL_told 46 = .ok (.iconst 0, 1) := by decide +kernel
theorem dL_told_47 : decode cL_told 47 = .ok (.invokestatic 51, 3) := by decide +kernel
theorem dL_told_50 : decode cL_told 50 = .ok (.if_icmp .ne 79, 3) := by decide +kernel
theorem dL_told_53 : decode cL_told 53 = .ok (.aload_n 0, 1) := by decide +kernel
theorem dL_told_54 : decode cL_told 54 = .ok (.iconst 4, 1) := by decide +kernel
theorem dL_told_55 : decode cL_told 55 = .ok (.invokevirtual 54, 3) := by decide +kernel
theorem dL_told_58 : decode cL_told 58 = .ok (.aload_n 1, 1) := by decide +kernel
theorem dL_told_59 : decode cL_told 59 = .ok (.iconst 2, 1) := by decide +kernel
theorem dL_told_60 : decode cL_told 60 = .ok (.iaload, 1) := by decide +kernel
theorem dL_told_61 : decode cL_told 61 = .ok (.if_icmp .ne 68, 3) := by decide +kernel
theorem dL_told_64 : decode cL_told 64 = .ok (.aload_n 0, 1) := by decide +kernel
theorem dL_told_65 : decode cL_told 65 = .ok (.iconst 5, 1) := by decide +kernel
theorem dL_told_66 : decode cL_told 66 = .ok (.invokevirtual 54, 3) := by decide +kernel
theorem dL_told_69 : decode cL_told 69 = .ok (.aload_n 1, 1) := by decide +kernel
theorem dL_told_70 : decode cL_told 70 = .ok (.iconst 3, 1) := by decide +kernel
theorem dL_told_71 : decode cL_told 71 = .ok (.iaload, 1) := by decide +kernel
theorem dL_told_72 : decode cL_told 72 = .ok (.if_icmp .ne 57, 3) := by decide +kernel
theorem dL_told_75 : decode cL_told 75 = .ok (.aload_n 0, 1) := by decide +kernel
theorem dL_told_76 : decode cL_told 76 = .ok (.bipush 6, 2) := by decide +kernel
theorem dL_told_78 : decode cL_told 78 = .ok (.invokevirtual 54, 3) := by decide +kernel
theorem dL_told_81 : decode cL_told 81 = .ok (.aload_n 1, 1) := by decide +kernel
theorem dL_told_82 : decode cL_told 82 = .ok (.iconst 4, 1) := by decide +kernel
theorem dL_told_83 : decode cL_told 83 = .ok (.iaload, 1) := by decide +kernel
theorem dL_told_84 : decode cL_told 84 = .ok (.if_icmp .ne 45, 3) := by decide +kernel
theorem dL_told_87 : decode cL_told 87 = .ok (.aload_n 0, 1) := by decide +kernel
theorem dL_told_88 : decode cL_told 88 = .ok (.bipush 7, 2) := by decide +kernel
theorem dL_told_90 : decode cL_told 90 = .ok (.invokevirtual 54, 3) := by decide +kernel
theorem dL_told_93 : decode cL_told 93 = .ok (.aload_n 1, 1) := by decide +kernel
theorem dL_told_94 : decode cL_told 94 = .ok (.iconst 5, 1) := by decide +kernel
theorem dL_told_95 : decode cL_told 95 = .ok (.iaload, 1) := by decide +kernel
theorem dL_told_96 : decode cL_told 96 = .ok (.if_icmp .ne 33, 3) := by decide +kernel
theorem dL_told_99 : decode cL_told 99 = .ok (.aload_n 0, 1) := by decide +kernel
theorem dL_told_100 : decode cL_told 100 = .ok (.bipush 8, 2) := by decide +kernel
theorem dL_told_102 : decode cL_told 102 = .ok (.invokevirtual 54, 3) := by decide +kernel
theorem dL_told_105 : decode cL_told 105 = .ok (.aload_n 1, 1) := by decide +kernel
theorem dL_told_106 : decode cL_told 106 = .ok (.bipush 6, 2) := by decide +kernel
theorem dL_told_108 : decode cL_told 108 = .ok (.iaload, 1) := by decide +kernel
theorem dL_told_109 : decode cL_told 109 = .ok (.if_icmp .ne 20, 3) := by decide +kernel
theorem dL_told_112 : decode cL_told 112 = .ok (.aload_n 0, 1) := by decide +kernel
theorem dL_told_113 : decode cL_told 113 = .ok (.bipush 9, 2) := by decide +kernel
theorem dL_told_115 : decode cL_told 115 = .ok (.invokevirtual 54, 3) := by decide +kernel
theorem dL_told_118 : decode cL_told 118 = .ok (.aload_n 1, 1) := by decide +kernel
theorem dL_told_119 : decode cL_told 119 = .ok (.bipush 7, 2) := by decide +kernel
theorem dL_told_121 : decode cL_told 121 = .ok (.iaload, 1) := by decide +kernel
theorem dL_told_122 : decode cL_told 122 = .ok (.if_icmp .ne 7, 3) := by decide +kernel
theorem dL_told_125 : decode cL_told 125 = .ok (.iconst 1, 1) := by decide +kernel
theorem dL_told_126 : decode cL_told 126 = .ok (.goto 4, 3) := by decide +kernel
theorem dL_told_129 : decode cL_told 129 = .ok (.iconst 0, 1) := by decide +kernel
theorem dL_told_130 : decode cL_told 130 = .ok (.istore_n 2, 1) := by decide +kernel
theorem dL_told_131 : decode cL_told 131 = .ok (.iconst 0, 1) := by decide +kernel
theorem dL_told_132 : decode cL_told 132 = .ok (.istore_n 3, 1) := by decide +kernel
theorem dL_told_133 : decode cL_told 133 = .ok (.iconst 0, 1) := by decide +kernel
theorem dL_told_134 : decode cL_told 134 = .ok (.istore 4, 2) := by decide +kernel
theorem dL_told_136 : decode cL_told 136 = .ok (.iload 4, 2) := by decide +kernel
theorem dL_told_138 : decode cL_told 138 = .ok (.aload_n 1, 1) := by decide +kernel
theorem dL_told_139 : decode cL_told 139 = .ok (.bipush 7, 2) := by decide +kernel
theorem dL_told_141 : decode cL_told 141 = .ok (.iaload, 1) := by decide +kernel
theorem dL_told_142 : decode cL_told 142 = .ok (.if_icmp .ge 136, 3) := by decide +kernel
theorem dL_told_145 : decode cL_told 145 = .ok (.iload_n 3, 1) := by decide +kernel
theorem dL_told_146 : decode cL_told 146 = .ok (.aload_n 1, 1) := by decide +kernel
theorem dL_told_147 : decode cL_told 147 = .ok (.bipush 10, 2) := by decide +kernel
theorem dL_told_149 : decode cL_told 149 = .ok (.iconst 4, 1) := by decide +kernel
theorem dL_told_150 : decode cL_told 150 = .ok (.iload 4, 2) := by decide +kernel
theorem dL_told_152 : decode cL_told 152 = .ok (.imul, 1) := by decide +kernel
theorem dL_told_153 : decode cL_told 153 = .ok (.iadd, 1) := by decide +kernel
theorem dL_told_154 : decode cL_told 154 = .ok (.iaload, 1) := by decide +kernel
theorem dL_told_155 : decode cL_told 155 = .ok (.ifCond .ne 7, 3) := by decide +kernel
theorem dL_told_158 : decode cL_told 158 = .ok (.iconst 1, 1) := by decide +kernel
theorem dL_told_159 : decode cL_told 159 = .ok (.goto 4, 3) := by decide +kernel
theorem dL_told_162 : decode cL_told 162 = .ok (.iconst 0, 1) := by decide +kernel
theorem dL_told_163 : decode cL_told 163 = .ok (.iadd, 1) := by decide +kernel
theorem dL_told_164 : decode cL_told 164 = .ok (.istore_n 3, 1) := by decide +kernel
theorem dL_told_165 : decode cL_told 165 = .ok (.iload_n 2, 1) := by decide +kernel
theorem dL_told_166 : decode cL_told 166 = .ok (.ifCond .eq 104, 3) := by decide +kernel
theorem dL_told_169 : decode cL_told 169 = .ok (.aload_n 0, 1) := by decide +kernel
theorem dL_told_170 : decode cL_told 170 = .ok (.iload 4, 2) := by decide +kernel
theorem dL_told_172 : decode cL_told 172 = .ok (.iconst 0, 1) := by decide +kernel
theorem dL_told_173 : decode cL_told 173 = .ok (.invokevirtual 58, 3) := by decide +kernel
theorem dL_told_176 : decode cL_told 176 = .ok (.aload_n 1, 1) := by decide +kernel
theorem dL_told_177 : decode cL_told 177 = .ok (.bipush 8, 2) := by decide +kernel
theorem dL_told_179 : decode cL_told 179 = .ok (.iconst 4, 1) := by decide +kernel
theorem dL_told_180 : decode cL_told 180 = .ok (.iload 4, 2) := by decide +kernel
theorem dL_told_182 : decode cL_told 182 = .ok (.imul, 1) := by decide +kernel
theorem dL_told_183 : decode cL_told 183 = .ok (.iadd, 1) := by decide +kernel
theorem dL_told_184 : decode cL_told 184 = .ok (.iaload, 1) := by decide +kernel
theorem dL_told_185 : decode cL_told 185 = .ok (.if_icmp .ne 85, 3) := by decide +kernel
theorem dL_told_188 : decode cL_told 188 = .ok (.aload_n 0, 1) := by decide +kernel
theorem dL_told_189 : decode cL_told 189 = .ok (.iload 4, 2) := by decide +kernel
theorem dL_told_191 : decode cL_told 191 = .ok (.iconst 1, 1) := by decide +kernel
theorem dL_told_192 : decode cL_told 192 = .ok (.invokevirtual 58, 3) := by decide +kernel
theorem dL_told_195 : decode cL_told 195 = .ok (.aload_n 1, 1) := by decide +kernel
theorem dL_told_196 : decode cL_told 196 = .ok (.bipush 9, 2) := by decide +kernel
theorem dL_told_198 : decode cL_told 198 = .ok (.iconst 4, 1) := by decide +kernel
theorem dL_told_199 : decode cL_told 199 = .ok (.iload 4, 2) := by decide +kernel
theorem dL_told_201 : decode cL_told 201 = .ok (.imul, 1) := by decide +kernel
theorem dL_told_202 : decode cL_told 202 = .ok (.iadd, 1) := by decide +kernel
theorem dL_told_203 : decode cL_told 203 = .ok (.iaload, 1) := by decide +kernel
theorem dL_told_204 : decode cL_told 204 = .ok (.if_icmp .ne 66, 3) := by decide +kernel
theorem dL_told_207 : decode cL_told 207 = .ok (.aload_n 0, 1) := by decide +kernel
theorem dL_told_208 : decode cL_told 208 = .ok (.iload 4, 2) := by decide +kernel
theorem dL_told_210 : decode cL_told 210 = .ok (.iconst 2, 1) := by decide +kernel
theorem dL_told_211 : decode cL_told 211 = .ok (.invokevirtual 58, 3) := by decide +kernel
theorem dL_told_214 : decode cL_told 214 = .ok (.aload_n 1, 1) := by decide +kernel
theorem dL_told_215 : decode cL_told 215 = .ok (.bipush 10, 2) := by decide +kernel
theorem dL_told_217 : decode cL_told 217 = .ok (.iconst 4, 1) := by decide +kernel
theorem dL_told_218 : decode cL_told 218 = .ok (.iload 4, 2) := by decide +kernel
theorem dL_told_220 : decode cL_told 220 = .ok (.imul, 1) := by decide +kernel
theorem dL_told_221 : decode cL_told 221 = .ok (.iadd, 1) := by decide +kernel
theorem dL_told_222 : decode cL_told 222 = .ok (.iaload, 1) := by decide +kernel
theorem dL_told_223 : decode cL_told 223 = .ok (.if_icmp .ne 47, 3) := by decide +kernel
theorem dL_told_226 : decode cL_told 226 = .ok (.aload_n 0, 1) := by decide +kernel
theorem dL_told_227 : decode cL_told 227 = .ok (.iload 4, 2) := by decide +kernel
theorem dL_told_229 : decode cL_told 229 = .ok (.iconst 3, 1) := by decide +kernel
theorem dL_told_230 : decode cL_told 230 = .ok (.invokevirtual 58, 3) := by decide +kernel
theorem dL_told_233 : decode cL_told 233 = .ok (.aload_n 1, 1) := by decide +kernel
theorem dL_told_234 : decode cL_told 234 = .ok (.iload 4, 2) := by decide +kernel
theorem dL_told_236 : decode cL_told 236 = .ok (.iconst 0, 1) := by decide +kernel
theorem dL_told_237 : decode cL_told 237 = .ok (.invokestatic 32, 3) := by decide +kernel
theorem dL_told_240 : decode cL_told 240 = .ok (.if_icmp .ne 30, 3) := by decide +kernel
theorem dL_told_243 : decode cL_told 243 = .ok (.aload_n 0, 1) := by decide +kernel
theorem dL_told_244 : decode cL_told 244 = .ok (.iload 4, 2) := by decide +kernel
theorem dL_told_246 : decode cL_told 246 = .ok (.iconst 4, 1) := by decide +kernel
theorem dL_told_247 : decode cL_told 247 = .ok (.invokevirtual 58, 3) := by decide +kernel
theorem dL_told_250 : decode cL_told 250 = .ok (.aload_n 1, 1) := by decide +kernel
theorem dL_told_251 : decode cL_told 251 = .ok (.iconst 5, 1) := by decide +kernel
theorem dL_told_252 : decode cL_told 252 = .ok (.iaload, 1) := by decide +kernel
theorem dL_told_253 : decode cL_told 253 = .ok (.aload_n 1, 1) := by decide +kernel
theorem dL_told_254 : decode cL_told 254 = .ok (.bipush 11, 2) := by decide +kernel
theorem dL_told_256 : decode cL_told 256 = .ok (.iconst 4, 1) := by decide +kernel
theorem dL_told_257 : decode cL_told 257 = .ok (.iload 4, 2) := by decide +kernel
theorem dL_told_259 : decode cL_told 259 = .ok (.imul, 1) := by decide +kernel
theorem dL_told_260 : decode cL_told 260 = .ok (.iadd, 1) := by decide +kernel
theorem dL_told_261 : decode cL_told 261 = .ok (.iaload, 1) := by decide +kernel
theorem dL_told_262 : decode cL_told 262 = .ok (.isub, 1) := by decide +kernel
theorem dL_told_263 : decode cL_told 263 = .ok (.if_icmp .ne 7, 3) := by decide +kernel
theorem dL_told_266 : decode cL_told 266 = .ok (.iconst 1, 1) := by decide +kernel
theorem dL_told_267 : decode cL_told 267 = .ok (.goto 4, 3) := by decide +kernel
theorem dL_told_270 : decode cL_told 270 = .ok (.iconst 0, 1) := by decide +kernel
theorem dL_told_271 : decode cL_told 271 = .ok (.istore_n 2, 1) := by decide +kernel
theorem dL_told_272 : decode cL_told 272 = .ok (.iinc 4 1, 3) := by decide +kernel
theorem dL_told_275 : decode cL_told 275 = .ok (.goto (-139), 3) := by decide +kernel
theorem dL_told_278 : decode cL_told 278 = .ok (.iconst 0, 1) := by decide +kernel
theorem dL_told_279 : decode cL_told 279 = .ok (.istore 4, 2) := by decide +kernel
theorem dL_told_281 : decode cL_told 281 = .ok (.iload 4, 2) := by decide +kernel
theorem dL_told_283 : decode cL_told 283 = .ok (.iconst 2, 1) := by decide +kernel
theorem dL_told_284 : decode cL_told 284 = .ok (.if_icmp .ge 104, 3) := by decide +kernel
theorem dL_told_287 : decode cL_told 287 = .ok (.iload_n 2, 1) := by decide +kernel
theorem dL_told_288 : decode cL_told 288 = .ok (.ifCond .eq 92, 3) := by decide +kernel
theorem dL_told_291 : decode cL_told 291 = .ok (.aload_n 0, 1) := by decide +kernel
theorem dL_told_292 : decode cL_told 292 = .ok (.iload 4, 2) := by decide +kernel
theorem dL_told_294 : decode cL_told 294 = .ok (.iconst 0, 1) := by decide +kernel
theorem dL_told_295 : decode cL_told 295 = .ok (.invokevirtual 62, 3) := by decide +kernel
theorem dL_told_298 : decode cL_told 298 = .ok (.aload_n 1, 1) := by decide +kernel
theorem dL_told_299 : decode cL_told 299 = .ok (.iload 4, 2) := by decide +kernel
theorem dL_told_301 : decode cL_told 301 = .ok (.iconst 0, 1) := by decide +kernel
theorem dL_told_302 : decode cL_told 302 = .ok (.iconst 0, 1) := by decide +kernel
theorem dL_told_303 : decode cL_told 303 = .ok (.invokestatic 36, 3) := by decide +kernel
theorem dL_told_306 : decode cL_told 306 = .ok (.if_icmp .ne 74, 3) := by decide +kernel
theorem dL_told_309 : decode cL_told 309 = .ok (.aload_n 0, 1) := by decide +kernel
theorem dL_told_310 : decode cL_told 310 = .ok (.iload 4, 2) := by decide +kernel
theorem dL_told_312 : decode cL_told 312 = .ok (.iconst 1, 1) := by decide +kernel
theorem dL_told_313 : decode cL_told 313 = .ok (.invokevirtual 62, 3) := by decide +kernel
theorem dL_told_316 : decode cL_told 316 = .ok (.aload_n 1, 1) := by decide +kernel
theorem dL_told_317 : decode cL_told 317 = .ok (.iload 4, 2) := by decide +kernel
theorem dL_told_319 : decode cL_told 319 = .ok (.iconst 0, 1) := by decide +kernel
theorem dL_told_320 : decode cL_told 320 = .ok (.aload_n 1, 1) := by decide +kernel
theorem dL_told_321 : decode cL_told 321 = .ok (.iconst 0, 1) := by decide +kernel
theorem dL_told_322 : decode cL_told 322 = .ok (.iaload, 1) := by decide +kernel
theorem dL_told_323 : decode cL_told 323 = .ok (.iconst 0, 1) := by decide +kernel
theorem dL_told_324 : decode cL_told 324 = .ok (.invokestatic 44, 3) := by decide +kernel
theorem dL_told_327 : decode cL_told 327 = .ok (.if_icmp .ne 53, 3) := by decide +kernel
theorem dL_told_330 : decode cL_told 330 = .ok (.aload_n 0, 1) := by decide +kernel
theorem dL_told_331 : decode cL_told 331 = .ok (.iload 4, 2) := by decide +kernel
theorem dL_told_333 : decode cL_told 333 = .ok (.iconst 2, 1) := by decide +kernel
theorem dL_told_334 : decode cL_told 334 = .ok (.invokevirtual 62, 3) := by decide +kernel
theorem dL_told_337 : decode cL_told 337 = .ok (.aload_n 1, 1) := by decide +kernel
theorem dL_told_338 : decode cL_told 338 = .ok (.iload 4, 2) := by decide +kernel
theorem dL_told_340 : decode cL_told 340 = .ok (.iconst 0, 1) := by decide +kernel
theorem dL_told_341 : decode cL_told 341 = .ok (.aload_n 1, 1) := by decide +kernel
theorem dL_told_342 : decode cL_told 342 = .ok (.iconst 0, 1) := by decide +kernel
theorem dL_told_343 : decode cL_told 343 = .ok (.iaload, 1) := by decide +kernel
theorem dL_told_344 : decode cL_told 344 = .ok (.iconst 0, 1) := by decide +kernel
theorem dL_told_345 : decode cL_told 345 = .ok (.invokestatic 48, 3) := by decide +kernel
theorem dL_told_348 : decode cL_told 348 = .ok (.if_icmp .ne 32, 3) := by decide +kernel
theorem dL_told_351 : decode cL_told 351 = .ok (.aload_n 0, 1) := by decide +kernel
theorem dL_told_352 : decode cL_told 352 = .ok (.iload 4, 2) := by decide +kernel
theorem dL_told_354 : decode cL_told 354 = .ok (.iconst 3, 1) := by decide +kernel
theorem dL_told_355 : decode cL_told 355 = .ok (.invokevirtual 62, 3) := by decide +kernel
theorem dL_told_358 : decode cL_told 358 = .ok (.iload 4, 2) := by decide +kernel
theorem dL_told_360 : decode cL_told 360 = .ok (.ifCond .ne 7, 3) := by decide +kernel
theorem dL_told_363 : decode cL_told 363 = .ok (.iload_n 3, 1) := by decide +kernel
theorem dL_told_364 : decode cL_told 364 = .ok (.goto 9, 3) := by decide +kernel
theorem dL_told_367 : decode cL_told 367 = .ok (.aload_n 1, 1) := by decide +kernel
theorem dL_told_368 : decode cL_told 368 = .ok (.bipush 7, 2) := by decide +kernel
theorem dL_told_370 : decode cL_told 370 = .ok (.iaload, 1) := by decide +kernel
theorem dL_told_371 : decode cL_told 371 = .ok (.iload_n 3, 1) := by decide +kernel
theorem dL_told_372 : decode cL_told 372 = .ok (.isub, 1) := by decide +kernel
theorem dL_told_373 : decode cL_told 373 = .ok (.if_icmp .ne 7, 3) := by decide +kernel
theorem dL_told_376 : decode cL_told 376 = .ok (.iconst 1, 1) := by decide +kernel
theorem dL_told_377 : decode cL_told 377 = .ok (.goto 4, 3) := by decide +kernel
theorem dL_told_380 : decode cL_told 380 = .ok (.iconst 0, 1) := by decide +kernel
theorem dL_told_381 : decode cL_told 381 = .ok (.istore_n 2, 1) := by decide +kernel
theorem dL_told_382 : decode cL_told 382 = .ok (.iinc 4 1, 3) := by decide +kernel
theorem dL_told_385 : decode cL_told 385 = .ok (.goto (-104), 3) := by decide +kernel
theorem dL_told_388 : decode cL_told 388 = .ok (.iload_n 2, 1) := by decide +kernel
theorem dL_told_389 : decode cL_told 389 = .ok (.ireturn, 1) := by decide +kernel
theorem dL_law_0 : decode cL_law 0 = .ok (.new 9, 3) := by decide +kernel
theorem dL_law_3 : decode cL_law 3 = .ok (.dup, 1) := by decide +kernel
theorem dL_law_4 : decode cL_law 4 = .ok (.invokespecial 64, 3) := by decide +kernel
theorem dL_law_7 : decode cL_law 7 = .ok (.astore_n 1, 1) := by decide +kernel
theorem dL_law_8 : decode cL_law 8 = .ok (.bipush 32, 2) := by decide +kernel
theorem dL_law_10 : decode cL_law 10 = .ok (.newarray .int, 2) := by decide +kernel
theorem dL_law_12 : decode cL_law 12 = .ok (.astore_n 2, 1) := by decide +kernel
theorem dL_law_13 : decode cL_law 13 = .ok (.bipush 32, 2) := by decide +kernel
theorem dL_law_15 : decode cL_law 15 = .ok (.newarray .int, 2) := by decide +kernel
theorem dL_law_17 : decode cL_law 17 = .ok (.astore_n 3, 1) := by decide +kernel
theorem dL_law_18 : decode cL_law 18 = .ok (.aload_n 1, 1) := by decide +kernel
theorem dL_law_19 : decode cL_law 19 = .ok (.aload_n 0, 1) := by decide +kernel
theorem dL_law_20 : decode cL_law 20 = .ok (.iconst 0, 1) := by decide +kernel
theorem dL_law_21 : decode cL_law 21 = .ok (.invokestatic 65, 3) := by decide +kernel
theorem dL_law_24 : decode cL_law 24 = .ok (.aload_n 2, 1) := by decide +kernel
theorem dL_law_25 : decode cL_law 25 = .ok (.invokestatic 68, 3) := by decide +kernel
theorem dL_law_28 : decode cL_law 28 = .ok (.ifCond .ne 5, 3) := by decide +kernel
theorem dL_law_31 : decode cL_law 31 = .ok (.iconst 0, 1) := by decide +kernel
theorem dL_law_32 : decode cL_law 32 = .ok (.ireturn, 1) := by decide +kernel
theorem dL_law_33 : decode cL_law 33 = .ok (.aload_n 0, 1) := by decide +kernel
theorem dL_law_34 : decode cL_law 34 = .ok (.iconst 1, 1) := by decide +kernel
theorem dL_law_35 : decode cL_law 35 = .ok (.invokestatic 65, 3) := by decide +kernel
theorem dL_law_38 : decode cL_law 38 = .ok (.bipush 6, 2) := by decide +kernel
theorem dL_law_40 : decode cL_law 40 = .ok (.irem, 1) := by decide +kernel
theorem dL_law_41 : decode cL_law 41 = .ok (.istore 4, 2) := by decide +kernel
theorem dL_law_43 : decode cL_law 43 = .ok (.iconst 0, 1) := by decide +kernel
theorem dL_law_44 : decode cL_law 44 = .ok (.istore 5, 2) := by decide +kernel
theorem dL_law_46 : decode cL_law 46 = .ok (.iload 5, 2) := by decide +kernel
theorem dL_law_48 : decode cL_law 48 = .ok (.iload 4, 2) := by decide +kernel
theorem dL_law_50 : decode cL_law 50 = .ok (.if_icmp .ge 27, 3) := by decide +kernel
theorem dL_law_53 : decode cL_law 53 = .ok (.aload_n 1, 1) := by decide +kernel
theorem dL_law_54 : decode cL_law 54 = .ok (.aload_n 0, 1) := by decide +kernel
theorem dL_law_55 : decode cL_law 55 = .ok (.iconst 2, 1) := by decide +kernel
theorem dL_law_56 : decode cL_law 56 = .ok (.iload 5, 2) := by decide +kernel
theorem dL_law_58 : decode cL_law 58 = .ok (.iadd, 1) := by decide +kernel
theorem dL_law_59 : decode cL_law 59 = .ok (.invokestatic 65, 3) := by decide +kernel
theorem dL_law_62 : decode cL_law 62 = .ok (.aload_n 2, 1) := by decide +kernel
theorem dL_law_63 : decode cL_law 63 = .ok (.invokestatic 71, 3) := by decide +kernel
theorem dL_law_66 : decode cL_law 66 = .ok (.ifCond .ne 5, 3) := by decide +kernel
theorem dL_law_69 : decode cL_law 69 = .ok (.iconst 0, 1) := by decide +kernel
theorem dL_law_70 : decode cL_law 70 = .ok (.ireturn, 1) := by decide +kernel
theorem dL_law_71 : decode cL_law 71 = .ok (.iinc 5 1, 3) := by decide +kernel
theorem dL_law_74 : decode cL_law 74 = .ok (.goto (-28), 3) := by decide +kernel
theorem dL_law_77 : decode cL_law 77 = .ok (.iconst 0, 1) := by decide +kernel
theorem dL_law_78 : decode cL_law 78 = .ok (.istore 5, 2) := by decide +kernel
theorem dL_law_80 : decode cL_law 80 = .ok (.iload 5, 2) := by decide +kernel
theorem dL_law_82 : decode cL_law 82 = .ok (.bipush 44, 2) := by decide +kernel
theorem dL_law_84 : decode cL_law 84 = .ok (.if_icmp .ge 875, 3) := by decide +kernel
theorem dL_law_87 : decode cL_law 87 = .ok (.aload_n 0, 1) := by decide +kernel
theorem dL_law_88 : decode cL_law 88 = .ok (.bipush 8, 2) := by decide +kernel
theorem dL_law_90 : decode cL_law 90 = .ok (.iload 5, 2) := by decide +kernel
theorem dL_law_92 : decode cL_law 92 = .ok (.iadd, 1) := by decide +kernel
theorem dL_law_93 : decode cL_law 93 = .ok (.invokestatic 65, 3) := by decide +kernel
theorem dL_law_96 : decode cL_law 96 = .ok (.istore 6, 2) := by decide +kernel
theorem dL_law_98 : decode cL_law 98 = .ok (.iload 6, 2) := by decide +kernel
theorem dL_law_100 : decode cL_law 100 = .ok (.bipush 16, 2) := by decide +kernel
theorem dL_law_102 : decode cL_law 102 = .ok (.irem, 1) := by decide +kernel
theorem dL_law_103 : decode cL_law 103 = .ok (.istore 7, 2) := by decide +kernel
theorem dL_law_105 : decode cL_law 105 = .ok (.aload_n 2, 1) := by decide +kernel
theorem dL_law_106 : decode cL_law 106 = .ok (.bipush 7, 2) := by decide +kernel
theorem dL_law_108 : decode cL_law 108 = .ok (.iaload, 1) := by decide +kernel
theorem dL_law_109 : decode cL_law 109 = .ok (.ifCond .ne 7, 3) := by decide +kernel
theorem dL_law_112 : decode cL_law 112 = .ok (.iconst 0, 1) := by decide +kernel
theorem dL_law_113 : decode cL_law 113 = .ok (.goto 13, 3) := by decide +kernel
theorem dL_law_116 : decode cL_law 116 = .ok (.iload 6, 2) := by decide +kernel
theorem dL_law_118 : decode cL_law 118 = .ok (.bipush 16, 2) := by decide +kernel
theorem dL_law_120 : decode cL_law 120 = .ok (.idiv, 1) := by decide +kernel
theorem dL_law_121 : decode cL_law 121 = .ok (.aload_n 2, 1) := by decide +kernel
theorem dL_law_122 : decode cL_law 122 = .ok (.bipush 7, 2) := by decide +kernel
theorem dL_law_124 : decode cL_law 124 = .ok (.iaload, 1) := by decide +kernel
theorem dL_law_125 : decode cL_law 125 = .ok (.irem, 1) := by decide +kernel
theorem dL_law_126 : decode cL_law 126 = .ok (.istore 8, 2) := by decide +kernel
theorem dL_law_128 : decode cL_law 128 = .ok (.iload 7, 2) := by decide +kernel
theorem dL_law_130 : decode cL_law 130 = .ok (.bipush 9, 2) := by decide +kernel
theorem dL_law_132 : decode cL_law 132 = .ok (.if_icmp .ge 101, 3) := by decide +kernel
theorem dL_law_135 : decode cL_law 135 = .ok (.iload 6, 2) := by decide +kernel
theorem dL_law_137 : decode cL_law 137 = .ok (.sipush 128, 3) := by decide +kernel
theorem dL_law_140 : decode cL_law 140 = .ok (.idiv, 1) := by decide +kernel
theorem dL_law_141 : decode cL_law 141 = .ok (.bipush 7, 2) := by decide +kernel
theorem dL_law_143 : decode cL_law 143 = .ok (.irem, 1) := by decide +kernel
theorem dL_law_144 : decode cL_law 144 = .ok (.iconst 3, 1) := by decide +kernel
theorem dL_law_145 : decode cL_law 145 = .ok (.isub, 1) := by decide +kernel
theorem dL_law_146 : decode cL_law 146 = .ok (.istore 9, 2) := by decide +kernel
theorem dL_law_148 : decode cL_law 148 = .ok (.iload 6, 2) := by decide +kernel
theorem dL_law_150 : decode cL_law 150 = .ok (.sipush 1024, 3) := by decide +kernel
theorem dL_law_153 : decode cL_law 153 = .ok (.idiv, 1) := by decide +kernel
theorem dL_law_154 : decode cL_law 154 = .ok (.iconst 3, 1) := by decide +kernel
theorem dL_law_155 : decode cL_law 155 = .ok (.irem, 1) := by decide +kernel
theorem dL_law_156 : decode cL_law 156 = .ok (.ifCond .ne 7, 3) := by decide +kernel
theorem dL_law_159 : decode cL_law 159 = .ok (.iconst 0, 1) := by decide +kernel
theorem dL_law_160 : decode cL_law 160 = .ok (.goto 5, 3) := by decide +kernel
theorem dL_law_163 : decode cL_law 163 = .ok (.iload 9, 2) := by decide +kernel
theorem dL_law_165 : decode cL_law 165 = .ok (.istore 9, 2) := by decide +kernel
theorem dL_law_167 : decode cL_law 167 = .ok (.aload_n 2, 1) := by decide +kernel
theorem dL_law_168 : decode cL_law 168 = .ok (.bipush 6, 2) := by decide +kernel
theorem dL_law_170 : decode cL_law 170 = .ok (.iaload, 1) := by decide +kernel
theorem dL_law_171 : decode cL_law 171 = .ok (.ifCond .ne 29, 3) := by decide +kernel
theorem dL_law_174 : decode cL_law 174 = .ok (.aload_n 2, 1) := by decide +kernel
theorem dL_law_175 : decode cL_law 175 = .ok (.iconst 0, 1) := by decide +kernel
theorem dL_law_176 : decode cL_law 176 = .ok (.iaload, 1) := by decide +kernel
theorem dL_law_177 : decode cL_law 177 = .ok (.iload 9, 2) := by decide +kernel
theorem dL_law_179 : decode cL_law 179 = .ok (.isub, 1) := by decide +kernel
theorem dL_law_180 : decode cL_law 180 = .ok (.bipush 9, 2) := by decide +kernel
theorem dL_law_182 : decode cL_law 182 = .ok (.if_icmp .le 18, 3) := by decide +kernel
theorem dL_law_185 : decode cL_law 185 = .ok (.aload_n 2, 1) := by decide +kernel
theorem dL_law_186 : decode cL_law 186 = .ok (.iconst 0, 1) := by decide +kernel
theorem dL_law_187 : decode cL_law 187 = .ok (.iaload, 1) := by decide +kernel
theorem dL_law_188 : decode cL_law 188 = .ok (.iload 9, 2) := by decide +kernel
theorem dL_law_190 : decode cL_law 190 = .ok (.isub, 1) := by decide +kernel
theorem dL_law_191 : decode cL_law 191 = .ok (.bipush 41, 2) := by decide +kernel
theorem dL_law_193 : decode cL_law 193 = .ok (.if_icmp .ge 7, 3) := by decide +kernel
theorem dL_law_196 : decode cL_law 196 = .ok (.iconst 1, 1) := by decide +kernel
theorem dL_law_197 : decode cL_law 197 = .ok (.goto 4, 3) := by decide +kernel
theorem dL_law_200 : decode cL_law 200 = .ok (.iconst 0, 1) := by decide +kernel
theorem dL_law_201 : decode cL_law 201 = .ok (.istore 10, 2) := by decide +kernel
theorem dL_law_203 : decode cL_law 203 = .ok (.aload_n 1, 1) := by decide +kernel
theorem dL_law_204 : decode cL_law 204 = .ok (.iload 9, 2) := by decide +kernel
theorem dL_law_206 : decode cL_law 206 = .ok (.invokevirtual 73, 3) := by decide +kernel
theorem dL_law_209 : decode cL_law 209 = .ok (.iload 10, 2) := by decide +kernel
theorem dL_law_211 : decode cL_law 211 = .ok (.ifCond .eq 12, 3) := by decide +kernel
theorem dL_law_214 : decode cL_law 214 = .ok (.aload_n 2, 1) := by decide +kernel
theorem dL_law_215 : decode cL_law 215 = .ok (.iload 9, 2) := by decide +kernel
theorem dL_law_217 : decode cL_law 217 = .ok (.invokestatic 76, 3) := by decide +kernel
theorem dL_law_220 : decode cL_law 220 = .ok (.goto 5, 3) := by decide +kernel
theorem dL_law_223 : decode cL_law 223 = .ok (.bipush (-103), 2) := by decide +kernel
theorem dL_law_225 : decode cL_law 225 = .ok (.if_icmp .eq 5, 3) := by decide +kernel
theorem dL_law_228 : decode cL_law 228 = .ok (.iconst 0, 1) := by decide +kernel
theorem dL_law_229 : decode cL_law 229 = .ok (.ireturn, 1) := by decide +kernel
theorem dL_law_230 : decode cL_law 230 = .ok (.goto 186, 3) := by decide +kernel
theorem dL_law_233 : decode cL_law 233 = .ok (.iload 7, 2) := by decide +kernel
theorem dL_law_235 : decode cL_law 235 = .ok (.bipush 14, 2) := by decide +kernel
theorem dL_law_237 : decode cL_law 237 = .ok (.if_icmp .ge 118, 3) := by decide +kernel
theorem dL_law_240 : decode cL_law 240 = .ok (.aload_n 2, 1) := by decide +kernel
theorem dL_law_241 : decode cL_law 241 = .ok (.bipush 7, 2) := by decide +kernel
theorem dL_law_243 : decode cL_law 243 = .ok (.iaload, 1) := by decide +kernel
theorem dL_law_244 : decode cL_law 244 = .ok (.ifCond .le 111, 3) := by decide +kernel
theorem dL_law_247 : decode cL_law 247 = .ok (.aload_n 2, 1) := by decide +kernel
theorem dL_law_248 : decode cL_law 248 = .ok (.bipush 6, 2) := by decide +kernel
theorem dL_law_250 : decode cL_law 250 = .ok (.iaload, 1) := by decide +kernel
theorem dL_law_251 : decode cL_law 251 = .ok (.ifCond .ne 31, 3) := by decide +kernel
theorem dL_law_254 : decode cL_law 254 = .ok (.aload_n 2, 1) := by decide +kernel
theorem dL_law_255 : decode cL_law 255 = .ok (.bipush 8, 2) := by decide +kernel
theorem dL_law_257 : decode cL_law 257 = .ok (.iconst 4, 1) := by decide +kernel
theorem dL_law_258 : decode cL_law 258 = .ok (.iload 8, 2) := by decide +kernel
theorem dL_law_260 : decode cL_law 260 = .ok (.imul, 1) := by decide +kernel
theorem dL_law_261 : decode cL_law 261 = .ok (.iadd, 1) := by decide +kernel
theorem dL_law_262 : decode cL_law 262 = .ok (.iaload, 1) := by decide +kernel
theorem dL_law_263 : decode cL_law 263 = .ok (.iconst 2, 1) := by decide +kernel
theorem dL_law_264 : decode cL_law 264 = .ok (.if_icmp .ne 14, 3) := by decide +kernel
theorem dL_law_267 : decode cL_law 267 = .ok (.aload_n 2, 1) := by decide +kernel
theorem dL_law_268 : decode cL_law 268 = .ok (.aload_n 2, 1) := by decide +kernel
theorem dL_law_269 : decode cL_law 269 = .ok (.iconst 0, 1) := by decide +kernel
theorem dL_law_270 : decode cL_law 270 = .ok (.iaload, 1) := by decide +kernel
theorem dL_law_271 : decode cL_law 271 = .ok (.invokestatic 40, 3) := by decide +kernel
theorem dL_law_274 : decode cL_law 274 = .ok (.iconst 3, 1) := by decide +kernel
theorem dL_law_275 : decode cL_law 275 = .ok (.if_icmp .ge 7, 3) := by decide +kernel
theorem dL_law_278 : decode cL_law 278 = .ok (.iconst 1, 1) := by decide +kernel
theorem dL_law_279 : decode cL_law 279 = .ok (.goto 4, 3) := by decide +kernel
theorem dL_law_282 : decode cL_law 282 = .ok (.iconst 0, 1) := by decide +kernel
theorem dL_law_283 : decode cL_law 283 = .ok (.istore 9, 2) := by decide +kernel
theorem dL_law_285 : decode cL_law 285 = .ok (.aload_n 2, 1) := by decide +kernel
theorem dL_law_286 : decode cL_law 286 = .ok (.bipush 10, 2) := by decide +kernel
theorem dL_law_288 : decode cL_law 288 = .ok (.iconst 4, 1) := by decide +kernel
theorem dL_law_289 : decode cL_law 289 = .ok (.iload 8, 2) := by decide +kernel
theorem dL_law_291 : decode cL_law 291 = .ok (.imul, 1) := by decide +kernel
theorem dL_law_292 : decode cL_law 292 = .ok (.iadd, 1) := by decide +kernel
theorem dL_law_293 : decode cL_law 293 = .ok (.iload 9, 2) := by decide +kernel
theorem dL_law_295 : decode cL_law 295 = .ok (.ifCond .eq 17, 3) := by decide +kernel
theorem dL_law_298 : decode cL_law 298 = .ok (.iconst 1, 1) := by decide +kernel
theorem dL_law_299 : decode cL_law 299 = .ok (.aload_n 2, 1) := by decide +kernel
theorem dL_law_300 : decode cL_law 300 = .ok (.bipush 10, 2) := by decide +kernel
theorem dL_law_302 : decode cL_law 302 = .ok (.iconst 4, 1) := by decide +kernel
theorem dL_law_303 : decode cL_law 303 = .ok (.iload 8, 2) := by decide +kernel
theorem dL_law_305 : decode cL_law 305 = .ok (.imul, 1) := by decide +kernel
theorem dL_law_306 : decode cL_law 306 = .ok (.iadd, 1) := by decide +kernel
theorem dL_law_307 : decode cL_law 307 = .ok (.iaload, 1) := by decide +kernel
theorem dL_law_308 : decode cL_law 308 = .ok (.isub, 1) := by decide +kernel
theorem dL_law_309 : decode cL_law 309 = .ok (.goto 12, 3) := by decide +kernel
theorem dL_law_312 : decode cL_law 312 = .ok (.aload_n 2, 1) := by decide +kernel
theorem dL_law_313 : decode cL_law 313 = .ok (.bipush 10, 2) := by decide +kernel
theorem dL_law_315 : decode cL_law 315 = .ok (.iconst 4, 1) := by decide +kernel
theorem dL_law_316 : decode cL_law 316 = .ok (.iload 8, 2) := by decide +kernel
theorem dL_law_318 : decode cL_law 318 = .ok (.imul, 1) := by decide +kernel
theorem dL_law_319 : decode cL_law 319 = .ok (.iadd, 1) := by decide +kernel
theorem dL_law_320 : decode cL_law 320 = .ok (.iaload, 1) := by decide +kernel
theorem dL_law_321 : decode cL_law 321 = .ok (.iastore, 1) := by decide +kernel
theorem dL_law_322 : decode cL_law 322 = .ok (.aload_n 1, 1) := by decide +kernel
theorem dL_law_323 : decode cL_law 323 = .ok (.iload 8, 2) := by decide +kernel
theorem dL_law_325 : decode cL_law 325 = .ok (.invokevirtual 78, 3) := by decide +kernel
theorem dL_law_328 : decode cL_law 328 = .ok (.iload 9, 2) := by decide +kernel
theorem dL_law_330 : decode cL_law 330 = .ok (.ifCond .eq 15, 3) := by decide +kernel
theorem dL_law_333 : decode cL_law 333 = .ok (.aload_n 2, 1) := by decide +kernel
theorem dL_law_334 : decode cL_law 334 = .ok (.bipush 10, 2) := by decide +kernel
theorem dL_law_336 : decode cL_law 336 = .ok (.iconst 4, 1) := by decide +kernel
theorem dL_law_337 : decode cL_law 337 = .ok (.iload 8, 2) := by decide +kernel
theorem dL_law_339 : decode cL_law 339 = .ok (.imul, 1) := by decide +kernel
theorem dL_law_340 : decode cL_law 340 = .ok (.iadd, 1) := by decide +kernel
theorem dL_law_341 : decode cL_law 341 = .ok (.iaload, 1) := by decide +kernel
theorem dL_law_342 : decode cL_law 342 = .ok (.goto 5, 3) := by decide +kernel
theorem dL_law_345 : decode cL_law 345 = .ok (.bipush (-103), 2) := by decide +kernel
theorem dL_law_347 : decode cL_law 347 = .ok (.if_icmp .eq 5, 3) := by decide +kernel
theorem dL_law_350 : decode cL_law 350 = .ok (.iconst 0, 1) := by decide +kernel
theorem dL_law_351 : decode cL_law 351 = .ok (.ireturn, 1) := by decide +kernel
theorem dL_law_352 : decode cL_law 352 = .ok (.goto 64, 3) := by decide +kernel
theorem dL_law_355 : decode cL_law 355 = .ok (.iload 7, 2) := by decide +kernel
theorem dL_law_357 : decode cL_law 357 = .ok (.bipush 14, 2) := by decide +kernel
theorem dL_law_359 : decode cL_law 359 = .ok (.if_icmp .ne 27, 3) := by decide +kernel
theorem dL_law_362 : decode cL_law 362 = .ok (.aload_n 2, 1) := by decide +kernel
theorem dL_law_363 : decode cL_law 363 = .ok (.bipush 7, 2) := by decide +kernel
theorem dL_law_365 : decode cL_law 365 = .ok (.iaload, 1) := by decide +kernel
theorem dL_law_366 : decode cL_law 366 = .ok (.bipush 6, 2) := by decide +kernel
theorem dL_law_368 : decode cL_law 368 = .ok (.if_icmp .ge 18, 3) := by decide +kernel
theorem dL_law_371 : decode cL_law 371 = .ok (.aload_n 1, 1) := by decide +kernel
theorem dL_law_372 : decode cL_law 372 = .ok (.iload 6, 2) := by decide +kernel
theorem dL_law_374 : decode cL_law 374 = .ok (.bipush 16, 2) := by decide +kernel
theorem dL_law_376 : decode cL_law 376 = .ok (.idiv, 1) := by decide +kernel
theorem dL_law_377 : decode cL_law 377 = .ok (.aload_n 2, 1) := by decide +kernel
theorem dL_law_378 : decode cL_law 378 = .ok (.invokestatic 71, 3) := by decide +kernel
theorem dL_law_381 : decode cL_law 381 = .ok (.ifCond .ne 35, 3) := by decide +kernel
theorem dL_law_384 : decode cL_law 384 = .ok (.iconst 0, 1) := by decide +kernel
theorem dL_law_385 : decode cL_law 385 = .ok (.ireturn, 1) := by decide +kernel
theorem dL_law_386 : decode cL_law 386 = .ok (.aload_n 2, 1) := by decide +kernel
theorem dL_law_387 : decode cL_law 387 = .ok (.bipush 6, 2) := by decide +kernel
theorem dL_law_389 : decode cL_law 389 = .ok (.iaload, 1) := by decide +kernel
theorem dL_law_390 : decode cL_law 390 = .ok (.iconst 1, 1) := by decide +kernel
theorem dL_law_391 : decode cL_law 391 = .ok (.if_icmp .ne 25, 3) := by decide +kernel
theorem dL_law_394 : decode cL_law 394 = .ok (.iload 7, 2) := by decide +kernel
theorem dL_law_396 : decode cL_law 396 = .ok (.bipush 15, 2) := by decide +kernel
theorem dL_law_398 : decode cL_law 398 = .ok (.if_icmp .ne 18, 3) := by decide +kernel
theorem dL_law_401 : decode cL_law 401 = .ok (.aload_n 1, 1) := by decide +kernel
theorem dL_law_402 : decode cL_law 402 = .ok (.iload 6, 2) := by decide +kernel
theorem dL_law_404 : decode cL_law 404 = .ok (.bipush 16, 2) := by decide +kernel
theorem dL_law_406 : decode cL_law 406 = .ok (.idiv, 1) := by decide +kernel
theorem dL_law_407 : decode cL_law 407 = .ok (.aload_n 2, 1) := by decide +kernel
theorem dL_law_408 : decode cL_law 408 = .ok (.invokestatic 68, 3) := by decide +kernel
theorem dL_law_411 : decode cL_law 411 = .ok (.ifCond .ne 5, 3) := by decide +kernel
theorem dL_law_414 : decode cL_law 414 = .ok (.iconst 0, 1) := by decide +kernel
theorem dL_law_415 : decode cL_law 415 = .ok (.ireturn, 1) := by decide +kernel
theorem dL_law_416 : decode cL_law 416 = .ok (.aload_n 1, 1) := by decide +kernel
theorem dL_law_417 : decode cL_law 417 = .ok (.aload_n 2, 1) := by decide +kernel
theorem dL_law_418 : decode cL_law 418 = .ok (.invokestatic 81, 3) := by decide +kernel
theorem dL_law_421 : decode cL_law 421 = .ok (.ifCond .ne 5, 3) := by decide +kernel
theorem dL_law_424 : decode cL_law 424 = .ok (.iconst 0, 1) := by decide +kernel
theorem dL_law_425 : decode cL_law 425 = .ok (.ireturn, 1) := by decide +kernel
theorem dL_law_426 : decode cL_law 426 = .ok (.iconst 0, 1) := by decide +kernel
theorem dL_law_427 : decode cL_law 427 = .ok (.istore 9, 2) := by decide +kernel
theorem dL_law_429 : decode cL_law 429 = .ok (.iload 9, 2) := by decide +kernel
theorem dL_law_431 : decode cL_law 431 = .ok (.aload_n 2, 1) := by decide +kernel
theorem dL_law_432 : decode cL_law 432 = .ok (.bipush 7, 2) := by decide +kernel
theorem dL_law_434 : decode cL_law 434 = .ok (.iaload, 1) := by decide +kernel
theorem dL_law_435 : decode cL_law 435 = .ok (.if_icmp .ge 78, 3) := by decide +kernel
theorem dL_law_438 : decode cL_law 438 = .ok (.iconst 0, 1) := by decide +kernel
theorem dL_law_439 : decode cL_law 439 = .ok (.istore 10, 2) := by decide +kernel
theorem dL_law_441 : decode cL_law 441 = .ok (.iload 10, 2) := by decide +kernel
theorem dL_law_443 : decode cL_law 443 = .ok (.iconst 5, 1) := by decide +kernel
theorem dL_law_444 : decode cL_law 444 = .ok (.if_icmp .ge 63, 3) := by decide +kernel
theorem dL_law_447 : decode cL_law 447 = .ok (.aload_n 2, 1) := by decide +kernel
theorem dL_law_448 : decode cL_law 448 = .ok (.bipush 8, 2) := by decide +kernel
theorem dL_law_450 : decode cL_law 450 = .ok (.iconst 4, 1) := by decide +kernel
theorem dL_law_451 : decode cL_law 451 = .ok (.iload 9, 2) := by decide +kernel
theorem dL_law_453 : decode cL_law 453 = .ok (.imul, 1) := by decide +kernel
theorem dL_law_454 : decode cL_law 454 = .ok (.iadd, 1) := by decide +kernel
theorem dL_law_455 : decode cL_law 455 = .ok (.iaload, 1) := by decide +kernel
theorem dL_law_456 : decode cL_law 456 = .ok (.istore 11, 2) := by decide +kernel
theorem dL_law_458 : decode cL_law 458 = .ok (.aload_n 1, 1) := by decide +kernel
theorem dL_law_459 : decode cL_law 459 = .ok (.iload 9, 2) := by decide +kernel
theorem dL_law_461 : decode cL_law 461 = .ok (.iload 10, 2) := by decide +kernel
theorem dL_law_463 : decode cL_law 463 = .ok (.invokevirtual 85, 3) := by decide +kernel
theorem dL_law_466 : decode cL_law 466 = .ok (.iload 10, 2) := by decide +kernel
theorem dL_law_468 : decode cL_law 468 = .ok (.ifCond .eq 22, 3) := by decide +kernel
theorem dL_law_471 : decode cL_law 471 = .ok (.iload 10, 2) := by decide +kernel
theorem dL_law_473 : decode cL_law 473 = .ok (.iload 11, 2) := by decide +kernel
theorem dL_law_475 : decode cL_law 475 = .ok (.if_icmp .eq 15, 3) := by decide +kernel
theorem dL_law_478 : decode cL_law 478 = .ok (.iload 10, 2) := by decide +kernel
theorem dL_law_480 : decode cL_law 480 = .ok (.iconst 3, 1) := by decide +kernel
theorem dL_law_481 : decode cL_law 481 = .ok (.if_icmp .ne 14, 3) := by decide +kernel
theorem dL_law_484 : decode cL_law 484 = .ok (.iload 11, 2) := by decide +kernel
theorem dL_law_486 : decode cL_law 486 = .ok (.iconst 4, 1) := by decide +kernel
theorem dL_law_487 : decode cL_law 487 = .ok (.if_icmp .ne 8, 3) := by decide +kernel
theorem dL_law_490 : decode cL_law 490 = .ok (.iload 9, 2) := by decide +kernel
theorem dL_law_492 : decode cL_law 492 = .ok (.goto 4, 3) := by decide +kernel
theorem dL_law_495 : decode cL_law 495 = .ok (.iconst (-1), 1) := by decide +kernel
theorem dL_law_496 : decode cL_law 496 = .ok (.if_icmp .eq 5, 3) := by decide +kernel
theorem dL_law_499 : decode cL_law 499 = .ok (.iconst 0, 1) := by decide +kernel
theorem dL_law_500 : decode cL_law 500 = .ok (.ireturn, 1) := by decide +kernel
theorem dL_law_501 : decode cL_law 501 = .ok (.iinc 10 1, 3) := by decide +kernel
theorem dL_law_504 : decode cL_law 504 = .ok (.goto (-63), 3) := by decide +kernel
theorem dL_law_507 : decode cL_law 507 = .ok (.iinc 9 1, 3) := by decide +kernel
theorem dL_law_510 : decode cL_law 510 = .ok (.goto (-81), 3) := by decide +kernel
theorem dL_law_513 : decode cL_law 513 = .ok (.iconst 1, 1) := by decide +kernel
theorem dL_law_514 : decode cL_law 514 = .ok (.iload 6, 2) := by decide +kernel
theorem dL_law_516 : decode cL_law 516 = .ok (.sipush 4096, 3) := by decide +kernel
theorem dL_law_519 : decode cL_law 519 = .ok (.idiv, 1) := by decide +kernel
theorem dL_law_520 : decode cL_law 520 = .ok (.bipush 99, 2) := by decide +kernel
theorem dL_law_522 : decode cL_law 522 = .ok (.irem, 1) := by decide +kernel
theorem dL_law_523 : decode cL_law 523 = .ok (.iadd, 1) := by decide +kernel
theorem dL_law_524 : decode cL_law 524 = .ok (.istore 9, 2) := by decide +kernel
theorem dL_law_526 : decode cL_law 526 = .ok (.aload_n 2, 1) := by decide +kernel
theorem dL_law_527 : decode cL_law 527 = .ok (.aload_n 2, 1) := by decide +kernel
theorem dL_law_528 : decode cL_law 528 = .ok (.iconst 0, 1) := by decide +kernel
theorem dL_law_529 : decode cL_law 529 = .ok (.iaload, 1) := by decide +kernel
theorem dL_law_530 : decode cL_law 530 = .ok (.invokestatic 40, 3) := by decide +kernel
theorem dL_law_533 : decode cL_law 533 = .ok (.istore 10, 2) := by decide +kernel
theorem dL_law_535 : decode cL_law 535 = .ok (.bipush 90, 2) := by decide +kernel
theorem dL_law_537 : decode cL_law 537 = .ok (.iload 9, 2) := by decide +kernel
theorem dL_law_539 : decode cL_law 539 = .ok (.iload 10, 2) := by decide +kernel
theorem dL_law_541 : decode cL_law 541 = .ok (.imul, 1) := by decide +kernel
theorem dL_law_542 : decode cL_law 542 = .ok (.isub, 1) := by decide +kernel
theorem dL_law_543 : decode cL_law 543 = .ok (.sipush 360, 3) := by decide +kernel
theorem dL_law_546 : decode cL_law 546 = .ok (.irem, 1) := by decide +kernel
theorem dL_law_547 : decode cL_law 547 = .ok (.sipush 360, 3) := by decide +kernel
theorem dL_law_550 : decode cL_law 550 = .ok (.iadd, 1) := by decide +kernel
theorem dL_law_551 : decode cL_law 551 = .ok (.sipush 360, 3) := by decide +kernel
theorem dL_law_554 : decode cL_law 554 = .ok (.irem, 1) := by decide +kernel
theorem dL_law_555 : decode cL_law 555 = .ok (.istore 11, 2) := by decide +kernel
theorem dL_law_557 : decode cL_law 557 = .ok (.iconst (-1), 1) := by decide +kernel
theorem dL_law_558 : decode cL_law 558 = .ok (.istore 12, 2) := by decide +kernel
theorem dL_law_560 : decode cL_law 560 = .ok (.bipush 98, 2) := by decide +kernel
theorem dL_law_562 : decode cL_law 562 = .ok (.istore 13, 2) := by decide +kernel
theorem dL_law_564 : decode cL_law 564 = .ok (.iload 13, 2) := by decide +kernel
theorem dL_law_566 : decode cL_law 566 = .ok (.ifCond .lt 62, 3) := by decide +kernel
theorem dL_law_569 : decode cL_law 569 = .ok (.aload_n 2, 1) := by decide +kernel
theorem dL_law_570 : decode cL_law 570 = .ok (.iconst 4, 1) := by decide +kernel
theorem dL_law_571 : decode cL_law 571 = .ok (.iaload, 1) := by decide +kernel
theorem dL_law_572 : decode cL_law 572 = .ok (.iload 13, 2) := by decide +kernel
theorem dL_law_574 : decode cL_law 574 = .ok (.iload 10, 2) := by decide +kernel
theorem dL_law_576 : decode cL_law 576 = .ok (.imul, 1) := by decide +kernel
theorem dL_law_577 : decode cL_law 577 = .ok (.bipush 10, 2) := by decide +kernel
theorem dL_law_579 : decode cL_law 579 = .ok (.imul, 1) := by decide +kernel
theorem dL_law_580 : decode cL_law 580 = .ok (.iadd, 1) := by decide +kernel
theorem dL_law_581 : decode cL_law 581 = .ok (.iload 11, 2) := by decide +kernel
theorem dL_law_583 : decode cL_law 583 = .ok (.isub, 1) := by decide +kernel
theorem dL_law_584 : decode cL_law 584 = .ok (.sipush 360, 3) := by decide +kernel
theorem dL_law_587 : decode cL_law 587 = .ok (.irem, 1) := by decide +kernel
theorem dL_law_588 : decode cL_law 588 = .ok (.sipush 360, 3) := by decide +kernel
theorem dL_law_591 : decode cL_law 591 = .ok (.iadd, 1) := by decide +kernel
theorem dL_law_592 : decode cL_law 592 = .ok (.sipush 360, 3) := by decide +kernel
theorem dL_law_595 : decode cL_law 595 = .ok (.irem, 1) := by decide +kernel
theorem dL_law_596 : decode cL_law 596 = .ok (.istore 14, 2) := by decide +kernel
theorem dL_law_598 : decode cL_law 598 = .ok (.iload 14, 2) := by decide +kernel
theorem dL_law_600 : decode cL_law 600 = .ok (.bipush 6, 2) := by decide +kernel
theorem dL_law_602 : decode cL_law 602 = .ok (.if_icmp .lt 11, 3) := by decide +kernel
theorem dL_law_605 : decode cL_law 605 = .ok (.iload 14, 2) := by decide +kernel
theorem dL_law_607 : decode cL_law 607 = .ok (.sipush 354, 3) := by decide +kernel
theorem dL_law_610 : decode cL_law 610 = .ok (.if_icmp .le 8, 3) := by decide +kernel
theorem dL_law_613 : decode cL_law 613 = .ok (.iload 13, 2) := by decide +kernel
theorem dL_law_615 : decode cL_law 615 = .ok (.goto 5, 3) := by decide +kernel
theorem dL_law_618 : decode cL_law 618 = .ok (.iload 12, 2) := by decide +kernel
theorem dL_law_620 : decode cL_law 620 = .ok (.istore 12, 2) := by decide +kernel
theorem dL_law_622 : decode cL_law 622 = .ok (.iinc 13 (-1), 3) := by decide +kernel
theorem dL_law_625 : decode cL_law 625 = .ok (.goto (-61), 3) := by decide +kernel
theorem dL_law_628 : decode cL_law 628 = .ok (.aload_n 1, 1) := by decide +kernel
theorem dL_law_629 : decode cL_law 629 = .ok (.iload 9, 2) := by decide +kernel
theorem dL_law_631 : decode cL_law 631 = .ok (.invokevirtual 88, 3) := by decide +kernel
theorem dL_law_634 : decode cL_law 634 = .ok (.aload_n 2, 1) := by decide +kernel
theorem dL_law_635 : decode cL_law 635 = .ok (.bipush 6, 2) := by decide +kernel
theorem dL_law_637 : decode cL_law 637 = .ok (.iaload, 1) := by decide +kernel
theorem dL_law_638 : decode cL_law 638 = .ok (.iconst 1, 1) := by decide +kernel
theorem dL_law_639 : decode cL_law 639 = .ok (.if_icmp .ne 8, 3) := by decide +kernel
theorem dL_law_642 : decode cL_law 642 = .ok (.bipush (-103), 2) := by decide +kernel
theorem dL_law_644 : decode cL_law 644 = .ok (.goto 5, 3) := by decide +kernel
theorem dL_law_647 : decode cL_law 647 = .ok (.iload 12, 2) := by decide +kernel
theorem dL_law_649 : decode cL_law 649 = .ok (.if_icmp .eq 5, 3) := by decide +kernel
theorem dL_law_652 : decode cL_law 652 = .ok (.iconst 0, 1) := by decide +kernel
theorem dL_law_653 : decode cL_law 653 = .ok (.ireturn, 1) := by decide +kernel
theorem dL_law_654 : decode cL_law 654 = .ok (.iload 5, 2) := by decide +kernel
theorem dL_law_656 : decode cL_law 656 = .ok (.bipush 6, 2) := by decide +kernel
theorem dL_law_658 : decode cL_law 658 = .ok (.irem, 1) := by decide +kernel
theorem dL_law_659 : decode cL_law 659 = .ok (.iconst 2, 1) := by decide +kernel
theorem dL_law_660 : decode cL_law 660 = .ok (.if_icmp .ne 293, 3) := by decide +kernel
theorem dL_law_663 : decode cL_law 663 = .ok (.iconst 1, 1) := by decide +kernel
theorem dL_law_664 : decode cL_law 664 = .ok (.iload 6, 2) := by decide +kernel
theorem dL_law_666 : decode cL_law 666 = .ok (.sipush 512, 3) := by decide +kernel
theorem dL_law_669 : decode cL_law 669 = .ok (.idiv, 1) := by decide +kernel
theorem dL_law_670 : decode cL_law 670 = .ok (.bipush 60, 2) := by decide +kernel
theorem dL_law_672 : decode cL_law 672 = .ok (.irem, 1) := by decide +kernel
theorem dL_law_673 : decode cL_law 673 = .ok (.iadd, 1) := by decide +kernel
theorem dL_law_674 : decode cL_law 674 = .ok (.istore 13, 2) := by decide +kernel
theorem dL_law_676 : decode cL_law 676 = .ok (.aload_n 0, 1) := by decide +kernel
theorem dL_law_677 : decode cL_law 677 = .ok (.bipush 52, 2) := by decide +kernel
theorem dL_law_679 : decode cL_law 679 = .ok (.iload 5, 2) := by decide +kernel
theorem dL_law_681 : decode cL_law 681 = .ok (.bipush 6, 2) := by decide +kernel
theorem dL_law_683 : decode cL_law 683 = .ok (.idiv, 1) := by decide +kernel
theorem dL_law_684 : decode cL_law 684 = .ok (.iadd, 1) := by decide +kernel
theorem dL_law_685 : decode cL_law 685 = .ok (.invokestatic 65, 3) := by decide +kernel
theorem dL_law_688 : decode cL_law 688 = .ok (.istore 14, 2) := by decide +kernel
theorem dL_law_690 : decode cL_law 690 = .ok (.iload 14, 2) := by decide +kernel
theorem dL_law_692 : decode cL_law 692 = .ok (.i2l, 1) := by decide +kernel
theorem dL_law_693 : decode cL_law 693 = .ok (.lstore 15, 2) := by decide +kernel
theorem dL_law_695 : decode cL_law 695 = .ok (.iconst 0, 1) := by decide +kernel
theorem dL_law_696 : decode cL_law 696 = .ok (.istore 17, 2) := by decide +kernel
theorem dL_law_698 : decode cL_law 698 = .ok (.iload 17, 2) := by decide +kernel
theorem dL_law_700 : decode cL_law 700 = .ok (.bipush 32, 2) := by decide +kernel
theorem dL_law_702 : decode cL_law 702 = .ok (.if_icmp .ge 17, 3) := by decide +kernel
theorem dL_law_705 : decode cL_law 705 = .ok (.aload_n 3, 1) := by decide +kernel
theorem dL_law_706 : decode cL_law 706 = .ok (.iload 17, 2) := by decide +kernel
theorem dL_law_708 : decode cL_law 708 = .ok (.aload_n 2, 1) := by decide +kernel
theorem dL_law_709 : decode cL_law 709 = .ok (.iload 17, 2) := by decide +kernel
theorem dL_law_711 : decode cL_law 711 = .ok (.iaload, 1) := by decide +kernel
theorem dL_law_712 : decode cL_law 712 = .ok (.iastore, 1) := by decide +kernel
theorem dL_law_713 : decode cL_law 713 = .ok (.iinc 17 1, 3) := by decide +kernel
theorem dL_law_716 : decode cL_law 716 = .ok (.goto (-18), 3) := by decide +kernel
theorem dL_law_719 : decode cL_law 719 = .ok (.iconst 0, 1) := by decide +kernel
theorem dL_law_720 : decode cL_law 720 = .ok (.istore 17, 2) := by decide +kernel
theorem dL_law_722 : decode cL_law 722 = .ok (.iload 17, 2) := by decide +kernel
theorem dL_law_724 : decode cL_law 724 = .ok (.iload 13, 2) := by decide +kernel
theorem dL_law_726 : decode cL_law 726 = .ok (.if_icmp .ge 109, 3) := by decide +kernel
theorem dL_law_729 : decode cL_law 729 = .ok (.aload_n 3, 1) := by decide +kernel
theorem dL_law_730 : decode cL_law 730 = .ok (.bipush 6, 2) := by decide +kernel
theorem dL_law_732 : decode cL_law 732 = .ok (.iaload, 1) := by decide +kernel
theorem dL_law_733 : decode cL_law 733 = .ok (.ifCond .ne 102, 3) := by decide +kernel
theorem dL_law_736 : decode cL_law 736 = .ok (.ldc2_w 91, 3) := by decide +kernel
theorem dL_law_739 : decode cL_law 739 = .ok (.lload 15, 2) := by decide +kernel
theorem dL_law_741 : decode cL_law 741 = .ok (.lmul, 1) := by decide +kernel
theorem dL_law_742 : decode cL_law 742 = .ok (.ldc2_w 93, 3) := by decide +kernel
theorem dL_law_745 : decode cL_law 745 = .ok (.ladd, 1) := by decide +kernel
theorem dL_law_746 : decode cL_law 746 = .ok (.ldc2_w 95, 3) := by decide +kernel
theorem dL_law_749 : decode cL_law 749 = .ok (.lrem, 1) := by decide +kernel
theorem dL_law_750 : decode cL_law 750 = .ok (.lstore 15, 2) := by decide +kernel
theorem dL_law_752 : decode cL_law 752 = .ok (.lload 15, 2) := by decide +kernel
theorem dL_law_754 : decode cL_law 754 = .ok (.ldc2_w 97, 3) := by decide +kernel
theorem dL_law_757 : decode cL_law 757 = .ok (.ldiv, 1) := by decide +kernel
theorem dL_law_758 : decode cL_law 758 = .ok (.ldc2_w 99, 3) := by decide +kernel
theorem dL_law_761 : decode cL_law 761 = .ok (.lrem, 1) := by decide +kernel
theorem dL_law_762 : decode cL_law 762 = .ok (.l2i, 1) := by decide +kernel
theorem dL_law_763 : decode cL_law 763 = .ok (.istore 18, 2) := by decide +kernel
theorem dL_law_765 : decode cL_law 765 = .ok (.iload 18, 2) := by decide +kernel
theorem dL_law_767 : decode cL_law 767 = .ok (.iconst 4, 1) := by decide +kernel
theorem dL_law_768 : decode cL_law 768 = .ok (.if_icmp .ge 8, 3) := by decide +kernel
theorem dL_law_771 : decode cL_law 771 = .ok (.iload 18, 2) := by decide +kernel
theorem dL_law_773 : decode cL_law 773 = .ok (.goto 7, 3) := by decide +kernel
theorem dL_law_776 : decode cL_law 776 = .ok (.iconst 3, 1) := by decide +kernel
theorem dL_law_777 : decode cL_law 777 = .ok (.iload 18, 2) := by decide +kernel
theorem dL_law_779 : decode cL_law 779 = .ok (.isub, 1) := by decide +kernel
theorem dL_law_780 : decode cL_law 780 = .ok (.istore 19, 2) := by decide +kernel
theorem dL_law_782 : decode cL_law 782 = .ok (.aload_n 3, 1) := by decide +kernel
theorem dL_law_783 : decode cL_law 783 = .ok (.iconst 0, 1) := by decide +kernel
theorem dL_law_784 : decode cL_law 784 = .ok (.iaload, 1) := by decide +kernel
theorem dL_law_785 : decode cL_law 785 = .ok (.iload 19, 2) := by decide +kernel
theorem dL_law_787 : decode cL_law 787 = .ok (.isub, 1) := by decide +kernel
theorem dL_law_788 : decode cL_law 788 = .ok (.bipush 9, 2) := by decide +kernel
theorem dL_law_790 : decode cL_law 790 = .ok (.if_icmp .le 19, 3) := by decide +kernel
theorem dL_law_793 : decode cL_law 793 = .ok (.aload_n 3, 1) := by decide +kernel
theorem dL_law_794 : decode cL_law 794 = .ok (.iconst 0, 1) := by decide +kernel
theorem dL_law_795 : decode cL_law 795 = .ok (.iaload, 1) := by decide +kernel
theorem dL_law_796 : decode cL_law 796 = .ok (.iload 19, 2) := by decide +kernel
theorem dL_law_798 : decode cL_law 798 = .ok (.isub, 1) := by decide +kernel
theorem dL_law_799 : decode cL_law 799 = .ok (.bipush 41, 2) := by decide +kernel
theorem dL_law_801 : decode cL_law 801 = .ok (.if_icmp .ge 8, 3) := by decide +kernel
theorem dL_law_804 : decode cL_law 804 = .ok (.iload 19, 2) := by decide +kernel
theorem dL_law_806 : decode cL_law 806 = .ok (.goto 4, 3) := by decide +kernel
theorem dL_law_809 : decode cL_law 809 = .ok (.iconst 0, 1) := by decide +kernel
theorem dL_law_810 : decode cL_law 810 = .ok (.istore 19, 2) := by decide +kernel
theorem dL_law_812 : decode cL_law 812 = .ok (.iload 17, 2) := by decide +kernel
theorem dL_law_814 : decode cL_law 814 = .ok (.aload_n 3, 1) := by decide +kernel
theorem dL_law_815 : decode cL_law 815 = .ok (.iload 19, 2) := by decide +kernel
theorem dL_law_817 : decode cL_law 817 = .ok (.invokestatic 76, 3) := by decide +kernel
theorem dL_law_820 : decode cL_law 820 = .ok (.iconst (-1), 1) := by decide +kernel
theorem dL_law_821 : decode cL_law 821 = .ok (.if_icmp .ge 7, 3) := by decide +kernel
theorem dL_law_824 : decode cL_law 824 = .ok (.iconst 0, 1) := by decide +kernel
theorem dL_law_825 : decode cL_law 825 = .ok (.goto 4, 3) := by decide +kernel
theorem dL_law_828 : decode cL_law 828 = .ok (.iconst 1, 1) := by decide +kernel
theorem dL_law_829 : decode cL_law 829 = .ok (.iadd, 1) := by decide +kernel
theorem dL_law_830 : decode cL_law 830 = .ok (.istore 17, 2) := by decide +kernel
theorem dL_law_832 : decode cL_law 832 = .ok (.goto (-110), 3) := by decide +kernel
theorem dL_law_835 : decode cL_law 835 = .ok (.aload_n 2, 1) := by decide +kernel
theorem dL_law_836 : decode cL_law 836 = .ok (.bipush 6, 2) := by decide +kernel
theorem dL_law_838 : decode cL_law 838 = .ok (.iaload, 1) := by decide +kernel
theorem dL_law_839 : decode cL_law 839 = .ok (.iconst 1, 1) := by decide +kernel
theorem dL_law_840 : decode cL_law 840 = .ok (.if_icmp .ne 7, 3) := by decide +kernel
theorem dL_law_843 : decode cL_law 843 = .ok (.iconst 1, 1) := by decide +kernel
theorem dL_law_844 : decode cL_law 844 = .ok (.goto 4, 3) := by decide +kernel
theorem dL_law_847 : decode cL_law 847 = .ok (.iconst 0, 1) := by decide +kernel
theorem dL_law_848 : decode cL_law 848 = .ok (.istore 18, 2) := by decide +kernel
theorem dL_law_850 : decode cL_law 850 = .ok (.aload_n 1, 1) := by decide +kernel
theorem dL_law_851 : decode cL_law 851 = .ok (.iload 13, 2) := by decide +kernel
theorem dL_law_853 : decode cL_law 853 = .ok (.iload 14, 2) := by decide +kernel
theorem dL_law_855 : decode cL_law 855 = .ok (.iconst 0, 1) := by decide +kernel
theorem dL_law_856 : decode cL_law 856 = .ok (.invokevirtual 101, 3) := by decide +kernel
theorem dL_law_859 : decode cL_law 859 = .ok (.iload 18, 2) := by decide +kernel
theorem dL_law_861 : decode cL_law 861 = .ok (.ifCond .eq 8, 3) := by decide +kernel
theorem dL_law_864 : decode cL_law 864 = .ok (.bipush (-103), 2) := by decide +kernel
theorem dL_law_866 : decode cL_law 866 = .ok (.goto 6, 3) := by decide +kernel
theorem dL_law_869 : decode cL_law 869 = .ok (.aload_n 3, 1) := by decide +kernel
theorem dL_law_870 : decode cL_law 870 = .ok (.iconst 0, 1) := by decide +kernel
theorem dL_law_871 : decode cL_law 871 = .ok (.iaload, 1) := by decide +kernel
theorem dL_law_872 : decode cL_law 872 = .ok (.if_icmp .ne 79, 3) := by decide +kernel
theorem dL_law_875 : decode cL_law 875 = .ok (.aload_n 1, 1) := by decide +kernel
theorem dL_law_876 : decode cL_law 876 = .ok (.iload 13, 2) := by decide +kernel
theorem dL_law_878 : decode cL_law 878 = .ok (.iload 14, 2) := by decide +kernel
theorem dL_law_880 : decode cL_law 880 = .ok (.iconst 1, 1) := by decide +kernel
theorem dL_law_881 : decode cL_law 881 = .ok (.invokevirtual 101, 3) := by decide +kernel
theorem dL_law_884 : decode cL_law 884 = .ok (.iload 18, 2) := by decide +kernel
theorem dL_law_886 : decode cL_law 886 = .ok (.ifCond .eq 8, 3) := by decide +kernel
theorem dL_law_889 : decode cL_law 889 = .ok (.bipush (-103), 2) := by decide +kernel
theorem dL_law_891 : decode cL_law 891 = .ok (.goto 6, 3) := by decide +kernel
theorem dL_law_894 : decode cL_law 894 = .ok (.aload_n 3, 1) := by decide +kernel
theorem dL_law_895 : decode cL_law 895 = .ok (.iconst 4, 1) := by decide +kernel
theorem dL_law_896 : decode cL_law 896 = .ok (.iaload, 1) := by decide +kernel
theorem dL_law_897 : decode cL_law 897 = .ok (.if_icmp .ne 54, 3) := by decide +kernel
theorem dL_law_900 : decode cL_law 900 = .ok (.aload_n 1, 1) := by decide +kernel
theorem dL_law_901 : decode cL_law 901 = .ok (.iload 13, 2) := by decide +kernel
theorem dL_law_903 : decode cL_law 903 = .ok (.iload 14, 2) := by decide +kernel
theorem dL_law_905 : decode cL_law 905 = .ok (.iconst 2, 1) := by decide +kernel
theorem dL_law_906 : decode cL_law 906 = .ok (.invokevirtual 101, 3) := by decide +kernel
theorem dL_law_909 : decode cL_law 909 = .ok (.iload 18, 2) := by decide +kernel
theorem dL_law_911 : decode cL_law 911 = .ok (.ifCond .eq 8, 3) := by decide +kernel
theorem dL_law_914 : decode cL_law 914 = .ok (.bipush (-103), 2) := by decide +kernel
theorem dL_law_916 : decode cL_law 916 = .ok (.goto 5, 3) := by decide +kernel
theorem dL_law_919 : decode cL_law 919 = .ok (.iload 17, 2) := by decide +kernel
theorem dL_law_921 : decode cL_law 921 = .ok (.if_icmp .ne 30, 3) := by decide +kernel
theorem dL_law_924 : decode cL_law 924 = .ok (.aload_n 1, 1) := by decide +kernel
theorem dL_law_925 : decode cL_law 925 = .ok (.iload 13, 2) := by decide +kernel
theorem dL_law_927 : decode cL_law 927 = .ok (.iload 14, 2) := by decide +kernel
theorem dL_law_929 : decode cL_law 929 = .ok (.iconst 3, 1) := by decide +kernel
theorem dL_law_930 : decode cL_law 930 = .ok (.invokevirtual 101, 3) := by decide +kernel
theorem dL_law_933 : decode cL_law 933 = .ok (.i2l, 1) := by decide +kernel
theorem dL_law_934 : decode cL_law 934 = .ok (.iload 18, 2) := by decide +kernel
theorem dL_law_936 : decode cL_law 936 = .ok (.ifCond .eq 9, 3) := by decide +kernel
theorem dL_law_939 : decode cL_law 939 = .ok (.ldc2_w 104, 3) := by decide +kernel
theorem dL_law_942 : decode cL_law 942 = .ok (.goto 5, 3) := by decide +kernel
theorem dL_law_945 : decode cL_law 945 = .ok (.lload 15, 2) := by decide +kernel
theorem dL_law_947 : decode cL_law 947 = .ok (.lcmp, 1) := by decide +kernel
theorem dL_law_948 : decode cL_law 948 = .ok (.ifCond .eq 5, 3) := by decide +kernel
theorem dL_law_951 : decode cL_law 951 = .ok (.iconst 0, 1) := by decide +kernel
theorem dL_law_952 : decode cL_law 952 = .ok (.ireturn, 1) := by decide +kernel
theorem dL_law_953 : decode cL_law 953 = .ok (.iinc 5 1, 3) := by decide +kernel
theorem dL_law_956 : decode cL_law 956 = .ok (.goto (-876), 3) := by decide +kernel
theorem dL_law_959 : decode cL_law 959 = .ok (.aload_n 1, 1) := by decide +kernel
theorem dL_law_960 : decode cL_law 960 = .ok (.iconst 2, 1) := by decide +kernel
theorem dL_law_961 : decode cL_law 961 = .ok (.iconst 0, 1) := by decide +kernel
theorem dL_law_962 : decode cL_law 962 = .ok (.invokevirtual 62, 3) := by decide +kernel
theorem dL_law_965 : decode cL_law 965 = .ok (.bipush (-101), 2) := by decide +kernel
theorem dL_law_967 : decode cL_law 967 = .ok (.if_icmp .ne 177, 3) := by decide +kernel
theorem dL_law_970 : decode cL_law 970 = .ok (.aload_n 1, 1) := by decide +kernel
theorem dL_law_971 : decode cL_law 971 = .ok (.iconst 0, 1) := by decide +kernel
theorem dL_law_972 : decode cL_law 972 = .ok (.iconst 4, 1) := by decide +kernel
theorem dL_law_973 : decode cL_law 973 = .ok (.invokevirtual 62, 3) := by decide +kernel
theorem dL_law_976 : decode cL_law 976 = .ok (.bipush (-102), 2) := by decide +kernel
theorem dL_law_978 : decode cL_law 978 = .ok (.if_icmp .ne 166, 3) := by decide +kernel
theorem dL_law_981 : decode cL_law 981 = .ok (.aload_n 1, 1) := by decide +kernel
theorem dL_law_982 : decode cL_law 982 = .ok (.aload_n 2, 1) := by decide +kernel
theorem dL_law_983 : decode cL_law 983 = .ok (.bipush 7, 2) := by decide +kernel
theorem dL_law_985 : decode cL_law 985 = .ok (.iaload, 1) := by decide +kernel
theorem dL_law_986 : decode cL_law 986 = .ok (.iconst 0, 1) := by decide +kernel
theorem dL_law_987 : decode cL_law 987 = .ok (.invokevirtual 58, 3) := by decide +kernel
theorem dL_law_990 : decode cL_law 990 = .ok (.bipush (-101), 2) := by decide +kernel
theorem dL_law_992 : decode cL_law 992 = .ok (.if_icmp .ne 152, 3) := by decide +kernel
theorem dL_law_995 : decode cL_law 995 = .ok (.aload_n 1, 1) := by decide +kernel
theorem dL_law_996 : decode cL_law 996 = .ok (.aload_n 2, 1) := by decide +kernel
theorem dL_law_997 : decode cL_law 997 = .ok (.bipush 7, 2) := by decide +kernel
theorem dL_law_999 : decode cL_law 999 = .ok (.iaload, 1) := by decide +kernel
theorem dL_law_1000 : decode cL_law 1000 = .ok (.iconst 0, 1) := by decide +kernel
theorem dL_law_1001 : decode cL_law 1001 = .ok (.invokevirtual 85, 3) := by decide +kernel
theorem dL_law_1004 : decode cL_law 1004 = .ok (.bipush (-101), 2) := by decide +kernel
theorem dL_law_1006 : decode cL_law 1006 = .ok (.if_icmp .ne 138, 3) := by decide +kernel
theorem dL_law_1009 : decode cL_law 1009 = .ok (.aload_n 1, 1) := by decide +kernel
theorem dL_law_1010 : decode cL_law 1010 = .ok (.bipush 6, 2) := by decide +kernel
theorem dL_law_1012 : decode cL_law 1012 = .ok (.invokevirtual 78, 3) := by decide +kernel
theorem dL_law_1015 : decode cL_law 1015 = .ok (.bipush (-101), 2) := by decide +kernel
theorem dL_law_1017 : decode cL_law 1017 = .ok (.if_icmp .ne 127, 3) := by decide +kernel
theorem dL_law_1020 : decode cL_law 1020 = .ok (.aload_n 1, 1) := by decide +kernel
theorem dL_law_1021 : decode cL_law 1021 = .ok (.iconst 4, 1) := by decide +kernel
theorem dL_law_1022 : decode cL_law 1022 = .ok (.invokevirtual 73, 3) := by decide +kernel
theorem dL_law_1025 : decode cL_law 1025 = .ok (.bipush (-102), 2) := by decide +kernel
theorem dL_law_1027 : decode cL_law 1027 = .ok (.if_icmp .ne 117, 3) := by decide +kernel
theorem dL_law_1030 : decode cL_law 1030 = .ok (.aload_n 1, 1) := by decide +kernel
theorem dL_law_1031 : decode cL_law 1031 = .ok (.bipush (-4), 2) := by decide +kernel
theorem dL_law_1033 : decode cL_law 1033 = .ok (.invokevirtual 73, 3) := by decide +kernel
theorem dL_law_1036 : decode cL_law 1036 = .ok (.bipush (-102), 2) := by decide +kernel
theorem dL_law_1038 : decode cL_law 1038 = .ok (.if_icmp .ne 106, 3) := by decide +kernel
theorem dL_law_1041 : decode cL_law 1041 = .ok (.aload_n 1, 1) := by decide +kernel
theorem dL_law_1042 : decode cL_law 1042 = .ok (.iconst 0, 1) := by decide +kernel
theorem dL_law_1043 : decode cL_law 1043 = .ok (.invokevirtual 88, 3) := by decide +kernel
theorem dL_law_1046 : decode cL_law 1046 = .ok (.bipush (-102), 2) := by decide +kernel
theorem dL_law_1048 : decode cL_law 1048 = .ok (.if_icmp .ne 96, 3) := by decide +kernel
theorem dL_law_1051 : decode cL_law 1051 = .ok (.aload_n 1, 1) := by decide +kernel
theorem dL_law_1052 : decode cL_law 1052 = .ok (.bipush 100, 2) := by decide +kernel
theorem dL_law_1054 : decode cL_law 1054 = .ok (.invokevirtual 88, 3) := by decide +kernel
theorem dL_law_1057 : decode cL_law 1057 = .ok (.bipush (-102), 2) := by decide +kernel
theorem dL_law_1059 : decode cL_law 1059 = .ok (.if_icmp .ne 85, 3) := by decide +kernel
theorem dL_law_1062 : decode cL_law 1062 = .ok (.aload_n 1, 1) := by decide +kernel
theorem dL_law_1063 : decode cL_law 1063 = .ok (.iconst 0, 1) := by decide +kernel
theorem dL_law_1064 : decode cL_law 1064 = .ok (.iconst 1, 1) := by decide +kernel
theorem dL_law_1065 : decode cL_law 1065 = .ok (.iconst 0, 1) := by decide +kernel
theorem dL_law_1066 : decode cL_law 1066 = .ok (.invokevirtual 101, 3) := by decide +kernel
theorem dL_law_1069 : decode cL_law 1069 = .ok (.bipush (-102), 2) := by decide +kernel
theorem dL_law_1071 : decode cL_law 1071 = .ok (.if_icmp .ne 73, 3) := by decide +kernel
theorem dL_law_1074 : decode cL_law 1074 = .ok (.aload_n 1, 1) := by decide +kernel
theorem dL_law_1075 : decode cL_law 1075 = .ok (.bipush 61, 2) := by decide +kernel
theorem dL_law_1077 : decode cL_law 1077 = .ok (.iconst 1, 1) := by decide +kernel
theorem dL_law_1078 : decode cL_law 1078 = .ok (.iconst 0, 1) := by decide +kernel
theorem dL_law_1079 : decode cL_law 1079 = .ok (.invokevirtual 101, 3) := by decide +kernel
theorem dL_law_1082 : decode cL_law 1082 = .ok (.bipush (-102), 2) := by decide +kernel
theorem dL_law_1084 : decode cL_law 1084 = .ok (.if_icmp .ne 60, 3) := by decide +kernel
theorem dL_law_1087 : decode cL_law 1087 = .ok (.aload_n 1, 1) := by decide +kernel
theorem dL_law_1088 : decode cL_law 1088 = .ok (.iconst 1, 1) := by decide +kernel
theorem dL_law_1089 : decode cL_law 1089 = .ok (.iconst (-1), 1) := by decide +kernel
theorem dL_law_1090 : decode cL_law 1090 = .ok (.iconst 0, 1) := by decide +kernel
theorem dL_law_1091 : decode cL_law 1091 = .ok (.invokevirtual 101, 3) := by decide +kernel
theorem dL_law_1094 : decode cL_law 1094 = .ok (.bipush (-102), 2) := by decide +kernel
theorem dL_law_1096 : decode cL_law 1096 = .ok (.if_icmp .ne 48, 3) := by decide +kernel
theorem dL_law_1099 : decode cL_law 1099 = .ok (.aload_n 1, 1) := by decide +kernel
theorem dL_law_1100 : decode cL_law 1100 = .ok (.iconst 1, 1) := by decide +kernel
theorem dL_law_1101 : decode cL_law 1101 = .ok (.iconst 1, 1) := by decide +kernel
theorem dL_law_1102 : decode cL_law 1102 = .ok (.iconst 4, 1) := by decide +kernel
theorem dL_law_1103 : decode cL_law 1103 = .ok (.invokevirtual 101, 3) := by decide +kernel
theorem dL_law_1106 : decode cL_law 1106 = .ok (.bipush (-102), 2) := by decide +kernel
theorem dL_law_1108 : decode cL_law 1108 = .ok (.if_icmp .ne 36, 3) := by decide +kernel
theorem dL_law_1111 : decode cL_law 1111 = .ok (.aload_n 2, 1) := by decide +kernel
theorem dL_law_1112 : decode cL_law 1112 = .ok (.bipush 7, 2) := by decide +kernel
theorem dL_law_1114 : decode cL_law 1114 = .ok (.iaload, 1) := by decide +kernel
theorem dL_law_1115 : decode cL_law 1115 = .ok (.ifCond .eq 25, 3) := by decide +kernel
theorem dL_law_1118 : decode cL_law 1118 = .ok (.aload_n 1, 1) := by decide +kernel
theorem dL_law_1119 : decode cL_law 1119 = .ok (.iconst 0, 1) := by decide +kernel
theorem dL_law_1120 : decode cL_law 1120 = .ok (.iconst 5, 1) := by decide +kernel
theorem dL_law_1121 : decode cL_law 1121 = .ok (.invokevirtual 58, 3) := by decide +kernel
theorem dL_law_1124 : decode cL_law 1124 = .ok (.bipush (-102), 2) := by decide +kernel
theorem dL_law_1126 : decode cL_law 1126 = .ok (.if_icmp .ne 18, 3) := by decide +kernel
theorem dL_law_1129 : decode cL_law 1129 = .ok (.aload_n 1, 1) := by decide +kernel
theorem dL_law_1130 : decode cL_law 1130 = .ok (.iconst 0, 1) := by decide +kernel
theorem dL_law_1131 : decode cL_law 1131 = .ok (.iconst 5, 1) := by decide +kernel
theorem dL_law_1132 : decode cL_law 1132 = .ok (.invokevirtual 85, 3) := by decide +kernel
theorem dL_law_1135 : decode cL_law 1135 = .ok (.bipush (-102), 2) := by decide +kernel
theorem dL_law_1137 : decode cL_law 1137 = .ok (.if_icmp .ne 7, 3) := by decide +kernel
theorem dL_law_1140 : decode cL_law 1140 = .ok (.iconst 1, 1) := by decide +kernel
theorem dL_law_1141 : decode cL_law 1141 = .ok (.goto 4, 3) := by decide +kernel
theorem dL_law_1144 : decode cL_law 1144 = .ok (.iconst 0, 1) := by decide +kernel
theorem dL_law_1145 : decode cL_law 1145 = .ok (.ireturn, 1) := by decide +kernel
end
section
theorem dX11_init_0 : decode cX11_init 0 = .ok (.aload_n 0, 1) := by decide +kernel
theorem dX11_init_1 : decode cX11_init 1 = .ok (.invokespecial 1, 3) := by decide +kernel
theorem dX11_init_4 : decode cX11_init 4 = .ok (.aload_n 0, 1) := by decide +kernel
theorem dX11_init_5 : decode cX11_init 5 = .ok (.new 7, 3) := by decide +kernel
theorem dX11_init_8 : decode cX11_init 8 = .ok (.dup, 1) := by decide +kernel
theorem dX11_init_9 : decode cX11_init 9 = .ok (.invokespecial 9, 3) := by decide +kernel
theorem dX11_init_12 : decode cX11_init 12 = .ok (.putfield 10, 3) := by decide +kernel
theorem dX11_init_15 : decode cX11_init 15 = .ok (.aload_n 0, 1) := by decide +kernel
theorem dX11_init_16 : decode cX11_init 16 = .ok (.new 16, 3) := by decide +kernel
theorem dX11_init_19 : decode cX11_init 19 = .ok (.dup, 1) := by decide +kernel
theorem dX11_init_20 : decode cX11_init 20 = .ok (.invokespecial 18, 3) := by decide +kernel
theorem dX11_init_23 : decode cX11_init 23 = .ok (.putfield 19, 3) := by decide +kernel
theorem dX11_init_26 : decode cX11_init 26 = .ok (.aload_n 0, 1) := by decide +kernel
theorem dX11_init_27 : decode cX11_init 27 = .ok (.new 23, 3) := by decide +kernel
theorem dX11_init_30 : decode cX11_init 30 = .ok (.dup, 1) := by decide +kernel
theorem dX11_init_31 : decode cX11_init 31 = .ok (.invokespecial 25, 3) := by decide +kernel
theorem dX11_init_34 : decode cX11_init 34 = .ok (.putfield 26, 3) := by decide +kernel
theorem dX11_init_37 : decode cX11_init 37 = .ok (.aload_n 0, 1) := by decide +kernel
theorem dX11_init_38 : decode cX11_init 38 = .ok (.new 30, 3) := by decide +kernel
theorem dX11_init_41 : decode cX11_init 41 = .ok (.dup, 1) := by decide +kernel
theorem dX11_init_42 : decode cX11_init 42 = .ok (.invokespecial 32, 3) := by decide +kernel
theorem dX11_init_45 : decode cX11_init 45 = .ok (.putfield 33, 3) := by decide +kernel
theorem dX11_init_48 : decode cX11_init 48 = .ok (.aload_n 0, 1) := by decide +kernel
theorem dX11_init_49 : decode cX11_init 49 = .ok (.new 37, 3) := by decide +kernel
theorem dX11_init_52 : decode cX11_init 52 = .ok (.dup, 1) := by decide +kernel
theorem dX11_init_53 : decode cX11_init 53 = .ok (.invokespecial 39, 3) := by decide +kernel
theorem dX11_init_56 : decode cX11_init 56 = .ok (.putfield 40, 3) := by decide +kernel
theorem dX11_init_59 : decode cX11_init 59 = .ok (.aload_n 0, 1) := by decide +kernel
theorem dX11_init_60 : decode cX11_init 60 = .ok (.new 44, 3) := by decide +kernel
theorem dX11_init_63 : decode cX11_init 63 = .ok (.dup, 1) := by decide +kernel
theorem dX11_init_64 : decode cX11_init 64 = .ok (.invokespecial 46, 3) := by decide +kernel
theorem dX11_init_67 : decode cX11_init 67 = .ok (.putfield 47, 3) := by decide +kernel
theorem dX11_init_70 : decode cX11_init 70 = .ok (.aload_n 0, 1) := by decide +kernel
theorem dX11_init_71 : decode cX11_init 71 = .ok (.new 16, 3) := by decide +kernel
theorem dX11_init_74 : decode cX11_init 74 = .ok (.dup, 1) := by decide +kernel
theorem dX11_init_75 : decode cX11_init 75 = .ok (.invokespecial 18, 3) := by decide +kernel
theorem dX11_init_78 : decode cX11_init 78 = .ok (.putfield 51, 3) := by decide +kernel
theorem dX11_init_81 : decode cX11_init 81 = .ok (.aload_n 0, 1) := by decide +kernel
theorem dX11_init_82 : decode cX11_init 82 = .ok (.new 16, 3) := by decide +kernel
theorem dX11_init_85 : decode cX11_init 85 = .ok (.dup, 1) := by decide +kernel
theorem dX11_init_86 : decode cX11_init 86 = .ok (.invokespecial 18, 3) := by decide +kernel
theorem dX11_init_89 : decode cX11_init 89 = .ok (.putfield 54, 3) := by decide +kernel
theorem dX11_init_92 : decode cX11_init 92 = .ok (.return_, 1) := by decide +kernel
theorem dX11_letters_0 : decode cX11_letters 0 = .ok (.lload_n 1, 1) := by decide +kernel
theorem dX11_letters_1 : decode cX11_letters 1 = .ok (.invokestatic 57, 3) := by decide +kernel
theorem dX11_letters_4 : decode cX11_letters 4 = .ok (.istore_n 3, 1) := by decide +kernel
theorem dX11_letters_5 : decode cX11_letters 5 = .ok (.iload_n 3, 1) := by decide +kernel
theorem dX11_letters_6 : decode cX11_letters 6 = .ok (.ifCond .ge 6, 3) := by decide +kernel
theorem dX11_letters_9 : decode cX11_letters 9 = .ok (.bipush (-102), 2) := by decide +kernel
theorem dX11_letters_11 : decode cX11_letters 11 = .ok (.ireturn, 1) := by decide +kernel
theorem dX11_letters_12 : decode cX11_letters 12 = .ok (.aload_n 0, 1) := by decide +kernel
theorem dX11_letters_13 : decode cX11_letters 13 = .ok (.getfield 10, 3) := by decide +kernel
theorem dX11_letters_16 : decode cX11_letters 16 = .ok (.iload_n 3, 1) := by decide +kernel
theorem dX11_letters_17 : decode cX11_letters 17 = .ok (.invokevirtual 61, 3) := by decide +kernel
theorem dX11_letters_20 : decode cX11_letters 20 = .ok (.ifCond .ne 6, 3) := by decide +kernel
theorem dX11_letters_23 : decode cX11_letters 23 = .ok (.bipush (-104), 2) := by decide +kernel
theorem dX11_letters_25 : decode cX11_letters 25 = .ok (.ireturn, 1) := by decide +kernel
theorem dX11_letters_26 : decode cX11_letters 26 = .ok (.iconst 0, 1) := by decide +kernel
theorem dX11_letters_27 : decode cX11_letters 27 = .ok (.istore 4, 2) := by decide +kernel
theorem dX11_letters_29 : decode cX11_letters 29 = .ok (.iload 4, 2) := by decide +kernel
theorem dX11_letters_31 : decode cX11_letters 31 = .ok (.iload_n 3, 1) := by decide +kernel
theorem dX11_letters_32 : decode cX11_letters 32 = .ok (.if_icmp .ge 23, 3) := by decide +kernel
theorem dX11_letters_35 : decode cX11_letters 35 = .ok (.aload_n 0, 1) := by decide +kernel
theorem dX11_letters_36 : decode cX11_letters 36 = .ok (.getfield 10, 3) := by decide +kernel
theorem dX11_letters_39 : decode cX11_letters 39 = .ok (.lload_n 1, 1) := by decide +kernel
theorem dX11_letters_40 : decode cX11_letters 40 = .ok (.iload 4, 2) := by decide +kernel
theorem dX11_letters_42 : decode cX11_letters 42 = .ok (.invokestatic 65, 3) := by decide +kernel
theorem dX11_letters_45 : decode cX11_letters 45 = .ok (.i2c, 1) := by decide +kernel
theorem dX11_letters_46 : decode cX11_letters 46 = .ok (.invokevirtual 69, 3) := by decide +kernel
theorem dX11_letters_49 : decode cX11_letters 49 = .ok (.iinc 4 1, 3) := by decide +kernel
theorem dX11_letters_52 : decode cX11_letters 52 = .ok (.goto (-23), 3) := by decide +kernel
theorem dX11_letters_55 : decode cX11_letters 55 = .ok (.aload_n 0, 1) := by decide +kernel
theorem dX11_letters_56 : decode cX11_letters 56 = .ok (.getfield 10, 3) := by decide +kernel
theorem dX11_letters_59 : decode cX11_letters 59 = .ok (.getfield 73, 3) := by decide +kernel
theorem dX11_letters_62 : decode cX11_letters 62 = .ok (.ireturn, 1) := by decide +kernel
theorem dX11_fault_0 : decode cX11_fault 0 = .ok (.aload_n 0, 1) := by decide +kernel
theorem dX11_fault_1 : decode cX11_fault 1 = .ok (.getfield 10, 3) := by decide +kernel
theorem dX11_fault_4 : decode cX11_fault 4 = .ok (.invokevirtual 81, 3) := by decide +kernel
theorem dX11_fault_7 : decode cX11_fault 7 = .ok (.ireturn, 1) := by decide +kernel
theorem dX11_wire_0 : decode cX11_wire 0 = .ok (.aload_n 0, 1) := by decide +kernel
theorem dX11_wire_1 : decode cX11_wire 1 = .ok (.getfield 10, 3) := by decide +kernel
theorem dX11_wire_4 : decode cX11_wire 4 = .ok (.invokevirtual 84, 3) := by decide +kernel
theorem dX11_wire_7 : decode cX11_wire 7 = .ok (.ifCond .ne 6, 3) := by decide +kernel
theorem dX11_wire_10 : decode cX11_wire 10 = .ok (.bipush (-103), 2) := by decide +kernel
theorem dX11_wire_12 : decode cX11_wire 12 = .ok (.ireturn, 1) := by decide +kernel
theorem dX11_wire_13 : decode cX11_wire 13 = .ok (.aload_n 0, 1) := by decide +kernel
theorem dX11_wire_14 : decode cX11_wire 14 = .ok (.getfield 19, 3) := by decide +kernel
theorem dX11_wire_17 : decode cX11_wire 17 = .ok (.aload_n 0, 1) := by decide +kernel
theorem dX11_wire_18 : decode cX11_wire 18 = .ok (.getfield 10, 3) := by decide +kernel
theorem dX11_wire_21 : decode cX11_wire 21 = .ok (.invokevirtual 88, 3) := by decide +kernel
theorem dX11_wire_24 : decode cX11_wire 24 = .ok (.aload_n 0, 1) := by decide +kernel
theorem dX11_wire_25 : decode cX11_wire 25 = .ok (.getfield 10, 3) := by decide +kernel
theorem dX11_wire_28 : decode cX11_wire 28 = .ok (.invokevirtual 77, 3) := by decide +kernel
theorem dX11_wire_31 : decode cX11_wire 31 = .ok (.pop, 1) := by decide +kernel
theorem dX11_wire_32 : decode cX11_wire 32 = .ok (.aload_n 0, 1) := by decide +kernel
theorem dX11_wire_33 : decode cX11_wire 33 = .ok (.getfield 26, 3) := by decide +kernel
theorem dX11_wire_36 : decode cX11_wire 36 = .ok (.iconst 0, 1) := by decide +kernel
theorem dX11_wire_37 : decode cX11_wire 37 = .ok (.invokevirtual 92, 3) := by decide +kernel
theorem dX11_wire_40 : decode cX11_wire 40 = .ok (.aload_n 0, 1) := by decide +kernel
theorem dX11_wire_41 : decode cX11_wire 41 = .ok (.getfield 33, 3) := by decide +kernel
theorem dX11_wire_44 : decode cX11_wire 44 = .ok (.invokevirtual 96, 3) := by decide +kernel
theorem dX11_wire_47 : decode cX11_wire 47 = .ok (.pop, 1) := by decide +kernel
theorem dX11_wire_48 : decode cX11_wire 48 = .ok (.aload_n 0, 1) := by decide +kernel
theorem dX11_wire_49 : decode cX11_wire 49 = .ok (.iconst 0, 1) := by decide +kernel
theorem dX11_wire_50 : decode cX11_wire 50 = .ok (.putfield 97, 3) := by decide +kernel
theorem dX11_wire_53 : decode cX11_wire 53 = .ok (.aload_n 0, 1) := by decide +kernel
theorem dX11_wire_54 : decode cX11_wire 54 = .ok (.dup, 1) := by decide +kernel
theorem dX11_wire_55 : decode cX11_wire 55 = .ok (.getfield 101, 3) := by decide +kernel
theorem dX11_wire_58 : decode cX11_wire 58 = .ok (.iconst 1, 1) := by decide +kernel
theorem dX11_wire_59 : decode cX11_wire 59 = .ok (.iadd, 1) := by decide +kernel
theorem dX11_wire_60 : decode cX11_wire 60 = .ok (.putfield 101, 3) := by decide +kernel
theorem dX11_wire_63 : decode cX11_wire 63 = .ok (.aload_n 0, 1) := by decide +kernel
theorem dX11_wire_64 : decode cX11_wire 64 = .ok (.getfield 19, 3) := by decide +kernel
theorem dX11_wire_67 : decode cX11_wire 67 = .ok (.getfield 104, 3) := by decide +kernel
theorem dX11_wire_70 : decode cX11_wire 70 = .ok (.ireturn, 1) := by decide +kernel
theorem dX11_cabin_0 : decode cX11_cabin 0 = .ok (.iload_n 1, 1) := by decide +kernel
theorem dX11_cabin_1 : decode cX11_cabin 1 = .ok (.invokestatic 107, 3) := by decide +kernel
theorem dX11_cabin_4 : decode cX11_cabin 4 = .ok (.ifCond .ne 6, 3) := by decide +kernel
theorem dX11_cabin_7 : decode cX11_cabin 7 = .ok (.bipush (-101), 2) := by decide +kernel
theorem dX11_cabin_9 : decode cX11_cabin 9 = .ok (.ireturn, 1) := by decide +kernel
theorem dX11_cabin_10 : decode cX11_cabin 10 = .ok (.iload_n 2, 1) := by decide +kernel
theorem dX11_cabin_11 : decode cX11_cabin 11 = .ok (.ifCond .lt 8, 3) := by decide +kernel
theorem dX11_cabin_14 : decode cX11_cabin 14 = .ok (.iload_n 2, 1) := by decide +kernel
theorem dX11_cabin_15 : decode cX11_cabin 15 = .ok (.iconst 3, 1) := by decide +kernel
theorem dX11_cabin_16 : decode cX11_cabin 16 = .ok (.if_icmp .le 6, 3) := by decide +kernel
theorem dX11_cabin_19 : decode cX11_cabin 19 = .ok (.bipush (-102), 2) := by decide +kernel
theorem dX11_cabin_21 : decode cX11_cabin 21 = .ok (.ireturn, 1) := by decide +kernel
theorem dX11_cabin_22 : decode cX11_cabin 22 = .ok (.aload_n 0, 1) := by decide +kernel
theorem dX11_cabin_23 : decode cX11_cabin 23 = .ok (.getfield 19, 3) := by decide +kernel
theorem dX11_cabin_26 : decode cX11_cabin 26 = .ok (.invokevirtual 110, 3) := by decide +kernel
theorem dX11_cabin_29 : decode cX11_cabin 29 = .ok (.ifCond .ne 6, 3) := by decide +kernel
theorem dX11_cabin_32 : decode cX11_cabin 32 = .ok (.bipush (-103), 2) := by decide +kernel
theorem dX11_cabin_34 : decode cX11_cabin 34 = .ok (.ireturn, 1) := by decide +kernel
theorem dX11_cabin_35 : decode cX11_cabin 35 = .ok (.iload_n 2, 1) := by decide +kernel
theorem dX11_cabin_36 : decode cX11_cabin 36 = .ok (.tableswitch 70 0 2 #[28, 44, 57], 28) := by decide +kernel
theorem dX11_cabin_64 : decode cX11_cabin 64 = .ok (.aload_n 0, 1) := by decide +kernel
theorem dX11_cabin_65 : decode cX11_cabin 65 = .ok (.getfield 26, 3) := by decide +kernel
theorem dX11_cabin_68 : decode cX11_cabin 68 = .ok (.iload_n 1, 1) := by decide +kernel
theorem dX11_cabin_69 : decode cX11_cabin 69 = .ok (.aload_n 0, 1) := by decide +kernel
theorem dX11_cabin_70 : decode cX11_cabin 70 = .ok (.getfield 19, 3) := by decide +kernel
theorem dX11_cabin_73 : decode cX11_cabin 73 = .ok (.getfield 113, 3) := by decide +kernel
theorem dX11_cabin_76 : decode cX11_cabin 76 = .ok (.invokevirtual 116, 3) := by decide +kernel
theorem dX11_cabin_79 : decode cX11_cabin 79 = .ok (.ireturn, 1) := by decide +kernel
theorem dX11_cabin_80 : decode cX11_cabin 80 = .ok (.aload_n 0, 1) := by decide +kernel
theorem dX11_cabin_81 : decode cX11_cabin 81 = .ok (.getfield 19, 3) := by decide +kernel
theorem dX11_cabin_84 : decode cX11_cabin 84 = .ok (.iload_n 1, 1) := by decide +kernel
theorem dX11_cabin_85 : decode cX11_cabin 85 = .ok (.aload_n 0, 1) := by decide +kernel
theorem dX11_cabin_86 : decode cX11_cabin 86 = .ok (.getfield 26, 3) := by decide +kernel
theorem dX11_cabin_89 : decode cX11_cabin 89 = .ok (.invokevirtual 120, 3) := by decide +kernel
theorem dX11_cabin_92 : decode cX11_cabin 92 = .ok (.ireturn, 1) := by decide +kernel
theorem dX11_cabin_93 : decode cX11_cabin 93 = .ok (.aload_n 0, 1) := by decide +kernel
theorem dX11_cabin_94 : decode cX11_cabin 94 = .ok (.getfield 19, 3) := by decide +kernel
theorem dX11_cabin_97 : decode cX11_cabin 97 = .ok (.iload_n 1, 1) := by decide +kernel
theorem dX11_cabin_98 : decode cX11_cabin 98 = .ok (.aload_n 0, 1) := by decide +kernel
theorem dX11_cabin_99 : decode cX11_cabin 99 = .ok (.getfield 26, 3) := by decide +kernel
theorem dX11_cabin_102 : decode cX11_cabin 102 = .ok (.invokevirtual 124, 3) := by decide +kernel
theorem dX11_cabin_105 : decode cX11_cabin 105 = .ok (.ireturn, 1) := by decide +kernel
theorem dX11_cabin_106 : decode cX11_cabin 106 = .ok (.aload_n 0, 1) := by decide +kernel
theorem dX11_cabin_107 : decode cX11_cabin 107 = .ok (.getfield 26, 3) := by decide +kernel
theorem dX11_cabin_110 : decode cX11_cabin 110 = .ok (.iload_n 1, 1) := by decide +kernel
theorem dX11_cabin_111 : decode cX11_cabin 111 = .ok (.invokevirtual 127, 3) := by decide +kernel
theorem dX11_cabin_114 : decode cX11_cabin 114 = .ok (.ireturn, 1) := by decide +kernel
theorem dX11_thing_0 : decode cX11_thing 0 = .ok (.iload_n 3, 1) := by decide +kernel
theorem dX11_thing_1 : decode cX11_thing 1 = .ok (.invokestatic 107, 3) := by decide +kernel
theorem dX11_thing_4 : decode cX11_thing 4 = .ok (.ifCond .ne 6, 3) := by decide +kernel
theorem dX11_thing_7 : decode cX11_thing 7 = .ok (.bipush (-101), 2) := by decide +kernel
theorem dX11_thing_9 : decode cX11_thing 9 = .ok (.ireturn, 1) := by decide +kernel
theorem dX11_thing_10 : decode cX11_thing 10 = .ok (.iload_n 1, 1) := by decide +kernel
theorem dX11_thing_11 : decode cX11_thing 11 = .ok (.invokestatic 131, 3) := by decide +kernel
theorem dX11_thing_14 : decode cX11_thing 14 = .ok (.ifCond .eq 14, 3) := by decide +kernel
theorem dX11_thing_17 : decode cX11_thing 17 = .ok (.iload_n 2, 1) := by decide +kernel
theorem dX11_thing_18 : decode cX11_thing 18 = .ok (.iconst 1, 1) := by decide +kernel
theorem dX11_thing_19 : decode cX11_thing 19 = .ok (.if_icmp .lt 9, 3) := by decide +kernel
theorem dX11_thing_22 : decode cX11_thing 22 = .ok (.iload_n 2, 1) := by decide +kernel
theorem dX11_thing_23 : decode cX11_thing 23 = .ok (.bipush 20, 2) := by decide +kernel
theorem dX11_thing_25 : decode cX11_thing 25 = .ok (.if_icmp .le 6, 3) := by decide +kernel
theorem dX11_thing_28 : decode cX11_thing 28 = .ok (.bipush (-102), 2) := by decide +kernel
theorem dX11_thing_30 : decode cX11_thing 30 = .ok (.ireturn, 1) := by decide +kernel
theorem dX11_thing_31 : decode cX11_thing 31 = .ok (.aload_n 0, 1) := by decide +kernel
theorem dX11_thing_32 : decode cX11_thing 32 = .ok (.getfield 19, 3) := by decide +kernel
theorem dX11_thing_35 : decode cX11_thing 35 = .ok (.invokevirtual 110, 3) := by decide +kernel
theorem dX11_thing_38 : decode cX11_thing 38 = .ok (.ifCond .ne 6, 3) := by decide +kernel
theorem dX11_thing_41 : decode cX11_thing 41 = .ok (.bipush (-103), 2) := by decide +kernel
theorem dX11_thing_43 : decode cX11_thing 43 = .ok (.ireturn, 1) := by decide +kernel
theorem dX11_thing_44 : decode cX11_thing 44 = .ok (.aload_n 0, 1) := by decide +kernel
theorem dX11_thing_45 : decode cX11_thing 45 = .ok (.getfield 26, 3) := by decide +kernel
theorem dX11_thing_48 : decode cX11_thing 48 = .ok (.invokevirtual 134, 3) := by decide +kernel
theorem dX11_thing_51 : decode cX11_thing 51 = .ok (.ifCond .eq 6, 3) := by decide +kernel
theorem dX11_thing_54 : decode cX11_thing 54 = .ok (.bipush (-104), 2) := by decide +kernel
theorem dX11_thing_56 : decode cX11_thing 56 = .ok (.ireturn, 1) := by decide +kernel
theorem dX11_thing_57 : decode cX11_thing 57 = .ok (.aload_n 0, 1) := by decide +kernel
theorem dX11_thing_58 : decode cX11_thing 58 = .ok (.getfield 26, 3) := by decide +kernel
theorem dX11_thing_61 : decode cX11_thing 61 = .ok (.iload_n 1, 1) := by decide +kernel
theorem dX11_thing_62 : decode cX11_thing 62 = .ok (.iload_n 2, 1) := by decide +kernel
theorem dX11_thing_63 : decode cX11_thing 63 = .ok (.iload_n 3, 1) := by decide +kernel
theorem dX11_thing_64 : decode cX11_thing 64 = .ok (.aload_n 0, 1) := by decide +kernel
theorem dX11_thing_65 : decode cX11_thing 65 = .ok (.getfield 19, 3) := by decide +kernel
theorem dX11_thing_68 : decode cX11_thing 68 = .ok (.getfield 113, 3) := by decide +kernel
theorem dX11_thing_71 : decode cX11_thing 71 = .ok (.invokestatic 137, 3) := by decide +kernel
theorem dX11_thing_74 : decode cX11_thing 74 = .ok (.invokevirtual 141, 3) := by decide +kernel
theorem dX11_thing_77 : decode cX11_thing 77 = .ok (.ireturn, 1) := by decide +kernel
theorem dX11_about_0 : decode cX11_about 0 = .ok (.aload_n 0, 1) := by decide +kernel
theorem dX11_about_1 : decode cX11_about 1 = .ok (.getfield 26, 3) := by decide +kernel
theorem dX11_about_4 : decode cX11_about 4 = .ok (.iload_n 1, 1) := by decide +kernel
theorem dX11_about_5 : decode cX11_about 5 = .ok (.invokevirtual 144, 3) := by decide +kernel
theorem dX11_about_8 : decode cX11_about 8 = .ok (.astore_n 3, 1) := by decide +kernel
theorem dX11_about_9 : decode cX11_about 9 = .ok (.aload_n 3, 1) := by decide +kernel
theorem dX11_about_10 : decode cX11_about 10 = .ok (.ifnonnull 6, 3) := by decide +kernel
theorem dX11_about_13 : decode cX11_about 13 = .ok (.bipush (-101), 2) := by decide +kernel
theorem dX11_about_15 : decode cX11_about 15 = .ok (.ireturn, 1) := by decide +kernel
theorem dX11_about_16 : decode cX11_about 16 = .ok (.iload_n 2, 1) := by decide +kernel
theorem dX11_about_17 : decode cX11_about 17 = .ok (.tableswitch 74 0 4 #[35, 40, 45, 50, 62], 35) := by decide +kernel
theorem dX11_about_52 : decode cX11_about 52 = .ok (.aload_n 3, 1) := by decide +kernel
theorem dX11_about_53 : decode cX11_about 53 = .ok (.invokevirtual 148, 3) := by decide +kernel
theorem dX11_about_56 : decode cX11_about 56 = .ok (.ireturn, 1) := by decide +kernel
theorem dX11_about_57 : decode cX11_about 57 = .ok (.aload_n 3, 1) := by decide +kernel
theorem dX11_about_58 : decode cX11_about 58 = .ok (.getfield 153, 3) := by decide +kernel
theorem dX11_about_61 : decode cX11_about 61 = .ok (.ireturn, 1) := by decide +kernel
theorem dX11_about_62 : decode cX11_about 62 = .ok (.aload_n 3, 1) := by decide +kernel
theorem dX11_about_63 : decode cX11_about 63 = .ok (.getfield 156, 3) := by decide +kernel
theorem dX11_about_66 : decode cX11_about 66 = .ok (.ireturn, 1) := by decide +kernel
theorem dX11_about_67 : decode cX11_about 67 = .ok (.aload_n 3, 1) := by decide +kernel
theorem dX11_about_68 : decode cX11_about 68 = .ok (.aload_n 0, 1) := by decide +kernel
theorem dX11_about_69 : decode cX11_about 69 = .ok (.getfield 19, 3) := by decide +kernel
theorem dX11_about_72 : decode cX11_about 72 = .ok (.getfield 113, 3) := by decide +kernel
theorem dX11_about_75 : decode cX11_about 75 = .ok (.invokevirtual 159, 3) := by decide +kernel
theorem dX11_about_78 : decode cX11_about 78 = .ok (.ireturn, 1) := by decide +kernel
theorem dX11_about_79 : decode cX11_about 79 = .ok (.aload_n 3, 1) := by decide +kernel
theorem dX11_about_80 : decode cX11_about 80 = .ok (.aload_n 0, 1) := by decide +kernel
theorem dX11_about_81 : decode cX11_about 81 = .ok (.getfield 19, 3) := by decide +kernel
theorem dX11_about_84 : decode cX11_about 84 = .ok (.getfield 113, 3) := by decide +kernel
theorem dX11_about_87 : decode cX11_about 87 = .ok (.invokevirtual 162, 3) := by decide +kernel
theorem dX11_about_90 : decode cX11_about 90 = .ok (.ireturn, 1) := by decide +kernel
theorem dX11_about_91 : decode cX11_about 91 = .ok (.bipush (-102), 2) := by decide +kernel
theorem dX11_about_93 : decode cX11_about 93 = .ok (.ireturn, 1) := by decide +kernel
theorem dX11_as_0 : decode cX11_as 0 = .ok (.aload_n 0, 1) := by decide +kernel
theorem dX11_as_1 : decode cX11_as 1 = .ok (.getfield 26, 3) := by decide +kernel
theorem dX11_as_4 : decode cX11_as 4 = .ok (.iload_n 1, 1) := by decide +kernel
theorem dX11_as_5 : decode cX11_as 5 = .ok (.invokevirtual 144, 3) := by decide +kernel
theorem dX11_as_8 : decode cX11_as 8 = .ok (.astore_n 3, 1) := by decide +kernel
theorem dX11_as_9 : decode cX11_as 9 = .ok (.aload_n 3, 1) := by decide +kernel
theorem dX11_as_10 : decode cX11_as 10 = .ok (.ifnonnull 6, 3) := by decide +kernel
theorem dX11_as_13 : decode cX11_as 13 = .ok (.bipush (-101), 2) := by decide +kernel
theorem dX11_as_15 : decode cX11_as 15 = .ok (.ireturn, 1) := by decide +kernel
theorem dX11_as_16 : decode cX11_as 16 = .ok (.iload_n 2, 1) := by decide +kernel
theorem dX11_as_17 : decode cX11_as 17 = .ok (.invokestatic 131, 3) := by decide +kernel
theorem dX11_as_20 : decode cX11_as 20 = .ok (.ifCond .ne 6, 3) := by decide +kernel
theorem dX11_as_23 : decode cX11_as 23 = .ok (.bipush (-102), 2) := by decide +kernel
theorem dX11_as_25 : decode cX11_as 25 = .ok (.ireturn, 1) := by decide +kernel
theorem dX11_as_26 : decode cX11_as 26 = .ok (.aload_n 3, 1) := by decide +kernel
theorem dX11_as_27 : decode cX11_as 27 = .ok (.iload_n 2, 1) := by decide +kernel
theorem dX11_as_28 : decode cX11_as 28 = .ok (.invokestatic 165, 3) := by decide +kernel
theorem dX11_as_31 : decode cX11_as 31 = .ok (.ifCond .eq 7, 3) := by decide +kernel
theorem dX11_as_34 : decode cX11_as 34 = .ok (.iload_n 1, 1) := by decide +kernel
theorem dX11_as_35 : decode cX11_as 35 = .ok (.goto 4, 3) := by decide +kernel
theorem dX11_as_38 : decode cX11_as 38 = .ok (.iconst (-1), 1) := by decide +kernel
theorem dX11_as_39 : decode cX11_as 39 = .ok (.ireturn, 1) := by decide +kernel
theorem dX11_carry_0 : decode cX11_carry 0 = .ok (.aload_n 0, 1) := by decide +kernel
theorem dX11_carry_1 : decode cX11_carry 1 = .ok (.getfield 26, 3) := by decide +kernel
theorem dX11_carry_4 : decode cX11_carry 4 = .ok (.iload_n 1, 1) := by decide +kernel
theorem dX11_carry_5 : decode cX11_carry 5 = .ok (.invokevirtual 144, 3) := by decide +kernel
theorem dX11_carry_8 : decode cX11_carry 8 = .ok (.astore_n 2, 1) := by decide +kernel
theorem dX11_carry_9 : decode cX11_carry 9 = .ok (.aload_n 2, 1) := by decide +kernel
theorem dX11_carry_10 : decode cX11_carry 10 = .ok (.ifnonnull 6, 3) := by decide +kernel
theorem dX11_carry_13 : decode cX11_carry 13 = .ok (.bipush (-101), 2) := by decide +kernel
theorem dX11_carry_15 : decode cX11_carry 15 = .ok (.ireturn, 1) := by decide +kernel
theorem dX11_carry_16 : decode cX11_carry 16 = .ok (.aload_n 0, 1) := by decide +kernel
theorem dX11_carry_17 : decode cX11_carry 17 = .ok (.getfield 19, 3) := by decide +kernel
theorem dX11_carry_20 : decode cX11_carry 20 = .ok (.invokevirtual 169, 3) := by decide +kernel
theorem dX11_carry_23 : decode cX11_carry 23 = .ok (.ifCond .eq 17, 3) := by decide +kernel
theorem dX11_carry_26 : decode cX11_carry 26 = .ok (.aload_n 2, 1) := by decide +kernel
theorem dX11_carry_27 : decode cX11_carry 27 = .ok (.aload_n 0, 1) := by decide +kernel
theorem dX11_carry_28 : decode cX11_carry 28 = .ok (.getfield 19, 3) := by decide +kernel
theorem dX11_carry_31 : decode cX11_carry 31 = .ok (.invokevirtual 172, 3) := by decide +kernel
theorem dX11_carry_34 : decode cX11_carry 34 = .ok (.invokevirtual 175, 3) := by decide +kernel
theorem dX11_carry_37 : decode cX11_carry 37 = .ok (.ifCond .ne 6, 3) := by decide +kernel
theorem dX11_carry_40 : decode cX11_carry 40 = .ok (.bipush (-103), 2) := by decide +kernel
theorem dX11_carry_42 : decode cX11_carry 42 = .ok (.ireturn, 1) := by decide +kernel
theorem dX11_carry_43 : decode cX11_carry 43 = .ok (.aload_n 2, 1) := by decide +kernel
theorem dX11_carry_44 : decode cX11_carry 44 = .ok (.iconst 1, 1) := by decide +kernel
theorem dX11_carry_45 : decode cX11_carry 45 = .ok (.aload_n 2, 1) := by decide +kernel
theorem dX11_carry_46 : decode cX11_carry 46 = .ok (.getfield 156, 3) := by decide +kernel
theorem dX11_carry_49 : decode cX11_carry 49 = .ok (.isub, 1) := by decide +kernel
theorem dX11_carry_50 : decode cX11_carry 50 = .ok (.putfield 156, 3) := by decide +kernel
theorem dX11_carry_53 : decode cX11_carry 53 = .ok (.aload_n 2, 1) := by decide +kernel
theorem dX11_carry_54 : decode cX11_carry 54 = .ok (.getfield 156, 3) := by decide +kernel
theorem dX11_carry_57 : decode cX11_carry 57 = .ok (.ireturn, 1) := by decide +kernel
theorem dX11_hour_0 : decode cX11_hour 0 = .ok (.iload_n 1, 1) := by decide +kernel
theorem dX11_hour_1 : decode cX11_hour 1 = .ok (.bipush (-3), 2) := by decide +kernel
theorem dX11_hour_3 : decode cX11_hour 3 = .ok (.if_icmp .lt 8, 3) := by decide +kernel
theorem dX11_hour_6 : decode cX11_hour 6 = .ok (.iload_n 1, 1) := by decide +kernel
theorem dX11_hour_7 : decode cX11_hour 7 = .ok (.iconst 3, 1) := by decide +kernel
theorem dX11_hour_8 : decode cX11_hour 8 = .ok (.if_icmp .le 6, 3) := by decide +kernel
theorem dX11_hour_11 : decode cX11_hour 11 = .ok (.bipush (-102), 2) := by decide +kernel
theorem dX11_hour_13 : decode cX11_hour 13 = .ok (.ireturn, 1) := by decide +kernel
theorem dX11_hour_14 : decode cX11_hour 14 = .ok (.aload_n 0, 1) := by decide +kernel
theorem dX11_hour_15 : decode cX11_hour 15 = .ok (.getfield 19, 3) := by decide +kernel
theorem dX11_hour_18 : decode cX11_hour 18 = .ok (.invokevirtual 169, 3) := by decide +kernel
theorem dX11_hour_21 : decode cX11_hour 21 = .ok (.ifCond .eq 18, 3) := by decide +kernel
theorem dX11_hour_24 : decode cX11_hour 24 = .ok (.aload_n 0, 1) := by decide +kernel
theorem dX11_hour_25 : decode cX11_hour 25 = .ok (.getfield 19, 3) := by decide +kernel
theorem dX11_hour_28 : decode cX11_hour 28 = .ok (.getfield 178, 3) := by decide +kernel
theorem dX11_hour_31 : decode cX11_hour 31 = .ok (.iload_n 1, 1) := by decide +kernel
theorem dX11_hour_32 : decode cX11_hour 32 = .ok (.isub, 1) := by decide +kernel
theorem dX11_hour_33 : decode cX11_hour 33 = .ok (.invokestatic 181, 3) := by decide +kernel
theorem dX11_hour_36 : decode cX11_hour 36 = .ok (.ifCond .ne 6, 3) := by decide +kernel
theorem dX11_hour_39 : decode cX11_hour 39 = .ok (.bipush (-103), 2) := by decide +kernel
theorem dX11_hour_41 : decode cX11_hour 41 = .ok (.ireturn, 1) := by decide +kernel
theorem dX11_hour_42 : decode cX11_hour 42 = .ok (.aload_n 0, 1) := by decide +kernel
theorem dX11_hour_43 : decode cX11_hour 43 = .ok (.getfield 19, 3) := by decide +kernel
theorem dX11_hour_46 : decode cX11_hour 46 = .ok (.iload_n 1, 1) := by decide +kernel
theorem dX11_hour_47 : decode cX11_hour 47 = .ok (.aload_n 0, 1) := by decide +kernel
theorem dX11_hour_48 : decode cX11_hour 48 = .ok (.getfield 26, 3) := by decide +kernel
theorem dX11_hour_51 : decode cX11_hour 51 = .ok (.invokevirtual 184, 3) := by decide +kernel
theorem dX11_hour_54 : decode cX11_hour 54 = .ok (.aload_n 0, 1) := by decide +kernel
theorem dX11_hour_55 : decode cX11_hour 55 = .ok (.getfield 19, 3) := by decide +kernel
theorem dX11_hour_58 : decode cX11_hour 58 = .ok (.getfield 188, 3) := by decide +kernel
theorem dX11_hour_61 : decode cX11_hour 61 = .ok (.ifCond .eq 7, 3) := by decide +kernel
theorem dX11_hour_64 : decode cX11_hour 64 = .ok (.iconst (-1), 1) := by decide +kernel
theorem dX11_hour_65 : decode cX11_hour 65 = .ok (.goto 10, 3) := by decide +kernel
theorem dX11_hour_68 : decode cX11_hour 68 = .ok (.aload_n 0, 1) := by decide +kernel
theorem dX11_hour_69 : decode cX11_hour 69 = .ok (.getfield 19, 3) := by decide +kernel
theorem dX11_hour_72 : decode cX11_hour 72 = .ok (.getfield 178, 3) := by decide +kernel
theorem dX11_hour_75 : decode cX11_hour 75 = .ok (.ireturn, 1) := by decide +kernel
theorem dX11_caught_0 : decode cX11_caught 0 = .ok (.iload_n 1, 1) := by decide +kernel
theorem dX11_caught_1 : decode cX11_caught 1 = .ok (.iconst 1, 1) := by decide +kernel
theorem dX11_caught_2 : decode cX11_caught 2 = .ok (.if_icmp .lt 9, 3) := by decide +kernel
theorem dX11_caught_5 : decode cX11_caught 5 = .ok (.iload_n 1, 1) := by decide +kernel
theorem dX11_caught_6 : decode cX11_caught 6 = .ok (.bipush 99, 2) := by decide +kernel
theorem dX11_caught_8 : decode cX11_caught 8 = .ok (.if_icmp .le 6, 3) := by decide +kernel
theorem dX11_caught_11 : decode cX11_caught 11 = .ok (.bipush (-102), 2) := by decide +kernel
theorem dX11_caught_13 : decode cX11_caught 13 = .ok (.ireturn, 1) := by decide +kernel
theorem dX11_caught_14 : decode cX11_caught 14 = .ok (.aload_n 0, 1) := by decide +kernel
theorem dX11_caught_15 : decode cX11_caught 15 = .ok (.getfield 19, 3) := by decide +kernel
theorem dX11_caught_18 : decode cX11_caught 18 = .ok (.invokevirtual 169, 3) := by decide +kernel
theorem dX11_caught_21 : decode cX11_caught 21 = .ok (.ifCond .ne 6, 3) := by decide +kernel
theorem dX11_caught_24 : decode cX11_caught 24 = .ok (.bipush (-103), 2) := by decide +kernel
theorem dX11_caught_26 : decode cX11_caught 26 = .ok (.ireturn, 1) := by decide +kernel
theorem dX11_caught_27 : decode cX11_caught 27 = .ok (.aload_n 0, 1) := by decide +kernel
theorem dX11_caught_28 : decode cX11_caught 28 = .ok (.getfield 19, 3) := by decide +kernel
theorem dX11_caught_31 : decode cX11_caught 31 = .ok (.invokevirtual 172, 3) := by decide +kernel
theorem dX11_caught_34 : decode cX11_caught 34 = .ok (.istore_n 2, 1) := by decide +kernel
theorem dX11_caught_35 : decode cX11_caught 35 = .ok (.bipush 90, 2) := by decide +kernel
theorem dX11_caught_37 : decode cX11_caught 37 = .ok (.iload_n 1, 1) := by decide +kernel
theorem dX11_caught_38 : decode cX11_caught 38 = .ok (.iload_n 2, 1) := by decide +kernel
theorem dX11_caught_39 : decode cX11_caught 39 = .ok (.imul, 1) := by decide +kernel
theorem dX11_caught_40 : decode cX11_caught 40 = .ok (.isub, 1) := by decide +kernel
theorem dX11_caught_41 : decode cX11_caught 41 = .ok (.sipush 360, 3) := by decide +kernel
theorem dX11_caught_44 : decode cX11_caught 44 = .ok (.invokestatic 208, 3) := by decide +kernel
theorem dX11_caught_47 : decode cX11_caught 47 = .ok (.istore_n 3, 1) := by decide +kernel
theorem dX11_caught_48 : decode cX11_caught 48 = .ok (.iconst 0, 1) := by decide +kernel
theorem dX11_caught_49 : decode cX11_caught 49 = .ok (.istore 4, 2) := by decide +kernel
theorem dX11_caught_51 : decode cX11_caught 51 = .ok (.iload 4, 2) := by decide +kernel
theorem dX11_caught_53 : decode cX11_caught 53 = .ok (.bipush 98, 2) := by decide +kernel
theorem dX11_caught_55 : decode cX11_caught 55 = .ok (.if_icmp .gt 29, 3) := by decide +kernel
theorem dX11_caught_58 : decode cX11_caught 58 = .ok (.aload_n 0, 1) := by decide +kernel
theorem dX11_caught_59 : decode cX11_caught 59 = .ok (.getfield 19, 3) := by decide +kernel
theorem dX11_caught_62 : decode cX11_caught 62 = .ok (.iload 4, 2) := by decide +kernel
theorem dX11_caught_64 : decode cX11_caught 64 = .ok (.invokevirtual 213, 3) := by decide +kernel
theorem dX11_caught_67 : decode cX11_caught 67 = .ok (.iload_n 3, 1) := by decide +kernel
theorem dX11_caught_68 : decode cX11_caught 68 = .ok (.invokestatic 216, 3) := by decide +kernel
theorem dX11_caught_71 : decode cX11_caught 71 = .ok (.iconst 5, 1) := by decide +kernel
theorem dX11_caught_72 : decode cX11_caught 72 = .ok (.if_icmp .gt 6, 3) := by decide +kernel
theorem dX11_caught_75 : decode cX11_caught 75 = .ok (.iload 4, 2) := by decide +kernel
theorem dX11_caught_77 : decode cX11_caught 77 = .ok (.ireturn, 1) := by decide +kernel
theorem dX11_caught_78 : decode cX11_caught 78 = .ok (.iinc 4 1, 3) := by decide +kernel
theorem dX11_caught_81 : decode cX11_caught 81 = .ok (.goto (-30), 3) := by decide +kernel
theorem dX11_caught_84 : decode cX11_caught 84 = .ok (.iconst (-1), 1) := by decide +kernel
theorem dX11_caught_85 : decode cX11_caught 85 = .ok (.ireturn, 1) := by decide +kernel
theorem dX11_whirls_0 : decode cX11_whirls 0 = .ok (.iload_n 1, 1) := by decide +kernel
theorem dX11_whirls_1 : decode cX11_whirls 1 = .ok (.iconst 1, 1) := by decide +kernel
theorem dX11_whirls_2 : decode cX11_whirls 2 = .ok (.if_icmp .lt 22, 3) := by decide +kernel
theorem dX11_whirls_5 : decode cX11_whirls 5 = .ok (.iload_n 1, 1) := by decide +kernel
theorem dX11_whirls_6 : decode cX11_whirls 6 = .ok (.bipush 60, 2) := by decide +kernel
theorem dX11_whirls_8 : decode cX11_whirls 8 = .ok (.if_icmp .gt 16, 3) := by decide +kernel
theorem dX11_whirls_11 : decode cX11_whirls 11 = .ok (.iload_n 2, 1) := by decide +kernel
theorem dX11_whirls_12 : decode cX11_whirls 12 = .ok (.ifCond .lt 12, 3) := by decide +kernel
theorem dX11_whirls_15 : decode cX11_whirls 15 = .ok (.iload_n 3, 1) := by decide +kernel
theorem dX11_whirls_16 : decode cX11_whirls 16 = .ok (.ifCond .lt 8, 3) := by decide +kernel
theorem dX11_whirls_19 : decode cX11_whirls 19 = .ok (.iload_n 3, 1) := by decide +kernel
theorem dX11_whirls_20 : decode cX11_whirls 20 = .ok (.iconst 3, 1) := by decide +kernel
theorem dX11_whirls_21 : decode cX11_whirls 21 = .ok (.if_icmp .le 6, 3) := by decide +kernel
theorem dX11_whirls_24 : decode cX11_whirls 24 = .ok (.bipush (-102), 2) := by decide +kernel
theorem dX11_whirls_26 : decode cX11_whirls 26 = .ok (.ireturn, 1) := by decide +kernel
theorem dX11_whirls_27 : decode cX11_whirls 27 = .ok (.aload_n 0, 1) := by decide +kernel
theorem dX11_whirls_28 : decode cX11_whirls 28 = .ok (.getfield 19, 3) := by decide +kernel
theorem dX11_whirls_31 : decode cX11_whirls 31 = .ok (.invokevirtual 169, 3) := by decide +kernel
theorem dX11_whirls_34 : decode cX11_whirls 34 = .ok (.ifCond .ne 6, 3) := by decide +kernel
theorem dX11_whirls_37 : decode cX11_whirls 37 = .ok (.bipush (-103), 2) := by decide +kernel
theorem dX11_whirls_39 : decode cX11_whirls 39 = .ok (.ireturn, 1) := by decide +kernel
theorem dX11_whirls_40 : decode cX11_whirls 40 = .ok (.aload_n 0, 1) := by decide +kernel
theorem dX11_whirls_41 : decode cX11_whirls 41 = .ok (.iload_n 1, 1) := by decide +kernel
theorem dX11_whirls_42 : decode cX11_whirls 42 = .ok (.iload_n 2, 1) := by decide +kernel
theorem dX11_whirls_43 : decode cX11_whirls 43 = .ok (.invokevirtual 246, 3) := by decide +kernel
theorem dX11_whirls_46 : decode cX11_whirls 46 = .ok (.istore 4, 2) := by decide +kernel
theorem dX11_whirls_48 : decode cX11_whirls 48 = .ok (.iload_n 3, 1) := by decide +kernel
theorem dX11_whirls_49 : decode cX11_whirls 49 = .ok (.tableswitch 59 0 2 #[27, 35, 43], 27) := by decide +kernel
theorem dX11_whirls_76 : decode cX11_whirls 76 = .ok (.aload_n 0, 1) := by decide +kernel
theorem dX11_whirls_77 : decode cX11_whirls 77 = .ok (.getfield 51, 3) := by decide +kernel
theorem dX11_whirls_80 : decode cX11_whirls 80 = .ok (.getfield 178, 3) := by decide +kernel
theorem dX11_whirls_83 : decode cX11_whirls 83 = .ok (.ireturn, 1) := by decide +kernel
theorem dX11_whirls_84 : decode cX11_whirls 84 = .ok (.aload_n 0, 1) := by decide +kernel
theorem dX11_whirls_85 : decode cX11_whirls 85 = .ok (.getfield 51, 3) := by decide +kernel
theorem dX11_whirls_88 : decode cX11_whirls 88 = .ok (.getfield 249, 3) := by decide +kernel
theorem dX11_whirls_91 : decode cX11_whirls 91 = .ok (.ireturn, 1) := by decide +kernel
theorem dX11_whirls_92 : decode cX11_whirls 92 = .ok (.aload_n 0, 1) := by decide +kernel
theorem dX11_whirls_93 : decode cX11_whirls 93 = .ok (.getfield 51, 3) := by decide +kernel
theorem dX11_whirls_96 : decode cX11_whirls 96 = .ok (.getfield 113, 3) := by decide +kernel
theorem dX11_whirls_99 : decode cX11_whirls 99 = .ok (.aload_n 0, 1) := by decide +kernel
theorem dX11_whirls_100 : decode cX11_whirls 100 = .ok (.getfield 19, 3) := by decide +kernel
theorem dX11_whirls_103 : decode cX11_whirls 103 = .ok (.getfield 113, 3) := by decide +kernel
theorem dX11_whirls_106 : decode cX11_whirls 106 = .ok (.isub, 1) := by decide +kernel
theorem dX11_whirls_107 : decode cX11_whirls 107 = .ok (.ireturn, 1) := by decide +kernel
theorem dX11_whirls_108 : decode cX11_whirls 108 = .ok (.iload 4, 2) := by decide +kernel
theorem dX11_whirls_110 : decode cX11_whirls 110 = .ok (.ireturn, 1) := by decide +kernel
theorem dX11_count_0 : decode cX11_count 0 = .ok (.iload_n 1, 1) := by decide +kernel
theorem dX11_count_1 : decode cX11_count 1 = .ok (.tableswitch 188 0 12 #[67, 75, 83, 91, 103, 111, 127, 135, 143, 159, 167, 175, 180], 67) := by decide +kernel
theorem dX11_count_68 : decode cX11_count 68 = .ok (.aload_n 0, 1) := by decide +kernel
theorem dX11_count_69 : decode cX11_count 69 = .ok (.getfield 19, 3) := by decide +kernel
theorem dX11_count_72 : decode cX11_count 72 = .ok (.getfield 178, 3) := by decide +kernel
theorem dX11_count_75 : decode cX11_count 75 = .ok (.ireturn, 1) := by decide +kernel
theorem dX11_count_76 : decode cX11_count 76 = .ok (.aload_n 0, 1) := by decide +kernel
theorem dX11_count_77 : decode cX11_count 77 = .ok (.getfield 19, 3) := by decide +kernel
theorem dX11_count_80 : decode cX11_count 80 = .ok (.invokevirtual 172, 3) := by decide +kernel
theorem dX11_count_83 : decode cX11_count 83 = .ok (.ireturn, 1) := by decide +kernel
theorem dX11_count_84 : decode cX11_count 84 = .ok (.aload_n 0, 1) := by decide +kernel
theorem dX11_count_85 : decode cX11_count 85 = .ok (.getfield 19, 3) := by decide +kernel
theorem dX11_count_88 : decode cX11_count 88 = .ok (.getfield 104, 3) := by decide +kernel
theorem dX11_count_91 : decode cX11_count 91 = .ok (.ireturn, 1) := by decide +kernel
theorem dX11_count_92 : decode cX11_count 92 = .ok (.aload_n 0, 1) := by decide +kernel
theorem dX11_count_93 : decode cX11_count 93 = .ok (.getfield 19, 3) := by decide +kernel
theorem dX11_count_96 : decode cX11_count 96 = .ok (.aload_n 0, 1) := by decide +kernel
theorem dX11_count_97 : decode cX11_count 97 = .ok (.getfield 26, 3) := by decide +kernel
theorem dX11_count_100 : decode cX11_count 100 = .ok (.invokevirtual 232, 3) := by decide +kernel
theorem dX11_count_103 : decode cX11_count 103 = .ok (.ireturn, 1) := by decide +kernel
theorem dX11_count_104 : decode cX11_count 104 = .ok (.aload_n 0, 1) := by decide +kernel
theorem dX11_count_105 : decode cX11_count 105 = .ok (.getfield 19, 3) := by decide +kernel
theorem dX11_count_108 : decode cX11_count 108 = .ok (.getfield 260, 3) := by decide +kernel
theorem dX11_count_111 : decode cX11_count 111 = .ok (.ireturn, 1) := by decide +kernel
theorem dX11_count_112 : decode cX11_count 112 = .ok (.aload_n 0, 1) := by decide +kernel
theorem dX11_count_113 : decode cX11_count 113 = .ok (.getfield 19, 3) := by decide +kernel
theorem dX11_count_116 : decode cX11_count 116 = .ok (.getfield 263, 3) := by decide +kernel
theorem dX11_count_119 : decode cX11_count 119 = .ok (.ifCond .eq 7, 3) := by decide +kernel
theorem dX11_count_122 : decode cX11_count 122 = .ok (.iconst 1, 1) := by decide +kernel
theorem dX11_count_123 : decode cX11_count 123 = .ok (.goto 4, 3) := by decide +kernel
theorem dX11_count_126 : decode cX11_count 126 = .ok (.iconst 0, 1) := by decide +kernel
theorem dX11_count_127 : decode cX11_count 127 = .ok (.ireturn, 1) := by decide +kernel
theorem dX11_count_128 : decode cX11_count 128 = .ok (.aload_n 0, 1) := by decide +kernel
theorem dX11_count_129 : decode cX11_count 129 = .ok (.getfield 19, 3) := by decide +kernel
theorem dX11_count_132 : decode cX11_count 132 = .ok (.getfield 249, 3) := by decide +kernel
theorem dX11_count_135 : decode cX11_count 135 = .ok (.ireturn, 1) := by decide +kernel
theorem dX11_count_136 : decode cX11_count 136 = .ok (.aload_n 0, 1) := by decide +kernel
theorem dX11_count_137 : decode cX11_count 137 = .ok (.getfield 19, 3) := by decide +kernel
theorem dX11_count_140 : decode cX11_count 140 = .ok (.getfield 113, 3) := by decide +kernel
theorem dX11_count_143 : decode cX11_count 143 = .ok (.ireturn, 1) := by decide +kernel
theorem dX11_count_144 : decode cX11_count 144 = .ok (.aload_n 0, 1) := by decide +kernel
theorem dX11_count_145 : decode cX11_count 145 = .ok (.getfield 19, 3) := by decide +kernel
theorem dX11_count_148 : decode cX11_count 148 = .ok (.getfield 188, 3) := by decide +kernel
theorem dX11_count_151 : decode cX11_count 151 = .ok (.ifCond .eq 7, 3) := by decide +kernel
theorem dX11_count_154 : decode cX11_count 154 = .ok (.iconst 1, 1) := by decide +kernel
theorem dX11_count_155 : decode cX11_count 155 = .ok (.goto 4, 3) := by decide +kernel
theorem dX11_count_158 : decode cX11_count 158 = .ok (.iconst 0, 1) := by decide +kernel
theorem dX11_count_159 : decode cX11_count 159 = .ok (.ireturn, 1) := by decide +kernel
theorem dX11_count_160 : decode cX11_count 160 = .ok (.aload_n 0, 1) := by decide +kernel
theorem dX11_count_161 : decode cX11_count 161 = .ok (.getfield 26, 3) := by decide +kernel
theorem dX11_count_164 : decode cX11_count 164 = .ok (.getfield 266, 3) := by decide +kernel
theorem dX11_count_167 : decode cX11_count 167 = .ok (.ireturn, 1) := by decide +kernel
theorem dX11_count_168 : decode cX11_count 168 = .ok (.aload_n 0, 1) := by decide +kernel
theorem dX11_count_169 : decode cX11_count 169 = .ok (.getfield 10, 3) := by decide +kernel
theorem dX11_count_172 : decode cX11_count 172 = .ok (.getfield 73, 3) := by decide +kernel
theorem dX11_count_175 : decode cX11_count 175 = .ok (.ireturn, 1) := by decide +kernel
theorem dX11_count_176 : decode cX11_count 176 = .ok (.aload_n 0, 1) := by decide +kernel
theorem dX11_count_177 : decode cX11_count 177 = .ok (.getfield 101, 3) := by decide +kernel
theorem dX11_count_180 : decode cX11_count 180 = .ok (.ireturn, 1) := by decide +kernel
theorem dX11_count_181 : decode cX11_count 181 = .ok (.aload_n 0, 1) := by decide +kernel
theorem dX11_count_182 : decode cX11_count 182 = .ok (.getfield 33, 3) := by decide +kernel
theorem dX11_count_185 : decode cX11_count 185 = .ok (.getfield 267, 3) := by decide +kernel
theorem dX11_count_188 : decode cX11_count 188 = .ok (.ireturn, 1) := by decide +kernel
theorem dX11_count_189 : decode cX11_count 189 = .ok (.bipush (-102), 2) := by decide +kernel
theorem dX11_count_191 : decode cX11_count 191 = .ok (.ireturn, 1) := by decide +kernel
theorem dX11_tryHours_0 : decode cX11_tryHours 0 = .ok (.aload_n 0, 1) := by decide +kernel
theorem dX11_tryHours_1 : decode cX11_tryHours 1 = .ok (.getfield 51, 3) := by decide +kernel
theorem dX11_tryHours_4 : decode cX11_tryHours 4 = .ok (.aload_n 0, 1) := by decide +kernel
theorem dX11_tryHours_5 : decode cX11_tryHours 5 = .ok (.getfield 19, 3) := by decide +kernel
theorem dX11_tryHours_8 : decode cX11_tryHours 8 = .ok (.invokevirtual 250, 3) := by decide +kernel
theorem dX11_tryHours_11 : decode cX11_tryHours 11 = .ok (.iload_n 2, 1) := by decide +kernel
theorem dX11_tryHours_12 : decode cX11_tryHours 12 = .ok (.istore_n 3, 1) := by decide +kernel
theorem dX11_tryHours_13 : decode cX11_tryHours 13 = .ok (.iconst 0, 1) := by decide +kernel
theorem dX11_tryHours_14 : decode cX11_tryHours 14 = .ok (.istore 4, 2) := by decide +kernel
theorem dX11_tryHours_16 : decode cX11_tryHours 16 = .ok (.iload 4, 2) := by decide +kernel
theorem dX11_tryHours_18 : decode cX11_tryHours 18 = .ok (.iload_n 1, 1) := by decide +kernel
theorem dX11_tryHours_19 : decode cX11_tryHours 19 = .ok (.if_icmp .ge 70, 3) := by decide +kernel
theorem dX11_tryHours_22 : decode cX11_tryHours 22 = .ok (.aload_n 0, 1) := by decide +kernel
theorem dX11_tryHours_23 : decode cX11_tryHours 23 = .ok (.getfield 51, 3) := by decide +kernel
theorem dX11_tryHours_26 : decode cX11_tryHours 26 = .ok (.getfield 188, 3) := by decide +kernel
theorem dX11_tryHours_29 : decode cX11_tryHours 29 = .ok (.ifCond .ne 60, 3) := by decide +kernel
theorem dX11_tryHours_32 : decode cX11_tryHours 32 = .ok (.iload_n 3, 1) := by decide +kernel
theorem dX11_tryHours_33 : decode cX11_tryHours 33 = .ok (.invokestatic 307, 3) := by decide +kernel
theorem dX11_tryHours_36 : decode cX11_tryHours 36 = .ok (.istore_n 3, 1) := by decide +kernel
theorem dX11_tryHours_37 : decode cX11_tryHours 37 = .ok (.iload_n 3, 1) := by decide +kernel
theorem dX11_tryHours_38 : decode cX11_tryHours 38 = .ok (.ldc_w 310, 3) := by decide +kernel
theorem dX11_tryHours_41 : decode cX11_tryHours 41 = .ok (.idiv, 1) := by decide +kernel
theorem dX11_tryHours_42 : decode cX11_tryHours 42 = .ok (.bipush 7, 2) := by decide +kernel
theorem dX11_tryHours_44 : decode cX11_tryHours 44 = .ok (.irem, 1) := by decide +kernel
theorem dX11_tryHours_45 : decode cX11_tryHours 45 = .ok (.invokestatic 311, 3) := by decide +kernel
theorem dX11_tryHours_48 : decode cX11_tryHours 48 = .ok (.istore 5, 2) := by decide +kernel
theorem dX11_tryHours_50 : decode cX11_tryHours 50 = .ok (.aload_n 0, 1) := by decide +kernel
theorem dX11_tryHours_51 : decode cX11_tryHours 51 = .ok (.getfield 51, 3) := by decide +kernel
theorem dX11_tryHours_54 : decode cX11_tryHours 54 = .ok (.aload_n 0, 1) := by decide +kernel
theorem dX11_tryHours_55 : decode cX11_tryHours 55 = .ok (.getfield 51, 3) := by decide +kernel
theorem dX11_tryHours_58 : decode cX11_tryHours 58 = .ok (.getfield 178, 3) := by decide +kernel
theorem dX11_tryHours_61 : decode cX11_tryHours 61 = .ok (.iload 5, 2) := by decide +kernel
theorem dX11_tryHours_63 : decode cX11_tryHours 63 = .ok (.isub, 1) := by decide +kernel
theorem dX11_tryHours_64 : decode cX11_tryHours 64 = .ok (.invokestatic 181, 3) := by decide +kernel
theorem dX11_tryHours_67 : decode cX11_tryHours 67 = .ok (.ifCond .eq 8, 3) := by decide +kernel
theorem dX11_tryHours_70 : decode cX11_tryHours 70 = .ok (.iload 5, 2) := by decide +kernel
theorem dX11_tryHours_72 : decode cX11_tryHours 72 = .ok (.goto 4, 3) := by decide +kernel
theorem dX11_tryHours_75 : decode cX11_tryHours 75 = .ok (.iconst 0, 1) := by decide +kernel
theorem dX11_tryHours_76 : decode cX11_tryHours 76 = .ok (.aload_n 0, 1) := by decide +kernel
theorem dX11_tryHours_77 : decode cX11_tryHours 77 = .ok (.getfield 26, 3) := by decide +kernel
theorem dX11_tryHours_80 : decode cX11_tryHours 80 = .ok (.invokevirtual 184, 3) := by decide +kernel
theorem dX11_tryHours_83 : decode cX11_tryHours 83 = .ok (.iinc 4 1, 3) := by decide +kernel
theorem dX11_tryHours_86 : decode cX11_tryHours 86 = .ok (.goto (-70), 3) := by decide +kernel
theorem dX11_tryHours_89 : decode cX11_tryHours 89 = .ok (.iload_n 3, 1) := by decide +kernel
theorem dX11_tryHours_90 : decode cX11_tryHours 90 = .ok (.ireturn, 1) := by decide +kernel
theorem dX11_nextSeed_0 : decode cX11_nextSeed 0 = .ok (.ldc2_w 314, 3) := by decide +kernel
theorem dX11_nextSeed_3 : decode cX11_nextSeed 3 = .ok (.iload_n 0, 1) := by decide +kernel
theorem dX11_nextSeed_4 : decode cX11_nextSeed 4 = .ok (.i2l, 1) := by decide +kernel
theorem dX11_nextSeed_5 : decode cX11_nextSeed 5 = .ok (.lmul, 1) := by decide +kernel
theorem dX11_nextSeed_6 : decode cX11_nextSeed 6 = .ok (.ldc2_w 316, 3) := by decide +kernel
theorem dX11_nextSeed_9 : decode cX11_nextSeed 9 = .ok (.ladd, 1) := by decide +kernel
theorem dX11_nextSeed_10 : decode cX11_nextSeed 10 = .ok (.ldc2_w 318, 3) := by decide +kernel
theorem dX11_nextSeed_13 : decode cX11_nextSeed 13 = .ok (.lrem, 1) := by decide +kernel
theorem dX11_nextSeed_14 : decode cX11_nextSeed 14 = .ok (.l2i, 1) := by decide +kernel
theorem dX11_nextSeed_15 : decode cX11_nextSeed 15 = .ok (.ireturn, 1) := by decide +kernel
theorem dX11_byteOf_0 : decode cX11_byteOf 0 = .ok (.lload_n 0, 1) := by decide +kernel
theorem dX11_byteOf_1 : decode cX11_byteOf 1 = .ok (.bipush 8, 2) := by decide +kernel
theorem dX11_byteOf_3 : decode cX11_byteOf 3 = .ok (.iload_n 2, 1) := by decide +kernel
theorem dX11_byteOf_4 : decode cX11_byteOf 4 = .ok (.imul, 1) := by decide +kernel
theorem dX11_byteOf_5 : decode cX11_byteOf 5 = .ok (.lushr, 1) := by decide +kernel
theorem dX11_byteOf_6 : decode cX11_byteOf 6 = .ok (.l2i, 1) := by decide +kernel
theorem dX11_byteOf_7 : decode cX11_byteOf 7 = .ok (.sipush 255, 3) := by decide +kernel
theorem dX11_byteOf_10 : decode cX11_byteOf 10 = .ok (.iand, 1) := by decide +kernel
theorem dX11_byteOf_11 : decode cX11_byteOf 11 = .ok (.ireturn, 1) := by decide +kernel
theorem dX11_lettersIn_0 : decode cX11_lettersIn 0 = .ok (.iconst 0, 1) := by decide +kernel
theorem dX11_lettersIn_1 : decode cX11_lettersIn 1 = .ok (.istore_n 2, 1) := by decide +kernel
theorem dX11_lettersIn_2 : decode cX11_lettersIn 2 = .ok (.iconst 0, 1) := by decide +kernel
theorem dX11_lettersIn_3 : decode cX11_lettersIn 3 = .ok (.istore_n 3, 1) := by decide +kernel
theorem dX11_lettersIn_4 : decode cX11_lettersIn 4 = .ok (.iconst 0, 1) := by decide +kernel
theorem dX11_lettersIn_5 : decode cX11_lettersIn 5 = .ok (.istore 4, 2) := by decide +kernel
theorem dX11_lettersIn_7 : decode cX11_lettersIn 7 = .ok (.iload 4, 2) := by decide +kernel
theorem dX11_lettersIn_9 : decode cX11_lettersIn 9 = .ok (.bipush 8, 2) := by decide +kernel
theorem dX11_lettersIn_11 : decode cX11_lettersIn 11 = .ok (.if_icmp .ge 48, 3) := by decide +kernel
theorem dX11_lettersIn_14 : decode cX11_lettersIn 14 = .ok (.lload_n 0, 1) := by decide +kernel
theorem dX11_lettersIn_15 : decode cX11_lettersIn 15 = .ok (.iload 4, 2) := by decide +kernel
theorem dX11_lettersIn_17 : decode cX11_lettersIn 17 = .ok (.invokestatic 65, 3) := by decide +kernel
theorem dX11_lettersIn_20 : decode cX11_lettersIn 20 = .ok (.istore 5, 2) := by decide +kernel
theorem dX11_lettersIn_22 : decode cX11_lettersIn 22 = .ok (.iload 5, 2) := by decide +kernel
theorem dX11_lettersIn_24 : decode cX11_lettersIn 24 = .ok (.bipush 126, 2) := by decide +kernel
theorem dX11_lettersIn_26 : decode cX11_lettersIn 26 = .ok (.if_icmp .gt 12, 3) := by decide +kernel
theorem dX11_lettersIn_29 : decode cX11_lettersIn 29 = .ok (.iload_n 3, 1) := by decide +kernel
theorem dX11_lettersIn_30 : decode cX11_lettersIn 30 = .ok (.ifCond .eq 10, 3) := by decide +kernel
theorem dX11_lettersIn_33 : decode cX11_lettersIn 33 = .ok (.iload 5, 2) := by decide +kernel
theorem dX11_lettersIn_35 : decode cX11_lettersIn 35 = .ok (.ifCond .eq 5, 3) := by decide +kernel
theorem dX11_lettersIn_38 : decode cX11_lettersIn 38 = .ok (.iconst (-1), 1) := by decide +kernel
theorem dX11_lettersIn_39 : decode cX11_lettersIn 39 = .ok (.ireturn, 1) := by decide +kernel
theorem dX11_lettersIn_40 : decode cX11_lettersIn 40 = .ok (.iload 5, 2) := by decide +kernel
theorem dX11_lettersIn_42 : decode cX11_lettersIn 42 = .ok (.ifCond .ne 8, 3) := by decide +kernel
theorem dX11_lettersIn_45 : decode cX11_lettersIn 45 = .ok (.iconst 1, 1) := by decide +kernel
theorem dX11_lettersIn_46 : decode cX11_lettersIn 46 = .ok (.istore_n 3, 1) := by decide +kernel
theorem dX11_lettersIn_47 : decode cX11_lettersIn 47 = .ok (.goto 6, 3) := by decide +kernel
theorem dX11_lettersIn_50 : decode cX11_lettersIn 50 = .ok (.iinc 2 1, 3) := by decide +kernel
theorem dX11_lettersIn_53 : decode cX11_lettersIn 53 = .ok (.iinc 4 1, 3) := by decide +kernel
theorem dX11_lettersIn_56 : decode cX11_lettersIn 56 = .ok (.goto (-49), 3) := by decide +kernel
theorem dX11_lettersIn_59 : decode cX11_lettersIn 59 = .ok (.iload_n 2, 1) := by decide +kernel
theorem dX11_lettersIn_60 : decode cX11_lettersIn 60 = .ok (.ireturn, 1) := by decide +kernel
theorem dX11_isCabin_0 : decode cX11_isCabin 0 = .ok (.iload_n 0, 1) := by decide +kernel
theorem dX11_isCabin_1 : decode cX11_isCabin 1 = .ok (.ifCond .lt 12, 3) := by decide +kernel
theorem dX11_isCabin_4 : decode cX11_isCabin 4 = .ok (.iload_n 0, 1) := by decide +kernel
theorem dX11_isCabin_5 : decode cX11_isCabin 5 = .ok (.iconst 2, 1) := by decide +kernel
theorem dX11_isCabin_6 : decode cX11_isCabin 6 = .ok (.if_icmp .ge 7, 3) := by decide +kernel
theorem dX11_isCabin_9 : decode cX11_isCabin 9 = .ok (.iconst 1, 1) := by decide +kernel
theorem dX11_isCabin_10 : decode cX11_isCabin 10 = .ok (.goto 4, 3) := by decide +kernel
theorem dX11_isCabin_13 : decode cX11_isCabin 13 = .ok (.iconst 0, 1) := by decide +kernel
theorem dX11_isCabin_14 : decode cX11_isCabin 14 = .ok (.ireturn, 1) := by decide +kernel
theorem dX11_isKind_0 : decode cX11_isKind 0 = .ok (.iload_n 0, 1) := by decide +kernel
theorem dX11_isKind_1 : decode cX11_isKind 1 = .ok (.ifCond .lt 12, 3) := by decide +kernel
theorem dX11_isKind_4 : decode cX11_isKind 4 = .ok (.iload_n 0, 1) := by decide +kernel
theorem dX11_isKind_5 : decode cX11_isKind 5 = .ok (.iconst 4, 1) := by decide +kernel
theorem dX11_isKind_6 : decode cX11_isKind 6 = .ok (.if_icmp .gt 7, 3) := by decide +kernel
theorem dX11_isKind_9 : decode cX11_isKind 9 = .ok (.iconst 1, 1) := by decide +kernel
theorem dX11_isKind_10 : decode cX11_isKind 10 = .ok (.goto 4, 3) := by decide +kernel
theorem dX11_isKind_13 : decode cX11_isKind 13 = .ok (.iconst 0, 1) := by decide +kernel
theorem dX11_isKind_14 : decode cX11_isKind 14 = .ok (.ireturn, 1) := by decide +kernel
theorem dX11_isLength_0 : decode cX11_isLength 0 = .ok (.iload_n 0, 1) := by decide +kernel
theorem dX11_isLength_1 : decode cX11_isLength 1 = .ok (.bipush 10, 2) := by decide +kernel
theorem dX11_isLength_3 : decode cX11_isLength 3 = .ok (.if_icmp .lt 13, 3) := by decide +kernel
theorem dX11_isLength_6 : decode cX11_isLength 6 = .ok (.iload_n 0, 1) := by decide +kernel
theorem dX11_isLength_7 : decode cX11_isLength 7 = .ok (.bipush 40, 2) := by decide +kernel
theorem dX11_isLength_9 : decode cX11_isLength 9 = .ok (.if_icmp .gt 7, 3) := by decide +kernel
theorem dX11_isLength_12 : decode cX11_isLength 12 = .ok (.iconst 1, 1) := by decide +kernel
theorem dX11_isLength_13 : decode cX11_isLength 13 = .ok (.goto 4, 3) := by decide +kernel
theorem dX11_isLength_16 : decode cX11_isLength 16 = .ok (.iconst 0, 1) := by decide +kernel
theorem dX11_isLength_17 : decode cX11_isLength 17 = .ok (.ireturn, 1) := by decide +kernel
theorem dX11_apartOnCircle_0 : decode cX11_apartOnCircle 0 = .ok (.iload_n 0, 1) := by decide +kernel
theorem dX11_apartOnCircle_1 : decode cX11_apartOnCircle 1 = .ok (.iload_n 1, 1) := by decide +kernel
theorem dX11_apartOnCircle_2 : decode cX11_apartOnCircle 2 = .ok (.isub, 1) := by decide +kernel
theorem dX11_apartOnCircle_3 : decode cX11_apartOnCircle 3 = .ok (.sipush 360, 3) := by decide +kernel
theorem dX11_apartOnCircle_6 : decode cX11_apartOnCircle 6 = .ok (.invokestatic 208, 3) := by decide +kernel
theorem dX11_apartOnCircle_9 : decode cX11_apartOnCircle 9 = .ok (.istore_n 2, 1) := by decide +kernel
theorem dX11_apartOnCircle_10 : decode cX11_apartOnCircle 10 = .ok (.iload_n 2, 1) := by decide +kernel
theorem dX11_apartOnCircle_11 : decode cX11_apartOnCircle 11 = .ok (.sipush 360, 3) := by decide +kernel
theorem dX11_apartOnCircle_14 : decode cX11_apartOnCircle 14 = .ok (.iload_n 2, 1) := by decide +kernel
theorem dX11_apartOnCircle_15 : decode cX11_apartOnCircle 15 = .ok (.isub, 1) := by decide +kernel
theorem dX11_apartOnCircle_16 : decode cX11_apartOnCircle 16 = .ok (.invokestatic 322, 3) := by decide +kernel
theorem dX11_apartOnCircle_19 : decode cX11_apartOnCircle 19 = .ok (.ireturn, 1) := by decide +kernel
theorem dX11_windingOf_0 : decode cX11_windingOf 0 = .ok (.iload_n 0, 1) := by decide +kernel
theorem dX11_windingOf_1 : decode cX11_windingOf 1 = .ok (.iconst 3, 1) := by decide +kernel
theorem dX11_windingOf_2 : decode cX11_windingOf 2 = .ok (.if_icmp .gt 7, 3) := by decide +kernel
theorem dX11_windingOf_5 : decode cX11_windingOf 5 = .ok (.iload_n 0, 1) := by decide +kernel
theorem dX11_windingOf_6 : decode cX11_windingOf 6 = .ok (.goto 6, 3) := by decide +kernel
theorem dX11_windingOf_9 : decode cX11_windingOf 9 = .ok (.iconst 3, 1) := by decide +kernel
theorem dX11_windingOf_10 : decode cX11_windingOf 10 = .ok (.iload_n 0, 1) := by decide +kernel
theorem dX11_windingOf_11 : decode cX11_windingOf 11 = .ok (.isub, 1) := by decide +kernel
theorem dX11_windingOf_12 : decode cX11_windingOf 12 = .ok (.ireturn, 1) := by decide +kernel
theorem dX11_newThing_0 : decode cX11_newThing 0 = .ok (.iload_n 0, 1) := by decide +kernel
theorem dX11_newThing_1 : decode cX11_newThing 1 = .ok (.tableswitch 75 1 4 #[31, 42, 53, 64], 31) := by decide +kernel
theorem dX11_newThing_32 : decode cX11_newThing 32 = .ok (.new 325, 3) := by decide +kernel
theorem dX11_newThing_35 : decode cX11_newThing 35 = .ok (.dup, 1) := by decide +kernel
theorem dX11_newThing_36 : decode cX11_newThing 36 = .ok (.iload_n 1, 1) := by decide +kernel
theorem dX11_newThing_37 : decode cX11_newThing 37 = .ok (.iload_n 2, 1) := by decide +kernel
theorem dX11_newThing_38 : decode cX11_newThing 38 = .ok (.iload_n 3, 1) := by decide +kernel
theorem dX11_newThing_39 : decode cX11_newThing 39 = .ok (.invokespecial 327, 3) := by decide +kernel
theorem dX11_newThing_42 : decode cX11_newThing 42 = .ok (.areturn, 1) := by decide +kernel
theorem dX11_newThing_43 : decode cX11_newThing 43 = .ok (.new 330, 3) := by decide +kernel
theorem dX11_newThing_46 : decode cX11_newThing 46 = .ok (.dup, 1) := by decide +kernel
theorem dX11_newThing_47 : decode cX11_newThing 47 = .ok (.iload_n 1, 1) := by decide +kernel
theorem dX11_newThing_48 : decode cX11_newThing 48 = .ok (.iload_n 2, 1) := by decide +kernel
theorem dX11_newThing_49 : decode cX11_newThing 49 = .ok (.iload_n 3, 1) := by decide +kernel
theorem dX11_newThing_50 : decode cX11_newThing 50 = .ok (.invokespecial 332, 3) := by decide +kernel
theorem dX11_newThing_53 : decode cX11_newThing 53 = .ok (.areturn, 1) := by decide +kernel
theorem dX11_newThing_54 : decode cX11_newThing 54 = .ok (.new 333, 3) := by decide +kernel
theorem dX11_newThing_57 : decode cX11_newThing 57 = .ok (.dup, 1) := by decide +kernel
theorem dX11_newThing_58 : decode cX11_newThing 58 = .ok (.iload_n 1, 1) := by decide +kernel
theorem dX11_newThing_59 : decode cX11_newThing 59 = .ok (.iload_n 2, 1) := by decide +kernel
theorem dX11_newThing_60 : decode cX11_newThing 60 = .ok (.iload_n 3, 1) := by decide +kernel
theorem dX11_newThing_61 : decode cX11_newThing 61 = .ok (.invokespecial 335, 3) := by decide +kernel
theorem dX11_newThing_64 : decode cX11_newThing 64 = .ok (.areturn, 1) := by decide +kernel
theorem dX11_newThing_65 : decode cX11_newThing 65 = .ok (.new 336, 3) := by decide +kernel
theorem dX11_newThing_68 : decode cX11_newThing 68 = .ok (.dup, 1) := by decide +kernel
theorem dX11_newThing_69 : decode cX11_newThing 69 = .ok (.iload_n 1, 1) := by decide +kernel
theorem dX11_newThing_70 : decode cX11_newThing 70 = .ok (.iload_n 2, 1) := by decide +kernel
theorem dX11_newThing_71 : decode cX11_newThing 71 = .ok (.iload_n 3, 1) := by decide +kernel
theorem dX11_newThing_72 : decode cX11_newThing 72 = .ok (.invokespecial 338, 3) := by decide +kernel
theorem dX11_newThing_75 : decode cX11_newThing 75 = .ok (.areturn, 1) := by decide +kernel
theorem dX11_newThing_76 : decode cX11_newThing 76 = .ok (.new 149, 3) := by decide +kernel
theorem dX11_newThing_79 : decode cX11_newThing 79 = .ok (.dup, 1) := by decide +kernel
theorem dX11_newThing_80 : decode cX11_newThing 80 = .ok (.iload_n 1, 1) := by decide +kernel
theorem dX11_newThing_81 : decode cX11_newThing 81 = .ok (.iload_n 2, 1) := by decide +kernel
theorem dX11_newThing_82 : decode cX11_newThing 82 = .ok (.iload_n 3, 1) := by decide +kernel
theorem dX11_newThing_83 : decode cX11_newThing 83 = .ok (.invokespecial 339, 3) := by decide +kernel
theorem dX11_newThing_86 : decode cX11_newThing 86 = .ok (.areturn, 1) := by decide +kernel
theorem dX11_isOfKind_0 : decode cX11_isOfKind 0 = .ok (.iload_n 1, 1) := by decide +kernel
theorem dX11_isOfKind_1 : decode cX11_isOfKind 1 = .ok (.tableswitch 51 1 4 #[31, 36, 41, 46], 31) := by decide +kernel
theorem dX11_isOfKind_32 : decode cX11_isOfKind 32 = .ok (.aload_n 0, 1) := by decide +kernel
theorem dX11_isOfKind_33 : decode cX11_isOfKind 33 = .ok (.instanceof 325, 3) := by decide +kernel
theorem dX11_isOfKind_36 : decode cX11_isOfKind 36 = .ok (.ireturn, 1) := by decide +kernel
theorem dX11_isOfKind_37 : decode cX11_isOfKind 37 = .ok (.aload_n 0, 1) := by decide +kernel
theorem dX11_isOfKind_38 : decode cX11_isOfKind 38 = .ok (.instanceof 330, 3) := by decide +kernel
theorem dX11_isOfKind_41 : decode cX11_isOfKind 41 = .ok (.ireturn, 1) := by decide +kernel
theorem dX11_isOfKind_42 : decode cX11_isOfKind 42 = .ok (.aload_n 0, 1) := by decide +kernel
theorem dX11_isOfKind_43 : decode cX11_isOfKind 43 = .ok (.instanceof 333, 3) := by decide +kernel
theorem dX11_isOfKind_46 : decode cX11_isOfKind 46 = .ok (.ireturn, 1) := by decide +kernel
theorem dX11_isOfKind_47 : decode cX11_isOfKind 47 = .ok (.aload_n 0, 1) := by decide +kernel
theorem dX11_isOfKind_48 : decode cX11_isOfKind 48 = .ok (.instanceof 336, 3) := by decide +kernel
theorem dX11_isOfKind_51 : decode cX11_isOfKind 51 = .ok (.ireturn, 1) := by decide +kernel
theorem dX11_isOfKind_52 : decode cX11_isOfKind 52 = .ok (.iload_n 1, 1) := by decide +kernel
theorem dX11_isOfKind_53 : decode cX11_isOfKind 53 = .ok (.ifCond .ne 7, 3) := by decide +kernel
theorem dX11_isOfKind_56 : decode cX11_isOfKind 56 = .ok (.iconst 1, 1) := by decide +kernel
theorem dX11_isOfKind_57 : decode cX11_isOfKind 57 = .ok (.goto 4, 3) := by decide +kernel
theorem dX11_isOfKind_60 : decode cX11_isOfKind 60 = .ok (.iconst 0, 1) := by decide +kernel
theorem dX11_isOfKind_61 : decode cX11_isOfKind 61 = .ok (.ireturn, 1) := by decide +kernel
end
section
/-! THE STATE: V (object's number, place) an int; J a long of the reference; th the row of things; L the things that were made, tk their class, T their fields -/
abbrev St : Type := (Nat → Nat → Int32) × (Nat → Int64) × (Nat → Option Nat) × List Nat × (Nat → Nat) × (Nat → Nat → Int32)
abbrev sL (σ : St) : List Nat := σ.2.2.2.1
abbrev sK (σ : St) : Nat → Nat := σ.2.2.2.2.1
abbrev sF (σ : St) : Nat → Nat → Int32 := σ.2.2.2.2.2
abbrev sR (σ : St) : Nat → Option Nat := σ.2.2.1
def up2 (V : Nat → Nat → Int32) (a b : Nat) (v : Int32) : Nat → Nat → Int32 := va_up V a (va_up (V a) b v)
def sV (σ : St) (a b : Nat) (v : Int32) : St := (up2 σ.1 a b v, σ.2)
def sJ (σ : St) (a : Nat) (v : Int64) : St := (σ.1, va_up σ.2.1 a v, σ.2.2)
def sH (σ : St) (i : Nat) (r : Option Nat) : St := (σ.1, σ.2.1, va_up σ.2.2.1 i r, σ.2.2.2)
def sT (σ : St) (a j : Nat) (v : Int32) : St := (σ.1, σ.2.1, σ.2.2.1, σ.2.2.2.1, σ.2.2.2.2.1, up2 σ.2.2.2.2.2 a j v)
def sN (σ : St) (a kd : Nat) : St := (σ.1, σ.2.1, σ.2.2.1, σ.2.2.2.1 ++ [a], va_up σ.2.2.2.2.1 a kd, va_up σ.2.2.2.2.2 a (fun _ => 0))
/-- a thing that was made, and of one of the five classes -/
def isT (σ : St) (a : Nat) : Prop := a ∈ σ.2.2.2.1 ∧ (σ.2.2.2.2.1 a = 1 ∨ σ.2.2.2.2.1 a = 3 ∨ σ.2.2.2.2.1 a = 4 ∨ σ.2.2.2.2.1 a = 5 ∨ σ.2.2.2.2.1 a = 9)
def isC (k : Nat) : Prop := k = 3 ∨ k = 16 ∨ k = 17

/-! THE WORLD: twenty fixed cells (18, 19: two rows of the law), and the things -/
abbrev tcell (σ : St) : Nat → va_E := fun a => .inr (σ.2.2.2.2.1 a, [.int (σ.2.2.2.2.2 a 0), .int (σ.2.2.2.2.2 a 1), .int (σ.2.2.2.2.2 a 2)])
def gX (cy : Nat → ClassId) (A : Nat → Nat) (σ : St) : va_W := [(A 0, .inr (11, [.ref (A 1), .ref (A 3), .ref (A 4), .ref (A 7), .ref (A 10), .ref (A 13), .ref (A 16), .ref (A 17), .int (σ.1 0 8), .int (σ.1 0 9)])), (A 1, .inr (7, [.ref (A 2), .int (σ.1 1 1)])), (A 2, .inl (cy 1, 12, .inl (σ.1 2))), (A 3, .inr (0, [.int (σ.1 3 0), .int (σ.1 3 1), .int (σ.1 3 2), .int (σ.1 3 3), .int (σ.1 3 4), .int (σ.1 3 5), .int (σ.1 3 6)])), (A 4, .inr (6, [.ref (A 5), .ref (A 6), .int (σ.1 4 2), .int (σ.1 4 3)])), (A 5, .inl (cy 3, 6, .inr (.inr (.inr (.inr σ.2.2.1))))), (A 6, .inl (cy 2, 6, .inl (σ.1 6))), (A 7, .inr (10, [.ref (A 8), .ref (A 9), .int (σ.1 7 2)])), (A 8, .inl (cy 2, 6, .inl (σ.1 8))), (A 9, .inl (cy 2, 6, .inl (σ.1 9))), (A 10, .inr (2, [.ref (A 11), .ref (A 12), .int (σ.1 10 2), .int (σ.1 10 3), .int (σ.1 10 4), .int (σ.1 10 5), .int (σ.1 10 6)])), (A 11, .inl (cy 2, 6, .inl (σ.1 11))), (A 12, .inl (cy 2, 6, .inl (σ.1 12))), (A 13, .inr (8, [.ref (A 14), .ref (A 15), .int (σ.1 13 2), .int (σ.1 13 3)])), (A 14, .inl (cy 2, 41, .inl (σ.1 14))), (A 15, .inl (cy 2, 41, .inl (σ.1 15))), (A 16, .inr (0, [.int (σ.1 16 0), .int (σ.1 16 1), .int (σ.1 16 2), .int (σ.1 16 3), .int (σ.1 16 4), .int (σ.1 16 5), .int (σ.1 16 6)])), (A 17, .inr (0, [.int (σ.1 17 0), .int (σ.1 17 1), .int (σ.1 17 2), .int (σ.1 17 3), .int (σ.1 17 4), .int (σ.1 17 5), .int (σ.1 17 6)])), (A 18, .inl (cy 2, 32, .inl (σ.1 18))), (A 19, .inl (cy 2, 32, .inl (σ.1 19)))]
def gW (cy : Nat → ClassId) (A : Nat → Nat) (σ : St) : va_W := gX cy A σ ++ va_pl σ.2.2.2.1 (tcell σ)
def gty (cy : Nat → ClassId) : List (ClassId × FieldType) := [(cy 0, .int), (cy 1, .char), (cy 2, .int), (cy 3, .object "TwoOnACable$Thing")]
theorem ga_0 (cy : Nat → ClassId) (A : Nat → Nat) (σ : St) : (gW cy A σ)[0]? = some (A 0, .inr (11, [.ref (A 1), .ref (A 3), .ref (A 4), .ref (A 7), .ref (A 10), .ref (A 13), .ref (A 16), .ref (A 17), .int (σ.1 0 8), .int (σ.1 0 9)])) := rfl
theorem ga_1 (cy : Nat → ClassId) (A : Nat → Nat) (σ : St) : (gW cy A σ)[1]? = some (A 1, .inr (7, [.ref (A 2), .int (σ.1 1 1)])) := rfl
theorem ga_2 (cy : Nat → ClassId) (A : Nat → Nat) (σ : St) : (gW cy A σ)[2]? = some (A 2, .inl (cy 1, 12, .inl (σ.1 2))) := rfl
theorem ga_3 (cy : Nat → ClassId) (A : Nat → Nat) (σ : St) : (gW cy A σ)[3]? = some (A 3, .inr (0, [.int (σ.1 3 0), .int (σ.1 3 1), .int (σ.1 3 2), .int (σ.1 3 3), .int (σ.1 3 4), .int (σ.1 3 5), .int (σ.1 3 6)])) := rfl
theorem ga_4 (cy : Nat → ClassId) (A : Nat → Nat) (σ : St) : (gW cy A σ)[4]? = some (A 4, .inr (6, [.ref (A 5), .ref (A 6), .int (σ.1 4 2), .int (σ.1 4 3)])) := rfl
theorem ga_5 (cy : Nat → ClassId) (A : Nat → Nat) (σ : St) : (gW cy A σ)[5]? = some (A 5, .inl (cy 3, 6, .inr (.inr (.inr (.inr σ.2.2.1))))) := rfl
theorem ga_6 (cy : Nat → ClassId) (A : Nat → Nat) (σ : St) : (gW cy A σ)[6]? = some (A 6, .inl (cy 2, 6, .inl (σ.1 6))) := rfl
theorem ga_7 (cy : Nat → ClassId) (A : Nat → Nat) (σ : St) : (gW cy A σ)[7]? = some (A 7, .inr (10, [.ref (A 8), .ref (A 9), .int (σ.1 7 2)])) := rfl
theorem ga_8 (cy : Nat → ClassId) (A : Nat → Nat) (σ : St) : (gW cy A σ)[8]? = some (A 8, .inl (cy 2, 6, .inl (σ.1 8))) := rfl
theorem ga_9 (cy : Nat → ClassId) (A : Nat → Nat) (σ : St) : (gW cy A σ)[9]? = some (A 9, .inl (cy 2, 6, .inl (σ.1 9))) := rfl
theorem ga_10 (cy : Nat → ClassId) (A : Nat → Nat) (σ : St) : (gW cy A σ)[10]? = some (A 10, .inr (2, [.ref (A 11), .ref (A 12), .int (σ.1 10 2), .int (σ.1 10 3), .int (σ.1 10 4), .int (σ.1 10 5), .int (σ.1 10 6)])) := rfl
theorem ga_11 (cy : Nat → ClassId) (A : Nat → Nat) (σ : St) : (gW cy A σ)[11]? = some (A 11, .inl (cy 2, 6, .inl (σ.1 11))) := rfl
theorem ga_12 (cy : Nat → ClassId) (A : Nat → Nat) (σ : St) : (gW cy A σ)[12]? = some (A 12, .inl (cy 2, 6, .inl (σ.1 12))) := rfl
theorem ga_13 (cy : Nat → ClassId) (A : Nat → Nat) (σ : St) : (gW cy A σ)[13]? = some (A 13, .inr (8, [.ref (A 14), .ref (A 15), .int (σ.1 13 2), .int (σ.1 13 3)])) := rfl
theorem ga_14 (cy : Nat → ClassId) (A : Nat → Nat) (σ : St) : (gW cy A σ)[14]? = some (A 14, .inl (cy 2, 41, .inl (σ.1 14))) := rfl
theorem ga_15 (cy : Nat → ClassId) (A : Nat → Nat) (σ : St) : (gW cy A σ)[15]? = some (A 15, .inl (cy 2, 41, .inl (σ.1 15))) := rfl
theorem ga_16 (cy : Nat → ClassId) (A : Nat → Nat) (σ : St) : (gW cy A σ)[16]? = some (A 16, .inr (0, [.int (σ.1 16 0), .int (σ.1 16 1), .int (σ.1 16 2), .int (σ.1 16 3), .int (σ.1 16 4), .int (σ.1 16 5), .int (σ.1 16 6)])) := rfl
theorem ga_17 (cy : Nat → ClassId) (A : Nat → Nat) (σ : St) : (gW cy A σ)[17]? = some (A 17, .inr (0, [.int (σ.1 17 0), .int (σ.1 17 1), .int (σ.1 17 2), .int (σ.1 17 3), .int (σ.1 17 4), .int (σ.1 17 5), .int (σ.1 17 6)])) := rfl
theorem ga_18 (cy : Nat → ClassId) (A : Nat → Nat) (σ : St) : (gW cy A σ)[18]? = some (A 18, .inl (cy 2, 32, .inl (σ.1 18))) := rfl
theorem ga_19 (cy : Nat → ClassId) (A : Nat → Nat) (σ : St) : (gW cy A σ)[19]? = some (A 19, .inl (cy 2, 32, .inl (σ.1 19))) := rfl
theorem ga_c (cy : Nat → ClassId) (A : Nat → Nat) (σ : St) {k : Nat} (h : isC k) : (gW cy A σ)[k]? = some (A k, .inr (0, [.int (σ.1 k 0), .int (σ.1 k 1), .int (σ.1 k 2), .int (σ.1 k 3), .int (σ.1 k 4), .int (σ.1 k 5), .int (σ.1 k 6)])) := by
  rcases h with rfl | rfl | rfl <;> rfl
theorem gp_0_8 (cy : Nat → ClassId) (A : Nat → Nat) (σ : St) (v : Int32) : (gW cy A σ).set 0 (A 0, .inr (11, [.ref (A 1), .ref (A 3), .ref (A 4), .ref (A 7), .ref (A 10), .ref (A 13), .ref (A 16), .ref (A 17), .int v, .int (σ.1 0 9)])) = gW cy A (sV σ 0 8 v) := rfl
theorem gp_0_9 (cy : Nat → ClassId) (A : Nat → Nat) (σ : St) (v : Int32) : (gW cy A σ).set 0 (A 0, .inr (11, [.ref (A 1), .ref (A 3), .ref (A 4), .ref (A 7), .ref (A 10), .ref (A 13), .ref (A 16), .ref (A 17), .int (σ.1 0 8), .int v])) = gW cy A (sV σ 0 9 v) := rfl
theorem gp_1_1 (cy : Nat → ClassId) (A : Nat → Nat) (σ : St) (v : Int32) : (gW cy A σ).set 1 (A 1, .inr (7, [.ref (A 2), .int v])) = gW cy A (sV σ 1 1 v) := rfl
theorem gp_4_2 (cy : Nat → ClassId) (A : Nat → Nat) (σ : St) (v : Int32) : (gW cy A σ).set 4 (A 4, .inr (6, [.ref (A 5), .ref (A 6), .int v, .int (σ.1 4 3)])) = gW cy A (sV σ 4 2 v) := rfl
theorem gp_4_3 (cy : Nat → ClassId) (A : Nat → Nat) (σ : St) (v : Int32) : (gW cy A σ).set 4 (A 4, .inr (6, [.ref (A 5), .ref (A 6), .int (σ.1 4 2), .int v])) = gW cy A (sV σ 4 3 v) := rfl
theorem gp_7_2 (cy : Nat → ClassId) (A : Nat → Nat) (σ : St) (v : Int32) : (gW cy A σ).set 7 (A 7, .inr (10, [.ref (A 8), .ref (A 9), .int v])) = gW cy A (sV σ 7 2 v) := rfl
theorem gp_10_2 (cy : Nat → ClassId) (A : Nat → Nat) (σ : St) (v : Int32) : (gW cy A σ).set 10 (A 10, .inr (2, [.ref (A 11), .ref (A 12), .int v, .int (σ.1 10 3), .int (σ.1 10 4), .int (σ.1 10 5), .int (σ.1 10 6)])) = gW cy A (sV σ 10 2 v) := rfl
theorem gp_10_3 (cy : Nat → ClassId) (A : Nat → Nat) (σ : St) (v : Int32) : (gW cy A σ).set 10 (A 10, .inr (2, [.ref (A 11), .ref (A 12), .int (σ.1 10 2), .int v, .int (σ.1 10 4), .int (σ.1 10 5), .int (σ.1 10 6)])) = gW cy A (sV σ 10 3 v) := rfl
theorem gp_10_4 (cy : Nat → ClassId) (A : Nat → Nat) (σ : St) (v : Int32) : (gW cy A σ).set 10 (A 10, .inr (2, [.ref (A 11), .ref (A 12), .int (σ.1 10 2), .int (σ.1 10 3), .int v, .int (σ.1 10 5), .int (σ.1 10 6)])) = gW cy A (sV σ 10 4 v) := rfl
theorem gp_10_5 (cy : Nat → ClassId) (A : Nat → Nat) (σ : St) (v : Int32) : (gW cy A σ).set 10 (A 10, .inr (2, [.ref (A 11), .ref (A 12), .int (σ.1 10 2), .int (σ.1 10 3), .int (σ.1 10 4), .int v, .int (σ.1 10 6)])) = gW cy A (sV σ 10 5 v) := rfl
theorem gp_10_6 (cy : Nat → ClassId) (A : Nat → Nat) (σ : St) (v : Int32) : (gW cy A σ).set 10 (A 10, .inr (2, [.ref (A 11), .ref (A 12), .int (σ.1 10 2), .int (σ.1 10 3), .int (σ.1 10 4), .int (σ.1 10 5), .int v])) = gW cy A (sV σ 10 6 v) := rfl
theorem gp_13_2 (cy : Nat → ClassId) (A : Nat → Nat) (σ : St) (v : Int32) : (gW cy A σ).set 13 (A 13, .inr (8, [.ref (A 14), .ref (A 15), .int v, .int (σ.1 13 3)])) = gW cy A (sV σ 13 2 v) := rfl
theorem gp_13_3 (cy : Nat → ClassId) (A : Nat → Nat) (σ : St) (v : Int32) : (gW cy A σ).set 13 (A 13, .inr (8, [.ref (A 14), .ref (A 15), .int (σ.1 13 2), .int v])) = gW cy A (sV σ 13 3 v) := rfl
theorem gp_c_0 (cy : Nat → ClassId) (A : Nat → Nat) (σ : St) (v : Int32) {k : Nat} (h : isC k) : (gW cy A σ).set k (A k, .inr (0, [.int v, .int (σ.1 k 1), .int (σ.1 k 2), .int (σ.1 k 3), .int (σ.1 k 4), .int (σ.1 k 5), .int (σ.1 k 6)])) = gW cy A (sV σ k 0 v) := by
  rcases h with rfl | rfl | rfl <;> rfl
theorem gp_c_1 (cy : Nat → ClassId) (A : Nat → Nat) (σ : St) (v : Int32) {k : Nat} (h : isC k) : (gW cy A σ).set k (A k, .inr (0, [.int (σ.1 k 0), .int v, .int (σ.1 k 2), .int (σ.1 k 3), .int (σ.1 k 4), .int (σ.1 k 5), .int (σ.1 k 6)])) = gW cy A (sV σ k 1 v) := by
  rcases h with rfl | rfl | rfl <;> rfl
theorem gp_c_2 (cy : Nat → ClassId) (A : Nat → Nat) (σ : St) (v : Int32) {k : Nat} (h : isC k) : (gW cy A σ).set k (A k, .inr (0, [.int (σ.1 k 0), .int (σ.1 k 1), .int v, .int (σ.1 k 3), .int (σ.1 k 4), .int (σ.1 k 5), .int (σ.1 k 6)])) = gW cy A (sV σ k 2 v) := by
  rcases h with rfl | rfl | rfl <;> rfl
theorem gp_c_3 (cy : Nat → ClassId) (A : Nat → Nat) (σ : St) (v : Int32) {k : Nat} (h : isC k) : (gW cy A σ).set k (A k, .inr (0, [.int (σ.1 k 0), .int (σ.1 k 1), .int (σ.1 k 2), .int v, .int (σ.1 k 4), .int (σ.1 k 5), .int (σ.1 k 6)])) = gW cy A (sV σ k 3 v) := by
  rcases h with rfl | rfl | rfl <;> rfl
theorem gp_c_4 (cy : Nat → ClassId) (A : Nat → Nat) (σ : St) (v : Int32) {k : Nat} (h : isC k) : (gW cy A σ).set k (A k, .inr (0, [.int (σ.1 k 0), .int (σ.1 k 1), .int (σ.1 k 2), .int (σ.1 k 3), .int v, .int (σ.1 k 5), .int (σ.1 k 6)])) = gW cy A (sV σ k 4 v) := by
  rcases h with rfl | rfl | rfl <;> rfl
theorem gp_c_5 (cy : Nat → ClassId) (A : Nat → Nat) (σ : St) (v : Int32) {k : Nat} (h : isC k) : (gW cy A σ).set k (A k, .inr (0, [.int (σ.1 k 0), .int (σ.1 k 1), .int (σ.1 k 2), .int (σ.1 k 3), .int (σ.1 k 4), .int v, .int (σ.1 k 6)])) = gW cy A (sV σ k 5 v) := by
  rcases h with rfl | rfl | rfl <;> rfl
theorem gp_c_6 (cy : Nat → ClassId) (A : Nat → Nat) (σ : St) (v : Int32) {k : Nat} (h : isC k) : (gW cy A σ).set k (A k, .inr (0, [.int (σ.1 k 0), .int (σ.1 k 1), .int (σ.1 k 2), .int (σ.1 k 3), .int (σ.1 k 4), .int (σ.1 k 5), .int v])) = gW cy A (sV σ k 6 v) := by
  rcases h with rfl | rfl | rfl <;> rfl
theorem gs_2 (cy : Nat → ClassId) (A : Nat → Nat) (σ : St) (b : Nat) (v : Int32) : (gW cy A σ).set 2 (A 2, .inl (cy 1, 12, .inl (upd (σ.1 2) b v))) = gW cy A (sV σ 2 b v) := rfl
theorem gs_6 (cy : Nat → ClassId) (A : Nat → Nat) (σ : St) (b : Nat) (v : Int32) : (gW cy A σ).set 6 (A 6, .inl (cy 2, 6, .inl (upd (σ.1 6) b v))) = gW cy A (sV σ 6 b v) := rfl
theorem gs_8 (cy : Nat → ClassId) (A : Nat → Nat) (σ : St) (b : Nat) (v : Int32) : (gW cy A σ).set 8 (A 8, .inl (cy 2, 6, .inl (upd (σ.1 8) b v))) = gW cy A (sV σ 8 b v) := rfl
theorem gs_9 (cy : Nat → ClassId) (A : Nat → Nat) (σ : St) (b : Nat) (v : Int32) : (gW cy A σ).set 9 (A 9, .inl (cy 2, 6, .inl (upd (σ.1 9) b v))) = gW cy A (sV σ 9 b v) := rfl
theorem gs_11 (cy : Nat → ClassId) (A : Nat → Nat) (σ : St) (b : Nat) (v : Int32) : (gW cy A σ).set 11 (A 11, .inl (cy 2, 6, .inl (upd (σ.1 11) b v))) = gW cy A (sV σ 11 b v) := rfl
theorem gs_12 (cy : Nat → ClassId) (A : Nat → Nat) (σ : St) (b : Nat) (v : Int32) : (gW cy A σ).set 12 (A 12, .inl (cy 2, 6, .inl (upd (σ.1 12) b v))) = gW cy A (sV σ 12 b v) := rfl
theorem gs_14 (cy : Nat → ClassId) (A : Nat → Nat) (σ : St) (b : Nat) (v : Int32) : (gW cy A σ).set 14 (A 14, .inl (cy 2, 41, .inl (upd (σ.1 14) b v))) = gW cy A (sV σ 14 b v) := rfl
theorem gs_15 (cy : Nat → ClassId) (A : Nat → Nat) (σ : St) (b : Nat) (v : Int32) : (gW cy A σ).set 15 (A 15, .inl (cy 2, 41, .inl (upd (σ.1 15) b v))) = gW cy A (sV σ 15 b v) := rfl
theorem gs_18 (cy : Nat → ClassId) (A : Nat → Nat) (σ : St) (b : Nat) (v : Int32) : (gW cy A σ).set 18 (A 18, .inl (cy 2, 32, .inl (upd (σ.1 18) b v))) = gW cy A (sV σ 18 b v) := rfl
theorem gs_19 (cy : Nat → ClassId) (A : Nat → Nat) (σ : St) (b : Nat) (v : Int32) : (gW cy A σ).set 19 (A 19, .inl (cy 2, 32, .inl (upd (σ.1 19) b v))) = gW cy A (sV σ 19 b v) := rfl
theorem gs_5 (cy : Nat → ClassId) (A : Nat → Nat) (σ : St) (b : Nat) (r : Option Nat) : (gW cy A σ).set 5 (A 5, .inl (cy 3, 6, .inr (.inr (.inr (.inr (va_up σ.2.2.1 b r)))))) = gW cy A (sH σ b r) := rfl
theorem gt_0 (cy : Nat → ClassId) (A : Nat → Nat) (σ : St) (A0 : Nat → Prop) {a k : Nat} (v : Int32) (hD : va_D A0 (gW cy A σ)) (h : a ∈ σ.2.2.2.1) (hk : (gW cy A σ)[k]? = some (a, tcell σ a)) : (gW cy A σ).set k (a, .inr (σ.2.2.2.2.1 a, [.int v, .int (σ.2.2.2.2.2 a 1), .int (σ.2.2.2.2.2 a 2)])) = gW cy A (sT σ a 0 v) := by
  refine (va_pl_set (X := gX cy A σ) hD h hk).trans ?_
  refine congrArg (fun l => gX cy A σ ++ l) (va_pl_congr fun b => ?_)
  by_cases hb : b = a
  · subst hb
    simp [va_up, sT, up2, tcell]
  · simp [va_up, sT, up2, hb, tcell]
theorem gt_1 (cy : Nat → ClassId) (A : Nat → Nat) (σ : St) (A0 : Nat → Prop) {a k : Nat} (v : Int32) (hD : va_D A0 (gW cy A σ)) (h : a ∈ σ.2.2.2.1) (hk : (gW cy A σ)[k]? = some (a, tcell σ a)) : (gW cy A σ).set k (a, .inr (σ.2.2.2.2.1 a, [.int (σ.2.2.2.2.2 a 0), .int v, .int (σ.2.2.2.2.2 a 2)])) = gW cy A (sT σ a 1 v) := by
  refine (va_pl_set (X := gX cy A σ) hD h hk).trans ?_
  refine congrArg (fun l => gX cy A σ ++ l) (va_pl_congr fun b => ?_)
  by_cases hb : b = a
  · subst hb
    simp [va_up, sT, up2, tcell]
  · simp [va_up, sT, up2, hb, tcell]
theorem gt_2 (cy : Nat → ClassId) (A : Nat → Nat) (σ : St) (A0 : Nat → Prop) {a k : Nat} (v : Int32) (hD : va_D A0 (gW cy A σ)) (h : a ∈ σ.2.2.2.1) (hk : (gW cy A σ)[k]? = some (a, tcell σ a)) : (gW cy A σ).set k (a, .inr (σ.2.2.2.2.1 a, [.int (σ.2.2.2.2.2 a 0), .int (σ.2.2.2.2.2 a 1), .int v])) = gW cy A (sT σ a 2 v) := by
  refine (va_pl_set (X := gX cy A σ) hD h hk).trans ?_
  refine congrArg (fun l => gX cy A σ ++ l) (va_pl_congr fun b => ?_)
  by_cases hb : b = a
  · subst hb
    simp [va_up, sT, up2, tcell]
  · simp [va_up, sT, up2, hb, tcell]
theorem gn_T (cy : Nat → ClassId) (A : Nat → Nat) (σ : St) {a : Nat} (kd : Nat) (h : a ∉ σ.2.2.2.1) : gW cy A σ ++ [(a, .inr (kd, [.int 0, .int 0, .int 0]))] = gW cy A (sN σ a kd) := by
  unfold gW
  rw [List.append_assoc, va_pl_push h]
  refine congrArg (fun l => gX cy A σ ++ l) ?_
  show va_pl (σ.2.2.2.1 ++ [a]) _ = va_pl (σ.2.2.2.1 ++ [a]) _
  refine va_pl_congr fun b => ?_
  by_cases hb : b = a
  · subst hb
    simp [va_up, sN, tcell]
  · simp [va_up, sN, hb, tcell]

/-! words that ride beside the tables' -/
def nwM : List Cond := [.methodLinkNest RX11 9 yX7_init RX11, .methodLinkNest RX11 18 yX0_init RX11, .methodLinkNest RX11 25 yX6_init RX11, .methodLinkNest RX11 32 yX10_init RX11, .methodLinkNest RX11 39 yX2_init RX11, .methodLinkNest RX11 46 yX8_init RX11]
def nwC : List (String × String) := [(RX1, RX9), (RX3, RX9), (RX4, RX9), (RX5, RX9), (RX4, RX5)]
def nwN : List (String × String) := [(RX9, RX1), (RX9, RX3), (RX9, RX5), (RX9, RX4), (RX1, RX3), (RX1, RX5), (RX1, RX4), (RX3, RX1), (RX3, RX5), (RX3, RX4), (RX5, RX1), (RX5, RX3), (RX5, RX4), (RX4, RX1), (RX4, RX3)]
def NW (U : State) : Prop := (∀ w ∈ nwM, va_Nw w U) ∧ (∀ q ∈ nwC, va_Nw (.castable q.1 q.2) U) ∧ (∀ q ∈ nwN, va_Nc q.1 q.2 U) ∧ va_AO RX9 U
theorem NW.warm {s U : State} (hW : s.WarmedH U.vm) (h : NW s) : NW U := by
  refine ⟨fun w hw => ?_, fun q hq => va_Nw.warmC hW (h.2.1 q hq), fun q hq => va_Nc.moved hW.alike (h.2.2.1 q hq), va_AO.moved hW.alike h.2.2.2⟩
  have h1 := h.1 w hw
  simp only [nwM, List.mem_cons, List.mem_nil_iff, or_false, List.not_mem_nil] at hw
  rcases hw with rfl | rfl | rfl | rfl | rfl | rfl <;> exact va_Nw.warmM hW h1
theorem NW.calling {U : State} {g : JFrame} {mk : MethodId} {a : Array Value} (h : NW U) : NW (U.calling g mk a) := by
  refine ⟨fun w hw => ?_, fun q hq => va_Nw.same rfl (u := U) rfl (h.2.1 q hq), fun q hq => va_Nc.moved (u := U) (U := U.calling g mk a) (Vm.Alike.refl U.vm) (h.2.2.1 q hq), va_AO.moved (u := U) (U := U.calling g mk a) (Vm.Alike.refl U.vm) h.2.2.2⟩
  have h1 := h.1 w hw
  simp only [nwM, List.mem_cons, List.mem_nil_iff, or_false, List.not_mem_nil] at hw
  rcases hw with rfl | rfl | rfl | rfl | rfl | rfl <;> exact va_Nw.same rfl (u := U) rfl h1

/-! THE CONTEXT of a walk, in one row -/
abbrev qC : Type := Program × Launch × Env × Room × State × MethodId × Array Value × List Frame × Method × Code × (Nat → Prop) × va_G × (State → Prop) × Nat
abbrev q_p (κ : qC) : Program := κ.1
abbrev q_l (κ : qC) : Launch := κ.2.1
abbrev q_e (κ : qC) : Env := κ.2.2.1
abbrev q_R (κ : qC) : Room := κ.2.2.2.1
abbrev q_s (κ : qC) : State := κ.2.2.2.2.1
abbrev q_m (κ : qC) : MethodId := κ.2.2.2.2.2.1
abbrev q_a (κ : qC) : Array Value := κ.2.2.2.2.2.2.1
abbrev q_b (κ : qC) : List Frame := κ.2.2.2.2.2.2.2.1
abbrev q_M (κ : qC) : Method := κ.2.2.2.2.2.2.2.2.1
abbrev q_c (κ : qC) : Code := κ.2.2.2.2.2.2.2.2.2.1
abbrev q_A (κ : qC) : Nat → Prop := κ.2.2.2.2.2.2.2.2.2.2.1
abbrev q_D (κ : qC) : va_G := κ.2.2.2.2.2.2.2.2.2.2.2.1
abbrev q_Q (κ : qC) : State → Prop := κ.2.2.2.2.2.2.2.2.2.2.2.2.1
abbrev q_n (κ : qC) : Nat := κ.2.2.2.2.2.2.2.2.2.2.2.2.2
def GW (κ : qC) (k n : Nat) (ws : va_W) (pc : Nat) (lv : List (Nat × Value)) (st : List Value) : Prop :=
  ∀ (H : Heap) (locs : List Loc), va_P (q_D κ) vwCl ws H → va_D (q_A κ) ws → va_S (q_A κ) (q_s κ).heap H locs → ∀ ls : Array Slot, lv_has ls (q_n κ) lv → W (q_p κ) (q_l κ) (q_e κ) (q_R κ) (q_s κ) (q_m κ) (q_a κ) (q_b κ) (q_M κ) (q_c κ) H locs k n (q_Q κ) (F0 (q_m κ) pc ls st)
/-- what holds all along a walk -/
def Cx (κ : qC) (cc : ByteArray) (own : String) (Ts : List Cond) (Rm : Room) : Prop :=
  (q_p κ).tables.exec = Jvm.exec ∧ (q_c κ).code = cc ∧ (q_c κ).maxLocals = q_n κ ∧ (q_s κ).vm.findClass own = some (q_m κ).cls ∧ (∀ w ∈ Ts, w.before (q_a κ) (q_s κ) = true) ∧ (∀ q, (q_s κ).heap.size ≤ q → q_A κ q) ∧ NW (q_s κ) ∧ (q_M κ).locks = false ∧ q_R κ = Rm
section GR
variable {κ : qC} {cc : ByteArray} {own : String} {Ts : List Cond} {Rm : Room} {k n : Nat} {ws : va_W} {pc : Nat} {lv : List (Nat × Value)} {st : List Value}
theorem g_widen {k' n' : Nat} (h1 : k ≤ k') (h2 : n ≤ n') (h : GW κ k' n' ws pc lv st) : GW κ k n ws pc lv st := fun H locs hP hD hS ls hl => W.widen h1 h2 (h H locs hP hD hS ls hl)
theorem g_eqs {ws' : va_W} (e : ws = ws') (h : GW κ k n ws' pc lv st) : GW κ k n ws pc lv st := e ▸ h
theorem g_eqv {st' : List Value} (e : st = st') (h : GW κ k n ws pc lv st') : GW κ k n ws pc lv st := e ▸ h
theorem g_eql {lv' : List (Nat × Value)} (ks : List Nat) (e : lv_pick lv ks = lv') (h : GW κ k n ws pc lv' st) : GW κ k n ws pc lv st := fun H locs hP hD hS ls hl => h H locs hP hD hS ls (lv_sub hl ks e)

theorem g_iconst (C : Cx κ cc own Ts Rm) {i : Int} {v : Int32} (hdg : decode cc pc = .ok (.iconst i, 1)) (hv : Int32.ofInt i = v) (h : GW κ k n ws (pc + 1) lv (.int v :: st)) : GW κ k n ws pc lv (st) := fun H locs hP hD hS ls hl => lv_iconst C.1 C.2.1 hdg hv (h H locs hP hD hS ls hl)
theorem g_bipush (C : Cx κ cc own Ts Rm) {i : Int} {v : Int32} (hdg : decode cc pc = .ok (.bipush i, 2)) (hv : (Int8.ofInt i).toInt32 = v) (h : GW κ k n ws (pc + 2) lv (.int v :: st)) : GW κ k n ws pc lv (st) := fun H locs hP hD hS ls hl => lv_bipush C.1 C.2.1 hdg hv (h H locs hP hD hS ls hl)
theorem g_sipush (C : Cx κ cc own Ts Rm) {i : Int} {v : Int32} (hdg : decode cc pc = .ok (.sipush i, 3)) (hv : (Int16.ofInt i).toInt32 = v) (h : GW κ k n ws (pc + 3) lv (.int v :: st)) : GW κ k n ws pc lv (st) := fun H locs hP hD hS ls hl => lv_sipush C.1 C.2.1 hdg hv (h H locs hP hD hS ls hl)
theorem g_lconst (C : Cx κ cc own Ts Rm) {i : Fin 2} {v : Int64} (hdg : decode cc pc = .ok (.lconst i, 1)) (hv : Int64.ofNat (i : Nat) = v) (h : GW κ k n ws (pc + 1) lv (.long v :: st)) : GW κ k n ws pc lv (st) := fun H locs hP hD hS ls hl => lv_lconst C.1 C.2.1 hdg hv (h H locs hP hD hS ls hl)
theorem g_null (C : Cx κ cc own Ts Rm)  (hdg : decode cc pc = .ok (.aconst_null, 1)) (h : GW κ k n ws (pc + 1) lv (.null :: st)) : GW κ k n ws pc lv (st) := fun H locs hP hD hS ls hl => lv_null C.1 C.2.1 hdg (h H locs hP hD hS ls hl)
theorem g_ldc (C : Cx κ cc own Ts Rm) {i : Nat} {v : Int32} (hdg : decode cc pc = .ok (.ldc i, 2)) (hw : Cond.constant own i v ∈ Ts) (h : GW κ k n ws (pc + 2) lv (.int v :: st)) : GW κ k n ws pc lv (st) := fun H locs hP hD hS ls hl => lv_ldc C.1 C.2.1 C.2.2.2.1 (C.2.2.2.2.1 _ hw) hdg (h H locs hP hD hS ls hl)
theorem g_ldcw (C : Cx κ cc own Ts Rm) {i : Nat} {v : Int32} (hdg : decode cc pc = .ok (.ldc_w i, 3)) (hw : Cond.constant own i v ∈ Ts) (h : GW κ k n ws (pc + 3) lv (.int v :: st)) : GW κ k n ws pc lv (st) := fun H locs hP hD hS ls hl => lv_ldcw C.1 C.2.1 C.2.2.2.1 (C.2.2.2.2.1 _ hw) hdg (h H locs hP hD hS ls hl)
theorem g_ldc2 (C : Cx κ cc own Ts Rm) {i : Nat} {v : Int64} (hdg : decode cc pc = .ok (.ldc2_w i, 3)) (hw : Cond.constantLong own i v ∈ Ts) (h : GW κ k n ws (pc + 3) lv (.long v :: st)) : GW κ k n ws pc lv (st) := fun H locs hP hD hS ls hl => lv_ldc2 C.1 C.2.1 C.2.2.2.1 (C.2.2.2.2.1 _ hw) hdg (h H locs hP hD hS ls hl)
theorem g_iload_n (C : Cx κ cc own Ts Rm) {f : Fin 4} {i : Nat} {x : Int32} (j : Nat) (hj : lv[j]? = some (i, .int x)) (hi : (f : Nat) = i) (hdg : decode cc pc = .ok (.iload_n f, 1)) (h : GW κ k n ws (pc + 1) lv (.int x :: st)) : GW κ k n ws pc lv (st) := fun H locs hP hD hS ls hl => lv_iload_n C.1 C.2.1 hdg hi (lv_at hl j hj) (h H locs hP hD hS ls hl)
theorem g_iload (C : Cx κ cc own Ts Rm) {i : Nat} {x : Int32} (j : Nat) (hj : lv[j]? = some (i, .int x)) (hdg : decode cc pc = .ok (.iload i, 2)) (h : GW κ k n ws (pc + 2) lv (.int x :: st)) : GW κ k n ws pc lv (st) := fun H locs hP hD hS ls hl => lv_iload C.1 C.2.1 hdg (lv_at hl j hj) (h H locs hP hD hS ls hl)
theorem g_istore_n (C : Cx κ cc own Ts Rm) {f : Fin 4} {i N : Nat} {x : Int32} (lv' : List (Nat × Value)) (hN : q_n κ = N) (hi : (f : Nat) = i) (hn : i < N) (hl' : (i, Value.int x) :: lv.filter (fun q => !(q.1 == i) && !(q.1 + 1 == i && q.2.category == 2)) = lv') (hdg : decode cc pc = .ok (.istore_n f, 1)) (h : GW κ k n ws (pc + 1) lv' st) : GW κ k n ws pc lv (.int x :: st) := fun H locs hP hD hS ls hl => lv_istore_n C.1 C.2.1 hdg hi hl (by rw [hN]; exact hn) hl' (fun ls' hls => h H locs hP hD hS ls' hls)
theorem g_istore (C : Cx κ cc own Ts Rm) {i N : Nat} {x : Int32} (lv' : List (Nat × Value)) (hN : q_n κ = N) (hn : i < N) (hl' : (i, Value.int x) :: lv.filter (fun q => !(q.1 == i) && !(q.1 + 1 == i && q.2.category == 2)) = lv') (hdg : decode cc pc = .ok (.istore i, 2)) (h : GW κ k n ws (pc + 2) lv' st) : GW κ k n ws pc lv (.int x :: st) := fun H locs hP hD hS ls hl => lv_istore C.1 C.2.1 hdg hl (by rw [hN]; exact hn) hl' (fun ls' hls => h H locs hP hD hS ls' hls)
theorem g_lload_n (C : Cx κ cc own Ts Rm) {f : Fin 4} {i : Nat} {x : Int64} (j : Nat) (hj : lv[j]? = some (i, .long x)) (hi : (f : Nat) = i) (hdg : decode cc pc = .ok (.lload_n f, 1)) (h : GW κ k n ws (pc + 1) lv (.long x :: st)) : GW κ k n ws pc lv (st) := fun H locs hP hD hS ls hl => lv_lload_n C.1 C.2.1 hdg hi (lv_at hl j hj) (h H locs hP hD hS ls hl)
theorem g_lload (C : Cx κ cc own Ts Rm) {i : Nat} {x : Int64} (j : Nat) (hj : lv[j]? = some (i, .long x)) (hdg : decode cc pc = .ok (.lload i, 2)) (h : GW κ k n ws (pc + 2) lv (.long x :: st)) : GW κ k n ws pc lv (st) := fun H locs hP hD hS ls hl => lv_lload C.1 C.2.1 hdg (lv_at hl j hj) (h H locs hP hD hS ls hl)
theorem g_lstore_n (C : Cx κ cc own Ts Rm) {f : Fin 4} {i N : Nat} {x : Int64} (lv' : List (Nat × Value)) (hN : q_n κ = N) (hi : (f : Nat) = i) (hn : i + 1 < N) (hl' : (i, Value.long x) :: lv.filter (fun q => !(q.1 == i) && (!(q.1 == i + 1) && !(q.1 + 1 == i && q.2.category == 2))) = lv') (hdg : decode cc pc = .ok (.lstore_n f, 1)) (h : GW κ k n ws (pc + 1) lv' st) : GW κ k n ws pc lv (.long x :: st) := fun H locs hP hD hS ls hl => lv_lstore_n C.1 C.2.1 hdg hi hl (by rw [hN]; exact hn) hl' (fun ls' hls => h H locs hP hD hS ls' hls)
theorem g_lstore (C : Cx κ cc own Ts Rm) {i N : Nat} {x : Int64} (lv' : List (Nat × Value)) (hN : q_n κ = N) (hn : i + 1 < N) (hl' : (i, Value.long x) :: lv.filter (fun q => !(q.1 == i) && (!(q.1 == i + 1) && !(q.1 + 1 == i && q.2.category == 2))) = lv') (hdg : decode cc pc = .ok (.lstore i, 2)) (h : GW κ k n ws (pc + 2) lv' st) : GW κ k n ws pc lv (.long x :: st) := fun H locs hP hD hS ls hl => lv_lstore C.1 C.2.1 hdg hl (by rw [hN]; exact hn) hl' (fun ls' hls => h H locs hP hD hS ls' hls)
theorem g_aload_n (C : Cx κ cc own Ts Rm) {f : Fin 4} {i : Nat} {x : Nat} (j : Nat) (hj : lv[j]? = some (i, .ref x)) (hi : (f : Nat) = i) (hdg : decode cc pc = .ok (.aload_n f, 1)) (h : GW κ k n ws (pc + 1) lv (.ref x :: st)) : GW κ k n ws pc lv (st) := fun H locs hP hD hS ls hl => lv_aload_n C.1 C.2.1 hdg hi (lv_at hl j hj) (h H locs hP hD hS ls hl)
theorem g_aload (C : Cx κ cc own Ts Rm) {i : Nat} {x : Nat} (j : Nat) (hj : lv[j]? = some (i, .ref x)) (hdg : decode cc pc = .ok (.aload i, 2)) (h : GW κ k n ws (pc + 2) lv (.ref x :: st)) : GW κ k n ws pc lv (st) := fun H locs hP hD hS ls hl => lv_aload C.1 C.2.1 hdg (lv_at hl j hj) (h H locs hP hD hS ls hl)
theorem g_astore_n (C : Cx κ cc own Ts Rm) {f : Fin 4} {i N : Nat} {x : Nat} (lv' : List (Nat × Value)) (hN : q_n κ = N) (hi : (f : Nat) = i) (hn : i < N) (hl' : (i, Value.ref x) :: lv.filter (fun q => !(q.1 == i) && !(q.1 + 1 == i && q.2.category == 2)) = lv') (hdg : decode cc pc = .ok (.astore_n f, 1)) (h : GW κ k n ws (pc + 1) lv' st) : GW κ k n ws pc lv (.ref x :: st) := fun H locs hP hD hS ls hl => lv_astore_n C.1 C.2.1 hdg hi hl (by rw [hN]; exact hn) hl' (fun ls' hls => h H locs hP hD hS ls' hls)
theorem g_astore (C : Cx κ cc own Ts Rm) {i N : Nat} {x : Nat} (lv' : List (Nat × Value)) (hN : q_n κ = N) (hn : i < N) (hl' : (i, Value.ref x) :: lv.filter (fun q => !(q.1 == i) && !(q.1 + 1 == i && q.2.category == 2)) = lv') (hdg : decode cc pc = .ok (.astore i, 2)) (h : GW κ k n ws (pc + 2) lv' st) : GW κ k n ws pc lv (.ref x :: st) := fun H locs hP hD hS ls hl => lv_astore C.1 C.2.1 hdg hl (by rw [hN]; exact hn) hl' (fun ls' hls => h H locs hP hD hS ls' hls)
theorem g_rload_n (C : Cx κ cc own Ts Rm) {f : Fin 4} {i : Nat} {r : Option Nat} (j : Nat) (hj : lv[j]? = some (i, va_rf r)) (hi : (f : Nat) = i) (hdg : decode cc pc = .ok (.aload_n f, 1)) (h : GW κ k n ws (pc + 1) lv (va_rf r :: st)) : GW κ k n ws pc lv st := by
  intro H locs hP hD hS ls hl
  have h1 := h H locs hP hD hS ls hl
  cases r with
  | none => exact lv_aload_nN C.1 C.2.1 hdg hi (lv_at hl j hj) h1
  | some a => exact lv_aload_n C.1 C.2.1 hdg hi (lv_at hl j hj) h1
theorem g_rload (C : Cx κ cc own Ts Rm) {i : Nat} {r : Option Nat} (j : Nat) (hj : lv[j]? = some (i, va_rf r)) (hdg : decode cc pc = .ok (.aload i, 2)) (h : GW κ k n ws (pc + 2) lv (va_rf r :: st)) : GW κ k n ws pc lv st := by
  intro H locs hP hD hS ls hl
  have h1 := h H locs hP hD hS ls hl
  cases r with
  | none => exact lv_aloadN C.1 C.2.1 hdg (lv_at hl j hj) h1
  | some a => exact lv_aload C.1 C.2.1 hdg (lv_at hl j hj) h1
theorem g_rstore_n (C : Cx κ cc own Ts Rm) {f : Fin 4} {i N : Nat} {r : Option Nat} (lv' : List (Nat × Value)) (hN : q_n κ = N) (hi : (f : Nat) = i) (hn : i < N) (hl' : (i, va_rf r) :: lv.filter (fun q => !(q.1 == i) && !(q.1 + 1 == i && q.2.category == 2)) = lv') (hdg : decode cc pc = .ok (.astore_n f, 1)) (h : GW κ k n ws (pc + 1) lv' st) : GW κ k n ws pc lv (va_rf r :: st) := by
  intro H locs hP hD hS ls hl
  cases r with
  | none => exact lv_astore_nN C.1 C.2.1 hdg hi hl (by rw [hN]; exact hn) hl' (fun ls' hls => h H locs hP hD hS ls' hls)
  | some a => exact lv_astore_n C.1 C.2.1 hdg hi hl (by rw [hN]; exact hn) hl' (fun ls' hls => h H locs hP hD hS ls' hls)
theorem g_rstore (C : Cx κ cc own Ts Rm) {i N : Nat} {r : Option Nat} (lv' : List (Nat × Value)) (hN : q_n κ = N) (hn : i < N) (hl' : (i, va_rf r) :: lv.filter (fun q => !(q.1 == i) && !(q.1 + 1 == i && q.2.category == 2)) = lv') (hdg : decode cc pc = .ok (.astore i, 2)) (h : GW κ k n ws (pc + 2) lv' st) : GW κ k n ws pc lv (va_rf r :: st) := by
  intro H locs hP hD hS ls hl
  cases r with
  | none => exact lv_astoreN C.1 C.2.1 hdg hl (by rw [hN]; exact hn) hl' (fun ls' hls => h H locs hP hD hS ls' hls)
  | some a => exact lv_astore C.1 C.2.1 hdg hl (by rw [hN]; exact hn) hl' (fun ls' hls => h H locs hP hD hS ls' hls)
theorem g_iinc (C : Cx κ cc own Ts Rm) {i N j : Nat} {d : Int} {x v : Int32} (lv' : List (Nat × Value)) (hN : q_n κ = N) (hj : lv[j]? = some (i, .int x)) (hv : x + Int32.ofInt d = v) (hn : i < N) (hl' : (i, Value.int v) :: lv.filter (fun q => !(q.1 == i) && !(q.1 + 1 == i && q.2.category == 2)) = lv') (hdg : decode cc pc = .ok (.iinc i d, 3)) (h : GW κ k n ws (pc + 3) lv' st) : GW κ k n ws pc lv st := fun H locs hP hD hS ls hl => lv_iinc C.1 C.2.1 hdg hl hj hv (by rw [hN]; exact hn) hl' (fun ls' hls => h H locs hP hD hS ls' hls)
theorem g_iadd (C : Cx κ cc own Ts Rm) {x y : Int32} (hdg : decode cc pc = .ok (.iadd, 1)) (h : GW κ k n ws (pc + 1) lv (.int (x + y) :: st)) : GW κ k n ws pc lv (.int y :: .int x :: st) := fun H locs hP hD hS ls hl => lv_iadd C.1 C.2.1 hdg (h H locs hP hD hS ls hl)
theorem g_isub (C : Cx κ cc own Ts Rm) {x y : Int32} (hdg : decode cc pc = .ok (.isub, 1)) (h : GW κ k n ws (pc + 1) lv (.int (x - y) :: st)) : GW κ k n ws pc lv (.int y :: .int x :: st) := fun H locs hP hD hS ls hl => lv_isub C.1 C.2.1 hdg (h H locs hP hD hS ls hl)
theorem g_imul (C : Cx κ cc own Ts Rm) {x y : Int32} (hdg : decode cc pc = .ok (.imul, 1)) (h : GW κ k n ws (pc + 1) lv (.int (x * y) :: st)) : GW κ k n ws pc lv (.int y :: .int x :: st) := fun H locs hP hD hS ls hl => lv_imul C.1 C.2.1 hdg (h H locs hP hD hS ls hl)
theorem g_iand (C : Cx κ cc own Ts Rm) {x y : Int32} (hdg : decode cc pc = .ok (.iand, 1)) (h : GW κ k n ws (pc + 1) lv (.int (x &&& y) :: st)) : GW κ k n ws pc lv (.int y :: .int x :: st) := fun H locs hP hD hS ls hl => lv_iand C.1 C.2.1 hdg (h H locs hP hD hS ls hl)
theorem g_ior (C : Cx κ cc own Ts Rm) {x y : Int32} (hdg : decode cc pc = .ok (.ior, 1)) (h : GW κ k n ws (pc + 1) lv (.int (x ||| y) :: st)) : GW κ k n ws pc lv (.int y :: .int x :: st) := fun H locs hP hD hS ls hl => lv_ior C.1 C.2.1 hdg (h H locs hP hD hS ls hl)
theorem g_ixor (C : Cx κ cc own Ts Rm) {x y : Int32} (hdg : decode cc pc = .ok (.ixor, 1)) (h : GW κ k n ws (pc + 1) lv (.int (x ^^^ y) :: st)) : GW κ k n ws pc lv (.int y :: .int x :: st) := fun H locs hP hD hS ls hl => lv_ixor C.1 C.2.1 hdg (h H locs hP hD hS ls hl)
theorem g_ishl (C : Cx κ cc own Ts Rm) {x y : Int32} (hdg : decode cc pc = .ok (.ishl, 1)) (h : GW κ k n ws (pc + 1) lv (.int (x <<< (y &&& 31)) :: st)) : GW κ k n ws pc lv (.int y :: .int x :: st) := fun H locs hP hD hS ls hl => lv_ishl C.1 C.2.1 hdg (h H locs hP hD hS ls hl)
theorem g_ishr (C : Cx κ cc own Ts Rm) {x y : Int32} (hdg : decode cc pc = .ok (.ishr, 1)) (h : GW κ k n ws (pc + 1) lv (.int (x >>> (y &&& 31)) :: st)) : GW κ k n ws pc lv (.int y :: .int x :: st) := fun H locs hP hD hS ls hl => lv_ishr C.1 C.2.1 hdg (h H locs hP hD hS ls hl)
theorem g_ladd (C : Cx κ cc own Ts Rm) {x y : Int64} (hdg : decode cc pc = .ok (.ladd, 1)) (h : GW κ k n ws (pc + 1) lv (.long (x + y) :: st)) : GW κ k n ws pc lv (.long y :: .long x :: st) := fun H locs hP hD hS ls hl => lv_ladd C.1 C.2.1 hdg (h H locs hP hD hS ls hl)
theorem g_lsub (C : Cx κ cc own Ts Rm) {x y : Int64} (hdg : decode cc pc = .ok (.lsub, 1)) (h : GW κ k n ws (pc + 1) lv (.long (x - y) :: st)) : GW κ k n ws pc lv (.long y :: .long x :: st) := fun H locs hP hD hS ls hl => lv_lsub C.1 C.2.1 hdg (h H locs hP hD hS ls hl)
theorem g_lmul (C : Cx κ cc own Ts Rm) {x y : Int64} (hdg : decode cc pc = .ok (.lmul, 1)) (h : GW κ k n ws (pc + 1) lv (.long (x * y) :: st)) : GW κ k n ws pc lv (.long y :: .long x :: st) := fun H locs hP hD hS ls hl => lv_lmul C.1 C.2.1 hdg (h H locs hP hD hS ls hl)
theorem g_land (C : Cx κ cc own Ts Rm) {x y : Int64} (hdg : decode cc pc = .ok (.land, 1)) (h : GW κ k n ws (pc + 1) lv (.long (x &&& y) :: st)) : GW κ k n ws pc lv (.long y :: .long x :: st) := fun H locs hP hD hS ls hl => lv_land C.1 C.2.1 hdg (h H locs hP hD hS ls hl)
theorem g_lor (C : Cx κ cc own Ts Rm) {x y : Int64} (hdg : decode cc pc = .ok (.lor, 1)) (h : GW κ k n ws (pc + 1) lv (.long (x ||| y) :: st)) : GW κ k n ws pc lv (.long y :: .long x :: st) := fun H locs hP hD hS ls hl => lv_lor C.1 C.2.1 hdg (h H locs hP hD hS ls hl)
theorem g_idiv (C : Cx κ cc own Ts Rm) {x y : Int32} (hne : ¬ y = 0) (hdg : decode cc pc = .ok (.idiv, 1)) (h : GW κ k n ws (pc + 1) lv (.int (x / y) :: st)) : GW κ k n ws pc lv (.int y :: .int x :: st) := fun H locs hP hD hS ls hl => lv_idiv C.1 C.2.1 hdg hne (h H locs hP hD hS ls hl)
theorem g_irem (C : Cx κ cc own Ts Rm) {x y : Int32} (hne : ¬ y = 0) (hdg : decode cc pc = .ok (.irem, 1)) (h : GW κ k n ws (pc + 1) lv (.int (x - x / y * y) :: st)) : GW κ k n ws pc lv (.int y :: .int x :: st) := fun H locs hP hD hS ls hl => lv_irem C.1 C.2.1 hdg hne (h H locs hP hD hS ls hl)
theorem g_ldiv (C : Cx κ cc own Ts Rm) {x y : Int64} (hne : ¬ y = 0) (hdg : decode cc pc = .ok (.ldiv, 1)) (h : GW κ k n ws (pc + 1) lv (.long (x / y) :: st)) : GW κ k n ws pc lv (.long y :: .long x :: st) := fun H locs hP hD hS ls hl => lv_ldiv C.1 C.2.1 hdg hne (h H locs hP hD hS ls hl)
theorem g_lrem (C : Cx κ cc own Ts Rm) {x y : Int64} (hne : ¬ y = 0) (hdg : decode cc pc = .ok (.lrem, 1)) (h : GW κ k n ws (pc + 1) lv (.long (x - x / y * y) :: st)) : GW κ k n ws pc lv (.long y :: .long x :: st) := fun H locs hP hD hS ls hl => lv_lrem C.1 C.2.1 hdg hne (h H locs hP hD hS ls hl)
theorem g_ineg (C : Cx κ cc own Ts Rm) {x : Int32} (hdg : decode cc pc = .ok (.ineg, 1)) (h : GW κ k n ws (pc + 1) lv (.int (-x) :: st)) : GW κ k n ws pc lv (.int x :: st) := fun H locs hP hD hS ls hl => lv_ineg C.1 C.2.1 hdg (h H locs hP hD hS ls hl)
theorem g_i2l (C : Cx κ cc own Ts Rm) {x : Int32} (hdg : decode cc pc = .ok (.i2l, 1)) (h : GW κ k n ws (pc + 1) lv (.long x.toInt64 :: st)) : GW κ k n ws pc lv (.int x :: st) := fun H locs hP hD hS ls hl => lv_i2l C.1 C.2.1 hdg rfl (h H locs hP hD hS ls hl)
theorem g_l2i (C : Cx κ cc own Ts Rm) {x : Int64} (hdg : decode cc pc = .ok (.l2i, 1)) (h : GW κ k n ws (pc + 1) lv (.int x.toInt32 :: st)) : GW κ k n ws pc lv (.long x :: st) := fun H locs hP hD hS ls hl => lv_l2i C.1 C.2.1 hdg rfl (h H locs hP hD hS ls hl)
theorem g_i2b (C : Cx κ cc own Ts Rm) {x : Int32} (hdg : decode cc pc = .ok (.i2b, 1)) (h : GW κ k n ws (pc + 1) lv (.int x.toInt8.toInt32 :: st)) : GW κ k n ws pc lv (.int x :: st) := fun H locs hP hD hS ls hl => lv_i2b C.1 C.2.1 hdg rfl (h H locs hP hD hS ls hl)
theorem g_i2c (C : Cx κ cc own Ts Rm) {x : Int32} (hdg : decode cc pc = .ok (.i2c, 1)) (h : GW κ k n ws (pc + 1) lv (.int (x.toUInt32 % 65536).toInt32 :: st)) : GW κ k n ws pc lv (.int x :: st) := fun H locs hP hD hS ls hl => lv_i2c C.1 C.2.1 hdg rfl (h H locs hP hD hS ls hl)
theorem g_lushr (C : Cx κ cc own Ts Rm) {x : Int64} {y : Int32} (hdg : decode cc pc = .ok (.lushr, 1)) (h : GW κ k n ws (pc + 1) lv (.long (x.toUInt64 >>> (y.toInt64.toUInt64 &&& Int64.toUInt64 63)).toInt64 :: st)) : GW κ k n ws pc lv (.int y :: .long x :: st) := fun H locs hP hD hS ls hl => lv_lushr C.1 C.2.1 hdg rfl (h H locs hP hD hS ls hl)
theorem g_lshl (C : Cx κ cc own Ts Rm) {x : Int64} {y : Int32} (hdg : decode cc pc = .ok (.lshl, 1)) (h : GW κ k n ws (pc + 1) lv (.long (x <<< (y.toInt64 &&& 63)) :: st)) : GW κ k n ws pc lv (.int y :: .long x :: st) := fun H locs hP hD hS ls hl => lv_lshl C.1 C.2.1 hdg rfl (h H locs hP hD hS ls hl)
theorem g_lshr (C : Cx κ cc own Ts Rm) {x : Int64} {y : Int32} (hdg : decode cc pc = .ok (.lshr, 1)) (h : GW κ k n ws (pc + 1) lv (.long (x >>> (y.toInt64 &&& 63)) :: st)) : GW κ k n ws pc lv (.int y :: .long x :: st) := fun H locs hP hD hS ls hl => lv_lshr C.1 C.2.1 hdg rfl (h H locs hP hD hS ls hl)
theorem g_dup (C : Cx κ cc own Ts Rm) {v : Value} (hv : v.category = 1) (hdg : decode cc pc = .ok (.dup, 1)) (h : GW κ k n ws (pc + 1) lv (v :: v :: st)) : GW κ k n ws pc lv (v :: st) := fun H locs hP hD hS ls hl => lv_dup C.1 C.2.1 hdg hv (h H locs hP hD hS ls hl)
theorem g_dup2 (C : Cx κ cc own Ts Rm) {va vb : Value} (hva : va.category = 1) (hvb : vb.category = 1) (hdg : decode cc pc = .ok (.dup2, 1)) (h : GW κ k n ws (pc + 1) lv (va :: vb :: va :: vb :: st)) : GW κ k n ws pc lv (va :: vb :: st) := fun H locs hP hD hS ls hl => lv_dup2_11 C.1 C.2.1 hdg hva hvb (h H locs hP hD hS ls hl)
theorem g_pop (C : Cx κ cc own Ts Rm) {v : Value} (hv : v.category = 1) (hdg : decode cc pc = .ok (.pop, 1)) (h : GW κ k n ws (pc + 1) lv (st)) : GW κ k n ws pc lv (v :: st) := fun H locs hP hD hS ls hl => lv_pop C.1 C.2.1 hdg hv (h H locs hP hD hS ls hl)
theorem g_goto (C : Cx κ cc own Ts Rm) {off : Int} (tgt : Nat) (ht : (pc : Int) + off = (tgt : Int)) (hdg : decode cc pc = .ok (.goto off, 3)) (h : GW κ k n ws tgt lv st) : GW κ k n ws pc lv st := fun H locs hP hD hS ls hl => lv_goto C.1 C.2.1 hdg ht (h H locs hP hD hS ls hl)
theorem g_if_eq (C : Cx κ cc own Ts Rm) {x : Int32} {off : Int} {wa wb : Prop} (tgt : Nat) (ht : (pc : Int) + off = (tgt : Int)) (hw : if x = 0 then wa else wb) (hdg : decode cc pc = .ok (.ifCond .eq off, 3)) (kt : wa → GW κ k n ws tgt lv st) (kf : wb → GW κ k n ws (pc + 3) lv st) : GW κ k n ws pc lv (.int x :: st) := fun H locs hP hD hS ls hl => lv_if_eq C.1 C.2.1 hdg ht (fun e => kt (by rw [if_pos e] at hw; exact hw) H locs hP hD hS ls hl) (fun e => kf (by rw [if_neg e] at hw; exact hw) H locs hP hD hS ls hl)
theorem g_icmp_eq (C : Cx κ cc own Ts Rm) {x y : Int32} {off : Int} {wa wb : Prop} (tgt : Nat) (ht : (pc : Int) + off = (tgt : Int)) (hw : if x = y then wa else wb) (hdg : decode cc pc = .ok (.if_icmp .eq off, 3)) (kt : wa → GW κ k n ws tgt lv st) (kf : wb → GW κ k n ws (pc + 3) lv st) : GW κ k n ws pc lv (.int y :: .int x :: st) := fun H locs hP hD hS ls hl => lv_icmp_eq C.1 C.2.1 hdg ht (fun e => kt (by rw [if_pos e] at hw; exact hw) H locs hP hD hS ls hl) (fun e => kf (by rw [if_neg e] at hw; exact hw) H locs hP hD hS ls hl)
theorem g_if_ne (C : Cx κ cc own Ts Rm) {x : Int32} {off : Int} {wa wb : Prop} (tgt : Nat) (ht : (pc : Int) + off = (tgt : Int)) (hw : if x = 0 then wa else wb) (hdg : decode cc pc = .ok (.ifCond .ne off, 3)) (kt : wb → GW κ k n ws tgt lv st) (kf : wa → GW κ k n ws (pc + 3) lv st) : GW κ k n ws pc lv (.int x :: st) := fun H locs hP hD hS ls hl => lv_if_ne C.1 C.2.1 hdg ht (fun e => kt (by rw [if_neg e] at hw; exact hw) H locs hP hD hS ls hl) (fun e => kf (by rw [if_pos e] at hw; exact hw) H locs hP hD hS ls hl)
theorem g_icmp_ne (C : Cx κ cc own Ts Rm) {x y : Int32} {off : Int} {wa wb : Prop} (tgt : Nat) (ht : (pc : Int) + off = (tgt : Int)) (hw : if x = y then wa else wb) (hdg : decode cc pc = .ok (.if_icmp .ne off, 3)) (kt : wb → GW κ k n ws tgt lv st) (kf : wa → GW κ k n ws (pc + 3) lv st) : GW κ k n ws pc lv (.int y :: .int x :: st) := fun H locs hP hD hS ls hl => lv_icmp_ne C.1 C.2.1 hdg ht (fun e => kt (by rw [if_neg e] at hw; exact hw) H locs hP hD hS ls hl) (fun e => kf (by rw [if_pos e] at hw; exact hw) H locs hP hD hS ls hl)
theorem g_if_lt (C : Cx κ cc own Ts Rm) {x : Int32} {off : Int} {wa wb : Prop} (tgt : Nat) (ht : (pc : Int) + off = (tgt : Int)) (hw : if x < 0 then wa else wb) (hdg : decode cc pc = .ok (.ifCond .lt off, 3)) (kt : wa → GW κ k n ws tgt lv st) (kf : wb → GW κ k n ws (pc + 3) lv st) : GW κ k n ws pc lv (.int x :: st) := fun H locs hP hD hS ls hl => lv_if_lt C.1 C.2.1 hdg ht (fun e => kt (by rw [if_pos e] at hw; exact hw) H locs hP hD hS ls hl) (fun e => kf (by rw [if_neg e] at hw; exact hw) H locs hP hD hS ls hl)
theorem g_icmp_lt (C : Cx κ cc own Ts Rm) {x y : Int32} {off : Int} {wa wb : Prop} (tgt : Nat) (ht : (pc : Int) + off = (tgt : Int)) (hw : if x < y then wa else wb) (hdg : decode cc pc = .ok (.if_icmp .lt off, 3)) (kt : wa → GW κ k n ws tgt lv st) (kf : wb → GW κ k n ws (pc + 3) lv st) : GW κ k n ws pc lv (.int y :: .int x :: st) := fun H locs hP hD hS ls hl => lv_icmp_lt C.1 C.2.1 hdg ht (fun e => kt (by rw [if_pos e] at hw; exact hw) H locs hP hD hS ls hl) (fun e => kf (by rw [if_neg e] at hw; exact hw) H locs hP hD hS ls hl)
theorem g_if_ge (C : Cx κ cc own Ts Rm) {x : Int32} {off : Int} {wa wb : Prop} (tgt : Nat) (ht : (pc : Int) + off = (tgt : Int)) (hw : if 0 ≤ x then wa else wb) (hdg : decode cc pc = .ok (.ifCond .ge off, 3)) (kt : wa → GW κ k n ws tgt lv st) (kf : wb → GW κ k n ws (pc + 3) lv st) : GW κ k n ws pc lv (.int x :: st) := fun H locs hP hD hS ls hl => lv_if_ge C.1 C.2.1 hdg ht (fun e => kt (by rw [if_pos e] at hw; exact hw) H locs hP hD hS ls hl) (fun e => kf (by rw [if_neg e] at hw; exact hw) H locs hP hD hS ls hl)
theorem g_icmp_ge (C : Cx κ cc own Ts Rm) {x y : Int32} {off : Int} {wa wb : Prop} (tgt : Nat) (ht : (pc : Int) + off = (tgt : Int)) (hw : if y ≤ x then wa else wb) (hdg : decode cc pc = .ok (.if_icmp .ge off, 3)) (kt : wa → GW κ k n ws tgt lv st) (kf : wb → GW κ k n ws (pc + 3) lv st) : GW κ k n ws pc lv (.int y :: .int x :: st) := fun H locs hP hD hS ls hl => lv_icmp_ge C.1 C.2.1 hdg ht (fun e => kt (by rw [if_pos e] at hw; exact hw) H locs hP hD hS ls hl) (fun e => kf (by rw [if_neg e] at hw; exact hw) H locs hP hD hS ls hl)
theorem g_if_gt (C : Cx κ cc own Ts Rm) {x : Int32} {off : Int} {wa wb : Prop} (tgt : Nat) (ht : (pc : Int) + off = (tgt : Int)) (hw : if 0 < x then wa else wb) (hdg : decode cc pc = .ok (.ifCond .gt off, 3)) (kt : wa → GW κ k n ws tgt lv st) (kf : wb → GW κ k n ws (pc + 3) lv st) : GW κ k n ws pc lv (.int x :: st) := fun H locs hP hD hS ls hl => lv_if_gt C.1 C.2.1 hdg ht (fun e => kt (by rw [if_pos e] at hw; exact hw) H locs hP hD hS ls hl) (fun e => kf (by rw [if_neg e] at hw; exact hw) H locs hP hD hS ls hl)
theorem g_icmp_gt (C : Cx κ cc own Ts Rm) {x y : Int32} {off : Int} {wa wb : Prop} (tgt : Nat) (ht : (pc : Int) + off = (tgt : Int)) (hw : if y < x then wa else wb) (hdg : decode cc pc = .ok (.if_icmp .gt off, 3)) (kt : wa → GW κ k n ws tgt lv st) (kf : wb → GW κ k n ws (pc + 3) lv st) : GW κ k n ws pc lv (.int y :: .int x :: st) := fun H locs hP hD hS ls hl => lv_icmp_gt C.1 C.2.1 hdg ht (fun e => kt (by rw [if_pos e] at hw; exact hw) H locs hP hD hS ls hl) (fun e => kf (by rw [if_neg e] at hw; exact hw) H locs hP hD hS ls hl)
theorem g_if_le (C : Cx κ cc own Ts Rm) {x : Int32} {off : Int} {wa wb : Prop} (tgt : Nat) (ht : (pc : Int) + off = (tgt : Int)) (hw : if x ≤ 0 then wa else wb) (hdg : decode cc pc = .ok (.ifCond .le off, 3)) (kt : wa → GW κ k n ws tgt lv st) (kf : wb → GW κ k n ws (pc + 3) lv st) : GW κ k n ws pc lv (.int x :: st) := fun H locs hP hD hS ls hl => lv_if_le C.1 C.2.1 hdg ht (fun e => kt (by rw [if_pos e] at hw; exact hw) H locs hP hD hS ls hl) (fun e => kf (by rw [if_neg e] at hw; exact hw) H locs hP hD hS ls hl)
theorem g_icmp_le (C : Cx κ cc own Ts Rm) {x y : Int32} {off : Int} {wa wb : Prop} (tgt : Nat) (ht : (pc : Int) + off = (tgt : Int)) (hw : if x ≤ y then wa else wb) (hdg : decode cc pc = .ok (.if_icmp .le off, 3)) (kt : wa → GW κ k n ws tgt lv st) (kf : wb → GW κ k n ws (pc + 3) lv st) : GW κ k n ws pc lv (.int y :: .int x :: st) := fun H locs hP hD hS ls hl => lv_icmp_le C.1 C.2.1 hdg ht (fun e => kt (by rw [if_pos e] at hw; exact hw) H locs hP hD hS ls hl) (fun e => kf (by rw [if_neg e] at hw; exact hw) H locs hP hD hS ls hl)
theorem g_lcmp (C : Cx κ cc own Ts Rm) {x y : Int64} (hdg : decode cc pc = .ok (.lcmp, 1)) (h : GW κ k n ws (pc + 1) lv (.int (lg_cmp x y) :: st)) : GW κ k n ws pc lv (.long y :: .long x :: st) := fun H locs hP hD hS ls hl => W.lcmp C.1 C.2.1 hdg (h H locs hP hD hS ls hl)
/-- a reference to a thing, or null -/
theorem g_ifnull (C : Cx κ cc own Ts Rm) {r : Option Nat} {off : Int} {wa : Prop} {wb : Nat → Prop} (tgt : Nat) (ht : (pc : Int) + off = (tgt : Int)) (hw : (r = none → wa) ∧ ∀ a, r = some a → wb a) (hdg : decode cc pc = .ok (.ifnull off, 3)) (kt : wa → r = none → GW κ k n ws tgt lv st) (kf : ∀ a, r = some a → wb a → GW κ k n ws (pc + 3) lv st) : GW κ k n ws pc lv (va_rf r :: st) := by
  intro H locs hP hD hS ls hl
  cases r with
  | none => exact lv_ifnullN C.1 C.2.1 hdg ht (kt (hw.1 rfl) rfl H locs hP hD hS ls hl)
  | some a => exact lv_ifnull C.1 C.2.1 hdg (kf a rfl (hw.2 a rfl) H locs hP hD hS ls hl)
theorem g_ifnonnull (C : Cx κ cc own Ts Rm) {r : Option Nat} {off : Int} {wa : Prop} {wb : Nat → Prop} (tgt : Nat) (ht : (pc : Int) + off = (tgt : Int)) (hw : (r = none → wa) ∧ ∀ a, r = some a → wb a) (hdg : decode cc pc = .ok (.ifnonnull off, 3)) (kt : ∀ a, r = some a → wb a → GW κ k n ws tgt lv st) (kf : wa → r = none → GW κ k n ws (pc + 3) lv st) : GW κ k n ws pc lv (va_rf r :: st) := by
  intro H locs hP hD hS ls hl
  cases r with
  | none => exact lv_ifnonnullN C.1 C.2.1 hdg (kf (hw.1 rfl) rfl H locs hP hD hS ls hl)
  | some a => exact lv_ifnonnull C.1 C.2.1 hdg ht (kt a rfl (hw.2 a rfl) H locs hP hD hS ls hl)
/-- a switch: out of its range, or at one of its numbers -/
theorem g_swOut (C : Cx κ cc own Ts Rm) {dflt lo hi : Int} {offs : Array Int} {len : Nat} {x : Int32} (tgt : Nat) (h : x.toInt < lo ∨ hi < x.toInt) (ht : (pc : Int) + dflt = (tgt : Int)) (hdg : decode cc pc = .ok (.tableswitch dflt lo hi offs, len)) (hk : GW κ k n ws tgt lv st) : GW κ k n ws pc lv (.int x :: st) := fun H locs hP hD hS ls hl => lv_tableOut C.1 C.2.1 hdg h ht (hk H locs hP hD hS ls hl)
theorem g_swIn (C : Cx κ cc own Ts Rm) {dflt lo hi off : Int} {offs : Array Int} {len : Nat} {x : Int32} (y : Int) (tgt : Nat) (h : x.toInt = y) (h1 : ¬ y < lo) (h2 : ¬ hi < y) (ho : offs[(y - lo).toNat]? = some off) (ht : (pc : Int) + off = (tgt : Int)) (hdg : decode cc pc = .ok (.tableswitch dflt lo hi offs, len)) (hk : GW κ k n ws tgt lv st) : GW κ k n ws pc lv (.int x :: st) := by
  subst h
  exact fun H locs hP hD hS ls hl => lv_tableIn C.1 C.2.1 hdg h1 h2 ho ht (hk H locs hP hD hS ls hl)
/-! fields -/
variable {tys : List (ClassId × FieldType)} {Cn ref : String} {T : u_T} {N ci idx : Nat} {a : Nat} {fs : List Value}
theorem g_get (C : Cx κ cc own Ts Rm) (hK : va_K (q_D κ) vwCl tys (q_s κ)) (hin : ∀ w ∈ u_ws Cn T N, w ∈ Ts) (hc : vwCl[ci]? = some (Cn, T, N)) (q0 : Nat) (he : ws[q0]? = some (a, .inr (ci, fs))) (f : Nat) (hf : f < N) (hsame : ∀ x, (q_s κ).fieldFound? (T f).1 (T f).2.1 (T f).2.2.1 = some x → (q_s κ).fieldFound? ref (T f).2.1 (T f).2.2.1 = some x) (hlk : Cond.fieldLink own idx ref (T f).2.1 (T f).2.2.1 ∈ Ts) {v : Value} (hv : fs[f]? = some v) (hdg : decode cc pc = .ok (.getfield idx, 3)) (h : GW κ k n ws (pc + 3) lv (v :: st)) : GW κ k n ws pc lv (.ref a :: st) :=
  fun H locs hP hD hS ls hl => va_get C.1 C.2.1 C.2.2.2.2.1 hin C.2.2.2.1 hK hP q0 he hc f hf (C.2.2.2.2.1 _ hlk) hsame hv hdg (h H locs hP hD hS ls hl)
theorem g_put (C : Cx κ cc own Ts Rm) (hK : va_K (q_D κ) vwCl tys (q_s κ)) (hin : ∀ w ∈ u_ws Cn T N, w ∈ Ts) (hc : vwCl[ci]? = some (Cn, T, N)) (ty0 : Nat → FieldType) (hty : ∀ k, k < N → parseFieldDescriptor (T k).2.2.1 = some (ty0 k)) (hnm : ∀ a, a < N → ∀ b, b < N → a ≠ b → (T a).2.1 ≠ (T b).2.1) (q0 : Nat) (he : ws[q0]? = some (a, .inr (ci, fs))) (f : Nat) (hf : f < N) (hsame : ∀ x, (q_s κ).fieldFound? (T f).1 (T f).2.1 (T f).2.2.1 = some x → (q_s κ).fieldFound? ref (T f).2.1 (T f).2.2.1 = some x) (hlk : Cond.fieldLink own idx ref (T f).2.1 (T f).2.2.1 ∈ Ts) (hfin : (T f).2.2.2 = false) {v : Value} (hn : narrow (ty0 f) v = v) (hfit : fits (ty0 f) v = true) (hlen : f < fs.length) {ws' : va_W} (e : ws.set q0 (a, .inr (ci, fs.set f v)) = ws') (hdg : decode cc pc = .ok (.putfield idx, 3)) (h : GW κ k n ws' (pc + 3) lv st) : GW κ k n ws pc lv (v :: .ref a :: st) :=
  fun H locs hP hD hS ls hl => va_put C.1 C.2.1 C.2.2.2.2.1 hin ty0 hty hnm C.2.2.2.1 hK hP hD hS q0 he hc f hf (C.2.2.2.2.1 _ hlk) hsame hfin (hty f hf) hn hfit hlen hdg (fun H1 locs1 hP1 hD1 hS1 => h H1 locs1 (e ▸ hP1) (e ▸ hD1) hS1 ls hl)
theorem g_putF (C : Cx κ cc own Ts Rm) (hK : va_K (q_D κ) vwCl tys (q_s κ)) (hin : ∀ w ∈ u_ws Cn T N, w ∈ Ts) (hc : vwCl[ci]? = some (Cn, T, N)) (ty0 : Nat → FieldType) (hty : ∀ k, k < N → parseFieldDescriptor (T k).2.2.1 = some (ty0 k)) (hnm : ∀ a, a < N → ∀ b, b < N → a ≠ b → (T a).2.1 ≠ (T b).2.1) (hi : (q_M κ).name = "<init>") (q0 : Nat) (he : ws[q0]? = some (a, .inr (ci, fs))) (f : Nat) (hf : f < N) (hdecl : (T f).1 = own) (hsame : ∀ x, (q_s κ).fieldFound? (T f).1 (T f).2.1 (T f).2.2.1 = some x → (q_s κ).fieldFound? ref (T f).2.1 (T f).2.2.1 = some x) (hlk : Cond.fieldLink own idx ref (T f).2.1 (T f).2.2.1 ∈ Ts) (hfin : (T f).2.2.2 = true) {v : Value} (hn : narrow (ty0 f) v = v) (hfit : fits (ty0 f) v = true) (hlen : f < fs.length) {ws' : va_W} (e : ws.set q0 (a, .inr (ci, fs.set f v)) = ws') (hdg : decode cc pc = .ok (.putfield idx, 3)) (h : GW κ k n ws' (pc + 3) lv st) : GW κ k n ws pc lv (v :: .ref a :: st) :=
  fun H locs hP hD hS ls hl => va_putF C.1 C.2.1 C.2.2.2.2.1 hin ty0 hty hnm C.2.2.2.1 hK hP hD hS q0 he hc f hf (C.2.2.2.2.1 _ hlk) hsame hfin hi hdecl (hty f hf) hn hfit hlen hdg (fun H1 locs1 hP1 hD1 hS1 => h H1 locs1 (e ▸ hP1) (e ▸ hD1) hS1 ls hl)
/-! arrays -/
variable {cA : ClassId} {L : Nat} {i : Int32}
theorem g_iald (C : Cx κ cc own Ts Rm) (hK : va_K (q_D κ) vwCl tys (q_s κ)) (q0 t0 : Nat) {f : Nat → Int32} (ha : ws[q0]? = some (a, .inl (cA, L, .inl f))) (ht : tys[t0]? = some (cA, .int)) (hin : vp_in i L) (hdg : decode cc pc = .ok (.iaload, 1)) (h : GW κ k n ws (pc + 1) lv (.int (f i.toNatClampNeg) :: st)) : GW κ k n ws pc lv (.int i :: .ref a :: st) := fun H locs hP hD hS ls hl => va_iald C.1 C.2.1 hK hP q0 t0 ha ht hin hdg (h H locs hP hD hS ls hl)
theorem g_bald (C : Cx κ cc own Ts Rm) (hK : va_K (q_D κ) vwCl tys (q_s κ)) (q0 t0 : Nat) {f : Nat → Int32} (ha : ws[q0]? = some (a, .inl (cA, L, .inl f))) (ht : tys[t0]? = some (cA, .byte)) (hin : vp_in i L) (hdg : decode cc pc = .ok (.baload, 1)) (h : GW κ k n ws (pc + 1) lv (.int (f i.toNatClampNeg) :: st)) : GW κ k n ws pc lv (.int i :: .ref a :: st) := fun H locs hP hD hS ls hl => va_bald C.1 C.2.1 hK hP q0 t0 ha ht hin hdg (h H locs hP hD hS ls hl)
theorem g_cald (C : Cx κ cc own Ts Rm) (hK : va_K (q_D κ) vwCl tys (q_s κ)) (q0 t0 : Nat) {f : Nat → Int32} (ha : ws[q0]? = some (a, .inl (cA, L, .inl f))) (ht : tys[t0]? = some (cA, .char)) (hin : vp_in i L) (hdg : decode cc pc = .ok (.caload, 1)) (h : GW κ k n ws (pc + 1) lv (.int (f i.toNatClampNeg) :: st)) : GW κ k n ws pc lv (.int i :: .ref a :: st) := fun H locs hP hD hS ls hl => va_cald C.1 C.2.1 hK hP q0 t0 ha ht hin hdg (h H locs hP hD hS ls hl)
theorem g_aald (C : Cx κ cc own Ts Rm) (hK : va_K (q_D κ) vwCl tys (q_s κ)) (q0 t0 : Nat) {E : String} {f : Nat → Option Nat} (ha : ws[q0]? = some (a, .inl (cA, L, .inr (.inr (.inr (.inr f)))))) (ht : tys[t0]? = some (cA, .object E)) (hin : vp_in i L) (hdg : decode cc pc = .ok (.aaload, 1)) (h : GW κ k n ws (pc + 1) lv (va_rf (f i.toNatClampNeg) :: st)) : GW κ k n ws pc lv (.int i :: .ref a :: st) := fun H locs hP hD hS ls hl => va_aldq C.1 C.2.1 hK hP q0 t0 ha ht hin hdg (h H locs hP hD hS ls hl)
theorem g_iast (C : Cx κ cc own Ts Rm) (hK : va_K (q_D κ) vwCl tys (q_s κ)) (q0 t0 : Nat) {x : Int32} {f : Nat → Int32} (ha : ws[q0]? = some (a, .inl (cA, L, .inl f))) (ht : tys[t0]? = some (cA, .int)) (hin : vp_in i L) {ws' : va_W} (e : ws.set q0 (a, .inl (cA, L, .inl (upd f i.toNatClampNeg x))) = ws') (hdg : decode cc pc = .ok (.iastore, 1)) (h : GW κ k n ws' (pc + 1) lv st) : GW κ k n ws pc lv (.int x :: .int i :: .ref a :: st) := fun H locs hP hD hS ls hl => va_iast C.1 C.2.1 hK hP hD hS q0 t0 ha ht hin hdg (fun H1 locs1 hP1 hD1 hS1 => h H1 locs1 (e ▸ hP1) (e ▸ hD1) hS1 ls hl)
theorem g_bast (C : Cx κ cc own Ts Rm) (hK : va_K (q_D κ) vwCl tys (q_s κ)) (q0 t0 : Nat) {x : Int32} {f : Nat → Int32} (ha : ws[q0]? = some (a, .inl (cA, L, .inl f))) (ht : tys[t0]? = some (cA, .byte)) (hin : vp_in i L) {ws' : va_W} (e : ws.set q0 (a, .inl (cA, L, .inl (upd f i.toNatClampNeg (vp_nar .byte x)))) = ws') (hdg : decode cc pc = .ok (.bastore, 1)) (h : GW κ k n ws' (pc + 1) lv st) : GW κ k n ws pc lv (.int x :: .int i :: .ref a :: st) := fun H locs hP hD hS ls hl => va_bast C.1 C.2.1 hK hP hD hS q0 t0 ha ht hin hdg (fun H1 locs1 hP1 hD1 hS1 => h H1 locs1 (e ▸ hP1) (e ▸ hD1) hS1 ls hl)
theorem g_cast (C : Cx κ cc own Ts Rm) (hK : va_K (q_D κ) vwCl tys (q_s κ)) (q0 t0 : Nat) {x : Int32} {f : Nat → Int32} (ha : ws[q0]? = some (a, .inl (cA, L, .inl f))) (ht : tys[t0]? = some (cA, .char)) (hin : vp_in i L) {ws' : va_W} (e : ws.set q0 (a, .inl (cA, L, .inl (upd f i.toNatClampNeg (vp_nar .char x)))) = ws') (hdg : decode cc pc = .ok (.castore, 1)) (h : GW κ k n ws' (pc + 1) lv st) : GW κ k n ws pc lv (.int x :: .int i :: .ref a :: st) := fun H locs hP hD hS ls hl => va_cast C.1 C.2.1 hK hP hD hS q0 t0 ha ht hin hdg (fun H1 locs1 hP1 hD1 hS1 => h H1 locs1 (e ▸ hP1) (e ▸ hD1) hS1 ls hl)
theorem g_aastN (C : Cx κ cc own Ts Rm) (hK : va_K (q_D κ) vwCl tys (q_s κ)) (q0 t0 : Nat) {E : String} {f : Nat → Option Nat} (ha : ws[q0]? = some (a, .inl (cA, L, .inr (.inr (.inr (.inr f)))))) (ht : tys[t0]? = some (cA, .object E)) (hin : vp_in i L) {ws' : va_W} (e : ws.set q0 (a, .inl (cA, L, .inr (.inr (.inr (.inr (va_up f i.toNatClampNeg none)))))) = ws') (hdg : decode cc pc = .ok (.aastore, 1)) (h : GW κ k n ws' (pc + 1) lv st) : GW κ k n ws pc lv (.null :: .int i :: .ref a :: st) := fun H locs hP hD hS ls hl => va_astqN C.1 C.2.1 hK hP hD hS q0 t0 ha ht hin hdg (fun H1 locs1 hP1 hD1 hS1 => h H1 locs1 (e ▸ hP1) (e ▸ hD1) hS1 ls hl)
theorem g_alen (C : Cx κ cc own Ts Rm) (hK : va_K (q_D κ) vwCl tys (q_s κ)) (q0 t0 : Nat) {x : vp_A} (ha : ws[q0]? = some (a, .inl (cA, x))) {ty : FieldType} (ht : tys[t0]? = some (cA, ty)) {v : Int32} (hv : Int32.ofNat x.1 = v) (hdg : decode cc pc = .ok (.arraylength, 1)) (h : GW κ k n ws (pc + 1) lv (.int v :: st)) : GW κ k n ws pc lv (.ref a :: st) := fun H locs hP hD hS ls hl => va_alen C.1 C.2.1 hK hP q0 t0 ha ht hv hdg (h H locs hP hD hS ls hl)
end GR
end
section
/-! CONTRACTS over the world, calls and ends over the context -/
def HG (D : va_G) (cy : Nat → ClassId) (A : Nat → Nat) (σ : St) (U : State) : Prop := va_P D vwCl (gW cy A σ) U.heap ∧ va_K D vwCl (gty cy) U ∧ va_D (fun _ => True) (gW cy A σ) ∧ NW U
def HE (D : va_G) (cy : Nat → ClassId) (A : Nat → Nat) (Z : Nat → Prop) (σ : St) (t : State) : Prop := va_P D vwCl (gW cy A σ) t.heap ∧ va_D Z (gW cy A σ)
def gPc (D : va_G) (cy : Nat → ClassId) (A : Nat → Nat) (σ : St) (sz : Nat) (av : List Value) : Array Value → State → Prop := va_Pc av (fun U => U.heap.size = sz ∧ HG D cy A σ U)
def gZ (cy : Nat → ClassId) (A : Nat → Nat) (σ : St) (sz : Nat) : Nat → Prop := va_A (gW cy A σ) sz
def CtI (l : Launch) (y : MethodName) (ws : List Cond) (rm : Room) (mc ms : Nat) (av : List Value) (D : va_G) (cy : Nat → ClassId) (A : Nat → Nat) (σ : St) (Φ : Int32 → St → Prop) : Prop := ∀ sz, Met l y ws rm (gPc D cy A σ sz av) (va_Qi Φ (HE D cy A (gZ cy A σ sz)) (gZ cy A σ sz)) mc ms (gZ cy A σ sz)
def CtL (l : Launch) (y : MethodName) (ws : List Cond) (rm : Room) (mc ms : Nat) (av : List Value) (D : va_G) (cy : Nat → ClassId) (A : Nat → Nat) (σ : St) (Φ : Int64 → St → Prop) : Prop := ∀ sz, Met l y ws rm (gPc D cy A σ sz av) (va_Ql Φ (HE D cy A (gZ cy A σ sz)) (gZ cy A σ sz)) mc ms (gZ cy A σ sz)
def CtV (l : Launch) (y : MethodName) (ws : List Cond) (rm : Room) (mc ms : Nat) (av : List Value) (D : va_G) (cy : Nat → ClassId) (A : Nat → Nat) (σ : St) (Φ : St → Prop) : Prop := ∀ sz, Met l y ws rm (gPc D cy A σ sz av) (va_Qv Φ (HE D cy A (gZ cy A σ sz)) (gZ cy A σ sz)) mc ms (gZ cy A σ sz)
def CtQ (l : Launch) (y : MethodName) (ws : List Cond) (rm : Room) (mc ms : Nat) (av : List Value) (D : va_G) (cy : Nat → ClassId) (A : Nat → Nat) (σ : St) (Φ : Option Nat → St → Prop) : Prop := ∀ sz, Met l y ws rm (gPc D cy A σ sz av) (va_Qq Φ (HE D cy A (gZ cy A σ sz)) (gZ cy A σ sz)) mc ms (gZ cy A σ sz)
theorem gPc_blind {D : va_G} {cy : Nat → ClassId} {A : Nat → Nat} {σ : St} {sz : Nat} {av : List Value} : FrameBlind (gPc D cy A σ sz av) := fun a U g mk q => ⟨q.1, q.2.1, q.2.2.1, va_K.moved (u := U) (U := U.calling g mk a) (Vm.Alike.refl U.vm) q.2.2.2.1, q.2.2.2.2.1, NW.calling q.2.2.2.2.2⟩
theorem gPc_at {D : va_G} {cy : Nat → ClassId} {A : Nat → Nat} {σ : St} {av : List Value} {s : State} {H : Heap} {Z : Nat → Prop} (hP : va_P D vwCl (gW cy A σ) H) (hK : va_K D vwCl (gty cy) s) (hD : va_D Z (gW cy A σ)) (hN : NW s) : ∀ U : State, U.heap = H → s.WarmedH U.vm → gPc D cy A σ H.size av av.toArray U := fun U hU hW => ⟨rfl, by rw [hU], by rw [hU]; exact hP, va_K.moved hW.alike hK, hD.weaken (fun _ _ _ _ => trivial), NW.warm hW hN⟩
theorem gF {Z : Nat → Prop} {ws : va_W} {H0 H : Heap} {locs : List Loc} (hD : va_D Z ws) (hS : va_S Z H0 H locs) (hA : ∀ q, H0.size ≤ q → Z q) : ∀ q, va_A ws H.size q → Z q := by
  intro q h
  rcases h with ⟨k, e, h⟩ | h
  · exact hD.2 k (q, e) h
  · exact hA q (Nat.le_trans hS.1 h)
theorem ga_T (cy : Nat → ClassId) (A : Nat → Nat) (σ : St) {a kd : Nat} (h : a ∈ σ.2.2.2.1) (hk : σ.2.2.2.2.1 a = kd) : ∃ q0 : Nat, (gW cy A σ)[q0]? = some (a, tcell σ a) ∧ (gW cy A σ)[q0]? = some (a, .inr (kd, [.int (σ.2.2.2.2.2 a 0), .int (σ.2.2.2.2.2 a 1), .int (σ.2.2.2.2.2 a 2)])) := by
  subst hk
  obtain ⟨k, hk⟩ := va_pl_get (X := gX cy A σ) (f := tcell σ) h
  exact ⟨k, hk, hk⟩
def Fx (κ : qC) (D : va_G) (Z : Nat → Prop) (ret : Option FieldType) (maxL : Nat) (Qc : Array Value → State → Outcome → State → Prop) (mc ms : Nat) : Prop := q_D κ = D ∧ q_A κ = Z ∧ (q_M κ).sig.returnType = ret ∧ q_n κ = maxL ∧ q_Q κ = MQ (q_b κ) Qc (q_a κ) (q_s κ) mc ms Z
theorem ct_any {l : Launch} {y : MethodName} {ws : List Cond} {rm : Room} {mc ms : Nat} {av : List Value} {D : va_G} {cy : Nat → ClassId} {A : Nat → Nat} {σ : St} {cc : ByteArray} {maxL : Nat} {own : String} {ret : Option FieldType} (Qc : Nat → Array Value → State → Outcome → State → Prop) (hy : plainFor y = true) (hw : ws = Cond.code y cc maxL ret :: gL) (hcl : y.cls = own) (lv0 : List (Nat × Value)) (hlv : lv_args 0 av = lv0) (hlen : (lg_sl av).length ≤ maxL)
    (body : ∀ κ : qC, q_l κ = l → (q_M κ).name = y.name → Cx κ cc own gL rm → va_K (q_D κ) vwCl (gty cy) (q_s κ) → ∀ sz, Fx κ D (gZ cy A σ sz) ret maxL (Qc sz) mc ms → GW κ 0 0 (gW cy A σ) 0 lv0 []) : ∀ sz, Met l y ws rm (gPc D cy A σ sz av) (Qc sz) mc ms (gZ cy A σ sz) := by
  intro sz
  refine va_MetF (cc := cc) (maxL := maxL) (ret := ret) hy hw ?_
  intro p e s m args below meth c s₁ B hml hv
  obtain ⟨rfl, hsz, hP, hK, hD0, hN⟩ := hv
  have hts := atoms_spec (ws := ws) B.pre
  subst hsz
  have hD := hD0.self (sz := s.heap.size)
  have hA : ∀ q : Nat, s.heap.size ≤ q → gZ cy A σ s.heap.size q := fun q h => Or.inr h
  have hl := lv_entry av (n := maxL) hlen
  rw [lg_entry_eq]
  generalize (lg_sl av ++ List.replicate (maxL - (lg_sl av).length) Slot.unset).toArray = ls at hl ⊢
  rw [hlv] at hl
  exact body (p, l, e, (headSpec ws rm).room, s, m, av.toArray, below, meth, c, gZ cy A σ s.heap.size, D, MQ below (Qc s.heap.size) av.toArray s mc ms (gZ cy A σ s.heap.size), maxL) rfl (name_of_methodNamed B.named B.method).1 ⟨B.exec, B.bytes, hml, by rw [← hcl]; exact findClass_of_methodNamed B.named, fun w h => hts w (by rw [hw]; exact List.mem_cons_of_mem _ h), hA, hN, B.notSynchronized, rfl⟩ hK s.heap.size ⟨rfl, rfl, B.returns, rfl, rfl⟩ s.heap [] hP hD va_S.rf ls hl
section GC
variable {κ : qC} {cc : ByteArray} {own : String} {Rm : Room} {k n mc ms : Nat} {cy : Nat → ClassId} {A : Nat → Nat} {σ : St} {pc : Nat} {lv : List (Nat × Value)} {st0 rest av : List Value}
def GRun (κ : qC) (k n mc ms : Nat) (cy : Nat → ClassId) (A : Nat → Nat) (σ : St) (pc : Nat) (lv : List (Nat × Value)) (st0 rest av : List Value) (Qc : Nat → Array Value → State → Outcome → State → Prop) : Prop :=
  ∀ (H : Heap) (locs : List Loc), va_P (q_D κ) vwCl (gW cy A σ) H → va_D (q_A κ) (gW cy A σ) → va_S (q_A κ) (q_s κ).heap H locs → ∀ ls : Array Slot, lv_has ls (q_n κ) lv → va_Run (q_p κ) (q_l κ) (q_e κ) (q_R κ) (q_s κ) (q_m κ) (q_a κ) (q_b κ) (q_M κ) (q_c κ) H locs k n mc ms (F0 (q_m κ) pc ls st0) rest (Qc H.size av.toArray) (gZ cy A σ H.size)
theorem gc_I (C : Cx κ cc own gL Rm) {Φ : Int32 → St → Prop} (hr : GRun κ k n mc ms cy A σ pc lv st0 rest av (fun sz => va_Qi Φ (HE (q_D κ) cy A (gZ cy A σ sz)) (gZ cy A σ sz))) (h : ∀ r σ', Φ r σ' → GW κ (k + mc) (n + ms) (gW cy A σ') (pc + 3) lv (.int r :: rest)) : GW κ k n (gW cy A σ) pc lv st0 := by
  intro H locs hP hD hS ls hl
  have hF := gF hD hS C.2.2.2.2.2.1
  refine va_calli (hr H locs hP hD hS ls hl) hS (fun q _ h => hF q h) hF (fun r u t H1 locs1 ht hvm hw hB hz hk1 hS1 => ?_)
  exact h r u hw H1 locs1 (ht ▸ hB.1) (hB.2.weaken (fun k q _ h => hF q.1 h)) hS1 ls hl
theorem gc_L (C : Cx κ cc own gL Rm) {Φ : Int64 → St → Prop} (hr : GRun κ k n mc ms cy A σ pc lv st0 rest av (fun sz => va_Ql Φ (HE (q_D κ) cy A (gZ cy A σ sz)) (gZ cy A σ sz))) (h : ∀ r σ', Φ r σ' → GW κ (k + mc) (n + ms) (gW cy A σ') (pc + 3) lv (.long r :: rest)) : GW κ k n (gW cy A σ) pc lv st0 := by
  intro H locs hP hD hS ls hl
  have hF := gF hD hS C.2.2.2.2.2.1
  refine va_calll (hr H locs hP hD hS ls hl) hS (fun q _ h => hF q h) hF (fun r u t H1 locs1 ht hvm hw hB hz hk1 hS1 => ?_)
  exact h r u hw H1 locs1 (ht ▸ hB.1) (hB.2.weaken (fun k q _ h => hF q.1 h)) hS1 ls hl
theorem gc_V (C : Cx κ cc own gL Rm) {Φ : St → Prop} (hr : GRun κ k n mc ms cy A σ pc lv st0 rest av (fun sz => va_Qv Φ (HE (q_D κ) cy A (gZ cy A σ sz)) (gZ cy A σ sz))) (h : ∀ σ', Φ σ' → GW κ (k + mc) (n + ms) (gW cy A σ') (pc + 3) lv rest) : GW κ k n (gW cy A σ) pc lv st0 := by
  intro H locs hP hD hS ls hl
  have hF := gF hD hS C.2.2.2.2.2.1
  refine va_callv (hr H locs hP hD hS ls hl) hS (fun q _ h => hF q h) hF (fun u t H1 locs1 ht hvm hw hB hz hk1 hS1 => ?_)
  exact h u hw H1 locs1 (ht ▸ hB.1) (hB.2.weaken (fun k q _ h => hF q.1 h)) hS1 ls hl
theorem gc_Q (C : Cx κ cc own gL Rm) {Φ : Option Nat → St → Prop} (hr : GRun κ k n mc ms cy A σ pc lv st0 rest av (fun sz => va_Qq Φ (HE (q_D κ) cy A (gZ cy A σ sz)) (gZ cy A σ sz))) (h : ∀ r σ', Φ r σ' → GW κ (k + mc) (n + ms) (gW cy A σ') (pc + 3) lv (va_rf r :: rest)) : GW κ k n (gW cy A σ) pc lv st0 := by
  intro H locs hP hD hS ls hl
  have hF := gF hD hS C.2.2.2.2.2.1
  refine va_callq (hr H locs hP hD hS ls hl) hS (fun q _ h => hF q h) hF (fun r u t H1 locs1 ht hvm hw hB hz hk1 hS1 => ?_)
  exact h r u hw H1 locs1 (ht ▸ hB.1) (hB.2.weaken (fun k q _ h => hF q.1 h)) hS1 ls hl
variable {y : MethodName} {bytes : ByteArray} {maxL idx : Nat} {ret : Option FieldType} {ws ws' : List Cond} {rm : Room} {Qc : Nat → Array Value → State → Outcome → State → Prop}
theorem gr_V (C : Cx κ cc own gL Rm) (hK : va_K (q_D κ) vwCl (gty cy) (q_s κ)) {Cn : String} (nA : Nat) (hg : GoodIn gL (wsV own idx Cn y ws)) (hw : ws = Cond.code y bytes maxL ret :: ws') (hrc : rm.cells = mc) (hrs : rm.slots = ms) (hd : y.cls = Cn ∧ y.cls ≠ "java/lang/invoke/MethodHandle" ∧ y.cls ≠ "java/lang/invoke/VarHandle" ∧ (parseMethodDescriptor y.desc).map (fun d => d.parameters.length) = some nA) (hroom : (rm.frames + 1 ≤ Rm.frames ∧ 8 + (maxL + 11) + rm.locals ≤ Rm.locals) ∧ k + mc ≤ Rm.cells ∧ n + ms ≤ Rm.slots) {As : List Value} {b : Nat} (hn : As.length = nA) (q0 : Nat) {ci : Nat} {fs : List Value} {T : u_T} {N : Nat} (he : (gW cy A σ)[q0]? = some (b, .inr (ci, fs))) (hc : vwCl[ci]? = some (Cn, T, N)) (hst : st0 = As.reverse ++ .ref b :: rest) (hcat : (rest.map fun v => v.category).sum ≤ 8) (hdg : decode cc pc = .ok (.invokevirtual idx, 3)) (hM : ∀ sz, Met (q_l κ) y ws rm (gPc (q_D κ) cy A σ sz (.ref b :: As)) (Qc sz) mc ms (gZ cy A σ sz)) : GRun κ k n mc ms cy A σ pc lv st0 rest (.ref b :: As) Qc := by
  intro H locs hP hD hS ls hl
  obtain ⟨c1, c2, c3, c4, c5, c6, c7, c8, c9⟩ := C
  rw [← c9] at hroom
  exact va_runV (Ts := gL) ⟨c1, c2, c3, c4, c5⟩ (hM H.size) (cwV nA c5 hg hw hrc hrs hd hroom.1) ⟨gPc_blind, va_recv hK hP hc he, gPc_at hP hK hD c7⟩ rfl hn hl.1 hst (lv_room hcat) hdg hroom.2
theorem gr_U (C : Cx κ cc own gL Rm) (hK : va_K (q_D κ) vwCl (gty cy) (q_s κ)) {Cn owner : String} {x : MethodName} (nA : Nat) (hg : GoodIn gL (va_wsU own idx Cn owner x y ws)) (hw : ws = Cond.code y bytes maxL ret :: ws') (hrc : rm.cells = mc) (hrs : rm.slots = ms) (hyx : y = ⟨owner, x.name, x.desc⟩) (hd : owner ≠ "java/lang/invoke/MethodHandle" ∧ owner ≠ "java/lang/invoke/VarHandle" ∧ (parseMethodDescriptor x.desc).map (fun d => d.parameters.length) = some nA) (hroom : (rm.frames + 1 ≤ Rm.frames ∧ 8 + (maxL + 11) + rm.locals ≤ Rm.locals) ∧ k + mc ≤ Rm.cells ∧ n + ms ≤ Rm.slots) {As : List Value} {b : Nat} (hn : As.length = nA) (q0 : Nat) {ci : Nat} {fs : List Value} {T : u_T} {N : Nat} (he : (gW cy A σ)[q0]? = some (b, .inr (ci, fs))) (hc : vwCl[ci]? = some (Cn, T, N)) (hst : st0 = As.reverse ++ .ref b :: rest) (hcat : (rest.map fun v => v.category).sum ≤ 8) (hdg : decode cc pc = .ok (.invokevirtual idx, 3)) (hM : ∀ sz, Met (q_l κ) y ws rm (gPc (q_D κ) cy A σ sz (.ref b :: As)) (Qc sz) mc ms (gZ cy A σ sz)) : GRun κ k n mc ms cy A σ pc lv st0 rest (.ref b :: As) Qc := by
  intro H locs hP hD hS ls hl
  obtain ⟨c1, c2, c3, c4, c5, c6, c7, c8, c9⟩ := C
  rw [← c9] at hroom
  exact va_runU (Ts := gL) ⟨c1, c2, c3, c4, c5⟩ (hM H.size) (va_cwU nA c5 hg hw hrc hrs hyx hd hroom.1) ⟨gPc_blind, va_recv hK hP hc he, gPc_at hP hK hD c7⟩ rfl hn hl.1 hst (lv_room hcat) hdg hroom.2
theorem gr_O (C : Cx κ cc own gL Rm) (hK : va_K (q_D κ) vwCl (gty cy) (q_s κ)) {Cn owner : String} {x : MethodName} (nA : Nat) (hg : GoodIn gL (va_wsO own idx Cn owner x y ws)) (hw : ws = Cond.code y bytes maxL ret :: ws') (hrc : rm.cells = mc) (hrs : rm.slots = ms) {b0 : ByteArray} {m0 : Nat} {r0 : Option FieldType} (h0 : Cond.code ⟨owner, x.name, x.desc⟩ b0 m0 r0 ∈ gL) (hd : owner ≠ "java/lang/invoke/MethodHandle" ∧ owner ≠ "java/lang/invoke/VarHandle" ∧ (parseMethodDescriptor x.desc).map (fun d => d.parameters.length) = some nA) (hroom : (rm.frames + 1 ≤ Rm.frames ∧ 8 + (maxL + 11) + rm.locals ≤ Rm.locals) ∧ k + mc ≤ Rm.cells ∧ n + ms ≤ Rm.slots) {As : List Value} {b : Nat} (hn : As.length = nA) (q0 : Nat) {ci : Nat} {fs : List Value} {T : u_T} {N : Nat} (he : (gW cy A σ)[q0]? = some (b, .inr (ci, fs))) (hc : vwCl[ci]? = some (Cn, T, N)) (hst : st0 = As.reverse ++ .ref b :: rest) (hcat : (rest.map fun v => v.category).sum ≤ 8) (hdg : decode cc pc = .ok (.invokevirtual idx, 3)) (hM : ∀ sz, Met (q_l κ) y ws rm (gPc (q_D κ) cy A σ sz (.ref b :: As)) (Qc sz) mc ms (gZ cy A σ sz)) : GRun κ k n mc ms cy A σ pc lv st0 rest (.ref b :: As) Qc := by
  intro H locs hP hD hS ls hl
  obtain ⟨c1, c2, c3, c4, c5, c6, c7, c8, c9⟩ := C
  rw [← c9] at hroom
  exact va_runU (Ts := gL) ⟨c1, c2, c3, c4, c5⟩ (hM H.size) (va_cwO nA c5 hg hw hrc hrs h0 hd hroom.1) ⟨gPc_blind, va_recv hK hP hc he, gPc_at hP hK hD c7⟩ rfl hn hl.1 hst (lv_room hcat) hdg hroom.2
theorem gr_S (C : Cx κ cc own gL Rm) (hK : va_K (q_D κ) vwCl (gty cy) (q_s κ)) (nA : Nat) (hg : GoodIn gL (va_wsS own idx y ws)) (hw : ws = Cond.code y bytes maxL ret :: ws') (hrc : rm.cells = mc) (hrs : rm.slots = ms) (hd : y.cls ≠ "java/lang/invoke/MethodHandle" ∧ y.cls ≠ "java/lang/invoke/VarHandle" ∧ (parseMethodDescriptor y.desc).map (fun d => d.parameters.length) = some nA) (hroom : (rm.frames + 1 ≤ Rm.frames ∧ 8 + (maxL + 11) + rm.locals ≤ Rm.locals) ∧ k + mc ≤ Rm.cells ∧ n + ms ≤ Rm.slots) {As : List Value} (hn : As.length = nA) (hst : st0 = As.reverse ++ rest) (hcat : (rest.map fun v => v.category).sum ≤ 8) (hdg : decode cc pc = .ok (.invokestatic idx, 3)) (hM : ∀ sz, Met (q_l κ) y ws rm (gPc (q_D κ) cy A σ sz As) (Qc sz) mc ms (gZ cy A σ sz)) : GRun κ k n mc ms cy A σ pc lv st0 rest As Qc := by
  intro H locs hP hD hS ls hl
  obtain ⟨c1, c2, c3, c4, c5, c6, c7, c8, c9⟩ := C
  rw [← c9] at hroom
  exact va_runS (Ts := gL) ⟨c1, c2, c3, c4, c5⟩ (hM H.size) (va_cwS nA c5 hg hw hrc hrs hd hroom.1) ⟨gPc_blind, gPc_at hP hK hD c7⟩ rfl hn hl.1 hst (lv_room hcat) hdg hroom.2
theorem gr_SN (C : Cx κ cc own gL Rm) (hK : va_K (q_D κ) vwCl (gty cy) (q_s κ)) {host : String} (nA : Nat) (hg : GoodIn gL ws) (hw : ws = Cond.code y bytes maxL ret :: ws') (hrc : rm.cells = mc) (hrs : rm.slots = ms) (hl0 : Cond.methodLinkNest own idx y host ∈ nwM) (hini : Cond.initialized y.cls ∈ gL) (hst1 : Cond.static y ∈ gL) (hd : y.cls ≠ "java/lang/invoke/MethodHandle" ∧ y.cls ≠ "java/lang/invoke/VarHandle" ∧ (parseMethodDescriptor y.desc).map (fun d => d.parameters.length) = some nA) (hroom : (rm.frames + 1 ≤ Rm.frames ∧ 8 + (maxL + 11) + rm.locals ≤ Rm.locals) ∧ k + mc ≤ Rm.cells ∧ n + ms ≤ Rm.slots) {As : List Value} (hn : As.length = nA) (hst : st0 = As.reverse ++ rest) (hcat : (rest.map fun v => v.category).sum ≤ 8) (hdg : decode cc pc = .ok (.invokestatic idx, 3)) (hM : ∀ sz, Met (q_l κ) y ws rm (gPc (q_D κ) cy A σ sz As) (Qc sz) mc ms (gZ cy A σ sz)) : GRun κ k n mc ms cy A σ pc lv st0 rest As Qc := by
  intro H locs hP hD hS ls hl
  obtain ⟨c1, c2, c3, c4, c5, c6, c7, c8, c9⟩ := C
  rw [← c9] at hroom
  exact va_runSN (Ts := gL) ⟨c1, c2, c3, c4, c5⟩ (hM H.size) ⟨va_cnB nA c5 hg hw hrc hrs (c7.1 _ hl0) (c5 _ hini) hd hroom.1, c5 _ hst1, trivial⟩ ⟨gPc_blind, gPc_at hP hK hD c7⟩ rfl hn hl.1 hst (lv_room hcat) hdg hroom.2
theorem gr_N (C : Cx κ cc own gL Rm) (hK : va_K (q_D κ) vwCl (gty cy) (q_s κ)) (nA : Nat) (hg : GoodIn gL ws) (hw : ws = Cond.code y bytes maxL none :: ws') (hrc : rm.cells = mc) (hrs : rm.slots = ms) (hini : Cond.initialized y.cls ∈ gL) (hlk : Cond.methodLink own idx y ∈ gL) (hin : Cond.instanceMethod y ∈ gL) (hy1 : y.name = "<init>") (hd : y.cls ≠ "java/lang/invoke/MethodHandle" ∧ y.cls ≠ "java/lang/invoke/VarHandle" ∧ (parseMethodDescriptor y.desc).map (fun d => d.parameters.length) = some nA) (hroom : (rm.frames + 1 ≤ Rm.frames ∧ 8 + (maxL + 11) + rm.locals ≤ Rm.locals) ∧ k + mc ≤ Rm.cells ∧ n + ms ≤ Rm.slots) {As : List Value} {b : Nat} (hn : As.length = nA) (hst : st0 = As.reverse ++ .ref b :: rest) (hcat : (rest.map fun v => v.category).sum ≤ 8) (hdg : decode cc pc = .ok (.invokespecial idx, 3)) (hM : ∀ sz, Met (q_l κ) y ws rm (gPc (q_D κ) cy A σ sz (.ref b :: As)) (Qc sz) mc ms (gZ cy A σ sz)) : GRun κ k n mc ms cy A σ pc lv st0 rest (.ref b :: As) Qc := by
  intro H locs hP hD hS ls hl
  obtain ⟨c1, c2, c3, c4, c5, c6, c7, c8, c9⟩ := C
  rw [← c9] at hroom
  exact va_runI (Ts := gL) ⟨c1, c2, c3, c4, c5⟩ (hM H.size) (cwI nA c5 hg hw hrc hrs (c5 _ hini) (c5 _ hlk) (c5 _ hin) hy1 hd hroom.1) ⟨gPc_blind, gPc_at hP hK hD c7⟩ rfl hn hl.1 hst (lv_room hcat) hdg hroom.2
/-! ends -/
variable {D : va_G} {Z : Nat → Prop}
theorem gq_I (C : Cx κ cc own gL Rm) {Φ : Int32 → St → Prop} (F : Fx κ D Z (some .int) maxL (va_Qi Φ (HE D cy A Z) Z) mc ms) (hk : k ≤ mc) (hn : n ≤ ms) {v : Int32} (hw : Φ v σ) (hdg : decode cc pc = .ok (.ireturn, 1)) : GW κ k n (gW cy A σ) pc lv [.int v] := by
  intro H locs hP hD hS ls hl
  obtain ⟨rfl, rfl, f3, f4, f5⟩ := F
  rw [f5]
  refine W.widen hk hn ?_
  exact W.iret (hlocks := C.2.2.2.2.2.2.2.1) C.1 C.2.1 f3 (fun t ht hW => ⟨⟨v, σ, rfl, hw, by rw [ht]; exact hP, hD⟩, hS.F ht⟩) hS.2.2 hdg
theorem gq_Z (C : Cx κ cc own gL Rm) {Φ : Int32 → St → Prop} (F : Fx κ D Z (some .boolean) maxL (va_Qi Φ (HE D cy A Z) Z) mc ms) (hk : k ≤ mc) (hn : n ≤ ms) {v : Int32} (hw : (v = 0 ∨ v = 1) ∧ Φ v σ) (hdg : decode cc pc = .ok (.ireturn, 1)) : GW κ k n (gW cy A σ) pc lv [.int v] := by
  intro H locs hP hD hS ls hl
  obtain ⟨rfl, rfl, f3, f4, f5⟩ := F
  rw [f5]
  refine W.widen hk hn ?_
  exact W.zret (hlocks := C.2.2.2.2.2.2.2.1) C.1 C.2.1 f3 (by rcases hw.1 with rfl | rfl <;> rfl) (fun t ht hW => ⟨⟨v, σ, rfl, hw.2, by rw [ht]; exact hP, hD⟩, hS.F ht⟩) hS.2.2 hdg
theorem gq_L (C : Cx κ cc own gL Rm) {Φ : Int64 → St → Prop} (F : Fx κ D Z (some .long) maxL (va_Ql Φ (HE D cy A Z) Z) mc ms) (hk : k ≤ mc) (hn : n ≤ ms) {v : Int64} (hw : Φ v σ) (hdg : decode cc pc = .ok (.lreturn, 1)) : GW κ k n (gW cy A σ) pc lv [.long v] := by
  intro H locs hP hD hS ls hl
  obtain ⟨rfl, rfl, f3, f4, f5⟩ := F
  rw [f5]
  refine W.widen hk hn ?_
  exact W.lret (hlocks := C.2.2.2.2.2.2.2.1) C.1 C.2.1 f3 (fun t ht hW => ⟨⟨v, σ, rfl, hw, by rw [ht]; exact hP, hD⟩, hS.F ht⟩) hS.2.2 hdg
theorem gq_V (C : Cx κ cc own gL Rm) {Φ : St → Prop} (F : Fx κ D Z none maxL (va_Qv Φ (HE D cy A Z) Z) mc ms) (hk : k ≤ mc) (hn : n ≤ ms) (hw : Φ σ) (hdg : decode cc pc = .ok (.return_, 1)) : GW κ k n (gW cy A σ) pc lv [] := by
  intro H locs hP hD hS ls hl
  obtain ⟨rfl, rfl, f3, f4, f5⟩ := F
  rw [f5]
  refine W.widen hk hn ?_
  exact W.vret (hlocks := C.2.2.2.2.2.2.2.1) C.1 C.2.1 f3 (fun t ht hW => ⟨⟨σ, rfl, hw, by rw [ht]; exact hP, hD⟩, hS.F ht⟩) hS.2.2 hdg
theorem gq_Q (C : Cx κ cc own gL Rm) {Φ : Option Nat → St → Prop} {nm : String} (F : Fx κ D Z (some (.object nm)) maxL (va_Qq Φ (HE D cy A Z) Z) mc ms) (hk : k ≤ mc) (hn : n ≤ ms) {r : Option Nat} (hw : Φ r σ) (hdg : decode cc pc = .ok (.areturn, 1)) : GW κ k n (gW cy A σ) pc lv [va_rf r] := by
  intro H locs hP hD hS ls hl
  obtain ⟨rfl, rfl, f3, f4, f5⟩ := F
  rw [f5]
  refine W.widen hk hn ?_
  exact W.aret (hlocks := C.2.2.2.2.2.2.2.1) C.1 C.2.1 f3 (Or.inl ⟨_, rfl⟩) (by cases r with | none => exact Or.inl rfl | some a => exact Or.inr ⟨a, rfl⟩) (fun t ht hW => ⟨⟨r, σ, rfl, hw, by rw [ht]; exact hP, hD⟩, hS.F ht⟩) hS.2.2 hdg
/-! things: their fields, their classes, a new one -/
variable {st : List Value} {a : Nat} {ref : String}
theorem g_getT0 (C : Cx κ cc own gL Rm) (hK : va_K (q_D κ) vwCl (gty cy) (q_s κ)) (hT : isT σ a) (hsame : ∀ x, (q_s κ).fieldFound? "TwoOnACable$Thing" "weight" "I" = some x → (q_s κ).fieldFound? ref "weight" "I" = some x) (hlk : Cond.fieldLink own idx ref "weight" "I" ∈ gL) (hdg : decode cc pc = .ok (.getfield idx, 3)) (h : GW κ k n (gW cy A σ) (pc + 3) lv (.int (σ.2.2.2.2.2 a 0) :: st)) : GW κ k n (gW cy A σ) pc lv (.ref a :: st) := by
  obtain ⟨ha, hk⟩ := hT
  rcases hk with hk | hk | hk | hk | hk <;> obtain ⟨q0, -, he⟩ := ga_T cy A σ ha hk
  · exact g_get C hK inX1 rfl q0 he 0 (by decide) hsame hlk rfl hdg h
  · exact g_get C hK inX3 rfl q0 he 0 (by decide) hsame hlk rfl hdg h
  · exact g_get C hK inX4 rfl q0 he 0 (by decide) hsame hlk rfl hdg h
  · exact g_get C hK inX5 rfl q0 he 0 (by decide) hsame hlk rfl hdg h
  · exact g_get C hK inX9 rfl q0 he 0 (by decide) hsame hlk rfl hdg h
theorem g_getT1 (C : Cx κ cc own gL Rm) (hK : va_K (q_D κ) vwCl (gty cy) (q_s κ)) (hT : isT σ a) (hsame : ∀ x, (q_s κ).fieldFound? "TwoOnACable$Thing" "came" "I" = some x → (q_s κ).fieldFound? ref "came" "I" = some x) (hlk : Cond.fieldLink own idx ref "came" "I" ∈ gL) (hdg : decode cc pc = .ok (.getfield idx, 3)) (h : GW κ k n (gW cy A σ) (pc + 3) lv (.int (σ.2.2.2.2.2 a 1) :: st)) : GW κ k n (gW cy A σ) pc lv (.ref a :: st) := by
  obtain ⟨ha, hk⟩ := hT
  rcases hk with hk | hk | hk | hk | hk <;> obtain ⟨q0, -, he⟩ := ga_T cy A σ ha hk
  · exact g_get C hK inX1 rfl q0 he 1 (by decide) hsame hlk rfl hdg h
  · exact g_get C hK inX3 rfl q0 he 1 (by decide) hsame hlk rfl hdg h
  · exact g_get C hK inX4 rfl q0 he 1 (by decide) hsame hlk rfl hdg h
  · exact g_get C hK inX5 rfl q0 he 1 (by decide) hsame hlk rfl hdg h
  · exact g_get C hK inX9 rfl q0 he 1 (by decide) hsame hlk rfl hdg h
theorem g_getT2 (C : Cx κ cc own gL Rm) (hK : va_K (q_D κ) vwCl (gty cy) (q_s κ)) (hT : isT σ a) (hsame : ∀ x, (q_s κ).fieldFound? "TwoOnACable$Thing" "place" "I" = some x → (q_s κ).fieldFound? ref "place" "I" = some x) (hlk : Cond.fieldLink own idx ref "place" "I" ∈ gL) (hdg : decode cc pc = .ok (.getfield idx, 3)) (h : GW κ k n (gW cy A σ) (pc + 3) lv (.int (σ.2.2.2.2.2 a 2) :: st)) : GW κ k n (gW cy A σ) pc lv (.ref a :: st) := by
  obtain ⟨ha, hk⟩ := hT
  rcases hk with hk | hk | hk | hk | hk <;> obtain ⟨q0, -, he⟩ := ga_T cy A σ ha hk
  · exact g_get C hK inX1 rfl q0 he 2 (by decide) hsame hlk rfl hdg h
  · exact g_get C hK inX3 rfl q0 he 2 (by decide) hsame hlk rfl hdg h
  · exact g_get C hK inX4 rfl q0 he 2 (by decide) hsame hlk rfl hdg h
  · exact g_get C hK inX5 rfl q0 he 2 (by decide) hsame hlk rfl hdg h
  · exact g_get C hK inX9 rfl q0 he 2 (by decide) hsame hlk rfl hdg h
/-- a put on a thing: the world behind it, whatever the class -/
theorem g_putT2 (C : Cx κ cc own gL Rm) (hK : va_K (q_D κ) vwCl (gty cy) (q_s κ)) (hT : isT σ a) (hsame : ∀ x, (q_s κ).fieldFound? "TwoOnACable$Thing" "place" "I" = some x → (q_s κ).fieldFound? ref "place" "I" = some x) (hlk : Cond.fieldLink own idx ref "place" "I" ∈ gL) (hdg : decode cc pc = .ok (.putfield idx, 3)) {v : Int32} (h : GW κ k n (gW cy A (sT σ a 2 v)) (pc + 3) lv st) : GW κ k n (gW cy A σ) pc lv (.int v :: .ref a :: st) := by
  intro H locs hP hD hS ls hl
  obtain ⟨ha, hk⟩ := hT
  rcases hk with hk | hk | hk | hk | hk <;> obtain ⟨q0, he0, he⟩ := ga_T cy A σ ha hk
  · exact g_put C hK inX1 rfl tyX1 tyX1_ok nmX1 q0 he 2 (by decide) hsame hlk rfl rfl rfl (Nat.le_of_ble_eq_true rfl) (by have e := gt_2 cy A σ _ v hD ha he0; rw [hk] at e; exact e) hdg h H locs hP hD hS ls hl
  · exact g_put C hK inX3 rfl tyX3 tyX3_ok nmX3 q0 he 2 (by decide) hsame hlk rfl rfl rfl (Nat.le_of_ble_eq_true rfl) (by have e := gt_2 cy A σ _ v hD ha he0; rw [hk] at e; exact e) hdg h H locs hP hD hS ls hl
  · exact g_put C hK inX4 rfl tyX4 tyX4_ok nmX4 q0 he 2 (by decide) hsame hlk rfl rfl rfl (Nat.le_of_ble_eq_true rfl) (by have e := gt_2 cy A σ _ v hD ha he0; rw [hk] at e; exact e) hdg h H locs hP hD hS ls hl
  · exact g_put C hK inX5 rfl tyX5 tyX5_ok nmX5 q0 he 2 (by decide) hsame hlk rfl rfl rfl (Nat.le_of_ble_eq_true rfl) (by have e := gt_2 cy A σ _ v hD ha he0; rw [hk] at e; exact e) hdg h H locs hP hD hS ls hl
  · exact g_put C hK inX9 rfl tyX9 tyX9_ok nmX9 q0 he 2 (by decide) hsame hlk rfl rfl rfl (Nat.le_of_ble_eq_true rfl) (by have e := gt_2 cy A σ _ v hD ha he0; rw [hk] at e; exact e) hdg h H locs hP hD hS ls hl
theorem g_putT0 (C : Cx κ cc "TwoOnACable$Thing" gL Rm) (hK : va_K (q_D κ) vwCl (gty cy) (q_s κ)) (hi : (q_M κ).name = "<init>") (hT : isT σ a) (hlk : Cond.fieldLink "TwoOnACable$Thing" idx "TwoOnACable$Thing" "weight" "I" ∈ gL) (hdg : decode cc pc = .ok (.putfield idx, 3)) {v : Int32} (h : GW κ k n (gW cy A (sT σ a 0 v)) (pc + 3) lv st) : GW κ k n (gW cy A σ) pc lv (.int v :: .ref a :: st) := by
  intro H locs hP hD hS ls hl
  obtain ⟨ha, hk⟩ := hT
  rcases hk with hk | hk | hk | hk | hk <;> obtain ⟨q0, he0, he⟩ := ga_T cy A σ ha hk
  · exact g_putF C hK inX1 rfl tyX1 tyX1_ok nmX1 hi q0 he 0 (by decide) rfl (fun _ h => h) hlk rfl rfl rfl (Nat.le_of_ble_eq_true rfl) (by have e := gt_0 cy A σ _ v hD ha he0; rw [hk] at e; exact e) hdg h H locs hP hD hS ls hl
  · exact g_putF C hK inX3 rfl tyX3 tyX3_ok nmX3 hi q0 he 0 (by decide) rfl (fun _ h => h) hlk rfl rfl rfl (Nat.le_of_ble_eq_true rfl) (by have e := gt_0 cy A σ _ v hD ha he0; rw [hk] at e; exact e) hdg h H locs hP hD hS ls hl
  · exact g_putF C hK inX4 rfl tyX4 tyX4_ok nmX4 hi q0 he 0 (by decide) rfl (fun _ h => h) hlk rfl rfl rfl (Nat.le_of_ble_eq_true rfl) (by have e := gt_0 cy A σ _ v hD ha he0; rw [hk] at e; exact e) hdg h H locs hP hD hS ls hl
  · exact g_putF C hK inX5 rfl tyX5 tyX5_ok nmX5 hi q0 he 0 (by decide) rfl (fun _ h => h) hlk rfl rfl rfl (Nat.le_of_ble_eq_true rfl) (by have e := gt_0 cy A σ _ v hD ha he0; rw [hk] at e; exact e) hdg h H locs hP hD hS ls hl
  · exact g_putF C hK inX9 rfl tyX9 tyX9_ok nmX9 hi q0 he 0 (by decide) rfl (fun _ h => h) hlk rfl rfl rfl (Nat.le_of_ble_eq_true rfl) (by have e := gt_0 cy A σ _ v hD ha he0; rw [hk] at e; exact e) hdg h H locs hP hD hS ls hl
theorem g_putT1 (C : Cx κ cc "TwoOnACable$Thing" gL Rm) (hK : va_K (q_D κ) vwCl (gty cy) (q_s κ)) (hi : (q_M κ).name = "<init>") (hT : isT σ a) (hlk : Cond.fieldLink "TwoOnACable$Thing" idx "TwoOnACable$Thing" "came" "I" ∈ gL) (hdg : decode cc pc = .ok (.putfield idx, 3)) {v : Int32} (h : GW κ k n (gW cy A (sT σ a 1 v)) (pc + 3) lv st) : GW κ k n (gW cy A σ) pc lv (.int v :: .ref a :: st) := by
  intro H locs hP hD hS ls hl
  obtain ⟨ha, hk⟩ := hT
  rcases hk with hk | hk | hk | hk | hk <;> obtain ⟨q0, he0, he⟩ := ga_T cy A σ ha hk
  · exact g_putF C hK inX1 rfl tyX1 tyX1_ok nmX1 hi q0 he 1 (by decide) rfl (fun _ h => h) hlk rfl rfl rfl (Nat.le_of_ble_eq_true rfl) (by have e := gt_1 cy A σ _ v hD ha he0; rw [hk] at e; exact e) hdg h H locs hP hD hS ls hl
  · exact g_putF C hK inX3 rfl tyX3 tyX3_ok nmX3 hi q0 he 1 (by decide) rfl (fun _ h => h) hlk rfl rfl rfl (Nat.le_of_ble_eq_true rfl) (by have e := gt_1 cy A σ _ v hD ha he0; rw [hk] at e; exact e) hdg h H locs hP hD hS ls hl
  · exact g_putF C hK inX4 rfl tyX4 tyX4_ok nmX4 hi q0 he 1 (by decide) rfl (fun _ h => h) hlk rfl rfl rfl (Nat.le_of_ble_eq_true rfl) (by have e := gt_1 cy A σ _ v hD ha he0; rw [hk] at e; exact e) hdg h H locs hP hD hS ls hl
  · exact g_putF C hK inX5 rfl tyX5 tyX5_ok nmX5 hi q0 he 1 (by decide) rfl (fun _ h => h) hlk rfl rfl rfl (Nat.le_of_ble_eq_true rfl) (by have e := gt_1 cy A σ _ v hD ha he0; rw [hk] at e; exact e) hdg h H locs hP hD hS ls hl
  · exact g_putF C hK inX9 rfl tyX9 tyX9_ok nmX9 hi q0 he 1 (by decide) rfl (fun _ h => h) hlk rfl rfl rfl (Nat.le_of_ble_eq_true rfl) (by have e := gt_1 cy A σ _ v hD ha he0; rw [hk] at e; exact e) hdg h H locs hP hD hS ls hl
theorem g_newT (C : Cx κ cc own gL Rm) (hK : va_K (q_D κ) vwCl (gty cy) (q_s κ)) {Cn : String} {T : u_T} (kd : Nat) (hin : ∀ w ∈ u_ws Cn T 3, w ∈ gL) (ty : Nat → FieldType) (hty : ∀ k, k < 3 → parseFieldDescriptor (T k).2.2.1 = some (ty k)) (hc : vwCl[kd]? = some (Cn, T, 3)) (h0 : ty 0 = .int ∧ ty 1 = .int ∧ ty 2 = .int) (hcl : Cond.classLink own idx Cn ∈ gL) (hinst : Cond.instantiable Cn 3 ∈ gL) (hini : Cond.initialized Cn ∈ gL) (hcs : k + 1 ≤ Rm.cells ∧ n + 3 ≤ Rm.slots) (hdg : decode cc pc = .ok (.new idx, 3)) (h : ∀ a, a ∉ σ.2.2.2.1 → GW κ (k + 1) (n + 3) (gW cy A (sN σ a kd)) (pc + 3) lv (.ref a :: st)) : GW κ k n (gW cy A σ) pc lv st := by
  intro H locs hP hD hS ls hl
  obtain ⟨c1, c2, c3, c4, c5, c6, c7, c8, c9⟩ := C
  rw [← c9] at hcs
  refine va_new (ci := kd) (fs := [.int 0, .int 0, .int 0]) (N := 3) c1 c2 c5 hin ty hty c4 (c5 _ hcl) (c5 _ hinst) (c5 _ hini) hK hP hD hS c6 hc (fun j hj => by
    rcases (show j = 0 ∨ j = 1 ∨ j = 2 by omega) with rfl | rfl | rfl
    · rw [h0.1]; rfl
    · rw [h0.2.1]; rfl
    · rw [h0.2.2]; rfl) hcs.1 hcs.2 hdg (fun q H1 hP1 hD1 hS1 => ?_)
  have hq : q ∉ σ.2.2.2.1 := by
    intro hm
    obtain ⟨i, hi⟩ := va_pl_get (X := gX cy A σ) (f := tcell σ) hm
    have hil : i < (gW cy A σ).length := (List.getElem?_eq_some_iff.mp hi).1
    have e1 : (gW cy A σ ++ [(q, (.inr (kd, [.int 0, .int 0, .int 0]) : va_E))])[i]? = some (q, tcell σ q) := by rw [List.getElem?_append_left hil]; exact hi
    have e2 : (gW cy A σ ++ [(q, (.inr (kd, [.int 0, .int 0, .int 0]) : va_E))])[(gW cy A σ).length]? = some (q, .inr (kd, [.int 0, .int 0, .int 0])) := by rw [List.getElem?_append_right (Nat.le_refl _), Nat.sub_self]; rfl
    have := hD1.1 _ _ _ _ e1 e2 rfl
    omega
  rw [gn_T cy A σ kd hq] at hP1 hD1
  exact h q hq H1 locs hP1 hD1 hS1 ls hl
/-- a thing is put into the row of things -/
theorem g_aastT (C : Cx κ cc own gL Rm) (hK : va_K (q_D κ) vwCl (gty cy) (q_s κ)) (hT : isT σ a) {i : Int32} (hin : vp_in i 6) (hdg : decode cc pc = .ok (.aastore, 1)) (h : GW κ k n (gW cy A (sH σ i.toNatClampNeg (some a))) (pc + 1) lv st) : GW κ k n (gW cy A σ) pc lv (.ref a :: .int i :: .ref (A 5) :: st) := by
  intro H locs hP hD hS ls hl
  obtain ⟨c1, c2, c3, c4, c5, c6, c7, c8, c9⟩ := C
  obtain ⟨ha, hk⟩ := hT
  rcases hk with hk | hk | hk | hk | hk <;> obtain ⟨q0, -, he⟩ := ga_T cy A σ ha hk
  · exact va_astqO (r := (RX1, TX1, 3)) c1 c2 hK hP hD hS 5 3 q0 1 (ga_5 cy A σ) rfl (c7.2.1 (RX1, RX9) (by decide)) he rfl hin hdg (fun H1 locs1 hP1 hD1 hS1 => h H1 locs1 hP1 hD1 hS1 ls hl)
  · exact va_astqO (r := (RX3, TX3, 3)) c1 c2 hK hP hD hS 5 3 q0 3 (ga_5 cy A σ) rfl (c7.2.1 (RX3, RX9) (by decide)) he rfl hin hdg (fun H1 locs1 hP1 hD1 hS1 => h H1 locs1 hP1 hD1 hS1 ls hl)
  · exact va_astqO (r := (RX4, TX4, 3)) c1 c2 hK hP hD hS 5 3 q0 4 (ga_5 cy A σ) rfl (c7.2.1 (RX4, RX9) (by decide)) he rfl hin hdg (fun H1 locs1 hP1 hD1 hS1 => h H1 locs1 hP1 hD1 hS1 ls hl)
  · exact va_astqO (r := (RX5, TX5, 3)) c1 c2 hK hP hD hS 5 3 q0 5 (ga_5 cy A σ) rfl (c7.2.1 (RX5, RX9) (by decide)) he rfl hin hdg (fun H1 locs1 hP1 hD1 hS1 => h H1 locs1 hP1 hD1 hS1 ls hl)
  · exact va_astq (r := (RX9, TX9, 3)) c1 c2 hK hP hD hS 5 3 q0 9 (ga_5 cy A σ) rfl he rfl hin hdg (fun H1 locs1 hP1 hD1 hS1 => h H1 locs1 hP1 hD1 hS1 ls hl)
end GC
end
section
/-! further rows: Object's constructor, instanceof's answers, the two rows of the law -/
def isQ (q : Nat) : Prop := q = 18 ∨ q = 19
theorem hQ18 : isQ 18 := Or.inl rfl
theorem hQ19 : isQ 19 := Or.inr rfl
theorem hC3 : isC 3 := Or.inl rfl
theorem hC16 : isC 16 := Or.inr (Or.inl rfl)
theorem hC17 : isC 17 := Or.inr (Or.inr rfl)
theorem ga_q (cy : Nat → ClassId) (A : Nat → Nat) (σ : St) {q : Nat} (h : isQ q) : (gW cy A σ)[q]? = some (A q, .inl (cy 2, 32, .inl (σ.1 q))) := by
  rcases h with rfl | rfl <;> rfl
theorem gs_q (cy : Nat → ClassId) (A : Nat → Nat) (σ : St) (b : Nat) (v : Int32) {q : Nat} (h : isQ q) : (gW cy A σ).set q (A q, .inl (cy 2, 32, .inl (upd (σ.1 q) b v))) = gW cy A (sV σ q b v) := by
  rcases h with rfl | rfl <;> rfl
section GM
variable {κ : qC} {cc : ByteArray} {own : String} {Rm : Room} {k n : Nat} {ws : va_W} {pc : Nat} {lv : List (Nat × Value)} {st : List Value}
theorem g_objInit (C : Cx κ cc own gL Rm) {idx a : Nat} (hroom : 1 ≤ Rm.frames ∧ (st.map fun v => v.category).sum + 12 ≤ Rm.locals) (h1 : Cond.methodLink own idx objectInit ∈ gL) (h2 : Cond.instanceMethod objectInit ∈ gL) (h3 : Cond.code objectInit object_method_1_code 1 (none : Option FieldType) ∈ gL) (hdg : decode cc pc = .ok (.invokespecial idx, 3)) (h : GW κ k n ws (pc + 3) lv st) : GW κ k n ws pc lv (.ref a :: st) := by
  intro H locs hP hD hS ls hl
  obtain ⟨c1, c2, c3, c4, c5, c6, c7, c8, c9⟩ := C
  rw [← c9] at hroom
  refine W.objInit c1 c2 c4 (c5 _ h1) (c5 _ h2) (c5 _ h3) rfl (hl.1.trans c3.symm) rfl hdg hroom.1 (by show 2 * 0 + _ + 12 ≤ _; omega) ?_
  exact h H locs hP hD hS ls hl
end GM
def instR (nm : String) (ct : Nat) (v : Int32) (kd : Nat) (Cn : String) : Prop := (v = 1 ∧ (Cn = nm ∧ kd = ct ∨ (Cn, nm) ∈ nwC)) ∨ (v = 0 ∧ (Cn, nm) ∈ nwN)
section GI
variable {κ : qC} {cc : ByteArray} {own : String} {Rm : Room} {k n : Nat} {cy : Nat → ClassId} {A : Nat → Nat} {σ : St} {pc a idx : Nat} {lv : List (Nat × Value)} {st : List Value}
theorem g_instT (C : Cx κ cc own gL Rm) (hK : va_K (q_D κ) vwCl (gty cy) (q_s κ)) {ct : Nat} {nm : String} {T : u_T} (hct : vwCl[ct]? = some (nm, T, 3)) (hlk : Cond.classLink own idx nm ∈ gL) (hT : isT σ a) (v : Int32)
    (hv : (σ.2.2.2.2.1 a = 1 → instR nm ct v 1 RX1) ∧ (σ.2.2.2.2.1 a = 3 → instR nm ct v 3 RX3) ∧ (σ.2.2.2.2.1 a = 4 → instR nm ct v 4 RX4) ∧ (σ.2.2.2.2.1 a = 5 → instR nm ct v 5 RX5) ∧ (σ.2.2.2.2.1 a = 9 → instR nm ct v 9 RX9)) (hdg : decode cc pc = .ok (.instanceof idx, 3)) (h : GW κ k n (gW cy A σ) (pc + 3) lv (.int v :: st)) : GW κ k n (gW cy A σ) pc lv (.ref a :: st) := by
  intro H locs hP hD hS ls hl
  obtain ⟨c1, c2, c3, c4, c5, c6, c7, c8, c9⟩ := C
  obtain ⟨ha, hk⟩ := hT
  have key : ∀ kd Cn Tn, σ.2.2.2.2.1 a = kd → vwCl[kd]? = some (Cn, Tn, 3) → instR nm ct v kd Cn → W (q_p κ) (q_l κ) (q_e κ) (q_R κ) (q_s κ) (q_m κ) (q_a κ) (q_b κ) (q_M κ) (q_c κ) H locs k n (q_Q κ) (F0 (q_m κ) pc ls (.ref a :: st)) := by
    intro kd Cn Tn hkd hcl hR
    obtain ⟨q0, -, he⟩ := ga_T cy A σ ha hkd
    have hr := va_recv hK hP hcl he
    rcases hR with ⟨rfl, h1⟩ | ⟨rfl, h1⟩
    · rcases h1 with ⟨rfl, rfl⟩ | h1
      · exact va_instS c1 c2 c4 (c5 _ hlk) (hK.1 _ _ hct).2 hr hdg (h H locs hP hD hS ls hl)
      · exact va_instY c1 c2 c4 (c5 _ hlk) (c7.2.1 _ h1) hr hdg (h H locs hP hD hS ls hl)
    · exact va_instNo c1 c2 c4 (c5 _ hlk) (c7.2.2.1 _ h1) hr hdg (h H locs hP hD hS ls hl)
  rcases hk with hk | hk | hk | hk | hk
  · exact key 1 RX1 TX1 hk rfl (hv.1 hk)
  · exact key 3 RX3 TX3 hk rfl (hv.2.1 hk)
  · exact key 4 RX4 TX4 hk rfl (hv.2.2.1 hk)
  · exact key 5 RX5 TX5 hk rfl (hv.2.2.2.1 hk)
  · exact key 9 RX9 TX9 hk rfl (hv.2.2.2.2 hk)
end GI
theorem inst_1 (σ : St) (a : Nat) : (σ.2.2.2.2.1 a = 1 → instR RX1 1 (if σ.2.2.2.2.1 a = 1 then (1 : Int32) else 0) 1 RX1) ∧ (σ.2.2.2.2.1 a = 3 → instR RX1 1 (if σ.2.2.2.2.1 a = 1 then (1 : Int32) else 0) 3 RX3) ∧ (σ.2.2.2.2.1 a = 4 → instR RX1 1 (if σ.2.2.2.2.1 a = 1 then (1 : Int32) else 0) 4 RX4) ∧ (σ.2.2.2.2.1 a = 5 → instR RX1 1 (if σ.2.2.2.2.1 a = 1 then (1 : Int32) else 0) 5 RX5) ∧ (σ.2.2.2.2.1 a = 9 → instR RX1 1 (if σ.2.2.2.2.1 a = 1 then (1 : Int32) else 0) 9 RX9) := ⟨fun e => Or.inl ⟨by rw [e]; rfl, Or.inl ⟨rfl, rfl⟩⟩, fun e => Or.inr ⟨by rw [e]; rfl, by decide⟩, fun e => Or.inr ⟨by rw [e]; rfl, by decide⟩, fun e => Or.inr ⟨by rw [e]; rfl, by decide⟩, fun e => Or.inr ⟨by rw [e]; rfl, by decide⟩⟩
theorem inst_3 (σ : St) (a : Nat) : (σ.2.2.2.2.1 a = 1 → instR RX3 3 (if σ.2.2.2.2.1 a = 3 then (1 : Int32) else 0) 1 RX1) ∧ (σ.2.2.2.2.1 a = 3 → instR RX3 3 (if σ.2.2.2.2.1 a = 3 then (1 : Int32) else 0) 3 RX3) ∧ (σ.2.2.2.2.1 a = 4 → instR RX3 3 (if σ.2.2.2.2.1 a = 3 then (1 : Int32) else 0) 4 RX4) ∧ (σ.2.2.2.2.1 a = 5 → instR RX3 3 (if σ.2.2.2.2.1 a = 3 then (1 : Int32) else 0) 5 RX5) ∧ (σ.2.2.2.2.1 a = 9 → instR RX3 3 (if σ.2.2.2.2.1 a = 3 then (1 : Int32) else 0) 9 RX9) := ⟨fun e => Or.inr ⟨by rw [e]; rfl, by decide⟩, fun e => Or.inl ⟨by rw [e]; rfl, Or.inl ⟨rfl, rfl⟩⟩, fun e => Or.inr ⟨by rw [e]; rfl, by decide⟩, fun e => Or.inr ⟨by rw [e]; rfl, by decide⟩, fun e => Or.inr ⟨by rw [e]; rfl, by decide⟩⟩
theorem inst_5 (σ : St) (a : Nat) : (σ.2.2.2.2.1 a = 1 → instR RX5 5 (if σ.2.2.2.2.1 a = 5 ∨ σ.2.2.2.2.1 a = 4 then (1 : Int32) else 0) 1 RX1) ∧ (σ.2.2.2.2.1 a = 3 → instR RX5 5 (if σ.2.2.2.2.1 a = 5 ∨ σ.2.2.2.2.1 a = 4 then (1 : Int32) else 0) 3 RX3) ∧ (σ.2.2.2.2.1 a = 4 → instR RX5 5 (if σ.2.2.2.2.1 a = 5 ∨ σ.2.2.2.2.1 a = 4 then (1 : Int32) else 0) 4 RX4) ∧ (σ.2.2.2.2.1 a = 5 → instR RX5 5 (if σ.2.2.2.2.1 a = 5 ∨ σ.2.2.2.2.1 a = 4 then (1 : Int32) else 0) 5 RX5) ∧ (σ.2.2.2.2.1 a = 9 → instR RX5 5 (if σ.2.2.2.2.1 a = 5 ∨ σ.2.2.2.2.1 a = 4 then (1 : Int32) else 0) 9 RX9) := ⟨fun e => Or.inr ⟨by rw [e]; rfl, by decide⟩, fun e => Or.inr ⟨by rw [e]; rfl, by decide⟩, fun e => Or.inl ⟨by rw [e]; rfl, Or.inr (by decide)⟩, fun e => Or.inl ⟨by rw [e]; rfl, Or.inl ⟨rfl, rfl⟩⟩, fun e => Or.inr ⟨by rw [e]; rfl, by decide⟩⟩
theorem inst_4 (σ : St) (a : Nat) : (σ.2.2.2.2.1 a = 1 → instR RX4 4 (if σ.2.2.2.2.1 a = 4 then (1 : Int32) else 0) 1 RX1) ∧ (σ.2.2.2.2.1 a = 3 → instR RX4 4 (if σ.2.2.2.2.1 a = 4 then (1 : Int32) else 0) 3 RX3) ∧ (σ.2.2.2.2.1 a = 4 → instR RX4 4 (if σ.2.2.2.2.1 a = 4 then (1 : Int32) else 0) 4 RX4) ∧ (σ.2.2.2.2.1 a = 5 → instR RX4 4 (if σ.2.2.2.2.1 a = 4 then (1 : Int32) else 0) 5 RX5) ∧ (σ.2.2.2.2.1 a = 9 → instR RX4 4 (if σ.2.2.2.2.1 a = 4 then (1 : Int32) else 0) 9 RX9) := ⟨fun e => Or.inr ⟨by rw [e]; rfl, by decide⟩, fun e => Or.inr ⟨by rw [e]; rfl, by decide⟩, fun e => Or.inl ⟨by rw [e]; rfl, Or.inl ⟨rfl, rfl⟩⟩, fun e => Or.inr ⟨by rw [e]; rfl, by decide⟩, fun e => Or.inr ⟨by rw [e]; rfl, by decide⟩⟩
end
section
/-! THE SCRIPT'S CELLS: read by a method of its own, which changes nothing -/
def cellV (xs : Nat → Int32) (L : Nat) (k : Int32) : Int32 := (if nI L ≤ k then 7919 * k + 13 else xs k.toNatClampNeg) &&& 2147483647
/-! the weakest preconditions of the methods, by program out of the bytecode (gen.py) -/
def wX7_at (σ : St) (v1 : Int32) (Φ : Int32 → St → Prop) : Prop := (if v1 < 0 then Φ (0 : Int32) σ else (if (σ.1 1 1) ≤ v1 then Φ (0 : Int32) σ else (if (12 : Int32) ≤ v1 then Φ (0 : Int32) σ else vp_in v1 12 ∧ Φ (σ.1 2 v1.toNatClampNeg) σ)))
def wX7_digitAt (σ : St) (v1 : Int32) (Φ : Int32 → St → Prop) : Prop := wX7_at σ v1 (fun r2 σ1 => Φ (r2 - (48 : Int32)) σ1)
def wX0_hang_81 (k : Nat) (Φ : St → Prop) (σ : St) (s0 : Int32) : Prop := (s0 = 0 ∨ s0 = 1) ∧ ((0 : Int32) = 0 ∨ (0 : Int32) = 1) ∧ Φ (sV (sV (sV (sV σ k 5 s0) k 3 (0 : Int32)) k 4 (0 : Int32)) k 6 (0 : Int32))
def wX0_hang (σ : St) (k : Nat) (Φ : St → Prop) : Prop := wX7_digitAt σ (0 : Int32) (fun r2 σ1 => wX7_digitAt σ1 (1 : Int32) (fun r4 σ3 => wX7_digitAt (sV σ3 k 0 (((10 : Int32) * r2) + r4)) (3 : Int32) (fun r6 σ5 => wX7_digitAt (sV σ5 k 1 ((((sV σ3 k 0 (((10 : Int32) * r2) + r4)).1 k 0) * ((sV σ3 k 0 (((10 : Int32) * r2) + r4)).1 k 0)) * r6)) (5 : Int32) (fun r8 σ7 => wX7_digitAt σ7 (6 : Int32) (fun r10 σ9 => wX7_digitAt σ9 (7 : Int32) (fun r12 σ11 => (if ((sV σ11 k 2 ((((100 : Int32) * r8) + ((10 : Int32) * r10)) + r12)).1 1 1) ≤ (8 : Int32) then wX0_hang_81 k Φ (sV σ11 k 2 ((((100 : Int32) * r8) + ((10 : Int32) * r10)) + r12)) (0 : Int32) else wX0_hang_81 k Φ (sV σ11 k 2 ((((100 : Int32) * r8) + ((10 : Int32) * r10)) + r12)) (1 : Int32))))))))
def wX0_becomeLike (σ : St) (k : Nat) (k2 : Nat) (Φ : St → Prop) : Prop := (((sV (sV (sV (sV (sV σ k 0 (σ.1 k2 0)) k 1 ((sV σ k 0 (σ.1 k2 0)).1 k2 1)) k 2 ((sV (sV σ k 0 (σ.1 k2 0)) k 1 ((sV σ k 0 (σ.1 k2 0)).1 k2 1)).1 k2 2)) k 3 ((sV (sV (sV σ k 0 (σ.1 k2 0)) k 1 ((sV σ k 0 (σ.1 k2 0)).1 k2 1)) k 2 ((sV (sV σ k 0 (σ.1 k2 0)) k 1 ((sV σ k 0 (σ.1 k2 0)).1 k2 1)).1 k2 2)).1 k2 3)) k 4 ((sV (sV (sV (sV σ k 0 (σ.1 k2 0)) k 1 ((sV σ k 0 (σ.1 k2 0)).1 k2 1)) k 2 ((sV (sV σ k 0 (σ.1 k2 0)) k 1 ((sV σ k 0 (σ.1 k2 0)).1 k2 1)).1 k2 2)) k 3 ((sV (sV (sV σ k 0 (σ.1 k2 0)) k 1 ((sV σ k 0 (σ.1 k2 0)).1 k2 1)) k 2 ((sV (sV σ k 0 (σ.1 k2 0)) k 1 ((sV σ k 0 (σ.1 k2 0)).1 k2 1)).1 k2 2)).1 k2 3)).1 k2 4)).1 k2 5) = 0 ∨ ((sV (sV (sV (sV (sV σ k 0 (σ.1 k2 0)) k 1 ((sV σ k 0 (σ.1 k2 0)).1 k2 1)) k 2 ((sV (sV σ k 0 (σ.1 k2 0)) k 1 ((sV σ k 0 (σ.1 k2 0)).1 k2 1)).1 k2 2)) k 3 ((sV (sV (sV σ k 0 (σ.1 k2 0)) k 1 ((sV σ k 0 (σ.1 k2 0)).1 k2 1)) k 2 ((sV (sV σ k 0 (σ.1 k2 0)) k 1 ((sV σ k 0 (σ.1 k2 0)).1 k2 1)).1 k2 2)).1 k2 3)) k 4 ((sV (sV (sV (sV σ k 0 (σ.1 k2 0)) k 1 ((sV σ k 0 (σ.1 k2 0)).1 k2 1)) k 2 ((sV (sV σ k 0 (σ.1 k2 0)) k 1 ((sV σ k 0 (σ.1 k2 0)).1 k2 1)).1 k2 2)) k 3 ((sV (sV (sV σ k 0 (σ.1 k2 0)) k 1 ((sV σ k 0 (σ.1 k2 0)).1 k2 1)) k 2 ((sV (sV σ k 0 (σ.1 k2 0)) k 1 ((sV σ k 0 (σ.1 k2 0)).1 k2 1)).1 k2 2)).1 k2 3)).1 k2 4)).1 k2 5) = 1) ∧ (((sV (sV (sV (sV (sV (sV σ k 0 (σ.1 k2 0)) k 1 ((sV σ k 0 (σ.1 k2 0)).1 k2 1)) k 2 ((sV (sV σ k 0 (σ.1 k2 0)) k 1 ((sV σ k 0 (σ.1 k2 0)).1 k2 1)).1 k2 2)) k 3 ((sV (sV (sV σ k 0 (σ.1 k2 0)) k 1 ((sV σ k 0 (σ.1 k2 0)).1 k2 1)) k 2 ((sV (sV σ k 0 (σ.1 k2 0)) k 1 ((sV σ k 0 (σ.1 k2 0)).1 k2 1)).1 k2 2)).1 k2 3)) k 4 ((sV (sV (sV (sV σ k 0 (σ.1 k2 0)) k 1 ((sV σ k 0 (σ.1 k2 0)).1 k2 1)) k 2 ((sV (sV σ k 0 (σ.1 k2 0)) k 1 ((sV σ k 0 (σ.1 k2 0)).1 k2 1)).1 k2 2)) k 3 ((sV (sV (sV σ k 0 (σ.1 k2 0)) k 1 ((sV σ k 0 (σ.1 k2 0)).1 k2 1)) k 2 ((sV (sV σ k 0 (σ.1 k2 0)) k 1 ((sV σ k 0 (σ.1 k2 0)).1 k2 1)).1 k2 2)).1 k2 3)).1 k2 4)) k 5 ((sV (sV (sV (sV (sV σ k 0 (σ.1 k2 0)) k 1 ((sV σ k 0 (σ.1 k2 0)).1 k2 1)) k 2 ((sV (sV σ k 0 (σ.1 k2 0)) k 1 ((sV σ k 0 (σ.1 k2 0)).1 k2 1)).1 k2 2)) k 3 ((sV (sV (sV σ k 0 (σ.1 k2 0)) k 1 ((sV σ k 0 (σ.1 k2 0)).1 k2 1)) k 2 ((sV (sV σ k 0 (σ.1 k2 0)) k 1 ((sV σ k 0 (σ.1 k2 0)).1 k2 1)).1 k2 2)).1 k2 3)) k 4 ((sV (sV (sV (sV σ k 0 (σ.1 k2 0)) k 1 ((sV σ k 0 (σ.1 k2 0)).1 k2 1)) k 2 ((sV (sV σ k 0 (σ.1 k2 0)) k 1 ((sV σ k 0 (σ.1 k2 0)).1 k2 1)).1 k2 2)) k 3 ((sV (sV (sV σ k 0 (σ.1 k2 0)) k 1 ((sV σ k 0 (σ.1 k2 0)).1 k2 1)) k 2 ((sV (sV σ k 0 (σ.1 k2 0)) k 1 ((sV σ k 0 (σ.1 k2 0)).1 k2 1)).1 k2 2)).1 k2 3)).1 k2 4)).1 k2 5)).1 k2 6) = 0 ∨ ((sV (sV (sV (sV (sV (sV σ k 0 (σ.1 k2 0)) k 1 ((sV σ k 0 (σ.1 k2 0)).1 k2 1)) k 2 ((sV (sV σ k 0 (σ.1 k2 0)) k 1 ((sV σ k 0 (σ.1 k2 0)).1 k2 1)).1 k2 2)) k 3 ((sV (sV (sV σ k 0 (σ.1 k2 0)) k 1 ((sV σ k 0 (σ.1 k2 0)).1 k2 1)) k 2 ((sV (sV σ k 0 (σ.1 k2 0)) k 1 ((sV σ k 0 (σ.1 k2 0)).1 k2 1)).1 k2 2)).1 k2 3)) k 4 ((sV (sV (sV (sV σ k 0 (σ.1 k2 0)) k 1 ((sV σ k 0 (σ.1 k2 0)).1 k2 1)) k 2 ((sV (sV σ k 0 (σ.1 k2 0)) k 1 ((sV σ k 0 (σ.1 k2 0)).1 k2 1)).1 k2 2)) k 3 ((sV (sV (sV σ k 0 (σ.1 k2 0)) k 1 ((sV σ k 0 (σ.1 k2 0)).1 k2 1)) k 2 ((sV (sV σ k 0 (σ.1 k2 0)) k 1 ((sV σ k 0 (σ.1 k2 0)).1 k2 1)).1 k2 2)).1 k2 3)).1 k2 4)) k 5 ((sV (sV (sV (sV (sV σ k 0 (σ.1 k2 0)) k 1 ((sV σ k 0 (σ.1 k2 0)).1 k2 1)) k 2 ((sV (sV σ k 0 (σ.1 k2 0)) k 1 ((sV σ k 0 (σ.1 k2 0)).1 k2 1)).1 k2 2)) k 3 ((sV (sV (sV σ k 0 (σ.1 k2 0)) k 1 ((sV σ k 0 (σ.1 k2 0)).1 k2 1)) k 2 ((sV (sV σ k 0 (σ.1 k2 0)) k 1 ((sV σ k 0 (σ.1 k2 0)).1 k2 1)).1 k2 2)).1 k2 3)) k 4 ((sV (sV (sV (sV σ k 0 (σ.1 k2 0)) k 1 ((sV σ k 0 (σ.1 k2 0)).1 k2 1)) k 2 ((sV (sV σ k 0 (σ.1 k2 0)) k 1 ((sV σ k 0 (σ.1 k2 0)).1 k2 1)).1 k2 2)) k 3 ((sV (sV (sV σ k 0 (σ.1 k2 0)) k 1 ((sV σ k 0 (σ.1 k2 0)).1 k2 1)) k 2 ((sV (sV σ k 0 (σ.1 k2 0)) k 1 ((sV σ k 0 (σ.1 k2 0)).1 k2 1)).1 k2 2)).1 k2 3)).1 k2 4)).1 k2 5)).1 k2 6) = 1) ∧ Φ (sV (sV (sV (sV (sV (sV (sV σ k 0 (σ.1 k2 0)) k 1 ((sV σ k 0 (σ.1 k2 0)).1 k2 1)) k 2 ((sV (sV σ k 0 (σ.1 k2 0)) k 1 ((sV σ k 0 (σ.1 k2 0)).1 k2 1)).1 k2 2)) k 3 ((sV (sV (sV σ k 0 (σ.1 k2 0)) k 1 ((sV σ k 0 (σ.1 k2 0)).1 k2 1)) k 2 ((sV (sV σ k 0 (σ.1 k2 0)) k 1 ((sV σ k 0 (σ.1 k2 0)).1 k2 1)).1 k2 2)).1 k2 3)) k 4 ((sV (sV (sV (sV σ k 0 (σ.1 k2 0)) k 1 ((sV σ k 0 (σ.1 k2 0)).1 k2 1)) k 2 ((sV (sV σ k 0 (σ.1 k2 0)) k 1 ((sV σ k 0 (σ.1 k2 0)).1 k2 1)).1 k2 2)) k 3 ((sV (sV (sV σ k 0 (σ.1 k2 0)) k 1 ((sV σ k 0 (σ.1 k2 0)).1 k2 1)) k 2 ((sV (sV σ k 0 (σ.1 k2 0)) k 1 ((sV σ k 0 (σ.1 k2 0)).1 k2 1)).1 k2 2)).1 k2 3)).1 k2 4)) k 5 ((sV (sV (sV (sV (sV σ k 0 (σ.1 k2 0)) k 1 ((sV σ k 0 (σ.1 k2 0)).1 k2 1)) k 2 ((sV (sV σ k 0 (σ.1 k2 0)) k 1 ((sV σ k 0 (σ.1 k2 0)).1 k2 1)).1 k2 2)) k 3 ((sV (sV (sV σ k 0 (σ.1 k2 0)) k 1 ((sV σ k 0 (σ.1 k2 0)).1 k2 1)) k 2 ((sV (sV σ k 0 (σ.1 k2 0)) k 1 ((sV σ k 0 (σ.1 k2 0)).1 k2 1)).1 k2 2)).1 k2 3)) k 4 ((sV (sV (sV (sV σ k 0 (σ.1 k2 0)) k 1 ((sV σ k 0 (σ.1 k2 0)).1 k2 1)) k 2 ((sV (sV σ k 0 (σ.1 k2 0)) k 1 ((sV σ k 0 (σ.1 k2 0)).1 k2 1)).1 k2 2)) k 3 ((sV (sV (sV σ k 0 (σ.1 k2 0)) k 1 ((sV σ k 0 (σ.1 k2 0)).1 k2 1)) k 2 ((sV (sV σ k 0 (σ.1 k2 0)) k 1 ((sV σ k 0 (σ.1 k2 0)).1 k2 1)).1 k2 2)).1 k2 3)).1 k2 4)).1 k2 5)) k 6 ((sV (sV (sV (sV (sV (sV σ k 0 (σ.1 k2 0)) k 1 ((sV σ k 0 (σ.1 k2 0)).1 k2 1)) k 2 ((sV (sV σ k 0 (σ.1 k2 0)) k 1 ((sV σ k 0 (σ.1 k2 0)).1 k2 1)).1 k2 2)) k 3 ((sV (sV (sV σ k 0 (σ.1 k2 0)) k 1 ((sV σ k 0 (σ.1 k2 0)).1 k2 1)) k 2 ((sV (sV σ k 0 (σ.1 k2 0)) k 1 ((sV σ k 0 (σ.1 k2 0)).1 k2 1)).1 k2 2)).1 k2 3)) k 4 ((sV (sV (sV (sV σ k 0 (σ.1 k2 0)) k 1 ((sV σ k 0 (σ.1 k2 0)).1 k2 1)) k 2 ((sV (sV σ k 0 (σ.1 k2 0)) k 1 ((sV σ k 0 (σ.1 k2 0)).1 k2 1)).1 k2 2)) k 3 ((sV (sV (sV σ k 0 (σ.1 k2 0)) k 1 ((sV σ k 0 (σ.1 k2 0)).1 k2 1)) k 2 ((sV (sV σ k 0 (σ.1 k2 0)) k 1 ((sV σ k 0 (σ.1 k2 0)).1 k2 1)).1 k2 2)).1 k2 3)).1 k2 4)) k 5 ((sV (sV (sV (sV (sV σ k 0 (σ.1 k2 0)) k 1 ((sV σ k 0 (σ.1 k2 0)).1 k2 1)) k 2 ((sV (sV σ k 0 (σ.1 k2 0)) k 1 ((sV σ k 0 (σ.1 k2 0)).1 k2 1)).1 k2 2)) k 3 ((sV (sV (sV σ k 0 (σ.1 k2 0)) k 1 ((sV σ k 0 (σ.1 k2 0)).1 k2 1)) k 2 ((sV (sV σ k 0 (σ.1 k2 0)) k 1 ((sV σ k 0 (σ.1 k2 0)).1 k2 1)).1 k2 2)).1 k2 3)) k 4 ((sV (sV (sV (sV σ k 0 (σ.1 k2 0)) k 1 ((sV σ k 0 (σ.1 k2 0)).1 k2 1)) k 2 ((sV (sV σ k 0 (σ.1 k2 0)) k 1 ((sV σ k 0 (σ.1 k2 0)).1 k2 1)).1 k2 2)) k 3 ((sV (sV (sV σ k 0 (σ.1 k2 0)) k 1 ((sV σ k 0 (σ.1 k2 0)).1 k2 1)) k 2 ((sV (sV σ k 0 (σ.1 k2 0)) k 1 ((sV σ k 0 (σ.1 k2 0)).1 k2 1)).1 k2 2)).1 k2 3)).1 k2 4)).1 k2 5)).1 k2 6))
def wX0_isThere (σ : St) (k : Nat) (Φ : Int32 → St → Prop) : Prop := (if (σ.1 k 0) ≤ 0 then (((0 : Int32) = 0 ∨ (0 : Int32) = 1) ∧ Φ (0 : Int32) σ) else (((1 : Int32) = 0 ∨ (1 : Int32) = 1) ∧ Φ (1 : Int32) σ))
def wX0_isWhole (σ : St) (k : Nat) (Φ : Int32 → St → Prop) : Prop := (if (σ.1 k 0) ≤ 0 then (((0 : Int32) = 0 ∨ (0 : Int32) = 1) ∧ Φ (0 : Int32) σ) else (if (σ.1 k 6) = 0 then (((1 : Int32) = 0 ∨ (1 : Int32) = 1) ∧ Φ (1 : Int32) σ) else (((0 : Int32) = 0 ∨ (0 : Int32) = 1) ∧ Φ (0 : Int32) σ)))
def wX0_turnsAt (σ : St) (k : Nat) (v1 : Int32) (Φ : Int32 → St → Prop) : Prop := (if v1 < (10 : Int32) then Φ (0 : Int32) σ else (if (40 : Int32) < v1 then Φ (0 : Int32) σ else (¬ (v1 * v1) = 0) ∧ Φ ((σ.1 k 1) / (v1 * v1)) σ))
def wX0_turnsNow (σ : St) (k : Nat) (Φ : Int32 → St → Prop) : Prop := wX0_turnsAt σ k (σ.1 k 0) (fun r2 σ1 => Φ r2 σ1)
def wX0_armAt_22 (k : Nat) (Φ : Int32 → St → Prop) (σ : St) (v1 : Int32) (v2 : Int32) (s0 : Int32) : Prop := (if v1 = 0 then Φ s0 σ else Φ (v2 - s0) σ)
def wX0_armAt (σ : St) (k : Nat) (v1 : Int32) (v2 : Int32) (v3 : Int32) (v4 : Int32) (Φ : Int32 → St → Prop) : Prop := (if (v3 + v4) ≤ 0 then wX0_armAt_22 k Φ σ v1 v2 (0 : Int32) else (¬ (v3 + v4) = 0) ∧ wX0_armAt_22 k Φ σ v1 v2 ((v2 * v4) / (v3 + v4)))
def wX0_floorAt (σ : St) (k : Nat) (v1 : Int32) (v2 : Int32) (v3 : Int32) (v4 : Int32) (Φ : Int32 → St → Prop) : Prop := wX0_turnsAt σ k v2 (fun r2 σ1 => wX0_armAt σ1 k v1 v2 v3 v4 (fun r4 σ3 => Φ ((r4 * r2) * r2) σ3))
def wX0_strainBy (σ : St) (k : Nat) (v1 : Int32) (v2 : Int32) (Φ : Int32 → St → Prop) : Prop := (¬ (100 : Int32) = 0) ∧ Φ ((v1 * v2) / (100 : Int32)) σ
def wX1_weighs (σ : St) (a0 : Nat) (v1 : Int32) (Φ : Int32 → St → Prop) : Prop := isT σ a0 ∧ Φ ((σ.2.2.2.2.2 a0 0) + (2 : Int32)) σ
def wX4_weighs (σ : St) (a0 : Nat) (v1 : Int32) (Φ : Int32 → St → Prop) : Prop := isT σ a0 ∧ isT σ a0 ∧ (¬ (6 : Int32) = 0) ∧ Φ ((σ.2.2.2.2.2 a0 0) + ((2 : Int32) * ((v1 - (σ.2.2.2.2.2 a0 1)) / (6 : Int32)))) σ
def wX5_weighs (σ : St) (a0 : Nat) (v1 : Int32) (Φ : Int32 → St → Prop) : Prop := isT σ a0 ∧ isT σ a0 ∧ (¬ (6 : Int32) = 0) ∧ Φ ((σ.2.2.2.2.2 a0 0) + ((v1 - (σ.2.2.2.2.2 a0 1)) / (6 : Int32))) σ
def wX6_at (σ : St) (v1 : Int32) (Φ : Option Nat → St → Prop) : Prop := (if v1 < 0 then Φ none σ else (if (σ.1 4 2) ≤ v1 then Φ none σ else (if (6 : Int32) ≤ v1 then Φ none σ else vp_in v1 6 ∧ Φ (σ.2.2.1 v1.toNatClampNeg) σ)))
def wX9_weighs (σ : St) (a0 : Nat) (v1 : Int32) (Φ : Int32 → St → Prop) : Prop := isT σ a0 ∧ Φ (σ.2.2.2.2.2 a0 0) σ
def wT_weighs_13459 (σ : St) (a : Nat) (v1 : Int32) (Φ : Int32 → St → Prop) : Prop := a ∈ σ.2.2.2.1 ∧ ((σ.2.2.2.2.1 a = 1 ∧ wX1_weighs σ a v1 Φ) ∨ (σ.2.2.2.2.1 a = 3 ∧ wX9_weighs σ a v1 Φ) ∨ (σ.2.2.2.2.1 a = 4 ∧ wX4_weighs σ a v1 Φ) ∨ (σ.2.2.2.2.1 a = 5 ∧ wX5_weighs σ a v1 Φ) ∨ (σ.2.2.2.2.1 a = 9 ∧ wX9_weighs σ a v1 Φ))
def wX6_weighsIn_46 (K6 : St → Int32 → Int32 → Int32 → Int32 → Prop) (Φ : Int32 → St → Prop) (σ : St) (v1 : Int32) (v2 : Int32) (v3 : Int32) (v4 : Int32) : Prop := K6 σ v1 v2 v3 (v4 + 1)
def wX6_weighsIn_6 (Φ : Int32 → St → Prop) : Nat → St → Int32 → Int32 → Int32 → Int32 → Prop
  | 0, _, _, _, _, _ => False
  | n + 1, σ, v1, v2, v3, v4 => (if (σ.1 4 2) ≤ v4 then Φ v3 σ else wX6_at σ v4 (fun r2 σ1 => ((r2 = none → wX6_weighsIn_46 (wX6_weighsIn_6 Φ n) Φ σ1 v1 v2 v3 v4) ∧ ∀ b3, r2 = some b3 → isT σ1 b3 ∧ (if (σ1.2.2.2.2.2 b3 2) = v1 then wT_weighs_13459 σ1 b3 v2 (fun r4 σ5 => wX6_weighsIn_46 (wX6_weighsIn_6 Φ n) Φ σ5 v1 v2 (v3 + r4) v4) else wX6_weighsIn_46 (wX6_weighsIn_6 Φ n) Φ σ1 v1 v2 v3 v4))))
def wX6_weighsIn (σ : St) (v1 : Int32) (v2 : Int32) (Φ : Int32 → St → Prop) : Prop := ∃ n0, wX6_weighsIn_6 Φ n0 σ v1 v2 (10 : Int32) (0 : Int32)
def wX0_armNow (σ : St) (k : Nat) (v1 : Int32) (Φ : Int32 → St → Prop) : Prop := wX6_weighsIn σ (0 : Int32) (σ.1 k 4) (fun r2 σ1 => wX6_weighsIn σ1 (1 : Int32) (σ1.1 k 4) (fun r4 σ3 => wX0_armAt σ3 k v1 (σ.1 k 0) r2 r4 (fun r6 σ5 => Φ r6 σ5)))
def wX0_floorNow (σ : St) (k : Nat) (v1 : Int32) (Φ : Int32 → St → Prop) : Prop := wX6_weighsIn σ (0 : Int32) (σ.1 k 4) (fun r2 σ1 => wX6_weighsIn σ1 (1 : Int32) (σ1.1 k 4) (fun r4 σ3 => wX0_floorAt σ3 k v1 (σ.1 k 0) r2 r4 (fun r6 σ5 => Φ r6 σ5)))
def wX0_strainNow (σ : St) (k : Nat) (Φ : Int32 → St → Prop) : Prop := wX6_weighsIn σ (0 : Int32) (σ.1 k 4) (fun r2 σ1 => wX6_weighsIn σ1 (1 : Int32) (σ1.1 k 4) (fun r4 σ3 => wX0_floorAt σ3 k (0 : Int32) (σ1.1 k 0) r2 r4 (fun r6 σ5 => wX0_strainBy σ5 k r2 r6 (fun r8 σ7 => Φ r8 σ7))))
def wJ9_floorMod_7cf53 (σ : St) (v0 : Int32) (v1 : Int32) (Φ : Int32 → St → Prop) : Prop := (¬ v1 = 0) ∧ (if 0 ≤ (v0 ^^^ v1) then Φ (v0 - v0 / v1 * v1) σ else (if (v0 - v0 / v1 * v1) = 0 then Φ (v0 - v0 / v1 * v1) σ else Φ ((v0 - v0 / v1 * v1) + v1) σ))
def wX0_placeAfter (σ : St) (k : Nat) (v1 : Int32) (Φ : Int32 → St → Prop) : Prop := wX0_turnsNow σ k (fun r2 σ1 => wJ9_floorMod_7cf53 σ1 ((σ.1 k 3) + ((v1 * r2) * (10 : Int32))) (360 : Int32) (fun r4 σ3 => Φ r4 σ3))
def wX0_goHour (σ : St) (k : Nat) (v1 : Int32) (Φ : St → Prop) : Prop := wX0_placeAfter (sV (sV σ k 0 ((σ.1 k 0) - v1)) k 4 (((sV σ k 0 ((σ.1 k 0) - v1)).1 k 4) + (1 : Int32))) k (1 : Int32) (fun r2 σ1 => wX0_strainNow (sV σ1 k 3 r2) k (fun r4 σ3 => (if r4 ≤ (σ3.1 k 2) then ((0 : Int32) = 0 ∨ (0 : Int32) = 1) ∧ Φ (sV σ3 k 6 (0 : Int32)) else ((1 : Int32) = 0 ∨ (1 : Int32) = 1) ∧ Φ (sV σ3 k 6 (1 : Int32)))))
def wX9_init (σ : St) (a0 : Nat) (v1 : Int32) (v2 : Int32) (v3 : Int32) (Φ : St → Prop) : Prop := isT σ a0 ∧ isT (sT σ a0 0 v1) a0 ∧ isT (sT (sT σ a0 0 v1) a0 2 v2) a0 ∧ Φ (sT (sT (sT σ a0 0 v1) a0 2 v2) a0 1 v3)
def wX1_init (σ : St) (a0 : Nat) (v1 : Int32) (v2 : Int32) (v3 : Int32) (Φ : St → Prop) : Prop := wX9_init σ a0 v1 v2 v3 (fun σ1 => Φ σ1)
def wX1_kind (σ : St) (a0 : Nat) (Φ : Int32 → St → Prop) : Prop := Φ (1 : Int32) σ
def wX3_init (σ : St) (a0 : Nat) (v1 : Int32) (v2 : Int32) (v3 : Int32) (Φ : St → Prop) : Prop := wX9_init σ a0 v1 v2 v3 (fun σ1 => Φ σ1)
def wX3_kind (σ : St) (a0 : Nat) (Φ : Int32 → St → Prop) : Prop := Φ (2 : Int32) σ
def wX3_goesAcross (σ : St) (a0 : Nat) (v1 : Int32) (Φ : Int32 → St → Prop) : Prop := (if (2 : Int32) < v1 then (((0 : Int32) = 0 ∨ (0 : Int32) = 1) ∧ Φ (0 : Int32) σ) else (((1 : Int32) = 0 ∨ (1 : Int32) = 1) ∧ Φ (1 : Int32) σ))
def wX5_init (σ : St) (a0 : Nat) (v1 : Int32) (v2 : Int32) (v3 : Int32) (Φ : St → Prop) : Prop := wX9_init σ a0 v1 v2 v3 (fun σ1 => Φ σ1)
def wX4_init (σ : St) (a0 : Nat) (v1 : Int32) (v2 : Int32) (v3 : Int32) (Φ : St → Prop) : Prop := wX5_init σ a0 v1 v2 v3 (fun σ1 => Φ σ1)
def wX4_kind (σ : St) (a0 : Nat) (Φ : Int32 → St → Prop) : Prop := Φ (4 : Int32) σ
def wX5_kind (σ : St) (a0 : Nat) (Φ : Int32 → St → Prop) : Prop := Φ (3 : Int32) σ
def wX6_isFull (σ : St) (Φ : Int32 → St → Prop) : Prop := (if (σ.1 4 2) < (6 : Int32) then (((0 : Int32) = 0 ∨ (0 : Int32) = 1) ∧ Φ (0 : Int32) σ) else (((1 : Int32) = 0 ∨ (1 : Int32) = 1) ∧ Φ (1 : Int32) σ))
def wX6_put (σ : St) (a1 : Nat) (Φ : Int32 → St → Prop) : Prop := (if (σ.1 4 2) < 0 then Φ (-104 : Int32) σ else (if (σ.1 4 2) < (6 : Int32) then isT σ a1 ∧ vp_in (σ.1 4 2) 6 ∧ Φ (((sV (sH σ (σ.1 4 2).toNatClampNeg (some a1)) 4 2 (((sH σ (σ.1 4 2).toNatClampNeg (some a1)).1 4 2) + (1 : Int32))).1 4 2) - (1 : Int32)) (sV (sH σ (σ.1 4 2).toNatClampNeg (some a1)) 4 2 (((sH σ (σ.1 4 2).toNatClampNeg (some a1)).1 4 2) + (1 : Int32))) else Φ (-104 : Int32) σ))
def wJ9_min_7cf53 (σ : St) (v0 : Int32) (v1 : Int32) (Φ : Int32 → St → Prop) : Prop := (if v1 < v0 then Φ v1 σ else Φ v0 σ)
def wX6_cutTo_23 (K2 : St → Int32 → Int32 → Prop) (Φ : St → Prop) (σ : St) (v1 : Int32) (v2 : Int32) : Prop := K2 σ v1 (v2 + 1)
def wX6_cutTo_2 (Φ : St → Prop) : Nat → St → Int32 → Int32 → Prop
  | 0, _, _, _ => False
  | n + 1, σ, v1, v2 => (if (6 : Int32) ≤ v2 then wJ9_min_7cf53 σ (σ.1 4 2) v1 (fun r2 σ1 => Φ (sV σ1 4 2 r2)) else (if v2 < v1 then wX6_cutTo_23 (wX6_cutTo_2 Φ n) Φ σ v1 v2 else vp_in v2 6 ∧ wX6_cutTo_23 (wX6_cutTo_2 Φ n) Φ (sH σ v2.toNatClampNeg none) v1 v2))
def wX6_cutTo (σ : St) (v1 : Int32) (Φ : St → Prop) : Prop := ∃ n0, wX6_cutTo_2 Φ n0 σ v1 (0 : Int32)
def wX6_sizeIn_36 (K4 : St → Int32 → Int32 → Int32 → Prop) (Φ : Int32 → St → Prop) (σ : St) (v1 : Int32) (v2 : Int32) (v3 : Int32) : Prop := K4 σ v1 v2 (v3 + 1)
def wX6_sizeIn_4 (Φ : Int32 → St → Prop) : Nat → St → Int32 → Int32 → Int32 → Prop
  | 0, _, _, _, _ => False
  | n + 1, σ, v1, v2, v3 => (if (σ.1 4 2) ≤ v3 then Φ v2 σ else wX6_at σ v3 (fun r2 σ1 => ((r2 = none → wX6_sizeIn_36 (wX6_sizeIn_4 Φ n) Φ σ1 v1 v2 v3) ∧ ∀ b3, r2 = some b3 → isT σ1 b3 ∧ (if (σ1.2.2.2.2.2 b3 2) = v1 then wX6_sizeIn_36 (wX6_sizeIn_4 Φ n) Φ σ1 v1 (v2 + 1) v3 else wX6_sizeIn_36 (wX6_sizeIn_4 Φ n) Φ σ1 v1 v2 v3))))
def wX6_sizeIn (σ : St) (v1 : Int32) (Φ : Int32 → St → Prop) : Prop := ∃ n0, wX6_sizeIn_4 Φ n0 σ v1 (0 : Int32) (0 : Int32)
def wX7_hasRoomFor (σ : St) (v1 : Int32) (Φ : Int32 → St → Prop) : Prop := (if (12 : Int32) < ((σ.1 1 1) + v1) then (((0 : Int32) = 0 ∨ (0 : Int32) = 1) ∧ Φ (0 : Int32) σ) else (((1 : Int32) = 0 ∨ (1 : Int32) = 1) ∧ Φ (1 : Int32) σ))
def wX7_put (σ : St) (v1 : Int32) (Φ : St → Prop) : Prop := (if (σ.1 1 1) < 0 then Φ σ else (if (12 : Int32) ≤ (σ.1 1 1) then Φ σ else vp_in (σ.1 1 1) 12 ∧ Φ (sV (sV σ 2 (σ.1 1 1).toNatClampNeg (vp_nar .char v1)) 1 1 (((sV σ 2 (σ.1 1 1).toNatClampNeg (vp_nar .char v1)).1 1 1) + (1 : Int32)))))
def wX7_emptied (σ : St) (Φ : Int32 → St → Prop) : Prop := Φ (σ.1 1 1) (sV σ 1 1 (0 : Int32))
def wX7_isBetween (σ : St) (v1 : Int32) (v2 : Int32) (v3 : Int32) (Φ : Int32 → St → Prop) : Prop := wX7_at σ v1 (fun r2 σ1 => (if r2 < v2 then (((0 : Int32) = 0 ∨ (0 : Int32) = 1) ∧ Φ (0 : Int32) σ1) else wX7_at σ1 v1 (fun r4 σ3 => (if v3 < r4 then (((0 : Int32) = 0 ∨ (0 : Int32) = 1) ∧ Φ (0 : Int32) σ3) else (((1 : Int32) = 0 ∨ (1 : Int32) = 1) ∧ Φ (1 : Int32) σ3)))))
def wX7_isWireLetter_113 (Φ : Int32 → St → Prop) (σ : St) (v1 : Int32) : Prop := wX7_isBetween σ v1 (48 : Int32) (57 : Int32) (fun r14 σ13 => ((r14 = 0 ∨ r14 = 1) ∧ Φ r14 σ13))
def wX7_isWireLetter_103 (Φ : Int32 → St → Prop) (σ : St) (v1 : Int32) : Prop := wX7_isBetween σ v1 (49 : Int32) (57 : Int32) (fun r12 σ11 => ((r12 = 0 ∨ r12 = 1) ∧ Φ r12 σ11))
def wX7_isWireLetter_87 (Φ : Int32 → St → Prop) (σ : St) (v1 : Int32) : Prop := wX7_at σ v1 (fun r10 σ9 => (if r10 = (58 : Int32) then (((1 : Int32) = 0 ∨ (1 : Int32) = 1) ∧ Φ (1 : Int32) σ9) else (((0 : Int32) = 0 ∨ (0 : Int32) = 1) ∧ Φ (0 : Int32) σ9)))
def wX7_isWireLetter_83 (Φ : Int32 → St → Prop) (σ : St) (s0 : Int32) (s1 : Int32) (s2 : Int32) : Prop := wX7_isBetween σ s2 s1 s0 (fun r8 σ7 => ((r8 = 0 ∨ r8 = 1) ∧ Φ r8 σ7))
def wX7_isWireLetter (σ : St) (v1 : Int32) (Φ : Int32 → St → Prop) : Prop := ((v1 = 0 → wX7_isBetween σ v1 (49 : Int32) (52 : Int32) (fun r2 σ1 => ((r2 = 0 ∨ r2 = 1) ∧ Φ r2 σ1))) ∧ (v1 = 1 → wX7_at σ (0 : Int32) (fun r4 σ3 => (if r4 = (52 : Int32) then wX7_isWireLetter_83 Φ σ3 (48 : Int32) (48 : Int32) v1 else wX7_isWireLetter_83 Φ σ3 (57 : Int32) (48 : Int32) v1))) ∧ (v1 = 2 → wX7_isWireLetter_87 Φ σ v1) ∧ (v1 = 3 → wX7_isWireLetter_103 Φ σ v1) ∧ (v1 = 4 → wX7_isWireLetter_87 Φ σ v1) ∧ (v1 = 5 → wX7_isWireLetter_103 Φ σ v1) ∧ (v1 = 6 → wX7_isWireLetter_113 Φ σ v1) ∧ (v1 = 7 → wX7_isWireLetter_113 Φ σ v1) ∧ (v1 = 8 → wX7_at σ v1 (fun r6 σ5 => (if r6 = (111 : Int32) then (((1 : Int32) = 0 ∨ (1 : Int32) = 1) ∧ Φ (1 : Int32) σ5) else (((0 : Int32) = 0 ∨ (0 : Int32) = 1) ∧ Φ (0 : Int32) σ5)))) ∧ ((v1.toInt < 0 ∨ 8 < v1.toInt) → (((0 : Int32) = 0 ∨ (0 : Int32) = 1) ∧ Φ (0 : Int32) σ)))
def wX7_firstWrong_2 (Φ : Int32 → St → Prop) : Nat → St → Int32 → Prop
  | 0, _, _ => False
  | n + 1, σ, v1 => (if (σ.1 1 1) ≤ v1 then Φ (σ.1 1 1) σ else wX7_isWireLetter σ v1 (fun r2 σ1 => (if r2 = 0 then Φ v1 σ1 else wX7_firstWrong_2 Φ n σ1 (v1 + 1))))
def wX7_firstWrong (σ : St) (Φ : Int32 → St → Prop) : Prop := ∃ n0, wX7_firstWrong_2 Φ n0 σ (0 : Int32)
def wX7_isWire (σ : St) (Φ : Int32 → St → Prop) : Prop := (if (σ.1 1 1) < (8 : Int32) then (((0 : Int32) = 0 ∨ (0 : Int32) = 1) ∧ Φ (0 : Int32) σ) else wX7_firstWrong σ (fun r2 σ1 => (if r2 = (σ1.1 1 1) then (((1 : Int32) = 0 ∨ (1 : Int32) = 1) ∧ Φ (1 : Int32) σ1) else (((0 : Int32) = 0 ∨ (0 : Int32) = 1) ∧ Φ (0 : Int32) σ1))))
def wX9_kind (σ : St) (a0 : Nat) (Φ : Int32 → St → Prop) : Prop := Φ (0 : Int32) σ
def wT_kind_13459 (σ : St) (a : Nat) (Φ : Int32 → St → Prop) : Prop := a ∈ σ.2.2.2.1 ∧ ((σ.2.2.2.2.1 a = 1 ∧ wX1_kind σ a Φ) ∨ (σ.2.2.2.2.1 a = 3 ∧ wX3_kind σ a Φ) ∨ (σ.2.2.2.2.1 a = 4 ∧ wX4_kind σ a Φ) ∨ (σ.2.2.2.2.1 a = 5 ∧ wX5_kind σ a Φ) ∨ (σ.2.2.2.2.1 a = 9 ∧ wX9_kind σ a Φ))
def wX9_goesAcross (σ : St) (a0 : Nat) (v1 : Int32) (Φ : Int32 → St → Prop) : Prop := (((1 : Int32) = 0 ∨ (1 : Int32) = 1) ∧ Φ (1 : Int32) σ)
def wT_goesAcross_13459 (σ : St) (a : Nat) (v1 : Int32) (Φ : Int32 → St → Prop) : Prop := a ∈ σ.2.2.2.1 ∧ ((σ.2.2.2.2.1 a = 1 ∧ wX9_goesAcross σ a v1 Φ) ∨ (σ.2.2.2.2.1 a = 3 ∧ wX3_goesAcross σ a v1 Φ) ∨ (σ.2.2.2.2.1 a = 4 ∧ wX9_goesAcross σ a v1 Φ) ∨ (σ.2.2.2.2.1 a = 5 ∧ wX9_goesAcross σ a v1 Φ) ∨ (σ.2.2.2.2.1 a = 9 ∧ wX9_goesAcross σ a v1 Φ))
def wX9_hoursHere (σ : St) (a0 : Nat) (v1 : Int32) (Φ : Int32 → St → Prop) : Prop := isT σ a0 ∧ Φ (v1 - (σ.2.2.2.2.2 a0 1)) σ
def wT_hoursHere_13459 (σ : St) (a : Nat) (v1 : Int32) (Φ : Int32 → St → Prop) : Prop := a ∈ σ.2.2.2.1 ∧ ((σ.2.2.2.2.1 a = 1 ∧ wX9_hoursHere σ a v1 Φ) ∨ (σ.2.2.2.2.1 a = 3 ∧ wX9_hoursHere σ a v1 Φ) ∨ (σ.2.2.2.2.1 a = 4 ∧ wX9_hoursHere σ a v1 Φ) ∨ (σ.2.2.2.2.1 a = 5 ∧ wX9_hoursHere σ a v1 Φ) ∨ (σ.2.2.2.2.1 a = 9 ∧ wX9_hoursHere σ a v1 Φ))
def wX10_emptied (σ : St) (Φ : Int32 → St → Prop) : Prop := Φ (σ.1 7 2) (sV σ 7 2 (0 : Int32))
def wX11_byteOf (σ : St) (v0 : Int64) (v2 : Int32) (Φ : Int32 → St → Prop) : Prop := Φ ((v0.toUInt64 >>> (((8 : Int32) * v2).toInt64.toUInt64 &&& Int64.toUInt64 63)).toInt64.toInt32 &&& (255 : Int32)) σ
def wX11_lettersIn_53 (K7 : St → Int64 → Int32 → Int32 → Int32 → Prop) (Φ : Int32 → St → Prop) (σ : St) (v0 : Int64) (v2 : Int32) (v3 : Int32) (v4 : Int32) : Prop := K7 σ v0 v2 v3 (v4 + 1)
def wX11_lettersIn_40 (K7 : St → Int64 → Int32 → Int32 → Int32 → Prop) (Φ : Int32 → St → Prop) (σ : St) (v0 : Int64) (v2 : Int32) (v3 : Int32) (v4 : Int32) (v5 : Int32) : Prop := (if v5 = 0 then wX11_lettersIn_53 K7 Φ σ v0 v2 (1 : Int32) v4 else wX11_lettersIn_53 K7 Φ σ v0 (v2 + 1) v3 v4)
def wX11_lettersIn_7 (Φ : Int32 → St → Prop) : Nat → St → Int64 → Int32 → Int32 → Int32 → Prop
  | 0, _, _, _, _, _ => False
  | n + 1, σ, v0, v2, v3, v4 => (if (8 : Int32) ≤ v4 then Φ v2 σ else wX11_byteOf σ v0 v4 (fun r2 σ1 => (if (126 : Int32) < r2 then Φ (-1 : Int32) σ1 else (if v3 = 0 then wX11_lettersIn_40 (wX11_lettersIn_7 Φ n) Φ σ1 v0 v2 v3 v4 r2 else (if r2 = 0 then wX11_lettersIn_40 (wX11_lettersIn_7 Φ n) Φ σ1 v0 v2 v3 v4 r2 else Φ (-1 : Int32) σ1)))))
def wX11_lettersIn (σ : St) (v0 : Int64) (Φ : Int32 → St → Prop) : Prop := ∃ n0, wX11_lettersIn_7 Φ n0 σ v0 (0 : Int32) (0 : Int32) (0 : Int32)
def wX11_letters_29 (Φ : Int32 → St → Prop) : Nat → St → Int64 → Int32 → Int32 → Prop
  | 0, _, _, _, _ => False
  | n + 1, σ, v1, v3, v4 => (if v3 ≤ v4 then Φ (σ.1 1 1) σ else wX11_byteOf σ v1 v4 (fun r6 σ5 => wX7_put σ5 (r6.toUInt32 % 65536).toInt32 (fun σ7 => wX11_letters_29 Φ n σ7 v1 v3 (v4 + 1))))
def wX11_letters (σ : St) (v1 : Int64) (Φ : Int32 → St → Prop) : Prop := wX11_lettersIn σ v1 (fun r2 σ1 => (if 0 ≤ r2 then wX7_hasRoomFor σ1 r2 (fun r4 σ3 => (if r4 = 0 then Φ (-104 : Int32) σ3 else ∃ n0, wX11_letters_29 Φ n0 σ3 v1 r2 (0 : Int32))) else Φ (-102 : Int32) σ1))
def wX11_fault (σ : St) (Φ : Int32 → St → Prop) : Prop := wX7_firstWrong σ (fun r2 σ1 => Φ r2 σ1)
def wX11_wire (σ : St) (Φ : Int32 → St → Prop) : Prop := wX7_isWire σ (fun r2 σ1 => (if r2 = 0 then Φ (-103 : Int32) σ1 else wX0_hang σ1 3 (fun σ3 => wX7_emptied σ3 (fun r5 σ4 => wX6_cutTo σ4 (0 : Int32) (fun σ6 => wX10_emptied σ6 (fun r8 σ7 => ((0 : Int32) = 0 ∨ (0 : Int32) = 1) ∧ Φ ((sV (sV σ7 0 8 (0 : Int32)) 0 9 (((sV σ7 0 8 (0 : Int32)).1 0 9) + (1 : Int32))).1 3 1) (sV (sV σ7 0 8 (0 : Int32)) 0 9 (((sV σ7 0 8 (0 : Int32)).1 0 9) + (1 : Int32)))))))))
def wX11_isCabin (σ : St) (v0 : Int32) (Φ : Int32 → St → Prop) : Prop := (if v0 < 0 then (((0 : Int32) = 0 ∨ (0 : Int32) = 1) ∧ Φ (0 : Int32) σ) else (if (2 : Int32) ≤ v0 then (((0 : Int32) = 0 ∨ (0 : Int32) = 1) ∧ Φ (0 : Int32) σ) else (((1 : Int32) = 0 ∨ (1 : Int32) = 1) ∧ Φ (1 : Int32) σ)))
def wX11_cabin (σ : St) (v1 : Int32) (v2 : Int32) (Φ : Int32 → St → Prop) : Prop := wX11_isCabin σ v1 (fun r2 σ1 => (if r2 = 0 then Φ (-101 : Int32) σ1 else (if v2 < 0 then Φ (-102 : Int32) σ1 else (if v2 ≤ (3 : Int32) then wX0_isThere σ1 3 (fun r4 σ3 => (if r4 = 0 then Φ (-103 : Int32) σ3 else ((v2 = 0 → wX6_weighsIn σ3 v1 (σ3.1 3 4) (fun r6 σ5 => Φ r6 σ5)) ∧ (v2 = 1 → wX0_armNow σ3 3 v1 (fun r8 σ7 => Φ r8 σ7)) ∧ (v2 = 2 → wX0_floorNow σ3 3 v1 (fun r10 σ9 => Φ r10 σ9)) ∧ ((v2.toInt < 0 ∨ 2 < v2.toInt) → wX6_sizeIn σ3 v1 (fun r12 σ11 => Φ r12 σ11))))) else Φ (-102 : Int32) σ1))))
def wX11_isKind (σ : St) (v0 : Int32) (Φ : Int32 → St → Prop) : Prop := (if v0 < 0 then (((0 : Int32) = 0 ∨ (0 : Int32) = 1) ∧ Φ (0 : Int32) σ) else (if (4 : Int32) < v0 then (((0 : Int32) = 0 ∨ (0 : Int32) = 1) ∧ Φ (0 : Int32) σ) else (((1 : Int32) = 0 ∨ (1 : Int32) = 1) ∧ Φ (1 : Int32) σ)))
def wX11_newThing (σ : St) (v0 : Int32) (v1 : Int32) (v2 : Int32) (v3 : Int32) (Φ : Option Nat → St → Prop) : Prop := ((v0 = 1 → (∀ b1, b1 ∉ σ.2.2.2.1 → wX1_init (sN σ b1 1) b1 v1 v2 v3 (fun σ2 => Φ (some b1) σ2))) ∧ (v0 = 2 → (∀ b3, b3 ∉ σ.2.2.2.1 → wX3_init (sN σ b3 3) b3 v1 v2 v3 (fun σ4 => Φ (some b3) σ4))) ∧ (v0 = 3 → (∀ b5, b5 ∉ σ.2.2.2.1 → wX5_init (sN σ b5 5) b5 v1 v2 v3 (fun σ6 => Φ (some b5) σ6))) ∧ (v0 = 4 → (∀ b7, b7 ∉ σ.2.2.2.1 → wX4_init (sN σ b7 4) b7 v1 v2 v3 (fun σ8 => Φ (some b7) σ8))) ∧ ((v0.toInt < 1 ∨ 4 < v0.toInt) → (∀ b9, b9 ∉ σ.2.2.2.1 → wX9_init (sN σ b9 9) b9 v1 v2 v3 (fun σ10 => Φ (some b9) σ10))))
def wX11_thing (σ : St) (v1 : Int32) (v2 : Int32) (v3 : Int32) (Φ : Int32 → St → Prop) : Prop := wX11_isCabin σ v3 (fun r2 σ1 => (if r2 = 0 then Φ (-101 : Int32) σ1 else wX11_isKind σ1 v1 (fun r4 σ3 => (if r4 = 0 then Φ (-102 : Int32) σ3 else (if v2 < (1 : Int32) then Φ (-102 : Int32) σ3 else (if v2 ≤ (20 : Int32) then wX0_isThere σ3 3 (fun r6 σ5 => (if r6 = 0 then Φ (-103 : Int32) σ5 else wX6_isFull σ5 (fun r8 σ7 => (if r8 = 0 then wX11_newThing σ7 v1 v2 v3 (σ7.1 3 4) (fun r10 σ9 => ∃ b11, r10 = some b11 ∧ wX6_put σ9 b11 (fun r13 σ12 => Φ r13 σ12)) else Φ (-104 : Int32) σ7)))) else Φ (-102 : Int32) σ3))))))
def wX11_about (σ : St) (v1 : Int32) (v2 : Int32) (Φ : Int32 → St → Prop) : Prop := wX6_at σ v1 (fun r2 σ1 => ((r2 = none → Φ (-101 : Int32) σ1) ∧ ∀ b3, r2 = some b3 → ((v2 = 0 → wT_kind_13459 σ1 b3 (fun r4 σ5 => Φ r4 σ5)) ∧ (v2 = 1 → isT σ1 b3 ∧ Φ (σ1.2.2.2.2.2 b3 0) σ1) ∧ (v2 = 2 → isT σ1 b3 ∧ Φ (σ1.2.2.2.2.2 b3 2) σ1) ∧ (v2 = 3 → wT_weighs_13459 σ1 b3 (σ1.1 3 4) (fun r6 σ7 => Φ r6 σ7)) ∧ (v2 = 4 → wT_hoursHere_13459 σ1 b3 (σ1.1 3 4) (fun r8 σ9 => Φ r8 σ9)) ∧ ((v2.toInt < 0 ∨ 4 < v2.toInt) → Φ (-102 : Int32) σ1))))
def wX11_isOfKind (σ : St) (a0 : Nat) (v1 : Int32) (Φ : Int32 → St → Prop) : Prop := ((v1 = 1 → isT σ a0 ∧ (((if σ.2.2.2.2.1 a0 = 1 then (1 : Int32) else 0) = 0 ∨ (if σ.2.2.2.2.1 a0 = 1 then (1 : Int32) else 0) = 1) ∧ Φ (if σ.2.2.2.2.1 a0 = 1 then (1 : Int32) else 0) σ)) ∧ (v1 = 2 → isT σ a0 ∧ (((if σ.2.2.2.2.1 a0 = 3 then (1 : Int32) else 0) = 0 ∨ (if σ.2.2.2.2.1 a0 = 3 then (1 : Int32) else 0) = 1) ∧ Φ (if σ.2.2.2.2.1 a0 = 3 then (1 : Int32) else 0) σ)) ∧ (v1 = 3 → isT σ a0 ∧ (((if σ.2.2.2.2.1 a0 = 5 ∨ σ.2.2.2.2.1 a0 = 4 then (1 : Int32) else 0) = 0 ∨ (if σ.2.2.2.2.1 a0 = 5 ∨ σ.2.2.2.2.1 a0 = 4 then (1 : Int32) else 0) = 1) ∧ Φ (if σ.2.2.2.2.1 a0 = 5 ∨ σ.2.2.2.2.1 a0 = 4 then (1 : Int32) else 0) σ)) ∧ (v1 = 4 → isT σ a0 ∧ (((if σ.2.2.2.2.1 a0 = 4 then (1 : Int32) else 0) = 0 ∨ (if σ.2.2.2.2.1 a0 = 4 then (1 : Int32) else 0) = 1) ∧ Φ (if σ.2.2.2.2.1 a0 = 4 then (1 : Int32) else 0) σ)) ∧ ((v1.toInt < 1 ∨ 4 < v1.toInt) → (if v1 = 0 then (((1 : Int32) = 0 ∨ (1 : Int32) = 1) ∧ Φ (1 : Int32) σ) else (((0 : Int32) = 0 ∨ (0 : Int32) = 1) ∧ Φ (0 : Int32) σ))))
def wX11_as (σ : St) (v1 : Int32) (v2 : Int32) (Φ : Int32 → St → Prop) : Prop := wX6_at σ v1 (fun r2 σ1 => ((r2 = none → Φ (-101 : Int32) σ1) ∧ ∀ b3, r2 = some b3 → wX11_isKind σ1 v2 (fun r5 σ4 => (if r5 = 0 then Φ (-102 : Int32) σ4 else wX11_isOfKind σ4 b3 v2 (fun r7 σ6 => (if r7 = 0 then Φ (-1 : Int32) σ6 else Φ v1 σ6))))))
def wX11_carry (σ : St) (v1 : Int32) (Φ : Int32 → St → Prop) : Prop := wX6_at σ v1 (fun r2 σ1 => ((r2 = none → Φ (-101 : Int32) σ1) ∧ ∀ b3, r2 = some b3 → wX0_isWhole σ1 3 (fun r5 σ4 => (if r5 = 0 then Φ (-103 : Int32) σ4 else wX0_turnsNow σ4 3 (fun r7 σ6 => wT_goesAcross_13459 σ6 b3 r7 (fun r8 σ9 => (if r8 = 0 then Φ (-103 : Int32) σ9 else isT σ9 b3 ∧ isT σ9 b3 ∧ isT (sT σ9 b3 2 ((1 : Int32) - (σ9.2.2.2.2.2 b3 2))) b3 ∧ Φ ((sT σ9 b3 2 ((1 : Int32) - (σ9.2.2.2.2.2 b3 2))).2.2.2.2.2 b3 2) (sT σ9 b3 2 ((1 : Int32) - (σ9.2.2.2.2.2 b3 2))))))))))
def wX11_isLength (σ : St) (v0 : Int32) (Φ : Int32 → St → Prop) : Prop := (if v0 < (10 : Int32) then (((0 : Int32) = 0 ∨ (0 : Int32) = 1) ∧ Φ (0 : Int32) σ) else (if (40 : Int32) < v0 then (((0 : Int32) = 0 ∨ (0 : Int32) = 1) ∧ Φ (0 : Int32) σ) else (((1 : Int32) = 0 ∨ (1 : Int32) = 1) ∧ Φ (1 : Int32) σ)))
def wX11_hour (σ : St) (v1 : Int32) (Φ : Int32 → St → Prop) : Prop := (if v1 < (-3 : Int32) then Φ (-102 : Int32) σ else (if v1 ≤ (3 : Int32) then wX0_isWhole σ 3 (fun r2 σ1 => (if r2 = 0 then Φ (-103 : Int32) σ1 else wX11_isLength σ1 ((σ1.1 3 0) - v1) (fun r4 σ3 => (if r4 = 0 then Φ (-103 : Int32) σ3 else wX0_goHour σ3 3 v1 (fun σ5 => (if (σ5.1 3 6) = 0 then Φ (σ5.1 3 0) σ5 else Φ (-1 : Int32) σ5)))))) else Φ (-102 : Int32) σ))
def wX11_apartOnCircle (σ : St) (v0 : Int32) (v1 : Int32) (Φ : Int32 → St → Prop) : Prop := wJ9_floorMod_7cf53 σ (v0 - v1) (360 : Int32) (fun r2 σ1 => wJ9_min_7cf53 σ1 r2 ((360 : Int32) - r2) (fun r4 σ3 => Φ r4 σ3))
def wX11_caught_51 (Φ : Int32 → St → Prop) : Nat → St → Int32 → Int32 → Prop
  | 0, _, _, _ => False
  | n + 1, σ, v3, v4 => (if (98 : Int32) < v4 then Φ (-1 : Int32) σ else wX0_placeAfter σ 3 v4 (fun r8 σ7 => wX11_apartOnCircle σ7 r8 v3 (fun r10 σ9 => (if (5 : Int32) < r10 then wX11_caught_51 Φ n σ9 v3 (v4 + 1) else Φ v4 σ9))))
def wX11_caught (σ : St) (v1 : Int32) (Φ : Int32 → St → Prop) : Prop := (if v1 < (1 : Int32) then Φ (-102 : Int32) σ else (if v1 ≤ (99 : Int32) then wX0_isWhole σ 3 (fun r2 σ1 => (if r2 = 0 then Φ (-103 : Int32) σ1 else wX0_turnsNow σ1 3 (fun r4 σ3 => wJ9_floorMod_7cf53 σ3 ((90 : Int32) - (v1 * r4)) (360 : Int32) (fun r6 σ5 => ∃ n0, wX11_caught_51 Φ n0 σ5 r6 (0 : Int32))))) else Φ (-102 : Int32) σ))
def wX11_nextSeed (σ : St) (v0 : Int32) (Φ : Int32 → St → Prop) : Prop := (¬ (2147483648 : Int64) = 0) ∧ Φ ((((1103515245 : Int64) * v0.toInt64) + (12345 : Int64)) - (((1103515245 : Int64) * v0.toInt64) + (12345 : Int64)) / (2147483648 : Int64) * (2147483648 : Int64)).toInt32 σ
def wX11_windingOf (σ : St) (v0 : Int32) (Φ : Int32 → St → Prop) : Prop := (if (3 : Int32) < v0 then Φ ((3 : Int32) - v0) σ else Φ v0 σ)
def wX11_tryHours_76 (K16 : St → Int32 → Int32 → Int32 → Prop) (Φ : Int32 → St → Prop) (σ : St) (v1 : Int32) (v3 : Int32) (v4 : Int32) (s0 : Int32) : Prop := wX0_goHour σ 16 s0 (fun σ8 => K16 σ8 v1 v3 (v4 + 1))
def wX11_tryHours_16 (Φ : Int32 → St → Prop) : Nat → St → Int32 → Int32 → Int32 → Prop
  | 0, _, _, _, _ => False
  | n + 1, σ, v1, v3, v4 => (if v1 ≤ v4 then Φ v3 σ else (if (σ.1 16 6) = 0 then wX11_nextSeed σ v3 (fun r3 σ2 => (¬ (65536 : Int32) = 0) ∧ (¬ (7 : Int32) = 0) ∧ wX11_windingOf σ2 ((r3 / (65536 : Int32)) - (r3 / (65536 : Int32)) / (7 : Int32) * (7 : Int32)) (fun r5 σ4 => wX11_isLength σ4 ((σ4.1 16 0) - r5) (fun r7 σ6 => (if r7 = 0 then wX11_tryHours_76 (wX11_tryHours_16 Φ n) Φ σ6 v1 r3 v4 (0 : Int32) else wX11_tryHours_76 (wX11_tryHours_16 Φ n) Φ σ6 v1 r3 v4 r5)))) else Φ v3 σ))
def wX11_tryHours (σ : St) (v1 : Int32) (v2 : Int32) (Φ : Int32 → St → Prop) : Prop := wX0_becomeLike σ 16 3 (fun σ1 => ∃ n0, wX11_tryHours_16 Φ n0 σ1 v1 v2 (0 : Int32))
def wX11_whirls (σ : St) (v1 : Int32) (v2 : Int32) (v3 : Int32) (Φ : Int32 → St → Prop) : Prop := (if v1 < (1 : Int32) then Φ (-102 : Int32) σ else (if (60 : Int32) < v1 then Φ (-102 : Int32) σ else (if v2 < 0 then Φ (-102 : Int32) σ else (if v3 < 0 then Φ (-102 : Int32) σ else (if v3 ≤ (3 : Int32) then wX0_isWhole σ 3 (fun r2 σ1 => (if r2 = 0 then Φ (-103 : Int32) σ1 else wX11_tryHours σ1 v1 v2 (fun r4 σ3 => ((v3 = 0 → Φ (σ3.1 16 0) σ3) ∧ (v3 = 1 → Φ (σ3.1 16 3) σ3) ∧ (v3 = 2 → Φ ((σ3.1 16 4) - (σ3.1 3 4)) σ3) ∧ ((v3.toInt < 0 ∨ 2 < v3.toInt) → Φ r4 σ3))))) else Φ (-102 : Int32) σ)))))
def wX11_count (σ : St) (v1 : Int32) (Φ : Int32 → St → Prop) : Prop := ((v1 = 0 → Φ (σ.1 3 0) σ) ∧ (v1 = 1 → wX0_turnsNow σ 3 (fun r2 σ1 => Φ r2 σ1)) ∧ (v1 = 2 → Φ (σ.1 3 1) σ) ∧ (v1 = 3 → wX0_strainNow σ 3 (fun r4 σ3 => Φ r4 σ3)) ∧ (v1 = 4 → Φ (σ.1 3 2) σ) ∧ (v1 = 5 → (if (σ.1 3 5) = 0 then Φ (0 : Int32) σ else Φ (1 : Int32) σ)) ∧ (v1 = 6 → Φ (σ.1 3 3) σ) ∧ (v1 = 7 → Φ (σ.1 3 4) σ) ∧ (v1 = 8 → (if (σ.1 3 6) = 0 then Φ (0 : Int32) σ else Φ (1 : Int32) σ)) ∧ (v1 = 9 → Φ (σ.1 4 2) σ) ∧ (v1 = 10 → Φ (σ.1 1 1) σ) ∧ (v1 = 11 → Φ (σ.1 0 9) σ) ∧ (v1 = 12 → Φ (σ.1 7 2) σ) ∧ ((v1.toInt < 0 ∨ 12 < v1.toInt) → Φ (-102 : Int32) σ))
def wL_put (σ : St) (v1 : Int32) (Φ : Int32 → St → Prop) : Prop := wX11_letters σ v1.toInt64 (fun r2 σ1 => (if r2 ≤ 0 then (((0 : Int32) = 0 ∨ (0 : Int32) = 1) ∧ Φ (0 : Int32) σ1) else (((1 : Int32) = 0 ∨ (1 : Int32) = 1) ∧ Φ (1 : Int32) σ1)))
def wL_wire_213 (q : Nat) (Φ : Int32 → St → Prop) (σ : St) (s0 : Int32) : Prop := (if s0 = 0 then (((0 : Int32) = 0 ∨ (0 : Int32) = 1) ∧ Φ (0 : Int32) σ) else wX11_fault σ (fun r20 σ19 => vp_in (3 : Int32) 32 ∧ (if r20 = ((8 : Int32) + (σ19.1 q (3 : Int32).toNatClampNeg)) then wX11_wire σ19 (fun r22 σ21 => vp_in (1 : Int32) 32 ∧ (if r22 = (σ21.1 q (1 : Int32).toNatClampNeg) then (((1 : Int32) = 0 ∨ (1 : Int32) = 1) ∧ Φ (1 : Int32) σ21) else (((0 : Int32) = 0 ∨ (0 : Int32) = 1) ∧ Φ (0 : Int32) σ21))) else (((0 : Int32) = 0 ∨ (0 : Int32) = 1) ∧ Φ (0 : Int32) σ19))))
def wL_wire_212 (q : Nat) (Φ : Int32 → St → Prop) (σ : St) : Prop := wL_wire_213 q Φ σ (0 : Int32)
def wL_wire_208 (q : Nat) (Φ : Int32 → St → Prop) (σ : St) : Prop := wL_wire_213 q Φ σ (1 : Int32)
def wL_wire_42 (q : Nat) (Φ : Int32 → St → Prop) : Nat → St → Int32 → Int32 → Int32 → Int32 → Int32 → Prop
  | 0, _, _, _, _, _, _ => False
  | n + 1, σ, v1, v3, v4, v5, v6 => (if (32 : Int32) ≤ v6 then vp_in (0 : Int32) 32 ∧ vp_in (1 : Int32) 32 ∧ vp_in (2 : Int32) 32 ∧ (¬ (524288 : Int32) = 0) ∧ (¬ (2 : Int32) = 0) ∧ vp_in (3 : Int32) 32 ∧ (¬ (10 : Int32) = 0) ∧ wL_put (sV (sV (sV (sV σ q (0 : Int32).toNatClampNeg v3) q (1 : Int32).toNatClampNeg ((v3 * v3) * v4)) q (2 : Int32).toNatClampNeg v5) q (3 : Int32).toNatClampNeg ((v1 / (524288 : Int32)) - (v1 / (524288 : Int32)) / (2 : Int32) * (2 : Int32))) ((48 : Int32) + (v3 / (10 : Int32))) (fun r2 σ1 => (if r2 = 0 then wL_wire_212 q Φ σ1 else (¬ (10 : Int32) = 0) ∧ wL_put σ1 ((48 : Int32) + (v3 - v3 / (10 : Int32) * (10 : Int32))) (fun r4 σ3 => (if r4 = 0 then wL_wire_212 q Φ σ3 else wL_put σ3 (58 : Int32) (fun r6 σ5 => (if r6 = 0 then wL_wire_212 q Φ σ5 else wL_put σ5 ((48 : Int32) + v4) (fun r8 σ7 => (if r8 = 0 then wL_wire_212 q Φ σ7 else wL_put σ7 (58 : Int32) (fun r10 σ9 => (if r10 = 0 then wL_wire_212 q Φ σ9 else (¬ (100 : Int32) = 0) ∧ wL_put σ9 ((48 : Int32) + (v5 / (100 : Int32))) (fun r12 σ11 => (if r12 = 0 then wL_wire_212 q Φ σ11 else (¬ (10 : Int32) = 0) ∧ (¬ (10 : Int32) = 0) ∧ wL_put σ11 ((48 : Int32) + ((v5 / (10 : Int32)) - (v5 / (10 : Int32)) / (10 : Int32) * (10 : Int32))) (fun r14 σ13 => (if r14 = 0 then wL_wire_212 q Φ σ13 else (¬ (10 : Int32) = 0) ∧ wL_put σ13 ((48 : Int32) + (v5 - v5 / (10 : Int32) * (10 : Int32))) (fun r16 σ15 => (if r16 = 0 then wL_wire_212 q Φ σ15 else vp_in (3 : Int32) 32 ∧ (if (σ15.1 q (3 : Int32).toNatClampNeg) = 0 then wL_wire_208 q Φ σ15 else wL_put σ15 (111 : Int32) (fun r18 σ17 => (if r18 = 0 then wL_wire_212 q Φ σ17 else wL_wire_208 q Φ σ17))))))))))))))))))) else vp_in v6 32 ∧ wL_wire_42 q Φ n (sV σ q v6.toNatClampNeg (0 : Int32)) v1 v3 v4 v5 (v6 + 1))
def wL_wire (σ : St) (v1 : Int32) (q : Nat) (Φ : Int32 → St → Prop) : Prop := (¬ (31 : Int32) = 0) ∧ (¬ (32 : Int32) = 0) ∧ (¬ (9 : Int32) = 0) ∧ (¬ (3 : Int32) = 0) ∧ (¬ ((v1 - v1 / (3 : Int32) * (3 : Int32)) + (1 : Int32)) = 0) ∧ (¬ (512 : Int32) = 0) ∧ (¬ (900 : Int32) = 0) ∧ ∃ n0, wL_wire_42 q Φ n0 σ v1 ((10 : Int32) + (v1 - v1 / (31 : Int32) * (31 : Int32))) ((1 : Int32) + (((v1 / (32 : Int32)) - (v1 / (32 : Int32)) / (9 : Int32) * (9 : Int32)) / ((v1 - v1 / (3 : Int32) * (3 : Int32)) + (1 : Int32)))) ((100 : Int32) + ((v1 / (512 : Int32)) - (v1 / (512 : Int32)) / (900 : Int32) * (900 : Int32))) (0 : Int32)
def wL_thing (σ : St) (v1 : Int32) (q : Nat) (Φ : Int32 → St → Prop) : Prop := vp_in (7 : Int32) 32 ∧ (¬ (5 : Int32) = 0) ∧ vp_in ((8 : Int32) + ((4 : Int32) * (σ.1 q (7 : Int32).toNatClampNeg))) 32 ∧ (¬ (8 : Int32) = 0) ∧ (¬ (20 : Int32) = 0) ∧ vp_in (((8 : Int32) + ((4 : Int32) * (σ.1 q (7 : Int32).toNatClampNeg))) + (1 : Int32)) 32 ∧ (¬ (256 : Int32) = 0) ∧ (¬ (2 : Int32) = 0) ∧ vp_in (((8 : Int32) + ((4 : Int32) * (σ.1 q (7 : Int32).toNatClampNeg))) + (2 : Int32)) 32 ∧ vp_in (5 : Int32) 32 ∧ vp_in (((8 : Int32) + ((4 : Int32) * (σ.1 q (7 : Int32).toNatClampNeg))) + (3 : Int32)) 32 ∧ vp_in (7 : Int32) 32 ∧ vp_in (7 : Int32) 32 ∧ (¬ (5 : Int32) = 0) ∧ vp_in (((8 : Int32) + ((4 : Int32) * (σ.1 q (7 : Int32).toNatClampNeg))) + (1 : Int32)) 32 ∧ vp_in (((8 : Int32) + ((4 : Int32) * (σ.1 q (7 : Int32).toNatClampNeg))) + (2 : Int32)) 32 ∧ wX11_thing (sV (sV (sV (sV (sV σ q ((8 : Int32) + ((4 : Int32) * (σ.1 q (7 : Int32).toNatClampNeg))).toNatClampNeg (v1 - v1 / (5 : Int32) * (5 : Int32))) q (((8 : Int32) + ((4 : Int32) * (σ.1 q (7 : Int32).toNatClampNeg))) + (1 : Int32)).toNatClampNeg ((1 : Int32) + ((v1 / (8 : Int32)) - (v1 / (8 : Int32)) / (20 : Int32) * (20 : Int32)))) q (((8 : Int32) + ((4 : Int32) * (σ.1 q (7 : Int32).toNatClampNeg))) + (2 : Int32)).toNatClampNeg ((v1 / (256 : Int32)) - (v1 / (256 : Int32)) / (2 : Int32) * (2 : Int32))) q (((8 : Int32) + ((4 : Int32) * (σ.1 q (7 : Int32).toNatClampNeg))) + (3 : Int32)).toNatClampNeg ((sV (sV (sV σ q ((8 : Int32) + ((4 : Int32) * (σ.1 q (7 : Int32).toNatClampNeg))).toNatClampNeg (v1 - v1 / (5 : Int32) * (5 : Int32))) q (((8 : Int32) + ((4 : Int32) * (σ.1 q (7 : Int32).toNatClampNeg))) + (1 : Int32)).toNatClampNeg ((1 : Int32) + ((v1 / (8 : Int32)) - (v1 / (8 : Int32)) / (20 : Int32) * (20 : Int32)))) q (((8 : Int32) + ((4 : Int32) * (σ.1 q (7 : Int32).toNatClampNeg))) + (2 : Int32)).toNatClampNeg ((v1 / (256 : Int32)) - (v1 / (256 : Int32)) / (2 : Int32) * (2 : Int32))).1 q (5 : Int32).toNatClampNeg)) q (7 : Int32).toNatClampNeg (((sV (sV (sV (sV σ q ((8 : Int32) + ((4 : Int32) * (σ.1 q (7 : Int32).toNatClampNeg))).toNatClampNeg (v1 - v1 / (5 : Int32) * (5 : Int32))) q (((8 : Int32) + ((4 : Int32) * (σ.1 q (7 : Int32).toNatClampNeg))) + (1 : Int32)).toNatClampNeg ((1 : Int32) + ((v1 / (8 : Int32)) - (v1 / (8 : Int32)) / (20 : Int32) * (20 : Int32)))) q (((8 : Int32) + ((4 : Int32) * (σ.1 q (7 : Int32).toNatClampNeg))) + (2 : Int32)).toNatClampNeg ((v1 / (256 : Int32)) - (v1 / (256 : Int32)) / (2 : Int32) * (2 : Int32))) q (((8 : Int32) + ((4 : Int32) * (σ.1 q (7 : Int32).toNatClampNeg))) + (3 : Int32)).toNatClampNeg ((sV (sV (sV σ q ((8 : Int32) + ((4 : Int32) * (σ.1 q (7 : Int32).toNatClampNeg))).toNatClampNeg (v1 - v1 / (5 : Int32) * (5 : Int32))) q (((8 : Int32) + ((4 : Int32) * (σ.1 q (7 : Int32).toNatClampNeg))) + (1 : Int32)).toNatClampNeg ((1 : Int32) + ((v1 / (8 : Int32)) - (v1 / (8 : Int32)) / (20 : Int32) * (20 : Int32)))) q (((8 : Int32) + ((4 : Int32) * (σ.1 q (7 : Int32).toNatClampNeg))) + (2 : Int32)).toNatClampNeg ((v1 / (256 : Int32)) - (v1 / (256 : Int32)) / (2 : Int32) * (2 : Int32))).1 q (5 : Int32).toNatClampNeg)).1 q (7 : Int32).toNatClampNeg) + (1 : Int32))) (v1 - v1 / (5 : Int32) * (5 : Int32)) ((sV (sV (sV (sV (sV σ q ((8 : Int32) + ((4 : Int32) * (σ.1 q (7 : Int32).toNatClampNeg))).toNatClampNeg (v1 - v1 / (5 : Int32) * (5 : Int32))) q (((8 : Int32) + ((4 : Int32) * (σ.1 q (7 : Int32).toNatClampNeg))) + (1 : Int32)).toNatClampNeg ((1 : Int32) + ((v1 / (8 : Int32)) - (v1 / (8 : Int32)) / (20 : Int32) * (20 : Int32)))) q (((8 : Int32) + ((4 : Int32) * (σ.1 q (7 : Int32).toNatClampNeg))) + (2 : Int32)).toNatClampNeg ((v1 / (256 : Int32)) - (v1 / (256 : Int32)) / (2 : Int32) * (2 : Int32))) q (((8 : Int32) + ((4 : Int32) * (σ.1 q (7 : Int32).toNatClampNeg))) + (3 : Int32)).toNatClampNeg ((sV (sV (sV σ q ((8 : Int32) + ((4 : Int32) * (σ.1 q (7 : Int32).toNatClampNeg))).toNatClampNeg (v1 - v1 / (5 : Int32) * (5 : Int32))) q (((8 : Int32) + ((4 : Int32) * (σ.1 q (7 : Int32).toNatClampNeg))) + (1 : Int32)).toNatClampNeg ((1 : Int32) + ((v1 / (8 : Int32)) - (v1 / (8 : Int32)) / (20 : Int32) * (20 : Int32)))) q (((8 : Int32) + ((4 : Int32) * (σ.1 q (7 : Int32).toNatClampNeg))) + (2 : Int32)).toNatClampNeg ((v1 / (256 : Int32)) - (v1 / (256 : Int32)) / (2 : Int32) * (2 : Int32))).1 q (5 : Int32).toNatClampNeg)) q (7 : Int32).toNatClampNeg (((sV (sV (sV (sV σ q ((8 : Int32) + ((4 : Int32) * (σ.1 q (7 : Int32).toNatClampNeg))).toNatClampNeg (v1 - v1 / (5 : Int32) * (5 : Int32))) q (((8 : Int32) + ((4 : Int32) * (σ.1 q (7 : Int32).toNatClampNeg))) + (1 : Int32)).toNatClampNeg ((1 : Int32) + ((v1 / (8 : Int32)) - (v1 / (8 : Int32)) / (20 : Int32) * (20 : Int32)))) q (((8 : Int32) + ((4 : Int32) * (σ.1 q (7 : Int32).toNatClampNeg))) + (2 : Int32)).toNatClampNeg ((v1 / (256 : Int32)) - (v1 / (256 : Int32)) / (2 : Int32) * (2 : Int32))) q (((8 : Int32) + ((4 : Int32) * (σ.1 q (7 : Int32).toNatClampNeg))) + (3 : Int32)).toNatClampNeg ((sV (sV (sV σ q ((8 : Int32) + ((4 : Int32) * (σ.1 q (7 : Int32).toNatClampNeg))).toNatClampNeg (v1 - v1 / (5 : Int32) * (5 : Int32))) q (((8 : Int32) + ((4 : Int32) * (σ.1 q (7 : Int32).toNatClampNeg))) + (1 : Int32)).toNatClampNeg ((1 : Int32) + ((v1 / (8 : Int32)) - (v1 / (8 : Int32)) / (20 : Int32) * (20 : Int32)))) q (((8 : Int32) + ((4 : Int32) * (σ.1 q (7 : Int32).toNatClampNeg))) + (2 : Int32)).toNatClampNeg ((v1 / (256 : Int32)) - (v1 / (256 : Int32)) / (2 : Int32) * (2 : Int32))).1 q (5 : Int32).toNatClampNeg)).1 q (7 : Int32).toNatClampNeg) + (1 : Int32))).1 q (((8 : Int32) + ((4 : Int32) * (σ.1 q (7 : Int32).toNatClampNeg))) + (1 : Int32)).toNatClampNeg) ((sV (sV (sV (sV (sV σ q ((8 : Int32) + ((4 : Int32) * (σ.1 q (7 : Int32).toNatClampNeg))).toNatClampNeg (v1 - v1 / (5 : Int32) * (5 : Int32))) q (((8 : Int32) + ((4 : Int32) * (σ.1 q (7 : Int32).toNatClampNeg))) + (1 : Int32)).toNatClampNeg ((1 : Int32) + ((v1 / (8 : Int32)) - (v1 / (8 : Int32)) / (20 : Int32) * (20 : Int32)))) q (((8 : Int32) + ((4 : Int32) * (σ.1 q (7 : Int32).toNatClampNeg))) + (2 : Int32)).toNatClampNeg ((v1 / (256 : Int32)) - (v1 / (256 : Int32)) / (2 : Int32) * (2 : Int32))) q (((8 : Int32) + ((4 : Int32) * (σ.1 q (7 : Int32).toNatClampNeg))) + (3 : Int32)).toNatClampNeg ((sV (sV (sV σ q ((8 : Int32) + ((4 : Int32) * (σ.1 q (7 : Int32).toNatClampNeg))).toNatClampNeg (v1 - v1 / (5 : Int32) * (5 : Int32))) q (((8 : Int32) + ((4 : Int32) * (σ.1 q (7 : Int32).toNatClampNeg))) + (1 : Int32)).toNatClampNeg ((1 : Int32) + ((v1 / (8 : Int32)) - (v1 / (8 : Int32)) / (20 : Int32) * (20 : Int32)))) q (((8 : Int32) + ((4 : Int32) * (σ.1 q (7 : Int32).toNatClampNeg))) + (2 : Int32)).toNatClampNeg ((v1 / (256 : Int32)) - (v1 / (256 : Int32)) / (2 : Int32) * (2 : Int32))).1 q (5 : Int32).toNatClampNeg)) q (7 : Int32).toNatClampNeg (((sV (sV (sV (sV σ q ((8 : Int32) + ((4 : Int32) * (σ.1 q (7 : Int32).toNatClampNeg))).toNatClampNeg (v1 - v1 / (5 : Int32) * (5 : Int32))) q (((8 : Int32) + ((4 : Int32) * (σ.1 q (7 : Int32).toNatClampNeg))) + (1 : Int32)).toNatClampNeg ((1 : Int32) + ((v1 / (8 : Int32)) - (v1 / (8 : Int32)) / (20 : Int32) * (20 : Int32)))) q (((8 : Int32) + ((4 : Int32) * (σ.1 q (7 : Int32).toNatClampNeg))) + (2 : Int32)).toNatClampNeg ((v1 / (256 : Int32)) - (v1 / (256 : Int32)) / (2 : Int32) * (2 : Int32))) q (((8 : Int32) + ((4 : Int32) * (σ.1 q (7 : Int32).toNatClampNeg))) + (3 : Int32)).toNatClampNeg ((sV (sV (sV σ q ((8 : Int32) + ((4 : Int32) * (σ.1 q (7 : Int32).toNatClampNeg))).toNatClampNeg (v1 - v1 / (5 : Int32) * (5 : Int32))) q (((8 : Int32) + ((4 : Int32) * (σ.1 q (7 : Int32).toNatClampNeg))) + (1 : Int32)).toNatClampNeg ((1 : Int32) + ((v1 / (8 : Int32)) - (v1 / (8 : Int32)) / (20 : Int32) * (20 : Int32)))) q (((8 : Int32) + ((4 : Int32) * (σ.1 q (7 : Int32).toNatClampNeg))) + (2 : Int32)).toNatClampNeg ((v1 / (256 : Int32)) - (v1 / (256 : Int32)) / (2 : Int32) * (2 : Int32))).1 q (5 : Int32).toNatClampNeg)).1 q (7 : Int32).toNatClampNeg) + (1 : Int32))).1 q (((8 : Int32) + ((4 : Int32) * (σ.1 q (7 : Int32).toNatClampNeg))) + (2 : Int32)).toNatClampNeg) (fun r2 σ1 => vp_in (7 : Int32) 32 ∧ (if r2 = ((σ1.1 q (7 : Int32).toNatClampNeg) - (1 : Int32)) then (((1 : Int32) = 0 ∨ (1 : Int32) = 1) ∧ Φ (1 : Int32) σ1) else (((0 : Int32) = 0 ∨ (0 : Int32) = 1) ∧ Φ (0 : Int32) σ1)))
def wL_weighs (σ : St) (q : Nat) (v1 : Int32) (v2 : Int32) (Φ : Int32 → St → Prop) : Prop := vp_in ((8 : Int32) + ((4 : Int32) * v1)) 32 ∧ vp_in (5 : Int32) 32 ∧ vp_in ((11 : Int32) + ((4 : Int32) * v1)) 32 ∧ (¬ (6 : Int32) = 0) ∧ vp_in ((9 : Int32) + ((4 : Int32) * v1)) 32 ∧ (if (σ.1 q ((8 : Int32) + ((4 : Int32) * v1)).toNatClampNeg) = (1 : Int32) then Φ ((σ.1 q ((9 : Int32) + ((4 : Int32) * v1)).toNatClampNeg) + (2 : Int32)) σ else (if (σ.1 q ((8 : Int32) + ((4 : Int32) * v1)).toNatClampNeg) = (3 : Int32) then Φ ((σ.1 q ((9 : Int32) + ((4 : Int32) * v1)).toNatClampNeg) + ((((σ.1 q (5 : Int32).toNatClampNeg) + v2) - (σ.1 q ((11 : Int32) + ((4 : Int32) * v1)).toNatClampNeg)) / (6 : Int32))) σ else (if (σ.1 q ((8 : Int32) + ((4 : Int32) * v1)).toNatClampNeg) = (4 : Int32) then Φ ((σ.1 q ((9 : Int32) + ((4 : Int32) * v1)).toNatClampNeg) + (((((σ.1 q (5 : Int32).toNatClampNeg) + v2) - (σ.1 q ((11 : Int32) + ((4 : Int32) * v1)).toNatClampNeg)) / (6 : Int32)) + ((((σ.1 q (5 : Int32).toNatClampNeg) + v2) - (σ.1 q ((11 : Int32) + ((4 : Int32) * v1)).toNatClampNeg)) / (6 : Int32)))) σ else Φ ((σ.1 q ((9 : Int32) + ((4 : Int32) * v1)).toNatClampNeg) + (0 : Int32)) σ)))
def wL_cabin_55 (q : Nat) (K7 : St → Int32 → Int32 → Int32 → Int32 → Int32 → Prop) (Φ : Int32 → St → Prop) (σ : St) (v1 : Int32) (v2 : Int32) (v3 : Int32) (v5 : Int32) (s0 : Int32) (s1 : Int32) : Prop := K7 σ v1 v2 v3 (s1 + s0) (v5 + 1)
def wL_cabin_7 (q : Nat) (Φ : Int32 → St → Prop) : Nat → St → Int32 → Int32 → Int32 → Int32 → Int32 → Prop
  | 0, _, _, _, _, _, _ => False
  | n + 1, σ, v1, v2, v3, v4, v5 => vp_in (7 : Int32) 32 ∧ (if (σ.1 q (7 : Int32).toNatClampNeg) ≤ v5 then Φ v4 σ else vp_in ((10 : Int32) + ((4 : Int32) * v5)) 32 ∧ (¬ (2 : Int32) = 0) ∧ (if (((σ.1 q ((10 : Int32) + ((4 : Int32) * v5)).toNatClampNeg) + ((v2 >>> (v5 &&& 31)) &&& (1 : Int32))) - ((σ.1 q ((10 : Int32) + ((4 : Int32) * v5)).toNatClampNeg) + ((v2 >>> (v5 &&& 31)) &&& (1 : Int32))) / (2 : Int32) * (2 : Int32)) = v1 then wL_weighs σ q v5 v3 (fun r2 σ1 => wL_cabin_55 q (wL_cabin_7 q Φ n) Φ σ1 v1 v2 v3 v5 r2 v4) else wL_cabin_55 q (wL_cabin_7 q Φ n) Φ σ v1 v2 v3 v5 (0 : Int32) v4))
def wL_cabin (σ : St) (q : Nat) (v1 : Int32) (v2 : Int32) (v3 : Int32) (Φ : Int32 → St → Prop) : Prop := ∃ n0, wL_cabin_7 q Φ n0 σ v1 v2 v3 (10 : Int32) (0 : Int32)
def wL_turns (σ : St) (q : Nat) (v1 : Int32) (Φ : Int32 → St → Prop) : Prop := vp_in (1 : Int32) 32 ∧ (¬ (v1 * v1) = 0) ∧ Φ ((σ.1 q (1 : Int32).toNatClampNeg) / (v1 * v1)) σ
def wL_arm (σ : St) (q : Nat) (v1 : Int32) (v2 : Int32) (v3 : Int32) (v4 : Int32) (Φ : Int32 → St → Prop) : Prop := wL_cabin σ q (0 : Int32) v2 v4 (fun r2 σ1 => wL_cabin σ1 q (1 : Int32) v2 v4 (fun r4 σ3 => (¬ (r2 + r4) = 0) ∧ (¬ (r2 + r4) = 0) ∧ (if v1 = 0 then Φ (((v3 * r4) - ((v3 * r4) - (v3 * r4) / (r2 + r4) * (r2 + r4))) / (r2 + r4)) σ3 else Φ (v3 - (((v3 * r4) - ((v3 * r4) - (v3 * r4) / (r2 + r4) * (r2 + r4))) / (r2 + r4))) σ3)))
def wL_floor (σ : St) (q : Nat) (v1 : Int32) (v2 : Int32) (v3 : Int32) (v4 : Int32) (Φ : Int32 → St → Prop) : Prop := wL_turns σ q v3 (fun r2 σ1 => wL_arm σ1 q v1 v2 v3 v4 (fun r4 σ3 => Φ ((r2 * r4) * r2) σ3))
def wL_strain (σ : St) (q : Nat) (v1 : Int32) (v2 : Int32) (Φ : Int32 → St → Prop) : Prop := wL_floor σ q (0 : Int32) (0 : Int32) v1 v2 (fun r2 σ1 => wL_cabin σ1 q (0 : Int32) (0 : Int32) v2 (fun r4 σ3 => (¬ (100 : Int32) = 0) ∧ Φ ((r2 * r4) / (100 : Int32)) σ3))
def wL_hour_57 (q : Nat) (Φ : Int32 → St → Prop) (σ : St) (s0 : Int32) (s1 : Int32) : Prop := vp_in s1 32 ∧ vp_in (6 : Int32) 32 ∧ (if ((sV σ q s1.toNatClampNeg s0).1 q (6 : Int32).toNatClampNeg) = (1 : Int32) then Φ (-1 : Int32) (sV σ q s1.toNatClampNeg s0) else vp_in (0 : Int32) 32 ∧ Φ ((sV σ q s1.toNatClampNeg s0).1 q (0 : Int32).toNatClampNeg) (sV σ q s1.toNatClampNeg s0))
def wL_hour (σ : St) (q : Nat) (v1 : Int32) (Φ : Int32 → St → Prop) : Prop := vp_in (0 : Int32) 32 ∧ vp_in (0 : Int32) 32 ∧ vp_in (5 : Int32) 32 ∧ vp_in (5 : Int32) 32 ∧ vp_in (4 : Int32) 32 ∧ vp_in (0 : Int32) 32 ∧ wL_turns (sV (sV σ q (0 : Int32).toNatClampNeg ((σ.1 q (0 : Int32).toNatClampNeg) - v1)) q (5 : Int32).toNatClampNeg (((sV σ q (0 : Int32).toNatClampNeg ((σ.1 q (0 : Int32).toNatClampNeg) - v1)).1 q (5 : Int32).toNatClampNeg) + (1 : Int32))) q ((sV (sV σ q (0 : Int32).toNatClampNeg ((σ.1 q (0 : Int32).toNatClampNeg) - v1)) q (5 : Int32).toNatClampNeg (((sV σ q (0 : Int32).toNatClampNeg ((σ.1 q (0 : Int32).toNatClampNeg) - v1)).1 q (5 : Int32).toNatClampNeg) + (1 : Int32))).1 q (0 : Int32).toNatClampNeg) (fun r2 σ1 => (¬ (360 : Int32) = 0) ∧ vp_in (4 : Int32) 32 ∧ vp_in (0 : Int32) 32 ∧ wL_strain (sV σ1 q (4 : Int32).toNatClampNeg ((((sV (sV σ q (0 : Int32).toNatClampNeg ((σ.1 q (0 : Int32).toNatClampNeg) - v1)) q (5 : Int32).toNatClampNeg (((sV σ q (0 : Int32).toNatClampNeg ((σ.1 q (0 : Int32).toNatClampNeg) - v1)).1 q (5 : Int32).toNatClampNeg) + (1 : Int32))).1 q (4 : Int32).toNatClampNeg) + (r2 * (10 : Int32))) - (((sV (sV σ q (0 : Int32).toNatClampNeg ((σ.1 q (0 : Int32).toNatClampNeg) - v1)) q (5 : Int32).toNatClampNeg (((sV σ q (0 : Int32).toNatClampNeg ((σ.1 q (0 : Int32).toNatClampNeg) - v1)).1 q (5 : Int32).toNatClampNeg) + (1 : Int32))).1 q (4 : Int32).toNatClampNeg) + (r2 * (10 : Int32))) / (360 : Int32) * (360 : Int32))) q ((sV σ1 q (4 : Int32).toNatClampNeg ((((sV (sV σ q (0 : Int32).toNatClampNeg ((σ.1 q (0 : Int32).toNatClampNeg) - v1)) q (5 : Int32).toNatClampNeg (((sV σ q (0 : Int32).toNatClampNeg ((σ.1 q (0 : Int32).toNatClampNeg) - v1)).1 q (5 : Int32).toNatClampNeg) + (1 : Int32))).1 q (4 : Int32).toNatClampNeg) + (r2 * (10 : Int32))) - (((sV (sV σ q (0 : Int32).toNatClampNeg ((σ.1 q (0 : Int32).toNatClampNeg) - v1)) q (5 : Int32).toNatClampNeg (((sV σ q (0 : Int32).toNatClampNeg ((σ.1 q (0 : Int32).toNatClampNeg) - v1)).1 q (5 : Int32).toNatClampNeg) + (1 : Int32))).1 q (4 : Int32).toNatClampNeg) + (r2 * (10 : Int32))) / (360 : Int32) * (360 : Int32))).1 q (0 : Int32).toNatClampNeg) (0 : Int32) (fun r4 σ3 => vp_in (2 : Int32) 32 ∧ (if r4 ≤ (σ3.1 q (2 : Int32).toNatClampNeg) then wL_hour_57 q Φ σ3 (0 : Int32) (6 : Int32) else wL_hour_57 q Φ σ3 (1 : Int32) (6 : Int32))))
def wL_told_381 (q : Nat) (K281 : St → Int32 → Int32 → Int32 → Prop) (Φ : Int32 → St → Prop) (σ : St) (v3 : Int32) (v4 : Int32) (s0 : Int32) : Prop := K281 σ s0 v3 (v4 + 1)
def wL_told_380 (q : Nat) (K281 : St → Int32 → Int32 → Int32 → Prop) (Φ : Int32 → St → Prop) (σ : St) (v3 : Int32) (v4 : Int32) : Prop := wL_told_381 q K281 Φ σ v3 v4 (0 : Int32)
def wL_told_373 (q : Nat) (K281 : St → Int32 → Int32 → Int32 → Prop) (Φ : Int32 → St → Prop) (σ : St) (v3 : Int32) (v4 : Int32) (s0 : Int32) (s1 : Int32) : Prop := (if s1 = s0 then wL_told_381 q K281 Φ σ v3 v4 (1 : Int32) else wL_told_380 q K281 Φ σ v3 v4)
def wL_told_281 (q : Nat) (Φ : Int32 → St → Prop) : Nat → St → Int32 → Int32 → Int32 → Prop
  | 0, _, _, _, _ => False
  | n + 1, σ, v2, v3, v4 => (if (2 : Int32) ≤ v4 then ((v2 = 0 ∨ v2 = 1) ∧ Φ v2 σ) else (if v2 = 0 then wL_told_380 q (wL_told_281 q Φ n) Φ σ v3 v4 else wX11_cabin σ v4 (0 : Int32) (fun r38 σ37 => wL_cabin σ37 q v4 (0 : Int32) (0 : Int32) (fun r40 σ39 => (if r38 = r40 then wX11_cabin σ39 v4 (1 : Int32) (fun r42 σ41 => vp_in (0 : Int32) 32 ∧ wL_arm σ41 q v4 (0 : Int32) (σ41.1 q (0 : Int32).toNatClampNeg) (0 : Int32) (fun r44 σ43 => (if r42 = r44 then wX11_cabin σ43 v4 (2 : Int32) (fun r46 σ45 => vp_in (0 : Int32) 32 ∧ wL_floor σ45 q v4 (0 : Int32) (σ45.1 q (0 : Int32).toNatClampNeg) (0 : Int32) (fun r48 σ47 => (if r46 = r48 then wX11_cabin σ47 v4 (3 : Int32) (fun r50 σ49 => (if v4 = 0 then wL_told_373 q (wL_told_281 q Φ n) Φ σ49 v3 v4 v3 r50 else vp_in (7 : Int32) 32 ∧ wL_told_373 q (wL_told_281 q Φ n) Φ σ49 v3 v4 ((σ49.1 q (7 : Int32).toNatClampNeg) - v3) r50)) else wL_told_380 q (wL_told_281 q Φ n) Φ σ47 v3 v4))) else wL_told_380 q (wL_told_281 q Φ n) Φ σ43 v3 v4))) else wL_told_380 q (wL_told_281 q Φ n) Φ σ39 v3 v4)))))
def wL_told_271 (q : Nat) (K136 : St → Int32 → Int32 → Int32 → Prop) (Φ : Int32 → St → Prop) (σ : St) (v3 : Int32) (v4 : Int32) (s0 : Int32) : Prop := K136 σ s0 v3 (v4 + 1)
def wL_told_270 (q : Nat) (K136 : St → Int32 → Int32 → Int32 → Prop) (Φ : Int32 → St → Prop) (σ : St) (v3 : Int32) (v4 : Int32) : Prop := wL_told_271 q K136 Φ σ v3 v4 (0 : Int32)
def wL_told_163 (q : Nat) (K136 : St → Int32 → Int32 → Int32 → Prop) (Φ : Int32 → St → Prop) (σ : St) (v2 : Int32) (v4 : Int32) (s0 : Int32) (s1 : Int32) : Prop := (if v2 = 0 then wL_told_270 q K136 Φ σ (s1 + s0) v4 else wX11_about σ v4 (0 : Int32) (fun r26 σ25 => vp_in ((8 : Int32) + ((4 : Int32) * v4)) 32 ∧ (if r26 = (σ25.1 q ((8 : Int32) + ((4 : Int32) * v4)).toNatClampNeg) then wX11_about σ25 v4 (1 : Int32) (fun r28 σ27 => vp_in ((9 : Int32) + ((4 : Int32) * v4)) 32 ∧ (if r28 = (σ27.1 q ((9 : Int32) + ((4 : Int32) * v4)).toNatClampNeg) then wX11_about σ27 v4 (2 : Int32) (fun r30 σ29 => vp_in ((10 : Int32) + ((4 : Int32) * v4)) 32 ∧ (if r30 = (σ29.1 q ((10 : Int32) + ((4 : Int32) * v4)).toNatClampNeg) then wX11_about σ29 v4 (3 : Int32) (fun r32 σ31 => wL_weighs σ31 q v4 (0 : Int32) (fun r34 σ33 => (if r32 = r34 then wX11_about σ33 v4 (4 : Int32) (fun r36 σ35 => vp_in (5 : Int32) 32 ∧ vp_in ((11 : Int32) + ((4 : Int32) * v4)) 32 ∧ (if r36 = ((σ35.1 q (5 : Int32).toNatClampNeg) - (σ35.1 q ((11 : Int32) + ((4 : Int32) * v4)).toNatClampNeg)) then wL_told_271 q K136 Φ σ35 (s1 + s0) v4 (1 : Int32) else wL_told_270 q K136 Φ σ35 (s1 + s0) v4)) else wL_told_270 q K136 Φ σ33 (s1 + s0) v4))) else wL_told_270 q K136 Φ σ29 (s1 + s0) v4)) else wL_told_270 q K136 Φ σ27 (s1 + s0) v4)) else wL_told_270 q K136 Φ σ25 (s1 + s0) v4)))
def wL_told_136 (q : Nat) (Φ : Int32 → St → Prop) : Nat → St → Int32 → Int32 → Int32 → Prop
  | 0, _, _, _, _ => False
  | n + 1, σ, v2, v3, v4 => vp_in (7 : Int32) 32 ∧ (if (σ.1 q (7 : Int32).toNatClampNeg) ≤ v4 then ∃ n0, wL_told_281 q Φ n0 σ v2 v3 (0 : Int32) else vp_in ((10 : Int32) + ((4 : Int32) * v4)) 32 ∧ (if (σ.1 q ((10 : Int32) + ((4 : Int32) * v4)).toNatClampNeg) = 0 then wL_told_163 q (wL_told_136 q Φ n) Φ σ v2 v4 (1 : Int32) v3 else wL_told_163 q (wL_told_136 q Φ n) Φ σ v2 v4 (0 : Int32) v3))
def wL_told_130 (q : Nat) (Φ : Int32 → St → Prop) (σ : St) (s0 : Int32) : Prop := ∃ n0, wL_told_136 q Φ n0 σ s0 (0 : Int32) (0 : Int32)
def wL_told_129 (q : Nat) (Φ : Int32 → St → Prop) (σ : St) : Prop := wL_told_130 q Φ σ (0 : Int32)
def wL_told (σ : St) (q : Nat) (Φ : Int32 → St → Prop) : Prop := wX11_count σ (0 : Int32) (fun r2 σ1 => vp_in (0 : Int32) 32 ∧ (if r2 = (σ1.1 q (0 : Int32).toNatClampNeg) then wX11_count σ1 (1 : Int32) (fun r4 σ3 => vp_in (0 : Int32) 32 ∧ wL_turns σ3 q (σ3.1 q (0 : Int32).toNatClampNeg) (fun r6 σ5 => (if r4 = r6 then wX11_count σ5 (2 : Int32) (fun r8 σ7 => vp_in (1 : Int32) 32 ∧ (if r8 = (σ7.1 q (1 : Int32).toNatClampNeg) then wX11_count σ7 (3 : Int32) (fun r10 σ9 => vp_in (0 : Int32) 32 ∧ wL_strain σ9 q (σ9.1 q (0 : Int32).toNatClampNeg) (0 : Int32) (fun r12 σ11 => (if r10 = r12 then wX11_count σ11 (4 : Int32) (fun r14 σ13 => vp_in (2 : Int32) 32 ∧ (if r14 = (σ13.1 q (2 : Int32).toNatClampNeg) then wX11_count σ13 (5 : Int32) (fun r16 σ15 => vp_in (3 : Int32) 32 ∧ (if r16 = (σ15.1 q (3 : Int32).toNatClampNeg) then wX11_count σ15 (6 : Int32) (fun r18 σ17 => vp_in (4 : Int32) 32 ∧ (if r18 = (σ17.1 q (4 : Int32).toNatClampNeg) then wX11_count σ17 (7 : Int32) (fun r20 σ19 => vp_in (5 : Int32) 32 ∧ (if r20 = (σ19.1 q (5 : Int32).toNatClampNeg) then wX11_count σ19 (8 : Int32) (fun r22 σ21 => vp_in (6 : Int32) 32 ∧ (if r22 = (σ21.1 q (6 : Int32).toNatClampNeg) then wX11_count σ21 (9 : Int32) (fun r24 σ23 => vp_in (7 : Int32) 32 ∧ (if r24 = (σ23.1 q (7 : Int32).toNatClampNeg) then wL_told_130 q Φ σ23 (1 : Int32) else wL_told_129 q Φ σ23)) else wL_told_129 q Φ σ21)) else wL_told_129 q Φ σ19)) else wL_told_129 q Φ σ17)) else wL_told_129 q Φ σ15)) else wL_told_129 q Φ σ13)) else wL_told_129 q Φ σ11))) else wL_told_129 q Φ σ7)) else wL_told_129 q Φ σ5))) else wL_told_129 q Φ σ1))
def wL_law_953 (K80 : St → Nat → Int32 → Prop) (L : Nat) (xs : Nat → Int32) (σ : St) (kk : Nat) (v5 : Int32) : Prop := K80 σ kk (v5 + 1)
def wL_law_947 (K80 : St → Nat → Int32 → Prop) (L : Nat) (xs : Nat → Int32) (σ : St) (kk : Nat) (v5 : Int32) (s0 : Int64) (s1 : Int64) : Prop := (if (lg_cmp s1 s0) = 0 then wL_law_953 K80 L xs σ kk v5 else ((0 : Int32) = 1))
def wL_law_921 (K80 : St → Nat → Int32 → Prop) (L : Nat) (xs : Nat → Int32) (σ : St) (kk : Nat) (v5 : Int32) (v13 : Int32) (v14 : Int32) (v15 : Int64) (v18 : Int32) (s0 : Int32) (s1 : Int32) : Prop := (if s1 = s0 then wX11_whirls σ v13 v14 (3 : Int32) (fun r64 σ63 => (if v18 = 0 then wL_law_947 K80 L xs σ63 kk v5 v15 r64.toInt64 else wL_law_947 K80 L xs σ63 kk v5 (-103 : Int64) r64.toInt64)) else ((0 : Int32) = 1))
def wL_law_897 (K80 : St → Nat → Int32 → Prop) (L : Nat) (xs : Nat → Int32) (σ : St) (kk : Nat) (v5 : Int32) (v13 : Int32) (v14 : Int32) (v15 : Int64) (v17 : Int32) (v18 : Int32) (s0 : Int32) (s1 : Int32) : Prop := (if s1 = s0 then wX11_whirls σ v13 v14 (2 : Int32) (fun r62 σ61 => (if v18 = 0 then wL_law_921 K80 L xs σ61 kk v5 v13 v14 v15 v18 v17 r62 else wL_law_921 K80 L xs σ61 kk v5 v13 v14 v15 v18 (-103 : Int32) r62)) else ((0 : Int32) = 1))
def wL_law_872 (K80 : St → Nat → Int32 → Prop) (L : Nat) (xs : Nat → Int32) (σ : St) (kk : Nat) (v5 : Int32) (v13 : Int32) (v14 : Int32) (v15 : Int64) (v17 : Int32) (v18 : Int32) (s0 : Int32) (s1 : Int32) : Prop := (if s1 = s0 then wX11_whirls σ v13 v14 (1 : Int32) (fun r60 σ59 => (if v18 = 0 then vp_in (4 : Int32) 32 ∧ wL_law_897 K80 L xs σ59 kk v5 v13 v14 v15 v17 v18 (σ59.1 19 (4 : Int32).toNatClampNeg) r60 else wL_law_897 K80 L xs σ59 kk v5 v13 v14 v15 v17 v18 (-103 : Int32) r60)) else ((0 : Int32) = 1))
def wL_law_848 (K80 : St → Nat → Int32 → Prop) (L : Nat) (xs : Nat → Int32) (σ : St) (kk : Nat) (v5 : Int32) (v13 : Int32) (v14 : Int32) (v15 : Int64) (v17 : Int32) (s0 : Int32) : Prop := wX11_whirls σ v13 v14 (0 : Int32) (fun r58 σ57 => (if s0 = 0 then vp_in (0 : Int32) 32 ∧ wL_law_872 K80 L xs σ57 kk v5 v13 v14 v15 v17 s0 (σ57.1 19 (0 : Int32).toNatClampNeg) r58 else wL_law_872 K80 L xs σ57 kk v5 v13 v14 v15 v17 s0 (-103 : Int32) r58))
def wL_law_835 (K80 : St → Nat → Int32 → Prop) (L : Nat) (xs : Nat → Int32) (σ : St) (kk : Nat) (v5 : Int32) (v13 : Int32) (v14 : Int32) (v15 : Int64) (v17 : Int32) : Prop := vp_in (6 : Int32) 32 ∧ (if (σ.1 18 (6 : Int32).toNatClampNeg) = (1 : Int32) then wL_law_848 K80 L xs σ kk v5 v13 v14 v15 v17 (1 : Int32) else wL_law_848 K80 L xs σ kk v5 v13 v14 v15 v17 (0 : Int32))
def wL_law_829 (K80 : St → Nat → Int32 → Prop) (K722 : St → Nat → Int32 → Int32 → Int32 → Int64 → Int32 → Prop) (L : Nat) (xs : Nat → Int32) (σ : St) (kk : Nat) (v5 : Int32) (v13 : Int32) (v14 : Int32) (v15 : Int64) (s0 : Int32) (s1 : Int32) : Prop := K722 σ kk v5 v13 v14 v15 (s1 + s0)
def wL_law_810 (K80 : St → Nat → Int32 → Prop) (K722 : St → Nat → Int32 → Int32 → Int32 → Int64 → Int32 → Prop) (L : Nat) (xs : Nat → Int32) (σ : St) (kk : Nat) (v5 : Int32) (v13 : Int32) (v14 : Int32) (v15 : Int64) (v17 : Int32) (s0 : Int32) : Prop := wL_hour σ 19 s0 (fun r56 σ55 => (if (-1 : Int32) ≤ r56 then wL_law_829 K80 K722 L xs σ55 kk v5 v13 v14 v15 (1 : Int32) v17 else wL_law_829 K80 K722 L xs σ55 kk v5 v13 v14 v15 (0 : Int32) v17))
def wL_law_809 (K80 : St → Nat → Int32 → Prop) (K722 : St → Nat → Int32 → Int32 → Int32 → Int64 → Int32 → Prop) (L : Nat) (xs : Nat → Int32) (σ : St) (kk : Nat) (v5 : Int32) (v13 : Int32) (v14 : Int32) (v15 : Int64) (v17 : Int32) : Prop := wL_law_810 K80 K722 L xs σ kk v5 v13 v14 v15 v17 (0 : Int32)
def wL_law_780 (K80 : St → Nat → Int32 → Prop) (K722 : St → Nat → Int32 → Int32 → Int32 → Int64 → Int32 → Prop) (L : Nat) (xs : Nat → Int32) (σ : St) (kk : Nat) (v5 : Int32) (v13 : Int32) (v14 : Int32) (v15 : Int64) (v17 : Int32) (s0 : Int32) : Prop := vp_in (0 : Int32) 32 ∧ (if ((σ.1 19 (0 : Int32).toNatClampNeg) - s0) ≤ (9 : Int32) then wL_law_809 K80 K722 L xs σ kk v5 v13 v14 v15 v17 else vp_in (0 : Int32) 32 ∧ (if (41 : Int32) ≤ ((σ.1 19 (0 : Int32).toNatClampNeg) - s0) then wL_law_809 K80 K722 L xs σ kk v5 v13 v14 v15 v17 else wL_law_810 K80 K722 L xs σ kk v5 v13 v14 v15 v17 s0))
def wL_law_722 (K80 : St → Nat → Int32 → Prop) (L : Nat) (xs : Nat → Int32) : Nat → St → Nat → Int32 → Int32 → Int32 → Int64 → Int32 → Prop
  | 0, _, _, _, _, _, _, _ => False
  | n + 1, σ, kk, v5, v13, v14, v15, v17 => (if v13 ≤ v17 then wL_law_835 K80 L xs σ kk v5 v13 v14 v15 v17 else vp_in (6 : Int32) 32 ∧ (if (σ.1 19 (6 : Int32).toNatClampNeg) = 0 then (¬ (2147483648 : Int64) = 0) ∧ (¬ (65536 : Int64) = 0) ∧ (¬ (7 : Int64) = 0) ∧ (if (4 : Int32) ≤ ((((((1103515245 : Int64) * v15) + (12345 : Int64)) - (((1103515245 : Int64) * v15) + (12345 : Int64)) / (2147483648 : Int64) * (2147483648 : Int64)) / (65536 : Int64)) - (((((1103515245 : Int64) * v15) + (12345 : Int64)) - (((1103515245 : Int64) * v15) + (12345 : Int64)) / (2147483648 : Int64) * (2147483648 : Int64)) / (65536 : Int64)) / (7 : Int64) * (7 : Int64)).toInt32 then wL_law_780 K80 (wL_law_722 K80 L xs n) L xs σ kk v5 v13 v14 ((((1103515245 : Int64) * v15) + (12345 : Int64)) - (((1103515245 : Int64) * v15) + (12345 : Int64)) / (2147483648 : Int64) * (2147483648 : Int64)) v17 ((3 : Int32) - ((((((1103515245 : Int64) * v15) + (12345 : Int64)) - (((1103515245 : Int64) * v15) + (12345 : Int64)) / (2147483648 : Int64) * (2147483648 : Int64)) / (65536 : Int64)) - (((((1103515245 : Int64) * v15) + (12345 : Int64)) - (((1103515245 : Int64) * v15) + (12345 : Int64)) / (2147483648 : Int64) * (2147483648 : Int64)) / (65536 : Int64)) / (7 : Int64) * (7 : Int64)).toInt32) else wL_law_780 K80 (wL_law_722 K80 L xs n) L xs σ kk v5 v13 v14 ((((1103515245 : Int64) * v15) + (12345 : Int64)) - (((1103515245 : Int64) * v15) + (12345 : Int64)) / (2147483648 : Int64) * (2147483648 : Int64)) v17 ((((((1103515245 : Int64) * v15) + (12345 : Int64)) - (((1103515245 : Int64) * v15) + (12345 : Int64)) / (2147483648 : Int64) * (2147483648 : Int64)) / (65536 : Int64)) - (((((1103515245 : Int64) * v15) + (12345 : Int64)) - (((1103515245 : Int64) * v15) + (12345 : Int64)) / (2147483648 : Int64) * (2147483648 : Int64)) / (65536 : Int64)) / (7 : Int64) * (7 : Int64)).toInt32) else wL_law_835 K80 L xs σ kk v5 v13 v14 v15 v17))
def wL_law_698 (K80 : St → Nat → Int32 → Prop) (L : Nat) (xs : Nat → Int32) : Nat → St → Nat → Int32 → Int32 → Int32 → Int64 → Int32 → Prop
  | 0, _, _, _, _, _, _, _ => False
  | n + 1, σ, kk, v5, v13, v14, v15, v17 => (if (32 : Int32) ≤ v17 then ∃ n0, wL_law_722 K80 L xs n0 σ kk v5 v13 v14 v15 (0 : Int32) else vp_in v17 32 ∧ vp_in v17 32 ∧ wL_law_698 K80 L xs n (sV σ 19 v17.toNatClampNeg (σ.1 18 v17.toNatClampNeg)) kk v5 v13 v14 v15 (v17 + 1))
def wL_law_649 (K80 : St → Nat → Int32 → Prop) (L : Nat) (xs : Nat → Int32) (σ : St) (kk : Nat) (v5 : Int32) (v6 : Int32) (s0 : Int32) (s1 : Int32) : Prop := (if s1 = s0 then (¬ (6 : Int32) = 0) ∧ (if (v5 - v5 / (6 : Int32) * (6 : Int32)) = (2 : Int32) then (¬ (512 : Int32) = 0) ∧ (¬ (60 : Int32) = 0) ∧ (¬ (6 : Int32) = 0) ∧ (¬ ((52 : Int32) + (v5 / (6 : Int32))) < 0) ∧ ∃ n0, wL_law_698 K80 L xs n0 σ kk v5 ((1 : Int32) + ((v6 / (512 : Int32)) - (v6 / (512 : Int32)) / (60 : Int32) * (60 : Int32))) (cellV xs L ((52 : Int32) + (v5 / (6 : Int32)))) (cellV xs L ((52 : Int32) + (v5 / (6 : Int32)))).toInt64 (0 : Int32) else wL_law_953 K80 L xs σ kk v5) else ((0 : Int32) = 1))
def wL_law_620 (K80 : St → Nat → Int32 → Prop) (K564 : St → Nat → Int32 → Int32 → Int32 → Int32 → Int32 → Int32 → Int32 → Prop) (L : Nat) (xs : Nat → Int32) (σ : St) (kk : Nat) (v5 : Int32) (v6 : Int32) (v9 : Int32) (v10 : Int32) (v11 : Int32) (v13 : Int32) (s0 : Int32) : Prop := K564 σ kk v5 v6 v9 v10 v11 s0 (v13 + (-1))
def wL_law_613 (K80 : St → Nat → Int32 → Prop) (K564 : St → Nat → Int32 → Int32 → Int32 → Int32 → Int32 → Int32 → Int32 → Prop) (L : Nat) (xs : Nat → Int32) (σ : St) (kk : Nat) (v5 : Int32) (v6 : Int32) (v9 : Int32) (v10 : Int32) (v11 : Int32) (v13 : Int32) : Prop := wL_law_620 K80 K564 L xs σ kk v5 v6 v9 v10 v11 v13 v13
def wL_law_564 (K80 : St → Nat → Int32 → Prop) (L : Nat) (xs : Nat → Int32) : Nat → St → Nat → Int32 → Int32 → Int32 → Int32 → Int32 → Int32 → Int32 → Prop
  | 0, _, _, _, _, _, _, _, _, _ => False
  | n + 1, σ, kk, v5, v6, v9, v10, v11, v12, v13 => (if v13 < 0 then wX11_caught σ v9 (fun r54 σ53 => vp_in (6 : Int32) 32 ∧ (if (σ53.1 18 (6 : Int32).toNatClampNeg) = (1 : Int32) then wL_law_649 K80 L xs σ53 kk v5 v6 (-103 : Int32) r54 else wL_law_649 K80 L xs σ53 kk v5 v6 v12 r54)) else vp_in (4 : Int32) 32 ∧ (¬ (360 : Int32) = 0) ∧ (¬ (360 : Int32) = 0) ∧ (if ((((((σ.1 18 (4 : Int32).toNatClampNeg) + ((v13 * v10) * (10 : Int32))) - v11) - (((σ.1 18 (4 : Int32).toNatClampNeg) + ((v13 * v10) * (10 : Int32))) - v11) / (360 : Int32) * (360 : Int32)) + (360 : Int32)) - (((((σ.1 18 (4 : Int32).toNatClampNeg) + ((v13 * v10) * (10 : Int32))) - v11) - (((σ.1 18 (4 : Int32).toNatClampNeg) + ((v13 * v10) * (10 : Int32))) - v11) / (360 : Int32) * (360 : Int32)) + (360 : Int32)) / (360 : Int32) * (360 : Int32)) < (6 : Int32) then wL_law_613 K80 (wL_law_564 K80 L xs n) L xs σ kk v5 v6 v9 v10 v11 v13 else (if ((((((σ.1 18 (4 : Int32).toNatClampNeg) + ((v13 * v10) * (10 : Int32))) - v11) - (((σ.1 18 (4 : Int32).toNatClampNeg) + ((v13 * v10) * (10 : Int32))) - v11) / (360 : Int32) * (360 : Int32)) + (360 : Int32)) - (((((σ.1 18 (4 : Int32).toNatClampNeg) + ((v13 * v10) * (10 : Int32))) - v11) - (((σ.1 18 (4 : Int32).toNatClampNeg) + ((v13 * v10) * (10 : Int32))) - v11) / (360 : Int32) * (360 : Int32)) + (360 : Int32)) / (360 : Int32) * (360 : Int32)) ≤ (354 : Int32) then wL_law_620 K80 (wL_law_564 K80 L xs n) L xs σ kk v5 v6 v9 v10 v11 v13 v12 else wL_law_613 K80 (wL_law_564 K80 L xs n) L xs σ kk v5 v6 v9 v10 v11 v13)))
def wL_law_496 (K80 : St → Nat → Int32 → Prop) (K429 : St → Nat → Int32 → Int32 → Int32 → Prop) (K441 : St → Nat → Int32 → Int32 → Int32 → Int32 → Prop) (L : Nat) (xs : Nat → Int32) (σ : St) (kk : Nat) (v5 : Int32) (v6 : Int32) (v9 : Int32) (v10 : Int32) (s0 : Int32) (s1 : Int32) : Prop := (if s1 = s0 then K441 σ kk v5 v6 v9 (v10 + 1) else ((0 : Int32) = 1))
def wL_law_495 (K80 : St → Nat → Int32 → Prop) (K429 : St → Nat → Int32 → Int32 → Int32 → Prop) (K441 : St → Nat → Int32 → Int32 → Int32 → Int32 → Prop) (L : Nat) (xs : Nat → Int32) (σ : St) (kk : Nat) (v5 : Int32) (v6 : Int32) (v9 : Int32) (v10 : Int32) (s0 : Int32) : Prop := wL_law_496 K80 K429 K441 L xs σ kk v5 v6 v9 v10 (-1 : Int32) s0
def wL_law_490 (K80 : St → Nat → Int32 → Prop) (K429 : St → Nat → Int32 → Int32 → Int32 → Prop) (K441 : St → Nat → Int32 → Int32 → Int32 → Int32 → Prop) (L : Nat) (xs : Nat → Int32) (σ : St) (kk : Nat) (v5 : Int32) (v6 : Int32) (v9 : Int32) (v10 : Int32) (s0 : Int32) : Prop := wL_law_496 K80 K429 K441 L xs σ kk v5 v6 v9 v10 v9 s0
def wL_law_441 (K80 : St → Nat → Int32 → Prop) (K429 : St → Nat → Int32 → Int32 → Int32 → Prop) (L : Nat) (xs : Nat → Int32) : Nat → St → Nat → Int32 → Int32 → Int32 → Int32 → Prop
  | 0, _, _, _, _, _, _ => False
  | n + 1, σ, kk, v5, v6, v9, v10 => (if (5 : Int32) ≤ v10 then K429 σ kk v5 v6 (v9 + 1) else vp_in ((8 : Int32) + ((4 : Int32) * v9)) 32 ∧ wX11_as σ v9 v10 (fun r52 σ51 => (if v10 = 0 then wL_law_490 K80 K429 (wL_law_441 K80 K429 L xs n) L xs σ51 kk v5 v6 v9 v10 r52 else (if v10 = (σ.1 18 ((8 : Int32) + ((4 : Int32) * v9)).toNatClampNeg) then wL_law_490 K80 K429 (wL_law_441 K80 K429 L xs n) L xs σ51 kk v5 v6 v9 v10 r52 else (if v10 = (3 : Int32) then (if (σ.1 18 ((8 : Int32) + ((4 : Int32) * v9)).toNatClampNeg) = (4 : Int32) then wL_law_490 K80 K429 (wL_law_441 K80 K429 L xs n) L xs σ51 kk v5 v6 v9 v10 r52 else wL_law_495 K80 K429 (wL_law_441 K80 K429 L xs n) L xs σ51 kk v5 v6 v9 v10 r52) else wL_law_495 K80 K429 (wL_law_441 K80 K429 L xs n) L xs σ51 kk v5 v6 v9 v10 r52)))))
def wL_law_429 (K80 : St → Nat → Int32 → Prop) (L : Nat) (xs : Nat → Int32) : Nat → St → Nat → Int32 → Int32 → Int32 → Prop
  | 0, _, _, _, _, _ => False
  | n + 1, σ, kk, v5, v6, v9 => vp_in (7 : Int32) 32 ∧ (if (σ.1 18 (7 : Int32).toNatClampNeg) ≤ v9 then (¬ (4096 : Int32) = 0) ∧ (¬ (99 : Int32) = 0) ∧ vp_in (0 : Int32) 32 ∧ wL_turns σ 18 (σ.1 18 (0 : Int32).toNatClampNeg) (fun r50 σ49 => (¬ (360 : Int32) = 0) ∧ (¬ (360 : Int32) = 0) ∧ ∃ n0, wL_law_564 K80 L xs n0 σ49 kk v5 v6 ((1 : Int32) + ((v6 / (4096 : Int32)) - (v6 / (4096 : Int32)) / (99 : Int32) * (99 : Int32))) r50 (((((90 : Int32) - (((1 : Int32) + ((v6 / (4096 : Int32)) - (v6 / (4096 : Int32)) / (99 : Int32) * (99 : Int32))) * r50)) - ((90 : Int32) - (((1 : Int32) + ((v6 / (4096 : Int32)) - (v6 / (4096 : Int32)) / (99 : Int32) * (99 : Int32))) * r50)) / (360 : Int32) * (360 : Int32)) + (360 : Int32)) - ((((90 : Int32) - (((1 : Int32) + ((v6 / (4096 : Int32)) - (v6 / (4096 : Int32)) / (99 : Int32) * (99 : Int32))) * r50)) - ((90 : Int32) - (((1 : Int32) + ((v6 / (4096 : Int32)) - (v6 / (4096 : Int32)) / (99 : Int32) * (99 : Int32))) * r50)) / (360 : Int32) * (360 : Int32)) + (360 : Int32)) / (360 : Int32) * (360 : Int32)) (-1 : Int32) (98 : Int32)) else ∃ n0, wL_law_441 K80 (wL_law_429 K80 L xs n) L xs n0 σ kk v5 v6 v9 (0 : Int32))
def wL_law_416 (K80 : St → Nat → Int32 → Prop) (L : Nat) (xs : Nat → Int32) (σ : St) (kk : Nat) (v5 : Int32) (v6 : Int32) : Prop := wL_told σ 18 (fun r48 σ47 => (if r48 = 0 then ((0 : Int32) = 1) else ∃ n0, wL_law_429 K80 L xs n0 σ47 kk v5 v6 (0 : Int32)))
def wL_law_386 (K80 : St → Nat → Int32 → Prop) (L : Nat) (xs : Nat → Int32) (σ : St) (kk : Nat) (v5 : Int32) (v6 : Int32) (v7 : Int32) : Prop := vp_in (6 : Int32) 32 ∧ (if (σ.1 18 (6 : Int32).toNatClampNeg) = (1 : Int32) then (if v7 = (15 : Int32) then (¬ (16 : Int32) = 0) ∧ wL_wire σ (v6 / (16 : Int32)) 18 (fun r46 σ45 => (if r46 = 0 then ((0 : Int32) = 1) else wL_law_416 K80 L xs σ45 kk v5 v6)) else wL_law_416 K80 L xs σ kk v5 v6) else wL_law_416 K80 L xs σ kk v5 v6)
def wL_law_355 (K80 : St → Nat → Int32 → Prop) (L : Nat) (xs : Nat → Int32) (σ : St) (kk : Nat) (v5 : Int32) (v6 : Int32) (v7 : Int32) : Prop := (if v7 = (14 : Int32) then vp_in (7 : Int32) 32 ∧ (if (6 : Int32) ≤ (σ.1 18 (7 : Int32).toNatClampNeg) then wL_law_386 K80 L xs σ kk v5 v6 v7 else (¬ (16 : Int32) = 0) ∧ (kk < 600) ∧ wL_thing σ (v6 / (16 : Int32)) 18 (fun r44 σ43 => (if r44 = 0 then ((0 : Int32) = 1) else wL_law_416 K80 L xs σ43 (kk + 1) v5 v6))) else wL_law_386 K80 L xs σ kk v5 v6 v7)
def wL_law_347 (K80 : St → Nat → Int32 → Prop) (L : Nat) (xs : Nat → Int32) (σ : St) (kk : Nat) (v5 : Int32) (v6 : Int32) (s0 : Int32) (s1 : Int32) : Prop := (if s1 = s0 then wL_law_416 K80 L xs σ kk v5 v6 else ((0 : Int32) = 1))
def wL_law_321 (K80 : St → Nat → Int32 → Prop) (L : Nat) (xs : Nat → Int32) (σ : St) (kk : Nat) (v5 : Int32) (v6 : Int32) (v8 : Int32) (v9 : Int32) (s0 : Int32) (s1 : Int32) : Prop := vp_in s1 32 ∧ wX11_carry (sV σ 18 s1.toNatClampNeg s0) v8 (fun r42 σ41 => (if v9 = 0 then wL_law_347 K80 L xs σ41 kk v5 v6 (-103 : Int32) r42 else vp_in ((10 : Int32) + ((4 : Int32) * v8)) 32 ∧ wL_law_347 K80 L xs σ41 kk v5 v6 (σ41.1 18 ((10 : Int32) + ((4 : Int32) * v8)).toNatClampNeg) r42))
def wL_law_283 (K80 : St → Nat → Int32 → Prop) (L : Nat) (xs : Nat → Int32) (σ : St) (kk : Nat) (v5 : Int32) (v6 : Int32) (v8 : Int32) (s0 : Int32) : Prop := (if s0 = 0 then vp_in ((10 : Int32) + ((4 : Int32) * v8)) 32 ∧ wL_law_321 K80 L xs σ kk v5 v6 v8 s0 (σ.1 18 ((10 : Int32) + ((4 : Int32) * v8)).toNatClampNeg) ((10 : Int32) + ((4 : Int32) * v8)) else vp_in ((10 : Int32) + ((4 : Int32) * v8)) 32 ∧ wL_law_321 K80 L xs σ kk v5 v6 v8 s0 ((1 : Int32) - (σ.1 18 ((10 : Int32) + ((4 : Int32) * v8)).toNatClampNeg)) ((10 : Int32) + ((4 : Int32) * v8)))
def wL_law_282 (K80 : St → Nat → Int32 → Prop) (L : Nat) (xs : Nat → Int32) (σ : St) (kk : Nat) (v5 : Int32) (v6 : Int32) (v8 : Int32) : Prop := wL_law_283 K80 L xs σ kk v5 v6 v8 (0 : Int32)
def wL_law_278 (K80 : St → Nat → Int32 → Prop) (L : Nat) (xs : Nat → Int32) (σ : St) (kk : Nat) (v5 : Int32) (v6 : Int32) (v8 : Int32) : Prop := wL_law_283 K80 L xs σ kk v5 v6 v8 (1 : Int32)
def wL_law_225 (K80 : St → Nat → Int32 → Prop) (L : Nat) (xs : Nat → Int32) (σ : St) (kk : Nat) (v5 : Int32) (v6 : Int32) (s0 : Int32) (s1 : Int32) : Prop := (if s1 = s0 then wL_law_416 K80 L xs σ kk v5 v6 else ((0 : Int32) = 1))
def wL_law_201 (K80 : St → Nat → Int32 → Prop) (L : Nat) (xs : Nat → Int32) (σ : St) (kk : Nat) (v5 : Int32) (v6 : Int32) (v9 : Int32) (s0 : Int32) : Prop := wX11_hour σ v9 (fun r38 σ37 => (if s0 = 0 then wL_law_225 K80 L xs σ37 kk v5 v6 (-103 : Int32) r38 else wL_hour σ37 18 v9 (fun r40 σ39 => wL_law_225 K80 L xs σ39 kk v5 v6 r40 r38)))
def wL_law_200 (K80 : St → Nat → Int32 → Prop) (L : Nat) (xs : Nat → Int32) (σ : St) (kk : Nat) (v5 : Int32) (v6 : Int32) (v9 : Int32) : Prop := wL_law_201 K80 L xs σ kk v5 v6 v9 (0 : Int32)
def wL_law_165 (K80 : St → Nat → Int32 → Prop) (L : Nat) (xs : Nat → Int32) (σ : St) (kk : Nat) (v5 : Int32) (v6 : Int32) (s0 : Int32) : Prop := vp_in (6 : Int32) 32 ∧ (if (σ.1 18 (6 : Int32).toNatClampNeg) = 0 then vp_in (0 : Int32) 32 ∧ (if ((σ.1 18 (0 : Int32).toNatClampNeg) - s0) ≤ (9 : Int32) then wL_law_200 K80 L xs σ kk v5 v6 s0 else vp_in (0 : Int32) 32 ∧ (if (41 : Int32) ≤ ((σ.1 18 (0 : Int32).toNatClampNeg) - s0) then wL_law_200 K80 L xs σ kk v5 v6 s0 else wL_law_201 K80 L xs σ kk v5 v6 s0 (1 : Int32))) else wL_law_200 K80 L xs σ kk v5 v6 s0)
def wL_law_126 (K80 : St → Nat → Int32 → Prop) (L : Nat) (xs : Nat → Int32) (σ : St) (kk : Nat) (v5 : Int32) (v6 : Int32) (v7 : Int32) (s0 : Int32) : Prop := (if (9 : Int32) ≤ v7 then (if (14 : Int32) ≤ v7 then wL_law_355 K80 L xs σ kk v5 v6 v7 else vp_in (7 : Int32) 32 ∧ (if (σ.1 18 (7 : Int32).toNatClampNeg) ≤ 0 then wL_law_355 K80 L xs σ kk v5 v6 v7 else vp_in (6 : Int32) 32 ∧ (if (σ.1 18 (6 : Int32).toNatClampNeg) = 0 then vp_in ((8 : Int32) + ((4 : Int32) * s0)) 32 ∧ (if (σ.1 18 ((8 : Int32) + ((4 : Int32) * s0)).toNatClampNeg) = (2 : Int32) then vp_in (0 : Int32) 32 ∧ wL_turns σ 18 (σ.1 18 (0 : Int32).toNatClampNeg) (fun r36 σ35 => (if (3 : Int32) ≤ r36 then wL_law_282 K80 L xs σ35 kk v5 v6 s0 else wL_law_278 K80 L xs σ35 kk v5 v6 s0)) else wL_law_278 K80 L xs σ kk v5 v6 s0) else wL_law_282 K80 L xs σ kk v5 v6 s0))) else (¬ (128 : Int32) = 0) ∧ (¬ (7 : Int32) = 0) ∧ (¬ (1024 : Int32) = 0) ∧ (¬ (3 : Int32) = 0) ∧ (if ((v6 / (1024 : Int32)) - (v6 / (1024 : Int32)) / (3 : Int32) * (3 : Int32)) = 0 then wL_law_165 K80 L xs σ kk v5 v6 (0 : Int32) else wL_law_165 K80 L xs σ kk v5 v6 (((v6 / (128 : Int32)) - (v6 / (128 : Int32)) / (7 : Int32) * (7 : Int32)) - (3 : Int32))))
def wL_law_80 (L : Nat) (xs : Nat → Int32) : Nat → St → Nat → Int32 → Prop
  | 0, _, _, _ => False
  | n + 1, σ, kk, v5 => (if (44 : Int32) ≤ v5 then wX11_cabin σ (2 : Int32) (0 : Int32) (fun r6 σ5 => (if r6 = (-101 : Int32) then wX11_cabin σ5 (0 : Int32) (4 : Int32) (fun r8 σ7 => (if r8 = (-102 : Int32) then vp_in (7 : Int32) 32 ∧ wX11_about σ7 (σ7.1 18 (7 : Int32).toNatClampNeg) (0 : Int32) (fun r10 σ9 => (if r10 = (-101 : Int32) then vp_in (7 : Int32) 32 ∧ wX11_as σ9 (σ9.1 18 (7 : Int32).toNatClampNeg) (0 : Int32) (fun r12 σ11 => (if r12 = (-101 : Int32) then wX11_carry σ11 (6 : Int32) (fun r14 σ13 => (if r14 = (-101 : Int32) then wX11_hour σ13 (4 : Int32) (fun r16 σ15 => (if r16 = (-102 : Int32) then wX11_hour σ15 (-4 : Int32) (fun r18 σ17 => (if r18 = (-102 : Int32) then wX11_caught σ17 (0 : Int32) (fun r20 σ19 => (if r20 = (-102 : Int32) then wX11_caught σ19 (100 : Int32) (fun r22 σ21 => (if r22 = (-102 : Int32) then wX11_whirls σ21 (0 : Int32) (1 : Int32) (0 : Int32) (fun r24 σ23 => (if r24 = (-102 : Int32) then wX11_whirls σ23 (61 : Int32) (1 : Int32) (0 : Int32) (fun r26 σ25 => (if r26 = (-102 : Int32) then wX11_whirls σ25 (1 : Int32) (-1 : Int32) (0 : Int32) (fun r28 σ27 => (if r28 = (-102 : Int32) then wX11_whirls σ27 (1 : Int32) (1 : Int32) (4 : Int32) (fun r30 σ29 => (if r30 = (-102 : Int32) then vp_in (7 : Int32) 32 ∧ (if (σ29.1 18 (7 : Int32).toNatClampNeg) = 0 then ((1 : Int32) = 1) else wX11_about σ29 (0 : Int32) (5 : Int32) (fun r32 σ31 => (if r32 = (-102 : Int32) then wX11_as σ31 (0 : Int32) (5 : Int32) (fun r34 σ33 => (if r34 = (-102 : Int32) then ((1 : Int32) = 1) else ((0 : Int32) = 1))) else ((0 : Int32) = 1)))) else ((0 : Int32) = 1))) else ((0 : Int32) = 1))) else ((0 : Int32) = 1))) else ((0 : Int32) = 1))) else ((0 : Int32) = 1))) else ((0 : Int32) = 1))) else ((0 : Int32) = 1))) else ((0 : Int32) = 1))) else ((0 : Int32) = 1))) else ((0 : Int32) = 1))) else ((0 : Int32) = 1))) else ((0 : Int32) = 1))) else ((0 : Int32) = 1))) else (¬ ((8 : Int32) + v5) < 0) ∧ (¬ (16 : Int32) = 0) ∧ vp_in (7 : Int32) 32 ∧ (if (σ.1 18 (7 : Int32).toNatClampNeg) = 0 then wL_law_126 (wL_law_80 L xs n) L xs σ kk v5 (cellV xs L ((8 : Int32) + v5)) ((cellV xs L ((8 : Int32) + v5)) - (cellV xs L ((8 : Int32) + v5)) / (16 : Int32) * (16 : Int32)) (0 : Int32) else (¬ (16 : Int32) = 0) ∧ vp_in (7 : Int32) 32 ∧ (¬ (σ.1 18 (7 : Int32).toNatClampNeg) = 0) ∧ wL_law_126 (wL_law_80 L xs n) L xs σ kk v5 (cellV xs L ((8 : Int32) + v5)) ((cellV xs L ((8 : Int32) + v5)) - (cellV xs L ((8 : Int32) + v5)) / (16 : Int32) * (16 : Int32)) (((cellV xs L ((8 : Int32) + v5)) / (16 : Int32)) - ((cellV xs L ((8 : Int32) + v5)) / (16 : Int32)) / (σ.1 18 (7 : Int32).toNatClampNeg) * (σ.1 18 (7 : Int32).toNatClampNeg))))
def wL_law_46 (L : Nat) (xs : Nat → Int32) : Nat → St → Nat → Int32 → Int32 → Prop
  | 0, _, _, _, _ => False
  | n + 1, σ, kk, v4, v5 => (if v4 ≤ v5 then ∃ n0, wL_law_80 L xs n0 σ kk (0 : Int32) else (¬ ((2 : Int32) + v5) < 0) ∧ (kk < 600) ∧ wL_thing σ (cellV xs L ((2 : Int32) + v5)) 18 (fun r4 σ3 => (if r4 = 0 then ((0 : Int32) = 1) else wL_law_46 L xs n σ3 (kk + 1) v4 (v5 + 1))))
def wL_law (L : Nat) (xs : Nat → Int32) (σ : St) (kk : Nat) : Prop := (¬ (0 : Int32) < 0) ∧ wL_wire σ (cellV xs L (0 : Int32)) 18 (fun r2 σ1 => (if r2 = 0 then ((0 : Int32) = 1) else (¬ (1 : Int32) < 0) ∧ (¬ (6 : Int32) = 0) ∧ ∃ n0, wL_law_46 L xs n0 σ1 kk ((cellV xs L (1 : Int32)) - (cellV xs L (1 : Int32)) / (6 : Int32) * (6 : Int32)) (0 : Int32)))
end
section
/-! PURE PART A: words of the meaning; what the small methods answer -/
theorem lg_cmp_self (x : Int64) : lg_cmp x x = 0 := by
  unfold lg_cmp
  rw [if_neg (by simp), if_pos rfl]
theorem z01 : ((0 : Int32) = 0 ∨ (0 : Int32) = 1) = True := by simp
theorem o01 : ((1 : Int32) = 0 ∨ (1 : Int32) = 1) = True := by simp
theorem nz6 : (¬ (6 : Int32) = 0) = True := by simp
theorem nz100 : (¬ (100 : Int32) = 0) = True := by simp
theorem nz360 : (¬ (360 : Int32) = 0) = True := by simp
theorem bi0 {c : Prop} [Decidable c] : ((if c then (1 : Int32) else 0) = 0) = ¬ c := by by_cases h : c <;> simp [h]
theorem bi01 {c : Prop} [Decidable c] : ((if c then (1 : Int32) else 0) = 0 ∨ (if c then (1 : Int32) else 0) = 1) = True := by by_cases h : c <;> simp [h]
theorem iteN {c : Prop} [Decidable c] {A B : Prop} : (if ¬ c then A else B) = (if c then B else A) := by by_cases h : c <;> simp [h]
theorem e_isLen (σ : St) (v : Int32) (Φ : Int32 → St → Prop) : wX11_isLength σ v Φ = Φ (if 10 ≤ v ∧ v ≤ 40 then 1 else 0) σ := by
  unfold wX11_isLength
  simp only [true_or, or_true, true_and]
  by_cases h : v < 10
  · rw [if_pos h, if_neg (by grind)]
  · rw [if_neg h]
    by_cases h2 : 40 < v
    · rw [if_pos h2, if_neg (by grind)]
    · rw [if_neg h2, if_pos (by grind)]
theorem e_isCabin (σ : St) (v : Int32) (Φ : Int32 → St → Prop) : wX11_isCabin σ v Φ = Φ (if 0 ≤ v ∧ v ≤ 1 then 1 else 0) σ := by
  unfold wX11_isCabin
  simp only [true_or, or_true, true_and]
  by_cases h : v < 0
  · rw [if_pos h, if_neg (by grind)]
  · rw [if_neg h]
    by_cases h2 : 2 ≤ v
    · rw [if_pos h2, if_neg (by grind)]
    · rw [if_neg h2, if_pos (by grind)]
theorem e_isKind (σ : St) (v : Int32) (Φ : Int32 → St → Prop) : wX11_isKind σ v Φ = Φ (if 0 ≤ v ∧ v ≤ 4 then 1 else 0) σ := by
  unfold wX11_isKind
  simp only [true_or, or_true, true_and]
  by_cases h : v < 0
  · rw [if_pos h, if_neg (by grind)]
  · rw [if_neg h]
    by_cases h2 : 4 < v
    · rw [if_pos h2, if_neg (by grind)]
    · rw [if_neg h2, if_pos (by grind)]
theorem e_isThere (σ : St) (k : Nat) (Φ : Int32 → St → Prop) : wX0_isThere σ k Φ = Φ (if 0 < σ.1 k 0 then 1 else 0) σ := by
  unfold wX0_isThere
  simp only [true_or, or_true, true_and]
  by_cases h : σ.1 k 0 ≤ 0
  · rw [if_pos h, if_neg (by grind)]
  · rw [if_neg h, if_pos (by grind)]
theorem e_isWhole (σ : St) (k : Nat) (Φ : Int32 → St → Prop) : wX0_isWhole σ k Φ = Φ (if 0 < σ.1 k 0 ∧ σ.1 k 6 = 0 then 1 else 0) σ := by
  unfold wX0_isWhole
  simp only [true_or, or_true, true_and]
  by_cases h : σ.1 k 0 ≤ 0
  · rw [if_pos h, if_neg (by grind)]
  · rw [if_neg h]
    by_cases h2 : σ.1 k 6 = 0
    · rw [if_pos h2, if_pos ⟨by grind, h2⟩]
    · rw [if_neg h2, if_neg (fun q => h2 q.2)]
theorem e_min (σ : St) (a b : Int32) (Φ : Int32 → St → Prop) : wJ9_min_7cf53 σ a b Φ = Φ (if b < a then b else a) σ := by
  unfold wJ9_min_7cf53
  by_cases h : b < a <;> simp [h]
theorem e_winding (σ : St) (a : Int32) (Φ : Int32 → St → Prop) : wX11_windingOf σ a Φ = Φ (if a ≤ 3 then a else 3 - a) σ := by
  unfold wX11_windingOf
  by_cases h : a ≤ 3
  · rw [if_neg (by grind), if_pos h]
  · rw [if_pos (by grind), if_neg h]
theorem len_nat {v : Int32} (h : 10 ≤ v ∧ v ≤ 40) : ∃ n : Nat, v = nI n ∧ 10 ≤ n ∧ n ≤ 40 := by
  obtain ⟨j, hj, rfl⟩ := nI_of2 (x := v) (M := 40) (n := 40) rfl (by grind) h.2
  refine ⟨j, rfl, ?_, hj⟩
  have := (nI_leI (a := 10) (b := j) (by omega) (by omega)).mp h.1
  exact this
theorem sq_ne {v : Int32} (h : 10 ≤ v ∧ v ≤ 40) : ¬ v * v = 0 := by
  obtain ⟨n, rfl, h1, h2⟩ := len_nat h
  have : ∀ n, n < 41 → 10 ≤ n → ¬ (nI n * nI n = 0) := by decide +kernel
  exact this n (by omega) h1
def turnsS (sp l : Int32) : Int32 := if 10 ≤ l ∧ l ≤ 40 then sp / (l * l) else 0
theorem e_turnsAt (σ : St) (k : Nat) (l : Int32) (Φ : Int32 → St → Prop) : wX0_turnsAt σ k l Φ = Φ (turnsS (σ.1 k 1) l) σ := by
  unfold wX0_turnsAt turnsS
  by_cases h : l < 10
  · rw [if_pos h, if_neg (by grind)]
  · rw [if_neg h]
    by_cases h2 : 40 < l
    · rw [if_pos h2, if_neg (by grind)]
    · have h3 : 10 ≤ l ∧ l ≤ 40 := by grind
      rw [if_neg h2, if_pos h3]
      simp [sq_ne h3]
theorem e_turnsNow (σ : St) (k : Nat) (Φ : Int32 → St → Prop) : wX0_turnsNow σ k Φ = Φ (turnsS (σ.1 k 1) (σ.1 k 0)) σ := by
  unfold wX0_turnsNow
  rw [e_turnsAt]
def armS (c l f s : Int32) : Int32 := if c = 0 then (l * s) / (f + s) else l - (l * s) / (f + s)
def floorS (sp c l f s : Int32) : Int32 := (armS c l f s * turnsS sp l) * turnsS sp l
def strainS (sp l f s : Int32) : Int32 := (f * floorS sp 0 l f s) / 100
theorem e_armAt (σ : St) (k : Nat) (c l f s : Int32) (Φ : Int32 → St → Prop) (h : ¬ f + s ≤ 0) : wX0_armAt σ k c l f s Φ = Φ (armS c l f s) σ := by
  unfold wX0_armAt wX0_armAt_22 armS
  rw [if_neg h]
  have h0 : ¬ f + s = 0 := by grind
  by_cases hc : c = 0 <;> simp [hc, h0]
theorem e_floorAt (σ : St) (k : Nat) (c l f s : Int32) (Φ : Int32 → St → Prop) (h : ¬ f + s ≤ 0) : wX0_floorAt σ k c l f s Φ = Φ (floorS (σ.1 k 1) c l f s) σ := by
  unfold wX0_floorAt floorS
  rw [e_turnsAt, e_armAt _ _ _ _ _ _ _ h]
theorem e_strainBy (σ : St) (k : Nat) (f x : Int32) (Φ : Int32 → St → Prop) : wX0_strainBy σ k f x Φ = Φ ((f * x) / 100) σ := by
  unfold wX0_strainBy
  rw [nz100, true_and]
theorem e_strainF (σ : St) (k : Nat) (l f s : Int32) (Φ : Int32 → St → Prop) (h : ¬ f + s ≤ 0) : wX0_floorAt σ k 0 l f s (fun r σ1 => wX0_strainBy σ1 k f r Φ) = Φ (strainS (σ.1 k 1) l f s) σ := by
  unfold strainS
  rw [e_floorAt _ _ _ _ _ _ _ h, e_strainBy]
def wgS (K W M : Nat → Int32) (h : Int32) (i : Nat) : Int32 := W i + (if K i = 1 then 2 else if K i = 3 then (h - M i) / 6 else if K i = 4 then 2 * ((h - M i) / 6) else 0)
def cabS (K W P M : Nat → Int32) (c h : Int32) (mv : Nat → Bool) : Nat → Int32
  | 0 => 10
  | n + 1 => if (decide (P n = c)) != mv n then cabS K W P M c h mv n + wgS K W M h n else cabS K W P M c h mv n
def noM : Nat → Bool := fun _ => false
/-- a row of the law: a THING's kind, weight, place, since when -/
abbrev rK (r : Nat → Int32) (i : Nat) : Int32 := r (8 + 4 * i)
abbrev rW (r : Nat → Int32) (i : Nat) : Int32 := r (9 + 4 * i)
abbrev rP (r : Nat → Int32) (i : Nat) : Int32 := r (10 + 4 * i)
abbrev rM (r : Nat → Int32) (i : Nat) : Int32 := r (11 + 4 * i)
abbrev wgQ (r : Nat → Int32) (h : Int32) (i : Nat) : Int32 := wgS (rK r) (rW r) (rM r) h i
abbrev cabQ (r : Nat → Int32) (c h : Int32) (n : Nat) : Int32 := cabS (rK r) (rW r) (rP r) (rM r) c h noM n
abbrev wgV (V : Nat → Nat → Int32) (h : Int32) (i : Nat) : Int32 := wgS (rK (V 18)) (rW (V 18)) (rM (V 18)) h i
abbrev cabV (V : Nat → Nat → Int32) (c h : Int32) (mv : Nat → Bool) (n : Nat) : Int32 := cabS (rK (V 18)) (rW (V 18)) (rP (V 18)) (rM (V 18)) c h mv n
def TB (V : Nat → Nat → Int32) (nt hh : Nat) : Prop := nt ≤ 6 ∧ hh ≤ 1000 ∧ ∀ i, i < nt → ∃ w c : Nat, rW (V 18) i = nI w ∧ w ≤ 20 ∧ rM (V 18) i = nI c ∧ c ≤ hh
theorem nI_sub {a b : Nat} (h : b ≤ a) : nI a - nI b = nI (a - b) := by
  have e : nI (a - b) + nI b = nI a := by rw [nI_add, Nat.sub_add_cancel h]
  rw [← e]
  grind
theorem nI_mul (a b : Nat) : nI a * nI b = nI (a * b) := by
  unfold nI
  simp [Int32.ofNat_mul]
theorem wg_nat {V : Nat → Nat → Int32} {nt hh : Nat} (h : TB V nt hh) {i : Nat} (hi : i < nt) : ∃ m : Nat, wgV V (nI hh) i = nI m ∧ m ≤ 400 := by
  obtain ⟨h1, h2, h3⟩ := h
  obtain ⟨w, c, e1, e2, e3, e4⟩ := h3 i hi
  unfold wgV wgS
  rw [e1, e3, nI_sub e4, show (6 : Int32) = nI 6 from rfl, pk_div (by omega) (by omega) (by omega), show (2 : Int32) = nI 2 from rfl, nI_mul, show (0 : Int32) = nI 0 from rfl]
  have hd : (hh - c) / 6 ≤ 167 := by omega
  split
  · exact ⟨w + 2, nI_add _ _, by omega⟩
  · split
    · exact ⟨_, nI_add _ _, by omega⟩
    · split
      · exact ⟨_, nI_add _ _, by omega⟩
      · exact ⟨_, nI_add _ _, by omega⟩
theorem cw_nat {V : Nat → Nat → Int32} {nt hh : Nat} (h : TB V nt hh) (c : Int32) (mv : Nat → Bool) : ∀ n, n ≤ nt → ∃ m : Nat, cabV V c (nI hh) mv n = nI m ∧ 10 ≤ m ∧ m ≤ 10 + 400 * n
  | 0, _ => ⟨10, rfl, by omega, by omega⟩
  | n + 1, hn => by
    obtain ⟨m, e1, e2, e3⟩ := cw_nat h c mv n (by omega)
    obtain ⟨w, f1, f2⟩ := wg_nat h (show n < nt by omega)
    unfold cabV cabS
    split
    · refine ⟨m + w, ?_, by omega, by omega⟩
      rw [show cabS (rK (V 18)) (rW (V 18)) (rP (V 18)) (rM (V 18)) c (nI hh) mv n = nI m from e1, show wgS (rK (V 18)) (rW (V 18)) (rM (V 18)) (nI hh) n = nI w from f1, nI_add]
    · exact ⟨m, e1, e2, by omega⟩
theorem cw_pos {V : Nat → Nat → Int32} {nt hh : Nat} (h : TB V nt hh) (mv : Nat → Bool) : ¬ cabV V 0 (nI hh) mv nt + cabV V 1 (nI hh) mv nt ≤ 0 := by
  obtain ⟨a, e1, e2, e3⟩ := cw_nat h 0 mv nt (Nat.le_refl _)
  obtain ⟨b, f1, f2, f3⟩ := cw_nat h 1 mv nt (Nat.le_refl _)
  have := h.1
  rw [e1, f1, nI_add]
  exact nI_nle (by omega) (by omega)
def KD (tk : Nat) (kv : Int32) : Prop := (tk = 9 ∧ kv = 0) ∨ (tk = 1 ∧ kv = 1) ∨ (tk = 3 ∧ kv = 2) ∨ (tk = 5 ∧ kv = 3) ∨ (tk = 4 ∧ kv = 4)
def TXr (σ : St) (i a : Nat) : Prop := a ∈ σ.2.2.2.1 ∧ KD (σ.2.2.2.2.1 a) (rK (σ.1 18) i) ∧ σ.2.2.2.2.2 a 0 = rW (σ.1 18) i ∧ σ.2.2.2.2.2 a 1 = rM (σ.1 18) i ∧ σ.2.2.2.2.2 a 2 = rP (σ.1 18) i
def ThX (σ : St) (nt : Nat) : Prop := nt ≤ 6 ∧ σ.1 4 2 = nI nt ∧ ∀ i, i < nt → ∃ a, σ.2.2.1 i = some a ∧ TXr σ i a
theorem TXr.isT {σ : St} {i a : Nat} (h : TXr σ i a) : isT σ a := by
  refine ⟨h.1, ?_⟩
  rcases h.2.1 with ⟨e, -⟩ | ⟨e, -⟩ | ⟨e, -⟩ | ⟨e, -⟩ | ⟨e, -⟩ <;> simp [e]
theorem i_hours {σ : St} {i a : Nat} (h : TXr σ i a) {hr : Int32} {Φ : Int32 → St → Prop} (hp : Φ (hr - rM (σ.1 18) i) σ) : wX9_hoursHere σ a hr Φ := by
  unfold wX9_hoursHere
  rw [h.2.2.2.1]
  exact ⟨h.isT, hp⟩
theorem i_wT {σ : St} {i a : Nat} (h : TXr σ i a) {hr : Int32} {Φ : Int32 → St → Prop} (hp : Φ (wgV σ.1 hr i) σ) : wT_weighs_13459 σ a hr Φ := by
  unfold wT_weighs_13459
  refine ⟨h.1, ?_⟩
  unfold wgV wgS at hp
  rcases h.2.1 with ⟨e, f⟩ | ⟨e, f⟩ | ⟨e, f⟩ | ⟨e, f⟩ | ⟨e, f⟩
  · refine Or.inr (Or.inr (Or.inr (Or.inr ⟨e, ?_⟩)))
    unfold wX9_weighs
    rw [h.2.2.1]
    rw [f] at hp
    exact ⟨h.isT, by simpa using hp⟩
  · refine Or.inl ⟨e, ?_⟩
    unfold wX1_weighs
    rw [h.2.2.1]
    rw [f] at hp
    exact ⟨h.isT, by simpa using hp⟩
  · refine Or.inr (Or.inl ⟨e, ?_⟩)
    unfold wX9_weighs
    rw [h.2.2.1]
    rw [f] at hp
    exact ⟨h.isT, by simpa using hp⟩
  · refine Or.inr (Or.inr (Or.inr (Or.inl ⟨e, ?_⟩)))
    unfold wX5_weighs
    rw [h.2.2.1, h.2.2.2.1]
    rw [f] at hp
    exact ⟨h.isT, h.isT, by decide, by simpa using hp⟩
  · refine Or.inr (Or.inr (Or.inl ⟨e, ?_⟩))
    unfold wX4_weighs
    rw [h.2.2.1, h.2.2.2.1]
    rw [f] at hp
    exact ⟨h.isT, h.isT, by decide, by simpa using hp⟩
theorem i_at {σ : St} {nt : Nat} (h : ThX σ nt) {i a : Nat} (hi : i < nt) (ha : σ.2.2.1 i = some a) {Φ : Option Nat → St → Prop} (hp : Φ (some a) σ) : wX6_at σ (nI i) Φ := by
  have := h.1
  unfold wX6_at
  rw [if_neg (nI_pos (by omega)), h.2.1, if_neg (nI_ge hi (by omega)), if_neg (show ¬ (6 : Int32) ≤ nI i from nI_ge (b := 6) (by omega) (by omega)), nI_clamp (by omega), ha]
  exact ⟨vp_in_nI (by omega) (by omega), hp⟩
theorem i_atNo {σ : St} {nt : Nat} (h : ThX σ nt) {v : Int32} (hv : v < 0 ∨ nI nt ≤ v) {Φ : Option Nat → St → Prop} (hp : Φ none σ) : wX6_at σ v Φ := by
  unfold wX6_at
  by_cases h1 : v < 0
  · rw [if_pos h1]; exact hp
  · rw [if_neg h1, h.2.1, if_pos (by rcases hv with q | q; exact absurd q h1; exact q)]; exact hp
theorem cab_s1 {K W P M : Nat → Int32} {c h : Int32} {mv : Nat → Bool} {n : Nat} (e : ((decide (P n = c)) != mv n) = true) : cabS K W P M c h mv n + wgS K W M h n = cabS K W P M c h mv (n + 1) := by
  rw [cabS, if_pos e]
theorem cab_s0 {K W P M : Nat → Int32} {c h : Int32} {mv : Nat → Bool} {n : Nat} (e : ((decide (P n = c)) != mv n) = false) : cabS K W P M c h mv n = cabS K W P M c h mv (n + 1) := by
  rw [cabS, if_neg (by rw [e]; decide)]
theorem i_weighsIn {σ : St} {nt : Nat} {c h : Int32} {Φ : Int32 → St → Prop} (hT : ThX σ nt) (hp : Φ (cabV σ.1 c h noM nt) σ) : wX6_weighsIn σ c h Φ := by
  have hn := hT.1
  have key : ∀ m i, i + m = nt → wX6_weighsIn_6 Φ (m + 1) σ c h (cabV σ.1 c h noM i) (nI i) := by
    intro m
    induction m with
    | zero =>
      intro i hi
      have : i = nt := by omega
      subst this
      rw [wX6_weighsIn_6, hT.2.1, if_pos (nI_le (Nat.le_refl _) (by omega))]
      exact hp
    | succ m ih =>
      intro i hi
      rw [wX6_weighsIn_6, hT.2.1, if_neg (nI_ge (by omega) (by omega))]
      obtain ⟨a, ha, hX⟩ := hT.2.2 i (by omega)
      have ih' := ih (i + 1) (by omega)
      refine i_at hT (by omega) ha ⟨(fun e => by cases e), fun b e => ?_⟩
      cases e
      refine ⟨hX.isT, ?_⟩
      rw [hX.2.2.2.2]
      by_cases hc : rP (σ.1 18) i = c
      · rw [if_pos hc]
        refine i_wT hX ?_
        unfold wX6_weighsIn_46
        rw [nI_1, show cabV σ.1 c h noM i + wgV σ.1 h i = cabV σ.1 c h noM (i + 1) from cab_s1 (by simp [hc, noM])]
        exact ih'
      · rw [if_neg hc]
        unfold wX6_weighsIn_46
        rw [nI_1, show cabV σ.1 c h noM i = cabV σ.1 c h noM (i + 1) from cab_s0 (by simp [hc, noM])]
        exact ih'
  exact ⟨nt + 1, key nt 0 (by omega)⟩
abbrev cab2 (V : Nat → Nat → Int32) (h : Int32) (mv : Nat → Bool) (nt : Nat) (f : Int32 → Int32 → Int32) : Int32 := f (cabV V 0 h mv nt) (cabV V 1 h mv nt)
theorem i_armNow {σ : St} {nt hh k : Nat} {c : Int32} {Φ : Int32 → St → Prop} (hT : ThX σ nt) (hB : TB σ.1 nt hh) (hk : σ.1 k 4 = nI hh) (hp : Φ (cab2 σ.1 (nI hh) noM nt (armS c (σ.1 k 0))) σ) : wX0_armNow σ k c Φ := by
  unfold wX0_armNow
  rw [hk]
  refine i_weighsIn hT (i_weighsIn hT ?_)
  rw [hk, e_armAt _ _ _ _ _ _ _ (cw_pos hB noM)]
  exact hp
theorem i_floorNow {σ : St} {nt hh k : Nat} {c : Int32} {Φ : Int32 → St → Prop} (hT : ThX σ nt) (hB : TB σ.1 nt hh) (hk : σ.1 k 4 = nI hh) (hp : Φ (cab2 σ.1 (nI hh) noM nt (floorS (σ.1 k 1) c (σ.1 k 0))) σ) : wX0_floorNow σ k c Φ := by
  unfold wX0_floorNow
  rw [hk]
  refine i_weighsIn hT (i_weighsIn hT ?_)
  rw [hk, e_floorAt _ _ _ _ _ _ _ (cw_pos hB noM)]
  exact hp
theorem i_strainNow {σ : St} {nt hh k : Nat} {Φ : Int32 → St → Prop} (hT : ThX σ nt) (hB : TB σ.1 nt hh) (hk : σ.1 k 4 = nI hh) (hp : Φ (cab2 σ.1 (nI hh) noM nt (strainS (σ.1 k 1) (σ.1 k 0))) σ) : wX0_strainNow σ k Φ := by
  unfold wX0_strainNow
  rw [hk]
  refine i_weighsIn hT (i_weighsIn hT ?_)
  rw [hk, e_strainF _ _ _ _ _ _ (cw_pos hB noM)]
  exact hp
def szS (P : Nat → Int32) (c : Int32) : Nat → Int32
  | 0 => 0
  | n + 1 => if P n = c then szS P c n + 1 else szS P c n
theorem i_sizeIn {σ : St} {nt : Nat} {c : Int32} {Φ : Int32 → St → Prop} (hT : ThX σ nt) (hp : Φ (szS (rP (σ.1 18)) c nt) σ) : wX6_sizeIn σ c Φ := by
  have hn := hT.1
  have key : ∀ m i, i + m = nt → wX6_sizeIn_4 Φ (m + 1) σ c (szS (rP (σ.1 18)) c i) (nI i) := by
    intro m
    induction m with
    | zero =>
      intro i hi
      have : i = nt := by omega
      subst this
      rw [wX6_sizeIn_4, hT.2.1, if_pos (nI_le (Nat.le_refl _) (by omega))]
      exact hp
    | succ m ih =>
      intro i hi
      rw [wX6_sizeIn_4, hT.2.1, if_neg (nI_ge (by omega) (by omega))]
      obtain ⟨a, ha, hX⟩ := hT.2.2 i (by omega)
      have ih' := ih (i + 1) (by omega)
      refine i_at hT (by omega) ha ⟨(fun e => by cases e), fun b e => ?_⟩
      cases e
      refine ⟨hX.isT, ?_⟩
      rw [hX.2.2.2.2]
      unfold wX6_sizeIn_36
      rw [nI_1]
      unfold szS at ih'
      by_cases hc : rP (σ.1 18) i = c
      · rw [if_pos hc]; rw [if_pos hc] at ih'; exact ih'
      · rw [if_neg hc]; rw [if_neg hc] at ih'; exact ih'
  exact ⟨nt + 1, key nt 0 (by omega)⟩
end
section
/-! PURE PART B: what the calls answer that only tell -/
def Rdy (σ : St) (nt hh : Nat) : Prop := ThX σ nt ∧ TB σ.1 nt hh ∧ σ.1 3 4 = nI hh
theorem TB.up {V : Nat → Nat → Int32} {nt hh h2 : Nat} (h : TB V nt hh) (h1 : hh ≤ h2) (h3 : h2 ≤ 1000) : TB V nt h2 := ⟨h.1, h3, fun i hi => by
  obtain ⟨w, c, e1, e2, e3, e4⟩ := h.2.2 i hi
  exact ⟨w, c, e1, e2, e3, by omega⟩⟩
def cabR (V : Nat → Nat → Int32) (nt hh : Nat) (c what : Int32) : Int32 := if what = 0 then cabV V c (nI hh) noM nt else if what = 1 then cab2 V (nI hh) noM nt (armS c (V 3 0)) else if what = 2 then cab2 V (nI hh) noM nt (floorS (V 3 1) c (V 3 0)) else szS (rP (V 18)) c nt
theorem sw3 {v : Int32} (h : 0 ≤ v ∧ v ≤ 3) : v = 0 ∨ v = 1 ∨ v = 2 ∨ (v = 3) := by grind
theorem x_cabin {σ : St} {nt hh : Nat} {c what : Int32} {Φ : Int32 → St → Prop} (h : Rdy σ nt hh) (hc : 0 ≤ c ∧ c ≤ 1) (hw : 0 ≤ what ∧ what ≤ 3) (hl : 0 < σ.1 3 0) (hp : Φ (cabR σ.1 nt hh c what) σ) : wX11_cabin σ c what Φ := by
  obtain ⟨hT, hB, h4⟩ := h
  unfold wX11_cabin
  rw [e_isCabin, if_pos hc, if_neg (by decide), if_neg (by grind), if_pos hw.2, e_isThere, if_pos hl, if_neg (by decide)]
  unfold cabR at hp
  rcases sw3 hw with rfl | rfl | rfl | rfl
  · refine ⟨fun _ => ?_, fun e => absurd e (by decide), fun e => absurd e (by decide), fun e => absurd e (by decide)⟩
    rw [h4]
    exact i_weighsIn hT (by simpa using hp)
  · refine ⟨fun e => absurd e (by decide), fun _ => ?_, fun e => absurd e (by decide), fun e => absurd e (by decide)⟩
    exact i_armNow hT hB h4 (by simpa using hp)
  · refine ⟨fun e => absurd e (by decide), fun e => absurd e (by decide), fun _ => ?_, fun e => absurd e (by decide)⟩
    exact i_floorNow hT hB h4 (by simpa using hp)
  · refine ⟨fun e => absurd e (by decide), fun e => absurd e (by decide), fun e => absurd e (by decide), fun _ => ?_⟩
    exact i_sizeIn hT (by simpa using hp)
theorem idx_cases (nt : Nat) (hn : nt ≤ 6) (v : Int32) : (∃ i, i < nt ∧ v = nI i) ∨ (v < 0 ∨ nI nt ≤ v) := by
  by_cases h : v < 0
  · exact Or.inr (Or.inl h)
  · by_cases h2 : nI nt ≤ v
    · exact Or.inr (Or.inr h2)
    · left
      obtain ⟨i, hi, rfl⟩ := nI_of h
      exact ⟨i, by
        by_cases q : i < nt
        · exact q
        · exact absurd (nI_le (by omega) hi) h2, rfl⟩
def aboutR (V : Nat → Nat → Int32) (hh : Nat) (i : Nat) (what : Int32) : Int32 := if what = 0 then rK (V 18) i else if what = 1 then rW (V 18) i else if what = 2 then rP (V 18) i else if what = 3 then wgV V (nI hh) i else nI hh - rM (V 18) i
theorem sw4 {v : Int32} (h : 0 ≤ v ∧ v ≤ 4) : v = 0 ∨ v = 1 ∨ v = 2 ∨ v = 3 ∨ v = 4 := by grind
theorem i_kind {σ : St} {i a : Nat} (h : TXr σ i a) {Φ : Int32 → St → Prop} (hp : Φ (rK (σ.1 18) i) σ) : wT_kind_13459 σ a Φ := by
  unfold wT_kind_13459
  refine ⟨h.1, ?_⟩
  rcases h.2.1 with ⟨e, f⟩ | ⟨e, f⟩ | ⟨e, f⟩ | ⟨e, f⟩ | ⟨e, f⟩ <;> rw [f] at hp
  · exact Or.inr (Or.inr (Or.inr (Or.inr ⟨e, hp⟩)))
  · exact Or.inl ⟨e, hp⟩
  · exact Or.inr (Or.inl ⟨e, hp⟩)
  · exact Or.inr (Or.inr (Or.inr (Or.inl ⟨e, hp⟩)))
  · exact Or.inr (Or.inr (Or.inl ⟨e, hp⟩))
theorem i_hoursT {σ : St} {i a : Nat} (h : TXr σ i a) {hr : Int32} {Φ : Int32 → St → Prop} (hp : Φ (hr - rM (σ.1 18) i) σ) : wT_hoursHere_13459 σ a hr Φ := by
  unfold wT_hoursHere_13459
  refine ⟨h.1, ?_⟩
  have q := i_hours h hp
  rcases h.2.1 with ⟨e, f⟩ | ⟨e, f⟩ | ⟨e, f⟩ | ⟨e, f⟩ | ⟨e, f⟩
  · exact Or.inr (Or.inr (Or.inr (Or.inr ⟨e, q⟩)))
  · exact Or.inl ⟨e, q⟩
  · exact Or.inr (Or.inl ⟨e, q⟩)
  · exact Or.inr (Or.inr (Or.inr (Or.inl ⟨e, q⟩)))
  · exact Or.inr (Or.inr (Or.inl ⟨e, q⟩))
theorem ne_d {a b : Int32} {P : Prop} (h : decide (a = b) = false) : a = b → P := fun e => absurd e (of_decide_eq_false h)
theorem x_about {σ : St} {nt hh i : Nat} {what : Int32} {Φ : Int32 → St → Prop} (h : Rdy σ nt hh) (hi : i < nt) (hw : 0 ≤ what ∧ what ≤ 4) (hp : Φ (aboutR σ.1 hh i what) σ) : wX11_about σ (nI i) what Φ := by
  obtain ⟨hT, hB, h4⟩ := h
  obtain ⟨a, ha, hX⟩ := hT.2.2 i hi
  unfold wX11_about
  refine i_at hT hi ha ⟨(fun e => by cases e), fun b e => ?_⟩
  cases e
  unfold aboutR at hp
  rcases sw4 hw with rfl | rfl | rfl | rfl | rfl
  · exact ⟨fun _ => i_kind hX (by simpa using hp), ne_d rfl, ne_d rfl, ne_d rfl, ne_d rfl, fun e => absurd e (by decide)⟩
  · exact ⟨ne_d rfl, fun _ => ⟨hX.isT, by rw [hX.2.2.1]; simpa using hp⟩, ne_d rfl, ne_d rfl, ne_d rfl, fun e => absurd e (by decide)⟩
  · exact ⟨ne_d rfl, ne_d rfl, fun _ => ⟨hX.isT, by rw [hX.2.2.2.2]; simpa using hp⟩, ne_d rfl, ne_d rfl, fun e => absurd e (by decide)⟩
  · exact ⟨ne_d rfl, ne_d rfl, ne_d rfl, fun _ => by rw [h4]; exact i_wT hX (by simpa using hp), ne_d rfl, fun e => absurd e (by decide)⟩
  · exact ⟨ne_d rfl, ne_d rfl, ne_d rfl, ne_d rfl, fun _ => by rw [h4]; exact i_hoursT hX (by simpa using hp), fun e => absurd e (by decide)⟩
def asR (V : Nat → Nat → Int32) (i : Nat) (what : Int32) : Int32 := if what = 0 ∨ rK (V 18) i = what ∨ (what = 3 ∧ rK (V 18) i = 4) then nI i else -1
theorem x_as {σ : St} {nt i : Nat} {what : Int32} {Φ : Int32 → St → Prop} (hT : ThX σ nt) (hi : i < nt) (hw : 0 ≤ what ∧ what ≤ 4) (hp : Φ (asR σ.1 i what) σ) : wX11_as σ (nI i) what Φ := by
  obtain ⟨a, ha, hX⟩ := hT.2.2 i hi
  unfold wX11_as
  refine i_at hT hi ha ⟨(fun e => by cases e), fun b e => ?_⟩
  cases e
  rw [e_isKind, if_pos hw, if_neg (by decide)]
  unfold wX11_isOfKind
  simp only [bi01, true_and, bi0]
  rcases sw4 hw with rfl | rfl | rfl | rfl | rfl <;> rcases hX.2.1 with ⟨e, f⟩ | ⟨e, f⟩ | ⟨e, f⟩ | ⟨e, f⟩ | ⟨e, f⟩ <;> simpa [e, f, asR, hX.isT] using hp
def countR (V : Nat → Nat → Int32) (nt hh : Nat) (what : Int32) : Int32 := if what = 0 then V 3 0 else if what = 1 then turnsS (V 3 1) (V 3 0) else if what = 2 then V 3 1 else if what = 3 then cab2 V (nI hh) noM nt (strainS (V 3 1) (V 3 0)) else if what = 4 then V 3 2 else if what = 5 then V 3 5 else if what = 6 then V 3 3 else if what = 7 then V 3 4 else if what = 8 then V 3 6 else if what = 9 then V 4 2 else if what = 10 then V 1 1 else if what = 11 then V 0 9 else if what = 12 then V 7 2 else -102
theorem sw12 {v : Int32} (h : ¬ (v.toInt < 0 ∨ 12 < v.toInt)) : v = 0 ∨ v = 1 ∨ v = 2 ∨ v = 3 ∨ v = 4 ∨ v = 5 ∨ v = 6 ∨ v = 7 ∨ v = 8 ∨ v = 9 ∨ v = 10 ∨ v = 11 ∨ v = 12 := by
  have : v.toInt = 0 ∨ v.toInt = 1 ∨ v.toInt = 2 ∨ v.toInt = 3 ∨ v.toInt = 4 ∨ v.toInt = 5 ∨ v.toInt = 6 ∨ v.toInt = 7 ∨ v.toInt = 8 ∨ v.toInt = 9 ∨ v.toInt = 10 ∨ v.toInt = 11 ∨ v.toInt = 12 := by omega
  rcases this with e | e | e | e | e | e | e | e | e | e | e | e | e <;> simp [← Int32.toInt_inj, e]
theorem one_id {v : Int32} (h : v = 0 ∨ v = 1) {Φ : Int32 → St → Prop} {σ : St} (hp : Φ v σ) : if v = 0 then Φ 0 σ else Φ 1 σ := by
  rcases h with rfl | rfl
  · rw [if_pos rfl]; exact hp
  · rw [if_neg (by decide)]; exact hp
theorem x_count {σ : St} {nt hh : Nat} {what : Int32} {Φ : Int32 → St → Prop} (h : Rdy σ nt hh) (h5 : σ.1 3 5 = 0 ∨ σ.1 3 5 = 1) (h6 : σ.1 3 6 = 0 ∨ σ.1 3 6 = 1) (hp : Φ (countR σ.1 nt hh what) σ) : wX11_count σ what Φ := by
  obtain ⟨hT, hB, h4⟩ := h
  unfold wX11_count
  unfold countR at hp
  refine ⟨?_, ?_, ?_, ?_, ?_, ?_, ?_, ?_, ?_, ?_, ?_, ?_, ?_, ?_⟩
  · rintro rfl; simpa using hp
  · rintro rfl; rw [e_turnsNow]; simpa using hp
  · rintro rfl; simpa using hp
  · rintro rfl; exact i_strainNow hT hB h4 (by simpa using hp)
  · rintro rfl; simpa using hp
  · rintro rfl; exact one_id h5 (by simpa using hp)
  · rintro rfl; simpa using hp
  · rintro rfl; simpa using hp
  · rintro rfl; exact one_id h6 (by simpa using hp)
  · rintro rfl; simpa using hp
  · rintro rfl; simpa using hp
  · rintro rfl; simpa using hp
  · rintro rfl; simpa using hp
  · intro e
    have z : ∀ m : Int32, 0 ≤ m.toInt ∧ m.toInt ≤ 12 → ¬ what = m := fun m hm q => by subst q; omega
    simp only [if_neg (z 0 (by decide)), if_neg (z 1 (by decide)), if_neg (z 2 (by decide)), if_neg (z 3 (by decide)), if_neg (z 4 (by decide)), if_neg (z 5 (by decide)), if_neg (z 6 (by decide)), if_neg (z 7 (by decide)), if_neg (z 8 (by decide)), if_neg (z 9 (by decide)), if_neg (z 10 (by decide)), if_neg (z 11 (by decide)), if_neg (z 12 (by decide))] at hp
    exact hp
theorem x_cabinU {σ : St} {c what : Int32} {Φ : Int32 → St → Prop} (hc : ¬ (0 ≤ c ∧ c ≤ 1)) (hp : Φ (-101) σ) : wX11_cabin σ c what Φ := by
  unfold wX11_cabin
  rw [e_isCabin, if_neg hc, if_pos rfl]
  exact hp
theorem x_cabinO {σ : St} {c what : Int32} {Φ : Int32 → St → Prop} (hc : 0 ≤ c ∧ c ≤ 1) (hw : 3 < what) (hp : Φ (-102) σ) : wX11_cabin σ c what Φ := by
  unfold wX11_cabin
  rw [e_isCabin, if_pos hc, if_neg (by decide)]
  by_cases q : what < 0
  · rw [if_pos q]; exact hp
  · rw [if_neg q, if_neg (show ¬ what ≤ 3 by grind)]; exact hp
theorem x_aboutU {σ : St} {nt : Nat} {v what : Int32} {Φ : Int32 → St → Prop} (hT : ThX σ nt) (hv : v < 0 ∨ nI nt ≤ v) (hp : Φ (-101) σ) : wX11_about σ v what Φ := by
  unfold wX11_about
  exact i_atNo hT hv ⟨fun _ => hp, (fun b e => by cases e)⟩
theorem x_aboutO {σ : St} {nt i : Nat} {Φ : Int32 → St → Prop} (hT : ThX σ nt) (hi : i < nt) (hp : Φ (-102) σ) : wX11_about σ (nI i) 5 Φ := by
  obtain ⟨a, ha, hX⟩ := hT.2.2 i hi
  unfold wX11_about
  refine i_at hT hi ha ⟨(fun e => by cases e), fun b e => ?_⟩
  exact ⟨fun e => absurd e (by decide), fun e => absurd e (by decide), fun e => absurd e (by decide), fun e => absurd e (by decide), fun e => absurd e (by decide), fun _ => hp⟩
theorem x_asU {σ : St} {nt : Nat} {v what : Int32} {Φ : Int32 → St → Prop} (hT : ThX σ nt) (hv : v < 0 ∨ nI nt ≤ v) (hp : Φ (-101) σ) : wX11_as σ v what Φ := by
  unfold wX11_as
  exact i_atNo hT hv ⟨fun _ => hp, (fun b e => by cases e)⟩
theorem x_asO {σ : St} {nt i : Nat} {Φ : Int32 → St → Prop} (hT : ThX σ nt) (hi : i < nt) (hp : Φ (-102) σ) : wX11_as σ (nI i) 5 Φ := by
  obtain ⟨a, ha, hX⟩ := hT.2.2 i hi
  unfold wX11_as
  refine i_at hT hi ha ⟨(fun e => by cases e), fun b e => ?_⟩
  rw [e_isKind, if_neg (show ¬ (0 ≤ (5 : Int32) ∧ (5 : Int32) ≤ 4) by decide), if_pos rfl]
  exact hp
theorem x_carryU {σ : St} {nt : Nat} {v : Int32} {Φ : Int32 → St → Prop} (hT : ThX σ nt) (hv : v < 0 ∨ nI nt ≤ v) (hp : Φ (-101) σ) : wX11_carry σ v Φ := by
  unfold wX11_carry
  exact i_atNo hT hv ⟨fun _ => hp, (fun b e => by cases e)⟩
theorem x_hourO {σ : St} {v : Int32} {Φ : Int32 → St → Prop} (hv : v < -3 ∨ 3 < v) (hp : Φ (-102) σ) : wX11_hour σ v Φ := by
  unfold wX11_hour
  by_cases q : v < -3
  · rw [if_pos q]; exact hp
  · rw [if_neg q, if_neg (show ¬ v ≤ 3 by grind)]; exact hp
theorem x_caughtO {σ : St} {v : Int32} {Φ : Int32 → St → Prop} (hv : v < 1 ∨ 99 < v) (hp : Φ (-102) σ) : wX11_caught σ v Φ := by
  unfold wX11_caught
  by_cases q : v < 1
  · rw [if_pos q]; exact hp
  · rw [if_neg q, if_neg (show ¬ v ≤ 99 by grind)]; exact hp
theorem x_whirlsO {σ : St} {v1 v2 v3 : Int32} {Φ : Int32 → St → Prop} (hv : v1 < 1 ∨ 60 < v1 ∨ v2 < 0 ∨ v3 < 0 ∨ 3 < v3) (hp : Φ (-102) σ) : wX11_whirls σ v1 v2 v3 Φ := by
  unfold wX11_whirls
  by_cases q1 : v1 < 1
  · rw [if_pos q1]; exact hp
  · rw [if_neg q1]
    by_cases q2 : 60 < v1
    · rw [if_pos q2]; exact hp
    · rw [if_neg q2]
      by_cases q3 : v2 < 0
      · rw [if_pos q3]; exact hp
      · rw [if_neg q3]
        by_cases q4 : v3 < 0
        · rw [if_pos q4]; exact hp
        · rw [if_neg q4, if_neg (show ¬ v3 ≤ 3 by grind)]; exact hp
/-! carry: the law's row has changed ahead of the call: what holds of the THING is said apart -/
theorem i_atN {σ : St} {nt i a : Nat} (hn : nt ≤ 6) (h2 : σ.1 4 2 = nI nt) (hi : i < nt) (ha : σ.2.2.1 i = some a) {Φ : Option Nat → St → Prop} (hp : Φ (some a) σ) : wX6_at σ (nI i) Φ := by
  unfold wX6_at
  rw [if_neg (nI_pos (by omega)), h2, if_neg (nI_ge hi (by omega)), if_neg (show ¬ (6 : Int32) ≤ nI i from nI_ge (b := 6) (by omega) (by omega)), nI_clamp (by omega), ha]
  exact ⟨vp_in_nI (by omega) (by omega), hp⟩
theorem i_goes {σ : St} {a : Nat} {kv : Int32} (hm : a ∈ σ.2.2.2.1) (hk : KD (σ.2.2.2.2.1 a) kv) {t : Int32} {Φ : Int32 → St → Prop} (hp : Φ (if kv = 2 ∧ 2 < t then 0 else 1) σ) : wT_goesAcross_13459 σ a t Φ := by
  unfold wT_goesAcross_13459 wX9_goesAcross wX3_goesAcross
  refine ⟨hm, ?_⟩
  rcases hk with ⟨e, f⟩ | ⟨e, f⟩ | ⟨e, f⟩ | ⟨e, f⟩ | ⟨e, f⟩ <;> rw [f] at hp
  · exact Or.inr (Or.inr (Or.inr (Or.inr ⟨e, by decide, by simpa using hp⟩)))
  · exact Or.inl ⟨e, by decide, by simpa using hp⟩
  · refine Or.inr (Or.inl ⟨e, ?_⟩)
    by_cases q : 2 < t
    · rw [if_pos q]; exact ⟨by decide, by simpa [q] using hp⟩
    · rw [if_neg q]; exact ⟨by decide, by simpa [q] using hp⟩
  · exact Or.inr (Or.inr (Or.inr (Or.inl ⟨e, by decide, by simpa using hp⟩)))
  · exact Or.inr (Or.inr (Or.inl ⟨e, by decide, by simpa using hp⟩))
theorem kd_isT {σ : St} {a : Nat} {kv : Int32} (hm : a ∈ σ.2.2.2.1) (hk : KD (σ.2.2.2.2.1 a) kv) : isT σ a := by
  refine ⟨hm, ?_⟩
  rcases hk with ⟨e, -⟩ | ⟨e, -⟩ | ⟨e, -⟩ | ⟨e, -⟩ | ⟨e, -⟩ <;> simp [e]
theorem x_carry {σ : St} {nt i a : Nat} {kv pl : Int32} {Φ : Int32 → St → Prop} (hn : nt ≤ 6) (h2 : σ.1 4 2 = nI nt) (hi : i < nt) (ha : σ.2.2.1 i = some a) (hm : a ∈ σ.2.2.2.1) (hk : KD (σ.2.2.2.2.1 a) kv) (hpl : σ.2.2.2.2.2 a 2 = pl) (hl : 0 < σ.1 3 0)
    (hy : σ.1 3 6 = 0 ∧ ¬ (kv = 2 ∧ 2 < turnsS (σ.1 3 1) (σ.1 3 0)) → Φ (1 - pl) (sT σ a 2 (1 - pl))) (hno : ¬ (σ.1 3 6 = 0 ∧ ¬ (kv = 2 ∧ 2 < turnsS (σ.1 3 1) (σ.1 3 0))) → Φ (-103) σ) : wX11_carry σ (nI i) Φ := by
  unfold wX11_carry
  refine i_atN hn h2 hi ha ⟨(fun e => by cases e), fun b e => ?_⟩
  cases e
  rw [e_isWhole]
  by_cases hb : σ.1 3 6 = 0
  · rw [if_pos (show 0 < σ.1 3 0 ∧ σ.1 3 6 = 0 from ⟨hl, hb⟩), if_neg (by decide), e_turnsNow]
    refine i_goes hm hk ?_
    by_cases hg : kv = 2 ∧ 2 < turnsS (σ.1 3 1) (σ.1 3 0)
    · rw [if_pos hg, if_pos rfl]
      exact hno (fun q => q.2 hg)
    · rw [if_neg hg, if_neg (by decide)]
      have hT : isT σ a := kd_isT hm hk
      have hT2 : ∀ v, isT (sT σ a 2 v) a := fun v => hT
      refine ⟨hT, hT, hT2 _, ?_⟩
      rw [hpl]
      have e2 : (sT σ a 2 (1 - pl)).2.2.2.2.2 a 2 = 1 - pl := by simp [sT, up2, va_up]
      have := hy ⟨hb, hg⟩
      rw [e2]
      exact this
  · rw [if_neg (show ¬ (0 < σ.1 3 0 ∧ σ.1 3 6 = 0) from fun q => hb q.2), if_pos rfl]
    exact hno (fun q => hb q.1)
end
section
/-! PURE PART C: states that are alike off cells 16 and 19; an hour; whirls, on the class's side -/
def Sim (σ τ : St) : Prop := (∀ k, k ≠ 16 → k ≠ 19 → τ.1 k = σ.1 k) ∧ τ.2.2 = σ.2.2
def Sim0 (σ τ : St) : Prop := (∀ k, k ≠ 16 → τ.1 k = σ.1 k) ∧ τ.2.2 = σ.2.2
theorem sm_of {σ τ : St} (h : Sim0 σ τ) : Sim σ τ := ⟨fun k h1 _ => h.1 k h1, h.2⟩
theorem s0_sV {σ τ : St} (h : Sim0 σ τ) {b : Nat} {v : Int32} : Sim0 σ (sV τ 16 b v) := by
  refine ⟨fun k' h1 => ?_, h.2⟩
  rw [← h.1 k' h1]
  show up2 τ.1 16 b v k' = τ.1 k'
  unfold up2 va_up
  rw [if_neg h1]
theorem sm_rfl {σ : St} : Sim σ σ := ⟨fun _ _ _ => rfl, rfl⟩
theorem sm_tr {a b c : St} (h : Sim a b) (g : Sim b c) : Sim a c := ⟨fun k h1 h2 => (g.1 k h1 h2).trans (h.1 k h1 h2), g.2.trans h.2⟩
theorem sm_sV {σ τ : St} (h : Sim σ τ) {k b : Nat} {v : Int32} (hs : k = 16 ∨ k = 19) : Sim σ (sV τ k b v) := by
  refine ⟨fun k' h1 h2 => ?_, h.2⟩
  rw [← h.1 k' h1 h2]
  show up2 τ.1 k b v k' = τ.1 k'
  unfold up2 va_up
  rw [if_neg (by rcases hs with q | q <;> omega)]
theorem sm_at {σ τ : St} (h : Sim σ τ) (k j : Nat) (h1 : k ≠ 16 := by omega) (h2 : k ≠ 19 := by omega) : τ.1 k j = σ.1 k j := congrFun (h.1 k h1 h2) j
theorem sm_4 {σ τ : St} (h : Sim σ τ) {a b c d : Nat} {v1 v2 v3 v4 : Int32} : Sim σ (sV (sV (sV (sV τ 16 a v1) 16 b v2) 16 c v3) 16 d v4) := sm_sV (sm_sV (sm_sV (sm_sV h (Or.inl rfl)) (Or.inl rfl)) (Or.inl rfl)) (Or.inl rfl)
theorem sm_thx {σ τ : St} {nt : Nat} (h : Sim σ τ) (hT : ThX σ nt) : ThX τ nt := by
  have e : τ.1 18 = σ.1 18 := h.1 18 (by omega) (by omega)
  refine ⟨hT.1, (sm_at h 4 2).trans hT.2.1, fun i hi => ?_⟩
  obtain ⟨a, ha, hx⟩ := hT.2.2 i hi
  refine ⟨a, by rw [h.2]; exact ha, ?_⟩
  unfold TXr at hx ⊢
  rw [h.2, e]
  exact hx
theorem sm_tb {σ τ : St} {nt hh : Nat} (h : Sim σ τ) (hB : TB σ.1 nt hh) : TB τ.1 nt hh := by
  have e : τ.1 18 = σ.1 18 := h.1 18 (by omega) (by omega)
  unfold TB at hB ⊢
  rw [e]
  exact hB
theorem sm_cab {σ τ : St} (h : Sim σ τ) (c hr : Int32) (mv : Nat → Bool) (n : Nat) : cabV τ.1 c hr mv n = cabV σ.1 c hr mv n := by
  have e : τ.1 18 = σ.1 18 := h.1 18 (by omega) (by omega)
  unfold cabV
  rw [e]
theorem sm_rdy {σ τ : St} {nt hh : Nat} (h : Sim σ τ) (hR : Rdy σ nt hh) : Rdy τ nt hh := ⟨sm_thx h hR.1, sm_tb h hR.2.1, (sm_at h 3 4).trans hR.2.2⟩
theorem i32_msb (x : Int32) : 0 ≤ x ↔ x.toBitVec.msb = false := by
  rw [Int32.le_iff_toInt_le, BitVec.msb_eq_toInt]
  show (0 : Int) ≤ x.toInt ↔ decide (x.toInt < 0) = false
  simp
theorem xor_sgn (x : Int32) : 0 ≤ x ^^^ 360 ↔ 0 ≤ x := by
  rw [i32_msb, i32_msb, Int32.toBitVec_xor, BitVec.msb_xor]
  rw [show (360 : Int32).toBitVec.msb = false by decide, Bool.xor_false]
theorem e_fmodP {σ : St} {a : Nat} (ha : a < 2 ^ 30) (Φ : Int32 → St → Prop) : wJ9_floorMod_7cf53 σ (nI a) 360 Φ = Φ (nI (a % 360)) σ := by
  unfold wJ9_floorMod_7cf53
  rw [if_pos ((xor_sgn _).mpr (nI_pos' (by omega)))]
  rw [show (360 : Int32) = nI 360 from rfl, pk_rem (by omega) (by omega) (by omega)]
  simp only [eq_iff_iff, and_iff_right_iff_imp]
  intro _
  decide
theorem turns_nat {s : Nat} {l : Int32} (hs : s ≤ 14400) (hl : 10 ≤ l ∧ l ≤ 40) : ∃ t, turnsS (nI s) l = nI t ∧ t ≤ 144 := by
  unfold turnsS
  rw [if_pos hl]
  obtain ⟨n, rfl, h1, h2⟩ := len_nat hl
  rw [nI_mul, pk_div (by omega) (Nat.mul_pos (by omega) (by omega)) (by have : n * n ≤ 40 * 40 := Nat.mul_le_mul h2 h2; omega)]
  refine ⟨_, rfl, ?_⟩
  have h3 : 100 ≤ n * n := Nat.mul_le_mul h1 h1
  calc s / (n * n) ≤ s / 100 := Nat.div_le_div_left h3 (by omega)
    _ ≤ 144 := by omega
def placeN (p t : Nat) : Nat := (p + t * 10) % 360
theorem i_place {σ : St} {k p t w : Nat} {Φ : Int32 → St → Prop} (hp : σ.1 k 3 = nI p) (hp2 : p < 360) (ht : turnsS (σ.1 k 1) (σ.1 k 0) = nI t) (ht2 : t ≤ 144) (hw : w ≤ 200) (h : Φ (nI (placeN p (w * t))) σ) : wX0_placeAfter σ k (nI w) Φ := by
  unfold wX0_placeAfter
  rw [e_turnsNow, ht, hp, nI_mul, show (10 : Int32) = nI 10 from rfl, nI_mul, nI_add]
  have : w * t ≤ 200 * 144 := Nat.mul_le_mul hw ht2
  rw [e_fmodP (by omega)]
  exact h
theorem x_goHour3 {σ : St} {nt hh p t : Nat} {by_ l bears : Int32} {Φ : St → Prop} (hT : ThX σ nt) (hB : TB σ.1 nt (hh + 1)) (h4 : σ.1 3 4 = nI hh) (hp : σ.1 3 3 = nI p) (hp2 : p < 360) (hl : σ.1 3 0 - by_ = l) (ht : turnsS (σ.1 3 1) l = nI t) (ht2 : t ≤ 144)
    (hb : σ.1 3 2 = bears) (br : Int32) (hbr : br = if cab2 σ.1 (nI (hh + 1)) noM nt (strainS (σ.1 3 1) l) ≤ bears then 0 else 1)
    (h : Φ (sV (sV (sV (sV σ 3 0 l) 3 4 (nI (hh + 1))) 3 3 (nI (placeN p t))) 3 6 br)) : wX0_goHour σ 3 by_ Φ := by
  unfold wX0_goHour
  have e1 : (sV σ 3 0 l).1 3 4 = nI hh := h4
  rw [hl, e1, nI_1]
  have e2 : turnsS ((sV (sV σ 3 0 l) 3 4 (nI (hh + 1))).1 3 1) ((sV (sV σ 3 0 l) 3 4 (nI (hh + 1))).1 3 0) = nI t := ht
  refine i_place (σ := sV (sV σ 3 0 l) 3 4 (nI (hh + 1))) (k := 3) (p := p) (t := t) (w := 1) hp hp2 e2 ht2 (by omega) ?_
  rw [Nat.one_mul]
  have hT' : ThX (sV (sV (sV σ 3 0 l) 3 4 (nI (hh + 1))) 3 3 (nI (placeN p t))) nt := hT
  refine i_strainNow (nt := nt) (hh := hh + 1) hT' hB rfl ?_
  have e5 : (sV (sV (sV σ 3 0 l) 3 4 (nI (hh + 1))) 3 3 (nI (placeN p t))).1 3 2 = bears := hb
  rw [e5]
  have e6 : cab2 (sV (sV (sV σ 3 0 l) 3 4 (nI (hh + 1))) 3 3 (nI (placeN p t))).1 (nI (hh + 1)) noM nt (strainS ((sV (sV (sV σ 3 0 l) 3 4 (nI (hh + 1))) 3 3 (nI (placeN p t))).1 3 1) ((sV (sV (sV σ 3 0 l) 3 4 (nI (hh + 1))) 3 3 (nI (placeN p t))).1 3 0)) = cab2 σ.1 (nI (hh + 1)) noM nt (strainS (σ.1 3 1) l) := rfl
  rw [e6]
  by_cases hc : cab2 σ.1 (nI (hh + 1)) noM nt (strainS (σ.1 3 1) l) ≤ bears
  · rw [if_pos hc] at hbr ⊢
    subst hbr
    exact ⟨by decide, h⟩
  · rw [if_neg hc] at hbr ⊢
    subst hbr
    exact ⟨by decide, h⟩
theorem x_goHour16 {σ : St} {nt hh p t : Nat} {by_ l bears : Int32} {Φ : St → Prop} (hT : ThX σ nt) (hB : TB σ.1 nt (hh + 1)) (h4 : σ.1 16 4 = nI hh) (hp : σ.1 16 3 = nI p) (hp2 : p < 360) (hl : σ.1 16 0 - by_ = l) (ht : turnsS (σ.1 16 1) l = nI t) (ht2 : t ≤ 144)
    (hb : σ.1 16 2 = bears) (br : Int32) (hbr : br = if cab2 σ.1 (nI (hh + 1)) noM nt (strainS (σ.1 16 1) l) ≤ bears then 0 else 1)
    (h : Φ (sV (sV (sV (sV σ 16 0 l) 16 4 (nI (hh + 1))) 16 3 (nI (placeN p t))) 16 6 br)) : wX0_goHour σ 16 by_ Φ := by
  unfold wX0_goHour
  have e1 : (sV σ 16 0 l).1 16 4 = nI hh := h4
  rw [hl, e1, nI_1]
  have e2 : turnsS ((sV (sV σ 16 0 l) 16 4 (nI (hh + 1))).1 16 1) ((sV (sV σ 16 0 l) 16 4 (nI (hh + 1))).1 16 0) = nI t := ht
  refine i_place (σ := sV (sV σ 16 0 l) 16 4 (nI (hh + 1))) (k := 16) (p := p) (t := t) (w := 1) hp hp2 e2 ht2 (by omega) ?_
  rw [Nat.one_mul]
  have hT' : ThX (sV (sV (sV σ 16 0 l) 16 4 (nI (hh + 1))) 16 3 (nI (placeN p t))) nt := hT
  refine i_strainNow (nt := nt) (hh := hh + 1) hT' hB rfl ?_
  have e5 : (sV (sV (sV σ 16 0 l) 16 4 (nI (hh + 1))) 16 3 (nI (placeN p t))).1 16 2 = bears := hb
  rw [e5]
  have e6 : cab2 (sV (sV (sV σ 16 0 l) 16 4 (nI (hh + 1))) 16 3 (nI (placeN p t))).1 (nI (hh + 1)) noM nt (strainS ((sV (sV (sV σ 16 0 l) 16 4 (nI (hh + 1))) 16 3 (nI (placeN p t))).1 16 1) ((sV (sV (sV σ 16 0 l) 16 4 (nI (hh + 1))) 16 3 (nI (placeN p t))).1 16 0)) = cab2 σ.1 (nI (hh + 1)) noM nt (strainS (σ.1 16 1) l) := rfl
  rw [e6]
  by_cases hc : cab2 σ.1 (nI (hh + 1)) noM nt (strainS (σ.1 16 1) l) ≤ bears
  · rw [if_pos hc] at hbr ⊢
    subst hbr
    exact ⟨by decide, h⟩
  · rw [if_neg hc] at hbr ⊢
    subst hbr
    exact ⟨by decide, h⟩
theorem lN_toB {n : Nat} (h : n < 2 ^ 63) : (lN n).toInt = (n : Int) := lg_ofNat_toInt h
theorem lN_div {a d : Nat} (ha : a < 2 ^ 63) (h0 : 0 < d) (hd : d < 2 ^ 63) : lN a / lN d = lN (a / d) := by
  apply Int64.toInt_inj.mp
  rw [lg_ldiv_nonneg (by rw [lN_toB ha]; omega) (by rw [lN_toB hd]; omega), lN_toB ha, lN_toB hd, lN_toB (Nat.lt_of_le_of_lt (Nat.div_le_self a d) ha)]
  first | rfl | exact (Int.natCast_ediv _ _).symm
theorem lN_rem {a d : Nat} (ha : a < 2 ^ 63) (h0 : 0 < d) (hd : d < 2 ^ 63) : lN a - lN a / lN d * lN d = lN (a % d) := by
  rw [lN_div ha h0 hd, lN_mul, lN_sub (Nat.div_mul_le_self a d)]
  exact congrArg lN (by have := Nat.div_add_mod' a d; omega)
def sdN (s : Nat) : Nat := (1103515245 * s + 12345) % 2147483648
theorem sdN_lt (s : Nat) : sdN s < 2 ^ 31 := Nat.mod_lt _ (by omega)
theorem x_seed {σ : St} {s : Nat} {Φ : Int32 → St → Prop} (hs : s < 2 ^ 31) (hp : Φ (nI (sdN s)) σ) : wX11_nextSeed σ (nI s) Φ := by
  unfold wX11_nextSeed
  refine ⟨by decide, ?_⟩
  rw [nI_l hs, show (1103515245 : Int64) = lN 1103515245 from rfl, lN_mul, show (12345 : Int64) = lN 12345 from rfl, lN_add, show (2147483648 : Int64) = lN 2147483648 from rfl, lN_rem (by omega) (by omega) (by omega), lN_i]
  exact hp
def wdS (a : Int32) : Int32 := if a ≤ 3 then a else 3 - a
def brS (V : Nat → Nat → Int32) (nt hh : Nat) (sp l bears : Int32) : Int32 := if cab2 V (nI hh) noM nt (strainS sp l) ≤ bears then 0 else 1
def wrL (l : Int32) (s : Nat) : Int32 := if 10 ≤ l - wdS (nI (sdN s / 65536 % 7)) ∧ l - wdS (nI (sdN s / 65536 % 7)) ≤ 40 then l - wdS (nI (sdN s / 65536 % 7)) else l
theorem wrL_in {l : Int32} {s : Nat} (h : 10 ≤ l ∧ l ≤ 40) : 10 ≤ wrL l s ∧ wrL l s ≤ 40 := by
  unfold wrL
  split
  · assumption
  · exact h
def wr (V : Nat → Nat → Int32) (nt : Nat) (sp bears : Int32) : Nat → Int32 → Nat → Nat → Int32 → Nat → Int32 × Nat × Nat × Nat
  | 0, l, p, h, _, s => (l, p, h, s)
  | n + 1, l, p, h, br, s => if br = 0 then wr V nt sp bears n (wrL l s) (placeN p (turnsS sp (wrL l s)).toNatClampNeg) (h + 1) (brS V nt (h + 1) sp (wrL l s) bears) (sdN s) else (l, p, h, s)
theorem wr_0 {V : Nat → Nat → Int32} {nt : Nat} {sp bears l : Int32} {p h s n : Nat} {br : Int32} (hb : ¬ br = 0) : wr V nt sp bears n l p h br s = (l, p, h, s) := by
  cases n with
  | zero => rw [wr]
  | succ n => rw [wr, if_neg hb]
theorem x_try {σ : St} {nt h0 ss N : Nat} {bears : Int32} {Φ : Int32 → St → Prop} (hT : ThX σ nt) (hB : TB σ.1 nt h0) (hss : ss ≤ 14400) (hN : N ≤ 60) :
    ∀ m i, i + m = N → ∀ τ l p h br s, Sim0 σ τ → τ.1 16 0 = l → τ.1 16 1 = nI ss → τ.1 16 2 = bears → τ.1 16 3 = nI p → τ.1 16 4 = nI h → τ.1 16 6 = br → p < 360 → (10 ≤ l ∧ l ≤ 40) → h0 ≤ h → h + m ≤ 1000 → s < 2 ^ 31 →
    (∀ τ', Sim0 σ τ' → τ'.1 16 0 = (wr σ.1 nt (nI ss) bears m l p h br s).1 → τ'.1 16 3 = nI (wr σ.1 nt (nI ss) bears m l p h br s).2.1 → τ'.1 16 4 = nI (wr σ.1 nt (nI ss) bears m l p h br s).2.2.1 → Φ (nI (wr σ.1 nt (nI ss) bears m l p h br s).2.2.2) τ') →
    wX11_tryHours_16 Φ (m + 1) τ (nI N) (nI s) (nI i) := by
  intro m
  induction m with
  | zero =>
    intro i hi τ l p h br s hS e0 e1 e2 e3 e4 e6 hp hl hh hm hs K
    have : i = N := by omega
    subst this
    rw [wX11_tryHours_16, if_pos (nI_le (Nat.le_refl _) (by omega))]
    exact K τ hS e0 e3 e4
  | succ m ih =>
    intro i hi τ l p h br s hS e0 e1 e2 e3 e4 e6 hp hl hh hm hs K
    rw [wX11_tryHours_16, if_neg (nI_ge (by omega) (by omega)), e6]
    by_cases hb : br = 0
    · rw [if_pos hb]
      refine x_seed hs ⟨by decide, by decide, ?_⟩
      have hsl := sdN_lt s
      rw [show (65536 : Int32) = nI 65536 from rfl, pk_div (by omega) (by omega) (by omega), show (7 : Int32) = nI 7 from rfl, pk_rem (by omega) (by omega) (by omega), e_winding, e_isLen, e0]
      have hR := sm_of hS
      have hw := wrL_in (s := s) hl
      obtain ⟨t, t1, t2⟩ := turns_nat (s := ss) hss hw
      have hB1 : TB τ.1 nt (h + 1) := sm_tb hR (hB.up (by omega) (by omega))
      have kk : ∀ by_, l - by_ = wrL l s → wX11_tryHours_76 (wX11_tryHours_16 Φ (m + 1)) Φ τ (nI N) (nI (sdN s)) (nI i) by_ := by
        intro by_ hby
        unfold wX11_tryHours_76
        refine x_goHour16 (nt := nt) (hh := h) (p := p) (t := t) (l := wrL l s) (bears := bears) (sm_thx hR hT) hB1 e4 e3 hp (by rw [e0]; exact hby) (by rw [e1]; exact t1) t2 e2 (brS σ.1 nt (h + 1) (nI ss) (wrL l s) bears) ?_ ?_
        · unfold brS cab2
          rw [sm_cab hR, sm_cab hR, e1]
        · rw [nI_1]
          refine ih (i + 1) (by omega) _ (wrL l s) (placeN p t) (h + 1) (brS σ.1 nt (h + 1) (nI ss) (wrL l s) bears) (sdN s) (s0_sV (s0_sV (s0_sV (s0_sV hS)))) rfl e1 e2 rfl rfl rfl (Nat.mod_lt _ (by omega)) hw (by omega) (by omega) hsl ?_
          have ew : wr σ.1 nt (nI ss) bears (m + 1) l p h br s = wr σ.1 nt (nI ss) bears m (wrL l s) (placeN p t) (h + 1) (brS σ.1 nt (h + 1) (nI ss) (wrL l s) bears) (sdN s) := by
            rw [wr, if_pos hb, t1, nI_clamp (by omega)]
          rw [← ew]
          exact K
      have kw : wrL l s = if 10 ≤ l - wdS (nI (sdN s / 65536 % 7)) ∧ l - wdS (nI (sdN s / 65536 % 7)) ≤ 40 then l - wdS (nI (sdN s / 65536 % 7)) else l := rfl
      unfold wdS at kw
      by_cases hin : 10 ≤ l - (if nI (sdN s / 65536 % 7) ≤ 3 then nI (sdN s / 65536 % 7) else 3 - nI (sdN s / 65536 % 7)) ∧ l - (if nI (sdN s / 65536 % 7) ≤ 3 then nI (sdN s / 65536 % 7) else 3 - nI (sdN s / 65536 % 7)) ≤ 40
      · rw [if_pos hin, if_neg (by decide)]
        rw [if_pos hin] at kw
        exact kk _ kw.symm
      · rw [if_neg hin, if_pos rfl]
        rw [if_neg hin] at kw
        exact kk 0 (by rw [kw]; exact Int32.sub_zero l)
    · rw [if_neg hb]
      rw [wr_0 hb] at K
      exact K τ hS e0 e3 e4
def cpC (σ : St) (k k2 : Nat) : St := sV (sV (sV (sV (sV (sV (sV σ k 0 (σ.1 k2 0)) k 1 (σ.1 k2 1)) k 2 (σ.1 k2 2)) k 3 (σ.1 k2 3)) k 4 (σ.1 k2 4)) k 5 (σ.1 k2 5)) k 6 (σ.1 k2 6)
theorem i_become16 {σ : St} {Φ : St → Prop} (h5 : σ.1 3 5 = 0 ∨ σ.1 3 5 = 1) (h6 : σ.1 3 6 = 0 ∨ σ.1 3 6 = 1) (hp : Φ (cpC σ 16 3)) : wX0_becomeLike σ 16 3 Φ := ⟨h5, h6, hp⟩
/-- the WIRE's own numbers -/
def WN (σ : St) (s b p : Nat) : Prop := (10 ≤ σ.1 3 0 ∧ σ.1 3 0 ≤ 40) ∧ σ.1 3 1 = nI s ∧ s ≤ 14400 ∧ σ.1 3 2 = nI b ∧ b ≤ 999 ∧ σ.1 3 3 = nI p ∧ p < 360 ∧ (σ.1 3 5 = 0 ∨ σ.1 3 5 = 1) ∧ (σ.1 3 6 = 0 ∨ σ.1 3 6 = 1)
theorem wn_pos {σ : St} {s b p : Nat} (h : WN σ s b p) : 0 < σ.1 3 0 := by
  have := h.1.1
  grind
theorem sm_wn {σ τ : St} {s b p : Nat} (h : Sim σ τ) (hW : WN σ s b p) : WN τ s b p := by
  have e : τ.1 3 = σ.1 3 := h.1 3 (by omega) (by omega)
  unfold WN
  rw [e]
  exact hW
def whR (r : Int32 × Nat × Nat × Nat) (hh : Nat) (v : Int32) : Int32 := if v = 0 then r.1 else if v = 1 then nI r.2.1 else if v = 2 then nI r.2.2.1 - nI hh else nI r.2.2.2
theorem x_whirls {σ : St} {nt hh s b p N sd : Nat} {v : Int32} {Φ : Int32 → St → Prop} (hR : Rdy σ nt hh) (hh6 : hh ≤ 600) (hW : WN σ s b p) (hbr : σ.1 3 6 = 0) (n1 : 1 ≤ N) (n2 : N ≤ 60) (sd1 : sd < 2 ^ 31) (c3 : 0 ≤ v ∧ v ≤ 3) (hp : ∀ τ, Sim0 σ τ → Φ (whR (wr σ.1 nt (nI s) (nI b) N (σ.1 3 0) p hh 0 sd) hh v) τ) : wX11_whirls σ (nI N) (nI sd) v Φ := by
  obtain ⟨hT, hB, x4⟩ := hR
  obtain ⟨g1, g2, g3, g4, g5, g7, g8, q5, q6⟩ := hW
  have l0 : 0 < σ.1 3 0 := by have := g1.1; grind
  unfold wX11_whirls
  have c1 : 1 ≤ nI N := nI_le (a := 1) n1 (by omega)
  have c1' : nI N ≤ 60 := nI_le (b := 60) n2 (by omega)
  rw [if_neg (show ¬ nI N < 1 by grind), if_neg (show ¬ 60 < nI N by grind), if_neg (nI_pos sd1), if_neg (show ¬ v < 0 by grind), if_pos c3.2, e_isWhole, if_pos (show 0 < σ.1 3 0 ∧ σ.1 3 6 = 0 from ⟨l0, hbr⟩), if_neg (by decide)]
  unfold wX11_tryHours
  refine i_become16 q5 q6 ?_
  have s16 : Sim0 σ (cpC σ 16 3) := s0_sV (s0_sV (s0_sV (s0_sV (s0_sV (s0_sV (s0_sV ⟨fun _ _ => rfl, rfl⟩))))))
  refine ⟨N + 1, x_try (σ := σ) (nt := nt) (h0 := hh) (ss := s) (N := N) (bears := nI b) hT hB g3 n2 N 0 (by omega) (cpC σ 16 3) (σ.1 3 0) p hh 0 sd s16 rfl g2 g4 g7 x4 hbr g8 g1 (Nat.le_refl _) (by omega) sd1 (fun τ hS t0 t3 t4 => ?_)⟩
  have hp' := hp τ hS
  unfold whR at hp'
  rcases sw3 c3 with rfl | rfl | rfl | rfl
  · refine ⟨fun _ => ?_, ne_d rfl, ne_d rfl, fun e => absurd e (by decide)⟩
    rw [t0]
    simpa using hp'
  · refine ⟨ne_d rfl, fun _ => ?_, ne_d rfl, fun e => absurd e (by decide)⟩
    rw [t3]
    simpa using hp'
  · refine ⟨ne_d rfl, ne_d rfl, fun _ => ?_, fun e => absurd e (by decide)⟩
    rw [t4, sm_at (sm_of hS) 3 4, x4]
    simpa using hp'
  · refine ⟨ne_d rfl, ne_d rfl, ne_d rfl, fun _ => ?_⟩
    simpa using hp'
theorem x_whirlsS {σ : St} {N sd : Nat} {v : Int32} {Φ : Int32 → St → Prop} (hbr : ¬ σ.1 3 6 = 0) (n1 : 1 ≤ N) (n2 : N ≤ 60) (sd1 : sd < 2 ^ 31) (c3 : 0 ≤ v ∧ v ≤ 3) (hp : Φ (-103) σ) : wX11_whirls σ (nI N) (nI sd) v Φ := by
  unfold wX11_whirls
  have c1 : 1 ≤ nI N := nI_le (a := 1) n1 (by omega)
  have c1' : nI N ≤ 60 := nI_le (b := 60) n2 (by omega)
  rw [if_neg (show ¬ nI N < 1 by grind), if_neg (show ¬ 60 < nI N by grind), if_neg (nI_pos sd1), if_neg (show ¬ v < 0 by grind), if_pos c3.2, e_isWhole, if_neg (show ¬ (0 < σ.1 3 0 ∧ σ.1 3 6 = 0) from fun q => hbr q.2), if_pos rfl]
  exact hp
/-! an hour of the WIRE -/
theorem x_hour {σ : St} {nt hh s b p t : Nat} {d br : Int32} {Φ : Int32 → St → Prop} (h4 : σ.1 3 4 = nI hh) (hB1 : TB σ.1 nt (hh + 1)) (hT : ThX σ nt) (hW : WN σ s b p) (hd : -3 ≤ d ∧ d ≤ 3) (hbr0 : σ.1 3 6 = 0) (hl : 10 ≤ σ.1 3 0 - d ∧ σ.1 3 0 - d ≤ 40) (ht : turnsS (nI s) (σ.1 3 0 - d) = nI t) (ht2 : t ≤ 144)
    (hbr : br = brS σ.1 nt (hh + 1) (nI s) (σ.1 3 0 - d) (nI b)) (hp : Φ (if br = 0 then σ.1 3 0 - d else -1) (sV (sV (sV (sV σ 3 0 (σ.1 3 0 - d)) 3 4 (nI (hh + 1))) 3 3 (nI (placeN p t))) 3 6 br)) : wX11_hour σ d Φ := by
  have l0 := wn_pos hW
  obtain ⟨g1, g2, g3, g4, g5, g7, g8, q5, q6⟩ := hW
  unfold wX11_hour
  rw [if_neg (show ¬ d < -3 by grind), if_pos hd.2, e_isWhole, if_pos (show 0 < σ.1 3 0 ∧ σ.1 3 6 = 0 from ⟨l0, hbr0⟩), if_neg (by decide), e_isLen, if_pos hl, if_neg (by decide)]
  refine x_goHour3 (nt := nt) (hh := hh) (p := p) (t := t) hT hB1 h4 g7 g8 rfl (by rw [g2]; exact ht) ht2 g4 br (by rw [hbr, g2]; rfl) ?_
  have v6 : (sV (sV (sV (sV σ 3 0 (σ.1 3 0 - d)) 3 4 (nI (hh + 1))) 3 3 (nI (placeN p t))) 3 6 br).1 3 6 = br := rfl
  have v0 : (sV (sV (sV (sV σ 3 0 (σ.1 3 0 - d)) 3 4 (nI (hh + 1))) 3 3 (nI (placeN p t))) 3 6 br).1 3 0 = σ.1 3 0 - d := rfl
  rw [v6, v0]
  by_cases z : br = 0
  · rw [if_pos z]; rw [if_pos z] at hp; exact hp
  · rw [if_neg z]; rw [if_neg z] at hp; exact hp
theorem x_hourS {σ : St} {d : Int32} {Φ : Int32 → St → Prop} (hd : -3 ≤ d ∧ d ≤ 3) (hno : ¬ (σ.1 3 6 = 0 ∧ 10 ≤ σ.1 3 0 - d ∧ σ.1 3 0 - d ≤ 40)) (hp : Φ (-103) σ) : wX11_hour σ d Φ := by
  unfold wX11_hour
  rw [if_neg (show ¬ d < -3 by grind), if_pos hd.2, e_isWhole]
  by_cases q : 0 < σ.1 3 0 ∧ σ.1 3 6 = 0
  · rw [if_pos q, if_neg (by decide), e_isLen, if_neg (show ¬ (10 ≤ σ.1 3 0 - d ∧ σ.1 3 0 - d ≤ 40) from fun z => hno ⟨q.2, z⟩), if_pos rfl]
    exact hp
  · rw [if_neg q, if_pos rfl]
    exact hp
end
section
/-! PURE PART D: the law's own small methods -/
theorem cl0 : (0 : Int32).toNatClampNeg = 0 := rfl
theorem cl1 : (1 : Int32).toNatClampNeg = 1 := rfl
theorem cl2 : (2 : Int32).toNatClampNeg = 2 := rfl
theorem cl3 : (3 : Int32).toNatClampNeg = 3 := rfl
theorem cl4 : (4 : Int32).toNatClampNeg = 4 := rfl
theorem cl5 : (5 : Int32).toNatClampNeg = 5 := rfl
theorem cl6 : (6 : Int32).toNatClampNeg = 6 := rfl
theorem cl7 : (7 : Int32).toNatClampNeg = 7 := rfl
theorem cl8 : (8 : Int32).toNatClampNeg = 8 := rfl
theorem cl9 : (9 : Int32).toNatClampNeg = 9 := rfl
theorem vi (j : Nat) (h : j < 32) : vp_in (nI j) 32 := vp_in_nI h (by omega)
theorem ix8 (i : Nat) : (8 : Int32) + 4 * nI i = nI (8 + 4 * i) := by rw [show (8 : Int32) = nI 8 from rfl, show (4 : Int32) = nI 4 from rfl, nI_mul, nI_add]
theorem ix9 (i : Nat) : (9 : Int32) + 4 * nI i = nI (9 + 4 * i) := by rw [show (9 : Int32) = nI 9 from rfl, show (4 : Int32) = nI 4 from rfl, nI_mul, nI_add]
theorem ix10 (i : Nat) : (10 : Int32) + 4 * nI i = nI (10 + 4 * i) := by rw [show (10 : Int32) = nI 10 from rfl, show (4 : Int32) = nI 4 from rfl, nI_mul, nI_add]
theorem ix11 (i : Nat) : (11 : Int32) + 4 * nI i = nI (11 + 4 * i) := by rw [show (11 : Int32) = nI 11 from rfl, show (4 : Int32) = nI 4 from rfl, nI_mul, nI_add]
theorem two_x (x : Int32) : x + x = 2 * x := by grind
theorem sh0 : ∀ i, i < 6 → ((0 : Int32) >>> (nI i &&& 31)) &&& 1 = 0 := by decide +kernel
theorem md2 {x : Int32} (h : x = 0 ∨ x = 1) : x - x / 2 * 2 = x := by rcases h with rfl | rfl <;> decide
/-- rows that are alike in their THINGS -/
def RA (r r' : Nat → Int32) : Prop := ∀ k, 8 ≤ k → k < 32 → r' k = r k
theorem ra_rfl {r : Nat → Int32} : RA r r := fun _ _ _ => rfl
theorem ra_tr {a b c : Nat → Int32} (h : RA a b) (g : RA b c) : RA a c := fun k h1 h2 => (g k h1 h2).trans (h k h1 h2)
theorem ra_sV {τ : St} {r : Nat → Int32} {q a : Nat} {v : Int32} (h : RA r (τ.1 q)) (ha : a < 8) : RA r ((sV τ q a v).1 q) := by
  intro k h1 h2
  show up2 τ.1 q a v q k = r k
  unfold up2 va_up
  rw [if_pos rfl, if_neg (by omega)]
  exact h k h1 h2
theorem ra_so {τ : St} {r : Nat → Int32} {q k a : Nat} {v : Int32} (h : RA r (τ.1 q)) (hk : q ≠ k) : RA r ((sV τ k a v).1 q) := by
  intro j h1 h2
  show up2 τ.1 k a v q j = r j
  unfold up2 va_up
  rw [if_neg hk]
  exact h j h1 h2
theorem ra_wg {r r' : Nat → Int32} (h : RA r r') (hr : Int32) {i : Nat} (hi : i < 6) : wgQ r' hr i = wgQ r hr i := by
  unfold wgQ wgS
  rw [show rK r' i = rK r i from h _ (by omega) (by omega), show rW r' i = rW r i from h _ (by omega) (by omega), show rM r' i = rM r i from h _ (by omega) (by omega)]
theorem ra_cab {r r' : Nat → Int32} (h : RA r r') (c hr : Int32) : ∀ n, n ≤ 6 → cabQ r' c hr n = cabQ r c hr n
  | 0, _ => rfl
  | n + 1, hn => by
    have ih := ra_cab h c hr n (by omega)
    unfold cabQ at ih ⊢
    rw [cabS, cabS, ih, show rP r' n = rP r n from h _ (by omega) (by omega), show wgS (rK r') (rW r') (rM r') hr n = wgS (rK r) (rW r) (rM r) hr n from ra_wg h hr (by omega)]
theorem ra_tb {r r' : Nat → Int32} {nt hh : Nat} (h : RA r r') (hB : TB (fun _ => r) nt hh) : TB (fun _ => r') nt hh := by
  refine ⟨hB.1, hB.2.1, fun i hi => ?_⟩
  have := hB.1
  obtain ⟨w, c, e1, e2, e3, e4⟩ := hB.2.2 i hi
  exact ⟨w, c, (h _ (by omega) (by omega)).trans e1, e2, (h _ (by omega) (by omega)).trans e3, e4⟩
theorem l_weighs {σ : St} {q i : Nat} {r : Nat → Int32} {h : Int32} {Φ : Int32 → St → Prop} (hr : RA r (σ.1 q)) (hi : i < 6) (h5 : σ.1 q 5 = h) (hp : Φ (wgQ r h i) σ) : wL_weighs σ q (nI i) 0 Φ := by
  unfold wL_weighs
  rw [ix8, ix9, ix11, nI_clamp (show 8 + 4 * i < 2 ^ 31 by omega), nI_clamp (show 9 + 4 * i < 2 ^ 31 by omega), nI_clamp (show 11 + 4 * i < 2 ^ 31 by omega), cl5, hr (8 + 4 * i) (by omega) (by omega), hr (9 + 4 * i) (by omega) (by omega), hr (11 + 4 * i) (by omega) (by omega), h5, show h + 0 = h from Int32.add_zero h]
  refine ⟨vi _ (by omega), vi 5 (by omega), vi _ (by omega), by decide, vi _ (by omega), ?_⟩
  unfold wgQ wgS at hp
  by_cases h1 : r (8 + 4 * i) = 1
  · rw [if_pos h1]
    rw [if_pos (show rK r i = 1 from h1)] at hp
    exact hp
  · rw [if_neg h1]
    rw [if_neg (show ¬ rK r i = 1 from h1)] at hp
    by_cases h3 : r (8 + 4 * i) = 3
    · rw [if_pos h3]
      rw [if_pos (show rK r i = 3 from h3)] at hp
      exact hp
    · rw [if_neg h3]
      rw [if_neg (show ¬ rK r i = 3 from h3)] at hp
      by_cases h4 : r (8 + 4 * i) = 4
      · rw [if_pos h4, two_x ((h - r (11 + 4 * i)) / 6)]
        rw [if_pos (show rK r i = 4 from h4)] at hp
        exact hp
      · rw [if_neg h4]
        rw [if_neg (show ¬ rK r i = 4 from h4)] at hp
        exact hp
theorem l_cabin {σ : St} {q nt : Nat} {r : Nat → Int32} {c h : Int32} {Φ : Int32 → St → Prop} (hr : RA r (σ.1 q)) (hn : nt ≤ 6) (h7 : σ.1 q 7 = nI nt) (h5 : σ.1 q 5 = h) (hP : ∀ i, i < nt → rP r i = 0 ∨ rP r i = 1) (hp : Φ (cabQ r c h nt) σ) : wL_cabin σ q c 0 0 Φ := by
  have key : ∀ m i, i + m = nt → wL_cabin_7 q Φ (m + 1) σ c 0 0 (cabQ r c h i) (nI i) := by
    intro m
    induction m with
    | zero =>
      intro i hi
      have : i = nt := by omega
      subst this
      rw [wL_cabin_7, cl7, h7, if_pos (nI_le (Nat.le_refl _) (by omega))]
      exact ⟨vi 7 (by omega), hp⟩
    | succ m ih =>
      intro i hi
      have ih' := ih (i + 1) (by omega)
      rw [wL_cabin_7, cl7, h7, if_neg (nI_ge (by omega) (by omega)), ix10, nI_clamp (show 10 + 4 * i < 2 ^ 31 by omega), hr (10 + 4 * i) (by omega) (by omega), sh0 i (by omega), show r (10 + 4 * i) + 0 = r (10 + 4 * i) from Int32.add_zero _, md2 (hP i (by omega))]
      refine ⟨vi 7 (by omega), vi _ (by omega), by decide, ?_⟩
      by_cases hc : r (10 + 4 * i) = c
      · rw [if_pos hc]
        refine l_weighs hr (by omega) h5 ?_
        unfold wL_cabin_55
        rw [nI_1, show cabQ r c h i + wgQ r h i = cabQ r c h (i + 1) from cab_s1 (by simp [hc, noM])]
        exact ih'
      · rw [if_neg hc]
        unfold wL_cabin_55
        rw [nI_1, show cabQ r c h i + 0 = cabQ r c h i from Int32.add_zero _, show cabQ r c h i = cabQ r c h (i + 1) from cab_s0 (by simp [hc, noM])]
        exact ih'
  exact ⟨nt + 1, key nt 0 (by omega)⟩
theorem l_turns {σ : St} {q : Nat} {l sp : Int32} {Φ : Int32 → St → Prop} (h1 : σ.1 q 1 = sp) (hl : 10 ≤ l ∧ l ≤ 40) (hp : Φ (turnsS sp l) σ) : wL_turns σ q l Φ := by
  unfold wL_turns
  unfold turnsS at hp
  rw [cl1, h1]
  rw [if_pos hl] at hp
  exact ⟨vi 1 (by omega), sq_ne hl, hp⟩
theorem dv_md (X D : Nat) (h : 0 < D) : (X - X % D) / D = X / D := by
  have e : X - X % D = D * (X / D) := by
    have := Nat.mod_add_div X D
    omega
  rw [e, Nat.mul_div_cancel_left _ h]
theorem l_arm {σ : St} {q nt hh : Nat} {r : Nat → Int32} {c l : Int32} {Φ : Int32 → St → Prop} (hr : RA r (σ.1 q)) (hn : nt ≤ 6) (h7 : σ.1 q 7 = nI nt) (h5 : σ.1 q 5 = nI hh) (hP : ∀ i, i < nt → rP r i = 0 ∨ rP r i = 1) (hB : TB (fun _ => r) nt hh) (hl : 10 ≤ l ∧ l ≤ 40) (hp : Φ (armS c l (cabQ r 0 (nI hh) nt) (cabQ r 1 (nI hh) nt)) σ) : wL_arm σ q c 0 l 0 Φ := by
  unfold wL_arm
  refine l_cabin hr hn h7 h5 hP (l_cabin hr hn h7 h5 hP ?_)
  obtain ⟨a, ea, a1, a2⟩ := cw_nat hB 0 noM nt (Nat.le_refl _)
  obtain ⟨b, eb, b1, b2⟩ := cw_nat hB 1 noM nt (Nat.le_refl _)
  obtain ⟨n, rfl, n1, n2⟩ := len_nat hl
  have ea' : cabQ r 0 (nI hh) nt = nI a := ea
  have eb' : cabQ r 1 (nI hh) nt = nI b := eb
  rw [ea', eb'] at hp ⊢
  have hnb : n * b ≤ 40 * 2410 := Nat.mul_le_mul n2 (by omega)
  have hD : ¬ nI a + nI b = 0 := by
    rw [nI_add]
    intro z
    have := (nI_eq (b := 0) (by omega) (by omega)).mp z
    omega
  have e : (nI n * nI b - (nI n * nI b - nI n * nI b / (nI a + nI b) * (nI a + nI b))) / (nI a + nI b) = (nI n * nI b) / (nI a + nI b) := by
    rw [nI_mul, nI_add, pk_rem (by omega) (by omega) (by omega), nI_sub (Nat.mod_le _ _), pk_div (by omega) (by omega) (by omega), pk_div (by omega) (by omega) (by omega), dv_md _ _ (by omega)]
  unfold armS at hp
  refine ⟨hD, hD, ?_⟩
  rw [e]
  by_cases hc : c = 0
  · rw [if_pos hc]
    rw [if_pos hc] at hp
    exact hp
  · rw [if_neg hc]
    rw [if_neg hc] at hp
    exact hp
theorem l_floor {σ : St} {q nt hh : Nat} {r : Nat → Int32} {c l sp : Int32} {Φ : Int32 → St → Prop} (hr : RA r (σ.1 q)) (hn : nt ≤ 6) (h7 : σ.1 q 7 = nI nt) (h5 : σ.1 q 5 = nI hh) (hP : ∀ i, i < nt → rP r i = 0 ∨ rP r i = 1) (hB : TB (fun _ => r) nt hh) (h1 : σ.1 q 1 = sp) (hl : 10 ≤ l ∧ l ≤ 40) (hp : Φ (floorS sp c l (cabQ r 0 (nI hh) nt) (cabQ r 1 (nI hh) nt)) σ) : wL_floor σ q c 0 l 0 Φ := by
  unfold wL_floor
  refine l_turns h1 hl (l_arm hr hn h7 h5 hP hB hl ?_)
  unfold floorS at hp
  rw [Int32.mul_comm (turnsS sp l) (armS c l (cabQ r 0 (nI hh) nt) (cabQ r 1 (nI hh) nt))]
  exact hp
theorem l_strain {σ : St} {q nt hh : Nat} {r : Nat → Int32} {l sp : Int32} {Φ : Int32 → St → Prop} (hr : RA r (σ.1 q)) (hn : nt ≤ 6) (h7 : σ.1 q 7 = nI nt) (h5 : σ.1 q 5 = nI hh) (hP : ∀ i, i < nt → rP r i = 0 ∨ rP r i = 1) (hB : TB (fun _ => r) nt hh) (h1 : σ.1 q 1 = sp) (hl : 10 ≤ l ∧ l ≤ 40) (hp : Φ (strainS sp l (cabQ r 0 (nI hh) nt) (cabQ r 1 (nI hh) nt)) σ) : wL_strain σ q l 0 Φ := by
  unfold wL_strain
  refine l_floor hr hn h7 h5 hP hB h1 hl (l_cabin hr hn h7 h5 hP ?_)
  unfold strainS at hp
  rw [Int32.mul_comm (floorS sp 0 l (cabQ r 0 (nI hh) nt) (cabQ r 1 (nI hh) nt)) (cabQ r 0 (nI hh) nt)]
  exact ⟨by decide, hp⟩
theorem l_hour18 {σ : St} {nt hh s b p t : Nat} {r : Nat → Int32} {d l br : Int32} {Φ : Int32 → St → Prop} (hr : RA r (σ.1 18)) (hn : nt ≤ 6) (h7 : σ.1 18 7 = nI nt) (hP : ∀ i, i < nt → rP r i = 0 ∨ rP r i = 1) (hB : TB (fun _ => r) nt (hh + 1)) (h0 : σ.1 18 0 - d = l) (hl : 10 ≤ l ∧ l ≤ 40) (h1 : σ.1 18 1 = nI s) (h2 : σ.1 18 2 = nI b) (h4 : σ.1 18 4 = nI p) (hp : p < 360) (h5 : σ.1 18 5 = nI hh) (ht : turnsS (nI s) l = nI t) (ht2 : t ≤ 144)
    (hbr : br = if strainS (nI s) l (cabQ r 0 (nI (hh + 1)) nt) (cabQ r 1 (nI (hh + 1)) nt) ≤ nI b then 0 else 1) (hΦ : Φ (if br = 0 then l else -1) (sV (sV (sV (sV σ 18 0 l) 18 5 (nI (hh + 1))) 18 4 (nI (placeN p t))) 18 6 br)) : wL_hour σ 18 d Φ := by
  unfold wL_hour
  refine ⟨vi 0 (by omega), vi 0 (by omega), vi 5 (by omega), vi 5 (by omega), vi 4 (by omega), vi 0 (by omega), ?_⟩
  have e : sV (sV σ 18 (0 : Int32).toNatClampNeg (σ.1 18 (0 : Int32).toNatClampNeg - d)) 18 (5 : Int32).toNatClampNeg ((sV σ 18 (0 : Int32).toNatClampNeg (σ.1 18 (0 : Int32).toNatClampNeg - d)).1 18 (5 : Int32).toNatClampNeg + 1) = sV (sV σ 18 0 l) 18 5 (nI (hh + 1)) := by
    show sV (sV σ 18 0 (σ.1 18 0 - d)) 18 5 (σ.1 18 5 + 1) = _
    rw [h0, h5, nI_1]
  rw [e]
  refine l_turns (σ := sV (sV σ 18 0 l) 18 5 (nI (hh + 1))) (sp := nI s) h1 hl ?_
  refine ⟨by decide, vi 4 (by omega), vi 0 (by omega), ?_⟩
  have e2 : (sV (sV σ 18 0 l) 18 5 (nI (hh + 1))).1 18 (4 : Int32).toNatClampNeg + turnsS (nI s) l * 10 = nI (p + t * 10) := by
    show σ.1 18 4 + turnsS (nI s) l * 10 = _
    rw [h4, ht, show (10 : Int32) = nI 10 from rfl, nI_mul, nI_add]
  have e3 : nI (p + t * 10) - nI (p + t * 10) / 360 * 360 = nI (placeN p t) := by
    rw [show (360 : Int32) = nI 360 from rfl, pk_rem (by omega) (by omega) (by omega)]
    rfl
  rw [show (sV (sV σ 18 0 l) 18 5 (nI (hh + 1))).1 18 (0 : Int32).toNatClampNeg = l from rfl, e2, e3, cl4]
  have hr3 : RA r ((sV (sV (sV σ 18 0 l) 18 5 (nI (hh + 1))) 18 4 (nI (placeN p t))).1 18) := ra_sV (ra_sV (ra_sV hr (by omega)) (by omega)) (by omega)
  refine l_strain (σ := sV (sV (sV σ 18 0 l) 18 5 (nI (hh + 1))) 18 4 (nI (placeN p t))) (r := r) (hh := hh + 1) (sp := nI s) (l := l) hr3 hn h7 rfl hP hB h1 hl ?_
  refine ⟨vi 2 (by omega), ?_⟩
  rw [show (sV (sV (sV σ 18 0 l) 18 5 (nI (hh + 1))) 18 4 (nI (placeN p t))).1 18 (2 : Int32).toNatClampNeg = nI b from h2]
  unfold wL_hour_57
  by_cases z : strainS (nI s) l (cabQ r 0 (nI (hh + 1)) nt) (cabQ r 1 (nI (hh + 1)) nt) ≤ nI b
  · rw [if_pos z] at hbr ⊢
    subst hbr
    rw [if_pos rfl] at hΦ
    refine ⟨vi 6 (by omega), vi 6 (by omega), ?_⟩
    rw [if_neg (show ¬ (sV (sV (sV (sV σ 18 0 l) 18 5 (nI (hh + 1))) 18 4 (nI (placeN p t))) 18 (6 : Int32).toNatClampNeg 0).1 18 (6 : Int32).toNatClampNeg = 1 from (by decide : ¬ (0 : Int32) = 1))]
    exact ⟨vi 0 (by omega), hΦ⟩
  · rw [if_neg z] at hbr ⊢
    subst hbr
    rw [if_neg (by decide)] at hΦ
    refine ⟨vi 6 (by omega), vi 6 (by omega), ?_⟩
    rw [if_pos (show (sV (sV (sV (sV σ 18 0 l) 18 5 (nI (hh + 1))) 18 4 (nI (placeN p t))) 18 (6 : Int32).toNatClampNeg 1).1 18 (6 : Int32).toNatClampNeg = 1 from rfl)]
    exact hΦ
theorem l_hour19 {σ : St} {nt hh s b p t : Nat} {r : Nat → Int32} {d l br : Int32} {Φ : Int32 → St → Prop} (hr : RA r (σ.1 19)) (hn : nt ≤ 6) (h7 : σ.1 19 7 = nI nt) (hP : ∀ i, i < nt → rP r i = 0 ∨ rP r i = 1) (hB : TB (fun _ => r) nt (hh + 1)) (h0 : σ.1 19 0 - d = l) (hl : 10 ≤ l ∧ l ≤ 40) (h1 : σ.1 19 1 = nI s) (h2 : σ.1 19 2 = nI b) (h4 : σ.1 19 4 = nI p) (hp : p < 360) (h5 : σ.1 19 5 = nI hh) (ht : turnsS (nI s) l = nI t) (ht2 : t ≤ 144)
    (hbr : br = if strainS (nI s) l (cabQ r 0 (nI (hh + 1)) nt) (cabQ r 1 (nI (hh + 1)) nt) ≤ nI b then 0 else 1) (hΦ : Φ (if br = 0 then l else -1) (sV (sV (sV (sV σ 19 0 l) 19 5 (nI (hh + 1))) 19 4 (nI (placeN p t))) 19 6 br)) : wL_hour σ 19 d Φ := by
  unfold wL_hour
  refine ⟨vi 0 (by omega), vi 0 (by omega), vi 5 (by omega), vi 5 (by omega), vi 4 (by omega), vi 0 (by omega), ?_⟩
  have e : sV (sV σ 19 (0 : Int32).toNatClampNeg (σ.1 19 (0 : Int32).toNatClampNeg - d)) 19 (5 : Int32).toNatClampNeg ((sV σ 19 (0 : Int32).toNatClampNeg (σ.1 19 (0 : Int32).toNatClampNeg - d)).1 19 (5 : Int32).toNatClampNeg + 1) = sV (sV σ 19 0 l) 19 5 (nI (hh + 1)) := by
    show sV (sV σ 19 0 (σ.1 19 0 - d)) 19 5 (σ.1 19 5 + 1) = _
    rw [h0, h5, nI_1]
  rw [e]
  refine l_turns (σ := sV (sV σ 19 0 l) 19 5 (nI (hh + 1))) (sp := nI s) h1 hl ?_
  refine ⟨by decide, vi 4 (by omega), vi 0 (by omega), ?_⟩
  have e2 : (sV (sV σ 19 0 l) 19 5 (nI (hh + 1))).1 19 (4 : Int32).toNatClampNeg + turnsS (nI s) l * 10 = nI (p + t * 10) := by
    show σ.1 19 4 + turnsS (nI s) l * 10 = _
    rw [h4, ht, show (10 : Int32) = nI 10 from rfl, nI_mul, nI_add]
  have e3 : nI (p + t * 10) - nI (p + t * 10) / 360 * 360 = nI (placeN p t) := by
    rw [show (360 : Int32) = nI 360 from rfl, pk_rem (by omega) (by omega) (by omega)]
    rfl
  rw [show (sV (sV σ 19 0 l) 19 5 (nI (hh + 1))).1 19 (0 : Int32).toNatClampNeg = l from rfl, e2, e3, cl4]
  have hr3 : RA r ((sV (sV (sV σ 19 0 l) 19 5 (nI (hh + 1))) 19 4 (nI (placeN p t))).1 19) := ra_sV (ra_sV (ra_sV hr (by omega)) (by omega)) (by omega)
  refine l_strain (σ := sV (sV (sV σ 19 0 l) 19 5 (nI (hh + 1))) 19 4 (nI (placeN p t))) (r := r) (hh := hh + 1) (sp := nI s) (l := l) hr3 hn h7 rfl hP hB h1 hl ?_
  refine ⟨vi 2 (by omega), ?_⟩
  rw [show (sV (sV (sV σ 19 0 l) 19 5 (nI (hh + 1))) 19 4 (nI (placeN p t))).1 19 (2 : Int32).toNatClampNeg = nI b from h2]
  unfold wL_hour_57
  by_cases z : strainS (nI s) l (cabQ r 0 (nI (hh + 1)) nt) (cabQ r 1 (nI (hh + 1)) nt) ≤ nI b
  · rw [if_pos z] at hbr ⊢
    subst hbr
    rw [if_pos rfl] at hΦ
    refine ⟨vi 6 (by omega), vi 6 (by omega), ?_⟩
    rw [if_neg (show ¬ (sV (sV (sV (sV σ 19 0 l) 19 5 (nI (hh + 1))) 19 4 (nI (placeN p t))) 19 (6 : Int32).toNatClampNeg 0).1 19 (6 : Int32).toNatClampNeg = 1 from (by decide : ¬ (0 : Int32) = 1))]
    exact ⟨vi 0 (by omega), hΦ⟩
  · rw [if_neg z] at hbr ⊢
    subst hbr
    rw [if_neg (by decide)] at hΦ
    refine ⟨vi 6 (by omega), vi 6 (by omega), ?_⟩
    rw [if_pos (show (sV (sV (sV (sV σ 19 0 l) 19 5 (nI (hh + 1))) 19 4 (nI (placeN p t))) 19 (6 : Int32).toNatClampNeg 1).1 19 (6 : Int32).toNatClampNeg = 1 from rfl)]
    exact hΦ
end
section
/-! PURE PART E: the invariant; told -/
/-- the class and the law's row tell the same -/
def PI (σ : St) (nt hh s b p : Nat) : Prop :=
  σ.1 1 1 = 0 ∧ WN σ s b p ∧ (σ.1 18 0 = σ.1 3 0 ∧ σ.1 18 1 = nI s ∧ σ.1 18 2 = nI b ∧ σ.1 18 3 = σ.1 3 5 ∧ σ.1 18 4 = nI p ∧ σ.1 18 5 = nI hh ∧ σ.1 18 6 = σ.1 3 6 ∧ σ.1 18 7 = nI nt) ∧ Rdy σ nt hh ∧ (∀ i, i < nt → rP (σ.1 18) i = 0 ∨ rP (σ.1 18) i = 1) ∧ (∀ i i', i < nt → i' < nt → σ.2.2.1 i = σ.2.2.1 i' → i = i')
theorem sm_pi {σ τ : St} {nt hh s b p : Nat} (h : Sim σ τ) (hI : PI σ nt hh s b p) : PI τ nt hh s b p := by
  obtain ⟨h1, h2, h3, h4, h5, h6⟩ := hI
  have e1 : τ.1 1 = σ.1 1 := h.1 1 (by omega) (by omega)
  have e3 : τ.1 3 = σ.1 3 := h.1 3 (by omega) (by omega)
  have e18 : τ.1 18 = σ.1 18 := h.1 18 (by omega) (by omega)
  refine ⟨by rw [e1]; exact h1, sm_wn h h2, by rw [e3, e18]; exact h3, sm_rdy h h4, by rw [e18]; exact h5, by rw [h.2]; exact h6⟩
theorem ct0 (V : Nat → Nat → Int32) (nt hh : Nat) : countR V nt hh 0 = V 3 0 := by simp [countR]
theorem ct1 (V : Nat → Nat → Int32) (nt hh : Nat) : countR V nt hh 1 = turnsS (V 3 1) (V 3 0) := by simp [countR]
theorem ct2 (V : Nat → Nat → Int32) (nt hh : Nat) : countR V nt hh 2 = V 3 1 := by simp [countR]
theorem ct3 (V : Nat → Nat → Int32) (nt hh : Nat) : countR V nt hh 3 = cab2 V (nI hh) noM nt (strainS (V 3 1) (V 3 0)) := by simp [countR]
theorem ct4 (V : Nat → Nat → Int32) (nt hh : Nat) : countR V nt hh 4 = V 3 2 := by simp [countR]
theorem ct5 (V : Nat → Nat → Int32) (nt hh : Nat) : countR V nt hh 5 = V 3 5 := by simp [countR]
theorem ct6 (V : Nat → Nat → Int32) (nt hh : Nat) : countR V nt hh 6 = V 3 3 := by simp [countR]
theorem ct7 (V : Nat → Nat → Int32) (nt hh : Nat) : countR V nt hh 7 = V 3 4 := by simp [countR]
theorem ct8 (V : Nat → Nat → Int32) (nt hh : Nat) : countR V nt hh 8 = V 3 6 := by simp [countR]
theorem ct9 (V : Nat → Nat → Int32) (nt hh : Nat) : countR V nt hh 9 = V 4 2 := by simp [countR]
theorem sz_tot {P : Nat → Int32} : ∀ {n : Nat}, (∀ i, i < n → P i = 0 ∨ P i = 1) → nI n - szS P 0 n = szS P 1 n
  | 0, _ => by
    show nI 0 - (0 : Int32) = 0
    decide
  | n + 1, h => by
    have ih := sz_tot (P := P) (n := n) (fun i hi => h i (by omega))
    rw [szS, szS, ← nI_1]
    rcases h n (by omega) with e | e
    · rw [if_pos e, if_neg (by rw [e]; decide)]
      rw [← ih]
      grind
    · rw [if_neg (by rw [e]; decide), if_pos e]
      rw [← ih]
      grind
set_option maxHeartbeats 4000000 in
theorem l_told {σ : St} {nt hh s b p : Nat} {Φ : Int32 → St → Prop} (hI : PI σ nt hh s b p) (hp : Φ 1 σ) : wL_told σ 18 Φ := by
  obtain ⟨hpg, hW, ⟨r0, r1, r2, r3, r4, r5, r6, r7⟩, hR, hP, -⟩ := hI
  have hR' := hR
  obtain ⟨hT, hB, h4⟩ := hR'
  have hn := hT.1
  have hW' := hW
  obtain ⟨g1, g2, g3, g4, g5, g7, g8, q5, q6⟩ := hW'
  have l0 := wn_pos hW
  have hl : 10 ≤ σ.1 18 0 ∧ σ.1 18 0 ≤ 40 := by rw [r0]; exact g1
  have hBr : TB (fun _ => σ.1 18) nt hh := hB
  -- the cabins
  have hC : ∀ (c : Int32) (n : Nat) (v3 v4 : Int32), (c = 0 ∨ c = 1) → v3 = szS (rP (σ.1 18)) 0 nt → wL_told_281 18 Φ n σ 1 v3 (c + 1) → ((2 : Int32) ≤ c → False) → wL_told_281 18 Φ (n + 1) σ 1 v3 c := by
    intro c n v3 v4 hc hv3 hnx h2
    rw [wL_told_281, if_neg (fun z => h2 z), if_neg (by decide)]
    have hc1 : 0 ≤ c ∧ c ≤ 1 := by rcases hc with rfl | rfl <;> decide
    refine x_cabin hR hc1 (by decide) l0 ?_
    refine l_cabin (r := σ.1 18) ra_rfl hn r7 r5 hP ?_
    rw [if_pos (show cabR σ.1 nt hh c 0 = cabQ (σ.1 18) c (nI hh) nt by simp [cabR])]
    refine x_cabin hR hc1 (by decide) l0 ⟨vi 0 (by omega), ?_⟩
    rw [cl0]
    refine l_arm (r := σ.1 18) (hh := hh) ra_rfl hn r7 r5 hP hBr hl ?_
    rw [if_pos (show cabR σ.1 nt hh c 1 = armS c (σ.1 18 0) (cabQ (σ.1 18) 0 (nI hh) nt) (cabQ (σ.1 18) 1 (nI hh) nt) by rw [r0]; simp [cabR])]
    refine x_cabin hR hc1 (by decide) l0 ⟨vi 0 (by omega), ?_⟩
    refine l_floor (r := σ.1 18) (hh := hh) ra_rfl hn r7 r5 hP hBr r1 hl ?_
    rw [if_pos (show cabR σ.1 nt hh c 2 = floorS (nI s) c (σ.1 18 0) (cabQ (σ.1 18) 0 (nI hh) nt) (cabQ (σ.1 18) 1 (nI hh) nt) by rw [r0, ← g2]; simp [cabR])]
    refine x_cabin hR hc1 (by decide) l0 ?_
    have e3 : cabR σ.1 nt hh c 3 = szS (rP (σ.1 18)) c nt := by simp [cabR]
    have fin : ∀ s0 : Int32, szS (rP (σ.1 18)) c nt = s0 → wL_told_373 18 (wL_told_281 18 Φ n) Φ σ v3 c s0 (cabR σ.1 nt hh c 3) := by
      intro s0 hs
      unfold wL_told_373 wL_told_381
      rw [e3, if_pos hs]
      exact hnx
    rcases hc with rfl | rfl
    · rw [if_pos rfl]
      exact fin _ hv3.symm
    · rw [if_neg (by decide), cl7, r7, hv3]
      refine ⟨vi 7 (by omega), ?_⟩
      have := fin _ (sz_tot (n := nt) hP).symm
      rw [hv3] at this
      exact this
  have hCC : ∀ v3 : Int32, v3 = szS (rP (σ.1 18)) 0 nt → ∃ n0, wL_told_281 18 Φ n0 σ 1 v3 0 := by
    intro v3 hv3
    refine ⟨3, hC 0 2 v3 0 (Or.inl rfl) hv3 (hC 1 1 v3 0 (Or.inr rfl) hv3 ?_ (by decide)) (by decide)⟩
    rw [wL_told_281, if_pos (by decide)]
    exact ⟨by decide, hp⟩
  -- the THINGS
  have hL : ∀ m i, i + m = nt → wL_told_136 18 Φ (m + 1) σ 1 (szS (rP (σ.1 18)) 0 i) (nI i) := by
    intro m
    induction m with
    | zero =>
      intro i hi
      have : i = nt := by omega
      subst this
      rw [wL_told_136, cl7, r7, if_pos (nI_le (Nat.le_refl _) (by omega))]
      exact ⟨vi 7 (by omega), hCC _ rfl⟩
    | succ m ih =>
      intro i hi
      have ih' := ih (i + 1) (by omega)
      rw [wL_told_136, cl7, r7, if_neg (nI_ge (by omega) (by omega)), ix10, nI_clamp (show 10 + 4 * i < 2 ^ 31 by omega)]
      refine ⟨vi 7 (by omega), vi _ (by omega), ?_⟩
      have key : ∀ s0 s1 : Int32, s1 + s0 = szS (rP (σ.1 18)) 0 (i + 1) → wL_told_163 18 (wL_told_136 18 Φ (m + 1)) Φ σ 1 (nI i) s0 s1 := by
        intro s0 s1 hs
        unfold wL_told_163
        rw [if_neg (by decide), hs, ix8, ix9, ix10, ix11, nI_clamp (show 8 + 4 * i < 2 ^ 31 by omega)]
        refine x_about hR (by omega) (by decide) ⟨vi _ (by omega), ?_⟩
        rw [if_pos (show aboutR σ.1 hh i 0 = σ.1 18 (8 + 4 * i) by simp [aboutR])]
        refine x_about hR (by omega) (by decide) ⟨vi _ (by omega), ?_⟩
        rw [nI_clamp (show 9 + 4 * i < 2 ^ 31 by omega), if_pos (show aboutR σ.1 hh i 1 = σ.1 18 (9 + 4 * i) by simp [aboutR])]
        refine x_about hR (by omega) (by decide) ⟨vi _ (by omega), ?_⟩
        rw [nI_clamp (show 10 + 4 * i < 2 ^ 31 by omega), if_pos (show aboutR σ.1 hh i 2 = σ.1 18 (10 + 4 * i) by simp [aboutR])]
        refine x_about hR (by omega) (by decide) ?_
        refine l_weighs (r := σ.1 18) ra_rfl (by omega) r5 ?_
        rw [if_pos (show aboutR σ.1 hh i 3 = wgQ (σ.1 18) (nI hh) i by simp [aboutR])]
        refine x_about hR (by omega) (by decide) ⟨vi 5 (by omega), vi _ (by omega), ?_⟩
        rw [nI_clamp (show 11 + 4 * i < 2 ^ 31 by omega), cl5, r5, if_pos (show aboutR σ.1 hh i 4 = nI hh - σ.1 18 (11 + 4 * i) by simp [aboutR])]
        unfold wL_told_271
        rw [nI_1]
        exact ih'
      by_cases hc : σ.1 18 (10 + 4 * i) = 0
      · rw [if_pos hc]
        exact key 1 _ (by rw [szS, if_pos (show rP (σ.1 18) i = 0 from hc)])
      · rw [if_neg hc]
        exact key 0 _ (by rw [szS, if_neg (show ¬ rP (σ.1 18) i = 0 from hc), Int32.add_zero])
  unfold wL_told
  refine x_count hR q5 q6 ⟨vi 0 (by omega), ?_⟩
  rw [cl0, cl1, cl2, cl3, cl4, cl5, cl6, cl7, if_pos (show countR σ.1 nt hh 0 = σ.1 18 0 by rw [ct0, r0])]
  refine x_count hR q5 q6 ⟨vi 0 (by omega), ?_⟩
  refine l_turns r1 hl ?_
  rw [if_pos (show countR σ.1 nt hh 1 = turnsS (nI s) (σ.1 18 0) by rw [ct1, g2, r0])]
  refine x_count hR q5 q6 ⟨vi 1 (by omega), ?_⟩
  rw [if_pos (show countR σ.1 nt hh 2 = σ.1 18 1 by rw [ct2, g2, r1])]
  refine x_count hR q5 q6 ⟨vi 0 (by omega), ?_⟩
  refine l_strain (r := σ.1 18) (hh := hh) ra_rfl hn r7 r5 hP hBr r1 hl ?_
  rw [if_pos (show countR σ.1 nt hh 3 = strainS (nI s) (σ.1 18 0) (cabQ (σ.1 18) 0 (nI hh) nt) (cabQ (σ.1 18) 1 (nI hh) nt) by rw [ct3, g2, r0])]
  refine x_count hR q5 q6 ⟨vi 2 (by omega), ?_⟩
  rw [if_pos (show countR σ.1 nt hh 4 = σ.1 18 2 by rw [ct4, g4, r2])]
  refine x_count hR q5 q6 ⟨vi 3 (by omega), ?_⟩
  rw [if_pos (show countR σ.1 nt hh 5 = σ.1 18 3 by rw [ct5, r3])]
  refine x_count hR q5 q6 ⟨vi 4 (by omega), ?_⟩
  rw [if_pos (show countR σ.1 nt hh 6 = σ.1 18 4 by rw [ct6, g7, r4])]
  refine x_count hR q5 q6 ⟨vi 5 (by omega), ?_⟩
  rw [if_pos (show countR σ.1 nt hh 7 = σ.1 18 5 by rw [ct7, h4, r5])]
  refine x_count hR q5 q6 ⟨vi 6 (by omega), ?_⟩
  rw [if_pos (show countR σ.1 nt hh 8 = σ.1 18 6 by rw [ct8, r6])]
  refine x_count hR q5 q6 ⟨vi 7 (by omega), ?_⟩
  rw [if_pos (show countR σ.1 nt hh 9 = σ.1 18 7 by rw [ct9, hT.2.1, r7])]
  unfold wL_told_130
  exact ⟨nt + 1, hL nt 0 (by omega)⟩
end
section
/-! PURE PART F: letters, one at a time; the wire's text; wire -/
theorem lb_se {x : BitVec 64} {j : Nat} (hj : j < 32) : (BitVec.signExtend 32 x).getLsbD j = x.getLsbD j := by
  rw [BitVec.getLsbD_signExtend]
  simp [hj, show j < 64 by omega]
theorem lb_and (V : Int64) : (V &&& 255).toInt32 = V.toInt32 &&& 255 := by
  apply Int32.toBitVec_inj.1
  rw [Int64.toBitVec_toInt32, Int64.toBitVec_and, Int32.toBitVec_and, Int64.toBitVec_toInt32]
  apply BitVec.eq_of_getLsbD_eq
  intro j hj
  rw [lb_se hj, BitVec.getLsbD_and, BitVec.getLsbD_and, lb_se hj]
  have h255 : (255 : Int64).toBitVec.getLsbD j = (255 : Int32).toBitVec.getLsbD j := by
    have : ∀ j, j < 32 → (255 : Int64).toBitVec.getLsbD j = (255 : Int32).toBitVec.getLsbD j := by decide
    exact this j hj
  rw [h255]
theorem lb_hi : ∀ j, j < 32 → 8 ≤ j → (255 : Int32).toBitVec.getLsbD j = false := by decide
theorem lb_sh {v : Int64} {k : Nat} {a : UInt64} {b : Int64} (hk : k + 8 ≤ 64) (e1 : (a.toBitVec % 64).toNat = k) (e2 : (b.toBitVec.smod 64).toNat = k) : (v.toUInt64 >>> a).toInt64.toInt32 &&& 255 = (v >>> b).toInt32 &&& 255 := by
  apply Int32.toBitVec_inj.1
  rw [Int32.toBitVec_and, Int32.toBitVec_and, Int64.toBitVec_toInt32, Int64.toBitVec_toInt32, Int64.toBitVec_shiftRight]
  rw [show (v.toUInt64 >>> a).toInt64.toBitVec = v.toBitVec >>> (a.toBitVec % 64) from rfl]
  apply BitVec.eq_of_getLsbD_eq
  intro j hj
  rw [BitVec.getLsbD_and, BitVec.getLsbD_and, lb_se hj, lb_se hj]
  by_cases h8 : 8 ≤ j
  · rw [lb_hi j hj h8, Bool.and_false, Bool.and_false]
  · congr 1
    show (v.toBitVec >>> (a.toBitVec % 64).toNat).getLsbD j = (v.toBitVec.sshiftRight (b.toBitVec.smod 64).toNat).getLsbD j
    rw [e1, e2, BitVec.getLsbD_ushiftRight, BitVec.getLsbD_sshiftRight]
    simp [show ¬ 64 ≤ j by omega, show k + j < 64 by omega]
def byS (v : Int64) (i : Nat) : Int32 := (v >>> (((8 : Int32) * nI i).toInt64 &&& 63)).toInt32 &&& 255
theorem by_x (v : Int64) : ∀ i, i < 8 → (v.toUInt64 >>> (((8 : Int32) * nI i).toInt64.toUInt64 &&& Int64.toUInt64 63)).toInt64.toInt32 &&& 255 = byS v i := by
  intro i hi
  unfold byS
  have hi' : i = 0 ∨ i = 1 ∨ i = 2 ∨ i = 3 ∨ i = 4 ∨ i = 5 ∨ i = 6 ∨ i = 7 := by omega
  rcases hi' with rfl | rfl | rfl | rfl | rfl | rfl | rfl | rfl
  · exact lb_sh (k := 0) (by omega) (by decide) (by decide)
  · exact lb_sh (k := 8) (by omega) (by decide) (by decide)
  · exact lb_sh (k := 16) (by omega) (by decide) (by decide)
  · exact lb_sh (k := 24) (by omega) (by decide) (by decide)
  · exact lb_sh (k := 32) (by omega) (by decide) (by decide)
  · exact lb_sh (k := 40) (by omega) (by decide) (by decide)
  · exact lb_sh (k := 48) (by omega) (by decide) (by decide)
  · exact lb_sh (k := 56) (by omega) (by decide) (by decide)
theorem by_nat (x : Int32) : ∃ c : Nat, x &&& 255 = nI c ∧ c < 256 := by
  refine ⟨(x &&& 255).toBitVec.toNat, ?_, ?_⟩
  · apply Int32.toBitVec_inj.1
    show (x &&& 255).toBitVec = BitVec.ofNat 32 (x &&& 255).toBitVec.toNat
    rw [BitVec.ofNat_toNat]
    simp
  · rw [Int32.toBitVec_and, BitVec.toNat_and]
    have : x.toBitVec.toNat &&& (255 : Int32).toBitVec.toNat ≤ (255 : Int32).toBitVec.toNat := Nat.and_le_right
    have e : (255 : Int32).toBitVec.toNat = 255 := by decide
    omega
theorem by_c : ∀ c, c < 256 → vp_nar .char ((nI c).toUInt32 % 65536).toInt32 = nI c := by decide +kernel
theorem by_of (v : Int64) (i : Nat) : ∃ c : Nat, byS v i = nI c ∧ c < 256 := by_nat _
def byN (v : Int64) (i : Nat) : Nat := (byS v i).toNatClampNeg
theorem byN_e (v : Int64) (i : Nat) : byS v i = nI (byN v i) ∧ byN v i < 256 := by
  obtain ⟨c, e, hc⟩ := by_of v i
  unfold byN
  rw [e, nI_clamp (by omega)]
  exact ⟨rfl, hc⟩
def lsR (c : Nat → Nat) : Nat → Nat → Nat → Bool → Option Nat
  | 0, _, many, _ => some many
  | m + 1, i, many, en => if 126 < c i then none else if en = true ∧ ¬ c i = 0 then none else if c i = 0 then lsR c m (i + 1) many true else lsR c m (i + 1) (many + 1) en
def enI (b : Bool) : Int32 := if b then 1 else 0
theorem c_126 {v : Int64} {i : Nat} : (126 : Int32) < byS v i ↔ 126 < byN v i := by
  obtain ⟨e, hc⟩ := byN_e v i
  rw [e]
  exact nI_ltI (a := 126) (by omega) (by omega)
theorem c_0 {v : Int64} {i : Nat} : byS v i = 0 ↔ byN v i = 0 := by
  obtain ⟨e, hc⟩ := byN_e v i
  rw [e]
  exact nI_eq (b := 0) (by omega) (by omega)
theorem x_in {σ : St} {v : Int64} {Φ : Int32 → St → Prop} (hp : match lsR (byN v) 8 0 0 false with | none => Φ (-1) σ | some n => Φ (nI n) σ) : wX11_lettersIn σ v Φ := by
  have key : ∀ m i many en, i + m = 8 → (match lsR (byN v) m i many en with | none => Φ (-1) σ | some n => Φ (nI n) σ) → wX11_lettersIn_7 Φ (m + 1) σ v (nI many) (enI en) (nI i) := by
    intro m
    induction m with
    | zero =>
      intro i many en hi h
      have : i = 8 := by omega
      subst this
      rw [wX11_lettersIn_7, if_pos (show (8 : Int32) ≤ nI 8 by decide)]
      rw [lsR] at h
      exact h
    | succ m ih =>
      intro i many en hi h
      rw [wX11_lettersIn_7, if_neg (show ¬ (8 : Int32) ≤ nI i from nI_ge (b := 8) (by omega) (by omega))]
      unfold wX11_byteOf
      rw [by_x v i (by omega)]
      rw [lsR] at h
      by_cases h1 : 126 < byN v i
      · rw [if_pos (c_126.mpr h1)]
        rw [if_pos h1] at h
        exact h
      · rw [if_neg (fun q => h1 (c_126.mp q))]
        rw [if_neg h1] at h
        have k40 : (match (if byN v i = 0 then lsR (byN v) m (i + 1) many true else lsR (byN v) m (i + 1) (many + 1) en) with | none => Φ (-1) σ | some n => Φ (nI n) σ) → wX11_lettersIn_40 (wX11_lettersIn_7 Φ (m + 1)) Φ σ v (nI many) (enI en) (nI i) (byS v i) := by
          intro h
          unfold wX11_lettersIn_40 wX11_lettersIn_53
          rw [nI_1, nI_1]
          by_cases h3 : byN v i = 0
          · rw [if_pos (c_0.mpr h3)]
            rw [if_pos h3] at h
            exact ih (i + 1) many true (by omega) h
          · rw [if_neg (fun q => h3 (c_0.mp q))]
            rw [if_neg h3] at h
            exact ih (i + 1) (many + 1) en (by omega) h
        cases en with
        | false =>
          rw [show enI false = 0 from rfl, if_pos rfl]
          rw [if_neg (fun q => absurd q.1 (by decide))] at h
          exact k40 h
        | true =>
          rw [show enI true = 1 from rfl, if_neg (by decide)]
          by_cases h3 : byN v i = 0
          · rw [if_pos (c_0.mpr h3)]
            rw [if_neg (fun q => q.2 h3)] at h
            exact k40 h
          · rw [if_neg (fun q => h3 (c_0.mp q))]
            rw [if_pos ⟨rfl, h3⟩] at h
            exact h
  exact ⟨9, key 8 0 0 false (by omega) hp⟩
def rowF (V : Nat → Nat → Int32) (k p n : Nat) (f : Nat → Int32) : Nat → Nat → Int32 := fun a b => if a = k ∧ p ≤ b ∧ b < p + n then f (b - p) else V a b
theorem rowF_0 {V : Nat → Nat → Int32} {k p : Nat} {f : Nat → Int32} : rowF V k p 0 f = V := by
  funext a b
  unfold rowF
  rw [if_neg (by omega)]
theorem rowF_s {V : Nat → Nat → Int32} {k p n : Nat} {f : Nat → Int32} : up2 (rowF V k p n f) k (p + n) (f n) = rowF V k p (n + 1) f := by
  funext a b
  unfold rowF up2 va_up
  by_cases h1 : a = k
  · subst h1
    by_cases h2 : b = p + n
    · subst h2; simp
    · simp [h2, show (b < p + (n + 1)) = (b < p + n) by apply propext; omega]
  · simp [h1]
theorem rowF_x {V : Nat → Nat → Int32} {p n : Nat} {f : Nat → Int32} {x y : Int32} : up2 (up2 (up2 (rowF V 2 p n f) 1 1 x) 2 (p + n) (f n)) 1 1 y = up2 (rowF V 2 p (n + 1) f) 1 1 y := by
  rw [← rowF_s]
  funext a b
  unfold up2 va_up
  by_cases h1 : a = 1
  · subst h1
    by_cases h2 : b = 1
    · subst h2; simp
    · simp [h2]
  · by_cases h2 : a = 2
    · subst h2; simp
    · simp [h1, h2]
theorem x_put {τ : St} {n : Nat} {v : Int32} {Φ : St → Prop} (h : τ.1 1 1 = nI n) (hn : n < 12) (hp : Φ (sV (sV τ 2 n (vp_nar .char v)) 1 1 (nI (n + 1)))) : wX7_put τ v Φ := by
  unfold wX7_put
  rw [h, if_neg (nI_pos (by omega)), if_neg (show ¬ (12 : Int32) ≤ nI n from nI_ge (b := 12) hn (by omega)), nI_clamp (by omega), show (sV τ 2 n (vp_nar .char v)).1 1 1 = nI n from h, nI_1]
  exact ⟨vp_in_nI (by omega) (by omega), hp⟩
theorem x_putL {σ : St} {v : Int64} {np N : Nat} {Φ : Int32 → St → Prop} (h1 : σ.1 1 1 = nI np) (hN : np + N ≤ 12) (hp : Φ (nI (np + N)) (up2 (rowF σ.1 2 np N (fun i => nI (byN v i))) 1 1 (nI (np + N)), σ.2)) (hN8 : N ≤ 8) : ∃ n0, wX11_letters_29 Φ n0 σ v (nI N) 0 := by
  have key : ∀ m i, i + m = N → wX11_letters_29 Φ (m + 1) (up2 (rowF σ.1 2 np i (fun i => nI (byN v i))) 1 1 (nI (np + i)), σ.2) v (nI N) (nI i) := by
    intro m
    induction m with
    | zero =>
      intro i hi
      have : i = N := by omega
      subst this
      rw [wX11_letters_29, if_pos (nI_le (Nat.le_refl _) (by omega))]
      exact hp
    | succ m ih =>
      intro i hi
      have ih' := ih (i + 1) (by omega)
      rw [wX11_letters_29, if_neg (nI_ge (by omega) (by omega))]
      unfold wX11_byteOf
      rw [by_x v i (by omega), (byN_e v i).1]
      refine x_put (n := np + i) rfl (by omega) ?_
      rw [by_c _ (byN_e v i).2, nI_1]
      have e : sV (sV (up2 (rowF σ.1 2 np i (fun i => nI (byN v i))) 1 1 (nI (np + i)), σ.2) 2 (np + i) (nI (byN v i))) 1 1 (nI (np + i + 1)) = (up2 (rowF σ.1 2 np (i + 1) (fun i => nI (byN v i))) 1 1 (nI (np + i + 1)), σ.2) := by
        unfold sV
        dsimp only
        rw [← rowF_x (x := nI (np + i))]
      rw [e]
      exact ih'
  have k0 := key N 0 (by omega)
  have e0 : ((up2 (rowF σ.1 2 np 0 (fun i => nI (byN v i))) 1 1 (nI (np + 0)), σ.2) : St) = σ := by
    rw [rowF_0, Nat.add_zero, ← h1]
    have : up2 σ.1 1 1 (σ.1 1 1) = σ.1 := by
      funext a b
      unfold up2 va_up
      by_cases q : a = 1
      · subst q
        by_cases r : b = 1
        · subst r; simp
        · simp [r]
      · simp [q]
    rw [this]
  rw [e0] at k0
  exact ⟨N + 1, k0⟩
theorem by1 : ∀ c, c < 127 → byN (nI c).toInt64 0 = c := by decide +kernel
theorem ls1 : ∀ c, c < 127 → 0 < c → lsR (byN (nI c).toInt64) 8 0 0 false = some 1 := by decide +kernel
theorem i_put {σ : St} {np c : Nat} {Φ : Int32 → St → Prop} (h1 : σ.1 1 1 = nI np) (hn : np < 12) (hc0 : 0 < c) (hc : c < 127) (hp : Φ 1 (sV (sV σ 2 np (nI c)) 1 1 (nI (np + 1)))) : wL_put σ (nI c) Φ := by
  unfold wL_put wX11_letters
  refine x_in ?_
  rw [ls1 c hc hc0]
  dsimp only
  rw [if_pos (nI_pos' (by omega))]
  unfold wX7_hasRoomFor
  rw [h1, nI_add, if_neg (show ¬ (12 : Int32) < nI (np + 1) from nI_nlt (a := 12) (by omega) (by omega))]
  refine ⟨by decide, ?_⟩
  dsimp only
  rw [if_neg (by decide)]
  refine x_putL h1 (N := 1) (by omega) ?_ (by omega)
  rw [if_neg (show ¬ nI (np + 1) ≤ 0 from nI_ge (a := 0) (by omega) (by omega))]
  refine ⟨by decide, ?_⟩
  have e : ((up2 (rowF σ.1 2 np 1 (fun i => nI (byN (nI c).toInt64 i))) 1 1 (nI (np + 1)), σ.2) : St) = sV (sV σ 2 np (nI c)) 1 1 (nI (np + 1)) := by
    have e1 := rowF_s (V := σ.1) (k := 2) (p := np) (n := 0) (f := fun i => nI (byN (nI c).toInt64 i))
    rw [rowF_0, Nat.add_zero, by1 c hc] at e1
    unfold sV
    rw [e1]
  rw [e]
  exact hp
/-- the PAGE holds the first letters of a row; all else is as it was -/
def PG (σ τ : St) (np : Nat) (c : Nat → Nat) : Prop := τ.1 1 1 = nI np ∧ (∀ k, k < np → τ.1 2 k = nI (c k)) ∧ (∀ k, k ≠ 1 → k ≠ 2 → τ.1 k = σ.1 k) ∧ τ.2 = σ.2
theorem pg_put {σ τ : St} {np : Nat} {c : Nat → Nat} {v : Int32} {Φ : Int32 → St → Prop} (h : PG σ τ np c) (hn : np < 12) (hv : v = nI (c np)) (hc0 : 0 < c np) (hc : c np < 127) (hp : ∀ τ', PG σ τ' (np + 1) c → Φ 1 τ') : wL_put τ v Φ := by
  rw [hv]
  refine i_put h.1 hn hc0 hc (hp _ ⟨rfl, fun k hk => ?_, fun k h1 h2 => ?_, h.2.2.2⟩)
  · show up2 (up2 τ.1 2 np (nI (c np))) 1 1 (nI (np + 1)) 2 k = nI (c k)
    unfold up2 va_up
    by_cases q : k = np
    · subst q; simp
    · simp [q, h.2.1 k (by omega)]
  · show up2 (up2 τ.1 2 np (nI (c np))) 1 1 (nI (np + 1)) k = σ.1 k
    rw [← h.2.2.1 k h1 h2]
    unfold up2 va_up
    rw [if_neg h1, if_neg h2]
def btB (x lo hi : Int32) : Bool := decide (lo ≤ x) && decide (x ≤ hi)
def okB (c : Nat → Int32) (i : Nat) : Bool := if i = 0 then btB (c 0) 49 52 else if i = 1 then btB (c 1) 48 (if c 0 = 52 then 48 else 57) else if i = 2 then decide (c 2 = 58) else if i = 3 then btB (c 3) 49 57 else if i = 4 then decide (c 4 = 58) else if i = 5 then btB (c 5) 49 57 else if i = 6 then btB (c 6) 48 57 else if i = 7 then btB (c 7) 48 57 else if i = 8 then decide (c 8 = 111) else false
def bI (b : Bool) : Int32 := if b then 1 else 0
theorem bI01 (b : Bool) : bI b = 0 ∨ bI b = 1 := by cases b <;> simp [bI]
theorem i_pat {σ : St} {np i : Nat} {Φ : Int32 → St → Prop} (h : σ.1 1 1 = nI np) (hn : np ≤ 12) (hi : i < np) (hp : Φ (σ.1 2 i) σ) : wX7_at σ (nI i) Φ := by
  unfold wX7_at
  rw [if_neg (nI_pos (by omega)), h, if_neg (nI_ge hi (by omega)), if_neg (show ¬ (12 : Int32) ≤ nI i from nI_ge (b := 12) (by omega) (by omega)), nI_clamp (by omega)]
  exact ⟨vp_in_nI (by omega) (by omega), hp⟩
theorem i_btw {σ : St} {np i : Nat} {lo hi : Int32} {Φ : Int32 → St → Prop} (h : σ.1 1 1 = nI np) (hn : np ≤ 12) (hi' : i < np) (hp : Φ (bI (btB (σ.1 2 i) lo hi)) σ) : wX7_isBetween σ (nI i) lo hi Φ := by
  unfold wX7_isBetween
  refine i_pat h hn hi' ?_
  unfold btB bI at hp
  by_cases q : σ.1 2 i < lo
  · rw [if_pos q]
    rw [decide_eq_false (show ¬ lo ≤ σ.1 2 i by grind)] at hp
    exact ⟨by decide, hp⟩
  · rw [if_neg q]
    refine i_pat h hn hi' ?_
    rw [decide_eq_true (show lo ≤ σ.1 2 i by grind)] at hp
    by_cases r : hi < σ.1 2 i
    · rw [if_pos r]
      rw [decide_eq_false (show ¬ σ.1 2 i ≤ hi by grind)] at hp
      exact ⟨by decide, hp⟩
    · rw [if_neg r]
      rw [decide_eq_true (show σ.1 2 i ≤ hi by grind)] at hp
      exact ⟨by decide, hp⟩
theorem i_btw01 {σ : St} {np i : Nat} {lo hi : Int32} {Φ : Int32 → St → Prop} (h : σ.1 1 1 = nI np) (hn : np ≤ 12) (hi' : i < np) (hp : Φ (bI (btB (σ.1 2 i) lo hi)) σ) : wX7_isBetween σ (nI i) lo hi (fun r2 σ1 => ((r2 = 0 ∨ r2 = 1) ∧ Φ r2 σ1)) := i_btw h hn hi' ⟨bI01 _, hp⟩
theorem i_eqL {σ : St} {np i : Nat} {d : Int32} {Φ : Int32 → St → Prop} (h : σ.1 1 1 = nI np) (hn : np ≤ 12) (hi' : i < np) (hp : Φ (bI (decide (σ.1 2 i = d))) σ) : wX7_at σ (nI i) (fun r10 σ9 => (if r10 = d then (((1 : Int32) = 0 ∨ (1 : Int32) = 1) ∧ Φ (1 : Int32) σ9) else (((0 : Int32) = 0 ∨ (0 : Int32) = 1) ∧ Φ (0 : Int32) σ9))) := by
  refine i_pat h hn hi' ?_
  by_cases q : σ.1 2 i = d
  · rw [if_pos q]
    rw [decide_eq_true q] at hp
    exact ⟨by decide, hp⟩
  · rw [if_neg q]
    rw [decide_eq_false q] at hp
    exact ⟨by decide, hp⟩
theorem x_letter {σ : St} {np i : Nat} {Φ : Int32 → St → Prop} (h : σ.1 1 1 = nI np) (hn : np ≤ 12) (hi' : i < np) (hp : Φ (bI (okB (σ.1 2) i)) σ) : wX7_isWireLetter σ (nI i) Φ := by
  unfold wX7_isWireLetter
  have hi : i = 0 ∨ i = 1 ∨ i = 2 ∨ i = 3 ∨ i = 4 ∨ i = 5 ∨ i = 6 ∨ i = 7 ∨ i = 8 ∨ i = 9 ∨ i = 10 ∨ i = 11 := by omega
  rcases hi with rfl | rfl | rfl | rfl | rfl | rfl | rfl | rfl | rfl | rfl | rfl | rfl
  · exact ⟨fun _ => i_btw01 h hn hi' hp, ne_d rfl, ne_d rfl, ne_d rfl, ne_d rfl, ne_d rfl, ne_d rfl, ne_d rfl, ne_d rfl, fun e => absurd e (by decide)⟩
  · refine ⟨ne_d rfl, fun _ => ?_, ne_d rfl, ne_d rfl, ne_d rfl, ne_d rfl, ne_d rfl, ne_d rfl, ne_d rfl, fun e => absurd e (by decide)⟩
    refine i_pat (i := 0) h hn (by omega) ?_
    have hp' : Φ (bI (btB (σ.1 2 1) 48 (if σ.1 2 0 = 52 then 48 else 57))) σ := hp
    unfold wX7_isWireLetter_83
    by_cases q : σ.1 2 0 = 52
    · rw [if_pos q]
      rw [if_pos q] at hp'
      exact i_btw01 h hn hi' hp'
    · rw [if_neg q]
      rw [if_neg q] at hp'
      exact i_btw01 h hn hi' hp'
  · exact ⟨ne_d rfl, ne_d rfl, fun _ => i_eqL h hn hi' hp, ne_d rfl, ne_d rfl, ne_d rfl, ne_d rfl, ne_d rfl, ne_d rfl, fun e => absurd e (by decide)⟩
  · exact ⟨ne_d rfl, ne_d rfl, ne_d rfl, fun _ => i_btw01 h hn hi' hp, ne_d rfl, ne_d rfl, ne_d rfl, ne_d rfl, ne_d rfl, fun e => absurd e (by decide)⟩
  · exact ⟨ne_d rfl, ne_d rfl, ne_d rfl, ne_d rfl, fun _ => i_eqL h hn hi' hp, ne_d rfl, ne_d rfl, ne_d rfl, ne_d rfl, fun e => absurd e (by decide)⟩
  · exact ⟨ne_d rfl, ne_d rfl, ne_d rfl, ne_d rfl, ne_d rfl, fun _ => i_btw01 h hn hi' hp, ne_d rfl, ne_d rfl, ne_d rfl, fun e => absurd e (by decide)⟩
  · exact ⟨ne_d rfl, ne_d rfl, ne_d rfl, ne_d rfl, ne_d rfl, ne_d rfl, fun _ => i_btw01 h hn hi' hp, ne_d rfl, ne_d rfl, fun e => absurd e (by decide)⟩
  · exact ⟨ne_d rfl, ne_d rfl, ne_d rfl, ne_d rfl, ne_d rfl, ne_d rfl, ne_d rfl, fun _ => i_btw01 h hn hi' hp, ne_d rfl, fun e => absurd e (by decide)⟩
  · exact ⟨ne_d rfl, ne_d rfl, ne_d rfl, ne_d rfl, ne_d rfl, ne_d rfl, ne_d rfl, ne_d rfl, fun _ => i_eqL h hn hi' hp, fun e => absurd e (by decide)⟩
  · exact ⟨ne_d rfl, ne_d rfl, ne_d rfl, ne_d rfl, ne_d rfl, ne_d rfl, ne_d rfl, ne_d rfl, ne_d rfl, fun _ => ⟨by decide, hp⟩⟩
  · exact ⟨ne_d rfl, ne_d rfl, ne_d rfl, ne_d rfl, ne_d rfl, ne_d rfl, ne_d rfl, ne_d rfl, ne_d rfl, fun _ => ⟨by decide, hp⟩⟩
  · exact ⟨ne_d rfl, ne_d rfl, ne_d rfl, ne_d rfl, ne_d rfl, ne_d rfl, ne_d rfl, ne_d rfl, ne_d rfl, fun _ => ⟨by decide, hp⟩⟩
def fwN (c : Nat → Int32) : Nat → Nat → Nat
  | 0, i => i
  | m + 1, i => if okB c i = true then fwN c m (i + 1) else i
theorem x_first {σ : St} {np : Nat} {Φ : Int32 → St → Prop} (h : σ.1 1 1 = nI np) (hn : np ≤ 12) (hp : Φ (nI (fwN (σ.1 2) np 0)) σ) : wX7_firstWrong σ Φ := by
  have key : ∀ m i, i + m = np → Φ (nI (fwN (σ.1 2) m i)) σ → wX7_firstWrong_2 Φ (m + 1) σ (nI i) := by
    intro m
    induction m with
    | zero =>
      intro i hi h2
      have : i = np := by omega
      subst this
      rw [wX7_firstWrong_2, h, if_pos (nI_le (Nat.le_refl _) (by omega))]
      exact h2
    | succ m ih =>
      intro i hi h2
      rw [wX7_firstWrong_2, h, if_neg (nI_ge (by omega) (by omega))]
      refine x_letter h hn (by omega) ?_
      rw [fwN] at h2
      by_cases q : okB (σ.1 2) i = true
      · rw [if_pos q] at h2
        rw [q, if_neg (by decide), nI_1]
        exact ih (i + 1) (by omega) h2
      · rw [if_neg q] at h2
        have q' : okB (σ.1 2) i = false := by simpa using q
        rw [q', if_pos (show bI false = 0 from rfl)]
        exact h2
  exact ⟨np + 1, key np 0 (by omega) hp⟩
def lenW (c : Nat → Int32) : Int32 := 10 * (c 0 - 48) + (c 1 - 48)
def spnW (c : Nat → Int32) : Int32 := (lenW c * lenW c) * (c 3 - 48)
def beaW (c : Nat → Int32) : Int32 := (100 * (c 5 - 48) + 10 * (c 6 - 48)) + (c 7 - 48)
def hgX (σ : St) (c : Nat → Int32) (o : Int32) : St := sV (sV (sV (sV (sV (sV (sV σ 3 0 (lenW c)) 3 1 (spnW c)) 3 2 (beaW c)) 3 5 o) 3 3 0) 3 4 0) 3 6 0
theorem x_hang {σ : St} {np : Nat} {Φ : St → Prop} (h : σ.1 1 1 = nI np) (h8 : 8 ≤ np) (hn : np ≤ 12) (hp : Φ (hgX σ (σ.1 2) (if np ≤ 8 then 0 else 1))) : wX0_hang σ 3 Φ := by
  unfold wX0_hang wX7_digitAt
  refine i_pat (i := 0) h hn (by omega) (i_pat (i := 1) h hn (by omega) (i_pat (i := 3) h hn (by omega) (i_pat (i := 5) h hn (by omega) (i_pat (i := 6) h hn (by omega) (i_pat (i := 7) h hn (by omega) ?_)))))
  have key : (if σ.1 1 1 ≤ 8 then wX0_hang_81 3 Φ (sV (sV (sV σ 3 0 (lenW (σ.1 2))) 3 1 (spnW (σ.1 2))) 3 2 (beaW (σ.1 2))) 0 else wX0_hang_81 3 Φ (sV (sV (sV σ 3 0 (lenW (σ.1 2))) 3 1 (spnW (σ.1 2))) 3 2 (beaW (σ.1 2))) 1) := by
    unfold wX0_hang_81
    rw [h]
    by_cases q : np ≤ 8
    · rw [if_pos (show nI np ≤ 8 from nI_le (b := 8) q (by omega))]
      rw [if_pos q] at hp
      exact ⟨by decide, by decide, hp⟩
    · rw [if_neg (show ¬ nI np ≤ 8 from nI_ge (a := 8) (by omega) (by omega))]
      rw [if_neg q] at hp
      exact ⟨by decide, by decide, hp⟩
  exact key
theorem i_cut {σ : St} {nt ks : Nat} {Φ : St → Prop} (hn : nt ≤ 6) (hk : ks ≤ nt) (h2 : σ.1 4 2 = nI nt) (hp : ∀ th : Nat → Option Nat, (∀ i, i < ks → th i = σ.2.2.1 i) → Φ (up2 σ.1 4 2 (nI ks), σ.2.1, th, σ.2.2.2)) : wX6_cutTo σ (nI ks) Φ := by
  have key : ∀ m i, i + m = 6 → ∀ th : Nat → Option Nat, (∀ i, i < ks → th i = σ.2.2.1 i) → wX6_cutTo_2 Φ (m + 1) (σ.1, σ.2.1, th, σ.2.2.2) (nI ks) (nI i) := by
    intro m
    induction m with
    | zero =>
      intro i hi th hth
      have : i = 6 := by omega
      subst this
      rw [wX6_cutTo_2, if_pos (show (6 : Int32) ≤ nI 6 by decide), e_min]
      dsimp only
      rw [h2]
      have e : (if nI ks < nI nt then nI ks else nI nt) = nI ks := by
        by_cases q : ks = nt
        · subst q; simp
        · rw [if_pos (nI_lt (by omega) (by omega))]
      rw [e]
      exact hp th hth
    | succ m ih =>
      intro i hi th hth
      rw [wX6_cutTo_2, if_neg (show ¬ (6 : Int32) ≤ nI i from nI_ge (b := 6) (by omega) (by omega))]
      by_cases hlt : i < ks
      · rw [if_pos (nI_lt hlt (by omega))]
        unfold wX6_cutTo_23
        rw [nI_1]
        exact ih (i + 1) (by omega) th hth
      · rw [if_neg (nI_nlt (by omega) (by omega)), nI_clamp (by omega)]
        refine ⟨vp_in_nI (by omega) (by omega), ?_⟩
        unfold wX6_cutTo_23
        rw [nI_1]
        refine ih (i + 1) (by omega) (va_up th i none) (fun i' hi' => ?_)
        unfold va_up
        rw [if_neg (by omega)]
        exact hth i' hi'
  exact ⟨7, key 6 0 (by omega) σ.2.2.1 (fun i hi => rfl)⟩
theorem fw_ok {c : Nat → Int32} : ∀ m i, (∀ k, i ≤ k → k < i + m → okB c k = true) → fwN c m i = i + m
  | 0, _, _ => rfl
  | m + 1, i, h => by
    rw [fwN, if_pos (h i (Nat.le_refl _) (by omega)), fw_ok m (i + 1) (fun k h1 h2 => h k (by omega) (by omega))]
    omega
/-- the letters of a WIRE -/
def wcN (l t b : Nat) (k : Nat) : Nat := if k = 0 then 48 + l / 10 else if k = 1 then 48 + l % 10 else if k = 2 then 58 else if k = 3 then 48 + t else if k = 4 then 58 else if k = 5 then 48 + b / 100 else if k = 6 then 48 + b / 10 % 10 else if k = 7 then 48 + b % 10 else 111
theorem wl_ok : ∀ l, l < 41 → 10 ≤ l → btB (nI (48 + l / 10)) 49 52 = true ∧ btB (nI (48 + l % 10)) 48 (if nI (48 + l / 10) = 52 then 48 else 57) = true ∧ 10 * (nI (48 + l / 10) - 48) + (nI (48 + l % 10) - 48) = nI l := by decide +kernel
theorem wt_ok : ∀ t, t < 10 → 1 ≤ t → btB (nI (48 + t)) 49 57 = true ∧ nI (48 + t) - 48 = nI t := by decide +kernel
theorem wb_ok1 : ∀ d, d < 10 → btB (nI (48 + d)) 48 57 = true ∧ nI (48 + d) - 48 = nI d := by decide +kernel
theorem ok_w {c : Nat → Int32} {l t b np : Nat} (hl : 10 ≤ l ∧ l ≤ 40) (ht : 1 ≤ t ∧ t ≤ 9) (hb : 100 ≤ b ∧ b ≤ 999) (hnp : np ≤ 9) (hnp8 : 8 ≤ np) (hc : ∀ k, k < np → c k = nI (wcN l t b k)) : ∀ k, k < np → okB c k = true := by
  intro k hk
  obtain ⟨l1, l2, -⟩ := wl_ok l (by omega) hl.1
  have c0 : c 0 = nI (48 + l / 10) := hc 0 (by omega)
  have hk9 : k = 0 ∨ k = 1 ∨ k = 2 ∨ k = 3 ∨ k = 4 ∨ k = 5 ∨ k = 6 ∨ k = 7 ∨ k = 8 := by omega
  rcases hk9 with rfl | rfl | rfl | rfl | rfl | rfl | rfl | rfl | rfl
  · show btB (c 0) 49 52 = true
    rw [c0]; exact l1
  · show btB (c 1) 48 (if c 0 = 52 then 48 else 57) = true
    rw [c0, show c 1 = nI (48 + l % 10) from hc 1 (by omega)]; exact l2
  · show decide (c 2 = 58) = true
    rw [show c 2 = nI 58 from hc 2 (by omega)]; decide
  · show btB (c 3) 49 57 = true
    rw [show c 3 = nI (48 + t) from hc 3 (by omega)]; exact (wt_ok t (by omega) ht.1).1
  · show decide (c 4 = 58) = true
    rw [show c 4 = nI 58 from hc 4 (by omega)]; decide
  · show btB (c 5) 49 57 = true
    rw [show c 5 = nI (48 + b / 100) from hc 5 (by omega)]; exact (wt_ok (b / 100) (by omega) (by omega)).1
  · show btB (c 6) 48 57 = true
    rw [show c 6 = nI (48 + b / 10 % 10) from hc 6 (by omega)]; exact (wb_ok1 (b / 10 % 10) (by omega)).1
  · show btB (c 7) 48 57 = true
    rw [show c 7 = nI (48 + b % 10) from hc 7 (by omega)]; exact (wb_ok1 (b % 10) (by omega)).1
  · show decide (c 8 = 111) = true
    rw [show c 8 = nI 111 from hc 8 (by omega)]; decide
theorem w_vals {c : Nat → Int32} {l t b np : Nat} (hl : 10 ≤ l ∧ l ≤ 40) (ht : 1 ≤ t ∧ t ≤ 9) (hb : 100 ≤ b ∧ b ≤ 999) (hnp8 : 8 ≤ np) (hc : ∀ k, k < np → c k = nI (wcN l t b k)) : lenW c = nI l ∧ spnW c = nI (l * l * t) ∧ beaW c = nI b := by
  have e0 : lenW c = nI l := by
    unfold lenW
    rw [show c 0 = nI (48 + l / 10) from hc 0 (by omega), show c 1 = nI (48 + l % 10) from hc 1 (by omega)]
    exact (wl_ok l (by omega) hl.1).2.2
  refine ⟨e0, ?_, ?_⟩
  · unfold spnW
    rw [e0, show c 3 = nI (48 + t) from hc 3 (by omega), (wt_ok t (by omega) ht.1).2, nI_mul, nI_mul]
  · unfold beaW
    rw [show c 5 = nI (48 + b / 100) from hc 5 (by omega), show c 6 = nI (48 + b / 10 % 10) from hc 6 (by omega), show c 7 = nI (48 + b % 10) from hc 7 (by omega), (wb_ok1 (b / 100) (by omega)).2, (wb_ok1 (b / 10 % 10) (by omega)).2, (wb_ok1 (b % 10) (by omega)).2, show (100 : Int32) = nI 100 from rfl, show (10 : Int32) = nI 10 from rfl, nI_mul, nI_mul, nI_add, nI_add]
    congr 1
    omega
/-- fault and wire, over a PAGE that holds a WIRE -/
theorem x_fault {σ : St} {l t b np : Nat} {Φ : Int32 → St → Prop} (h : σ.1 1 1 = nI np) (hl : 10 ≤ l ∧ l ≤ 40) (ht : 1 ≤ t ∧ t ≤ 9) (hb : 100 ≤ b ∧ b ≤ 999) (hnp : np ≤ 9) (hnp8 : 8 ≤ np) (hc : ∀ k, k < np → σ.1 2 k = nI (wcN l t b k)) (hp : Φ (nI np) σ) : wX11_fault σ Φ := by
  unfold wX11_fault
  refine x_first h (by omega) ?_
  rw [fw_ok np 0 (fun k _ hk => ok_w hl ht hb hnp hnp8 hc k (by omega)), Nat.zero_add]
  exact hp
/-- what wire leaves behind -/
def WD (σ τ : St) (l t b np : Nat) : Prop := τ.1 1 1 = 0 ∧ (τ.1 3 0 = nI l ∧ τ.1 3 1 = nI (l * l * t) ∧ τ.1 3 2 = nI b ∧ τ.1 3 3 = 0 ∧ τ.1 3 4 = 0 ∧ τ.1 3 5 = (if np ≤ 8 then 0 else 1) ∧ τ.1 3 6 = 0) ∧ τ.1 4 2 = 0 ∧ τ.1 18 = σ.1 18
theorem x_wire {σ : St} {l t b np nt : Nat} {Φ : Int32 → St → Prop} (h : σ.1 1 1 = nI np) (hl : 10 ≤ l ∧ l ≤ 40) (ht : 1 ≤ t ∧ t ≤ 9) (hb : 100 ≤ b ∧ b ≤ 999) (hnp : np ≤ 9) (hnp8 : 8 ≤ np) (hc : ∀ k, k < np → σ.1 2 k = nI (wcN l t b k)) (hn6 : nt ≤ 6) (h42 : σ.1 4 2 = nI nt) (hp : ∀ τ, WD σ τ l t b np → Φ (nI (l * l * t)) τ) : wX11_wire σ Φ := by
  obtain ⟨v1, v2, v3⟩ := w_vals hl ht hb hnp8 hc
  unfold wX11_wire wX7_isWire
  rw [if_neg (show ¬ σ.1 1 1 < 8 by rw [h]; exact nI_nlt (b := 8) (by omega) (by omega))]
  refine x_first h (by omega) ?_
  rw [fw_ok np 0 (fun k _ hk => ok_w hl ht hb hnp hnp8 hc k (by omega)), Nat.zero_add, h, if_pos rfl]
  refine ⟨by decide, ?_⟩
  dsimp only
  rw [if_neg (by decide)]
  refine x_hang h hnp8 (by omega) ?_
  unfold wX7_emptied
  refine i_cut (σ := sV (hgX σ (σ.1 2) (if np ≤ 8 then 0 else 1)) 1 1 0) (nt := nt) (ks := 0) hn6 (Nat.zero_le _) h42 (fun th _ => ?_)
  unfold wX10_emptied
  refine ⟨by decide, ?_⟩
  obtain ⟨μ, hμ⟩ : ∃ μ : St, μ = (up2 (sV (hgX σ (σ.1 2) (if np ≤ 8 then 0 else 1)) 1 1 0).1 4 2 (nI 0), (sV (hgX σ (σ.1 2) (if np ≤ 8 then 0 else 1)) 1 1 0).2.1, th, (sV (hgX σ (σ.1 2) (if np ≤ 8 then 0 else 1)) 1 1 0).2.2.2) := ⟨_, rfl⟩
  rw [← hμ]
  have e31 : (sV (sV (sV μ 7 2 0) 0 8 0) 0 9 ((sV (sV μ 7 2 0) 0 8 0).1 0 9 + 1)).1 3 1 = nI (l * l * t) := by rw [hμ, ← v2]; rfl
  rw [e31]
  refine hp _ ⟨?_, ⟨?_, ?_, ?_, ?_, ?_, ?_, ?_⟩, ?_, ?_⟩
  · rw [hμ]; rfl
  · rw [hμ, ← v1]; rfl
  · rw [hμ, ← v2]; rfl
  · rw [hμ, ← v3]; rfl
  · rw [hμ]; rfl
  · rw [hμ]; rfl
  · rw [hμ]; rfl
  · rw [hμ]; rfl
  · rw [hμ]; rfl
  · rw [hμ]; rfl
end
section
/-! PURE PART G: the law's wire and thing -/
def rowW (V : Nat → Nat → Int32) (k n : Nat) (f : Nat → Int32) : Nat → Nat → Int32 := fun a b => if a = k ∧ b < n then f b else V a b
theorem rowW_0 {V : Nat → Nat → Int32} {k : Nat} {f : Nat → Int32} : rowW V k 0 f = V := by
  funext a b
  unfold rowW
  rw [if_neg (by omega)]
theorem rowW_s {V : Nat → Nat → Int32} {k n : Nat} {f : Nat → Int32} : up2 (rowW V k n f) k n (f n) = rowW V k (n + 1) f := by
  funext a b
  unfold rowW up2 va_up
  by_cases h1 : a = k
  · subst h1
    by_cases h2 : b = n
    · subst h2; simp
    · simp [h2, show (b < n + 1) = (b < n) by apply propext; omega]
  · simp [h1]
theorem sv_o {τ : St} {q a b : Nat} {v : Int32} (h : b ≠ a) : (sV τ q a v).1 q b = τ.1 q b := by
  show up2 τ.1 q a v q b = τ.1 q b
  unfold up2 va_up
  rw [if_pos rfl, if_neg h]
theorem sv_s {τ : St} {q a : Nat} {v : Int32} : (sV τ q a v).1 q a = v := by
  show up2 τ.1 q a v q a = v
  unfold up2 va_up
  rw [if_pos rfl, if_pos rfl]
theorem wc_bd {l t b : Nat} (hl : l ≤ 40) (ht : t ≤ 9) (hb : b ≤ 999) (k : Nat) : 0 < wcN l t b k ∧ wcN l t b k < 127 := by
  unfold wcN
  repeat' split
  all_goals omega
theorem lt0 {l d : Nat} (hl : l < 2 ^ 31) (h0 : 0 < d) (hd : d < 2 ^ 31) : (48 : Int32) + nI l / nI d = nI (48 + l / d) := by
  rw [pk_div hl h0 hd]
  exact nI_add 48 _
theorem lt1 {l : Nat} (hl : l < 2 ^ 31) : (48 : Int32) + (nI l - nI l / 10 * 10) = nI (48 + l % 10) := by
  rw [show (10 : Int32) = nI 10 from rfl, pk_rem hl (by omega) (by omega)]
  exact nI_add 48 _
set_option maxHeartbeats 4000000 in
theorem l_wire {σ : St} {nt x : Nat} {Φ : Int32 → St → Prop} (hx : x < 2 ^ 31) (h1 : σ.1 1 1 = 0) (hn6 : nt ≤ 6) (h42 : σ.1 4 2 = nI nt) (hp : ∀ τ s b p, PI τ 0 0 s b p → Φ 1 τ) : wL_wire σ (nI x) 18 Φ := by
  obtain ⟨l, hl⟩ : ∃ l, l = 10 + x % 31 := ⟨_, rfl⟩
  obtain ⟨t, ht⟩ : ∃ t, t = 1 + x / 32 % 9 / (x % 3 + 1) := ⟨_, rfl⟩
  obtain ⟨b, hb⟩ : ∃ b, b = 100 + x / 512 % 900 := ⟨_, rfl⟩
  obtain ⟨o, ho⟩ : ∃ o, o = x / 524288 % 2 := ⟨_, rfl⟩
  have hl2 : 10 ≤ l ∧ l ≤ 40 := by omega
  have hq : x / 32 % 9 / (x % 3 + 1) ≤ 8 := Nat.le_trans (Nat.div_le_self _ _) (by omega)
  have ht2 : 1 ≤ t ∧ t ≤ 9 := by
    rw [ht]
    generalize x / 32 % 9 / (x % 3 + 1) = d at hq ⊢
    omega
  have hb2 : 100 ≤ b ∧ b ≤ 999 := by omega
  have ho2 : o ≤ 1 := by omega
  have a1 : nI x - nI x / 31 * 31 = nI (x % 31) := pk_rem (d := 31) hx (by omega) (by omega)
  have a2 : nI x / 32 = nI (x / 32) := pk_div (d := 32) hx (by omega) (by omega)
  have a3 : nI (x / 32) - nI (x / 32) / 9 * 9 = nI (x / 32 % 9) := pk_rem (d := 9) (by omega) (by omega) (by omega)
  have a4 : nI x - nI x / 3 * 3 = nI (x % 3) := pk_rem (d := 3) hx (by omega) (by omega)
  have a6 : nI (x / 32 % 9) / nI (x % 3 + 1) = nI (x / 32 % 9 / (x % 3 + 1)) := pk_div (by omega) (by omega) (by omega)
  have a7 : nI x / 512 = nI (x / 512) := pk_div (d := 512) hx (by omega) (by omega)
  have a8 : nI (x / 512) - nI (x / 512) / 900 * 900 = nI (x / 512 % 900) := pk_rem (d := 900) (by omega) (by omega) (by omega)
  have a9 : nI x / 524288 = nI (x / 524288) := pk_div (d := 524288) hx (by omega) (by omega)
  have a10 : nI (x / 524288) - nI (x / 524288) / 2 * 2 = nI o := by rw [ho]; exact pk_rem (d := 2) (by omega) (by omega) (by omega)
  have b1 : (10 : Int32) + nI (x % 31) = nI l := by rw [hl]; exact nI_add 10 _
  have b2 : (1 : Int32) + nI (x / 32 % 9 / (x % 3 + 1)) = nI t := by rw [ht]; exact nI_add 1 _
  have b3 : (100 : Int32) + nI (x / 512 % 900) = nI b := by rw [hb]; exact nI_add 100 _
  clear hl ht hb hq
  have key : ∀ m i, i + m = 32 → wL_wire_42 18 Φ (m + 1) (rowW σ.1 18 i (fun _ => 0), σ.2) (nI x) (nI l) (nI t) (nI b) (nI i) := by
    intro m
    induction m with
    | zero =>
      intro i hi
      have : i = 32 := by omega
      subst this
      rw [wL_wire_42, if_pos (show (32 : Int32) ≤ nI 32 by decide), a9, a10, cl0, cl1, cl2, cl3, nI_mul, nI_mul]
      refine ⟨vi 0 (by omega), vi 1 (by omega), vi 2 (by omega), by decide, by decide, vi 3 (by omega), by decide, ?_⟩
      obtain ⟨μ, hμ⟩ : ∃ μ : St, μ = sV (sV (sV (sV (rowW σ.1 18 32 (fun _ => 0), σ.2) 18 0 (nI l)) 18 1 (nI (l * l * t))) 18 2 (nI b)) 18 3 (nI o) := ⟨_, rfl⟩
      rw [← hμ]
      have m11 : μ.1 1 1 = nI 0 := by
        have e : μ.1 1 1 = 0 := by rw [hμ]; simpa [sV, up2, va_up, rowW] using h1
        exact e
      have m42 : μ.1 4 2 = nI nt := by rw [hμ]; simpa [sV, up2, va_up, rowW] using h42
      have s0 : μ.1 18 0 = nI l := by rw [hμ]; simp [sV, up2, va_up, rowW]
      have s1 : μ.1 18 1 = nI (l * l * t) := by rw [hμ]; simp [sV, up2, va_up, rowW]
      have s2 : μ.1 18 2 = nI b := by rw [hμ]; simp [sV, up2, va_up, rowW]
      have s3 : μ.1 18 3 = nI o := by rw [hμ]; simp [sV, up2, va_up, rowW]
      have s4 : ∀ k, 4 ≤ k → k < 32 → μ.1 18 k = 0 := fun k h4 h32 => by
        rw [hμ]
        simp [sV, up2, va_up, rowW, show k ≠ 3 by omega, show k ≠ 2 by omega, show k ≠ 1 by omega, show k ≠ 0 by omega, h32]
      have hbd := fun k => wc_bd hl2.2 ht2.2 hb2.2 k
      have fin : ∀ τ np, PG μ τ np (wcN l t b) → np = 8 + o → wL_wire_208 18 Φ τ := by
        intro τ np hG hnp
        obtain ⟨p1, p2, p3, p4⟩ := hG
        have e18 : τ.1 18 = μ.1 18 := p3 18 (by omega) (by omega)
        have e4 : τ.1 4 2 = nI nt := (congrFun (p3 4 (by omega) (by omega)) 2).trans m42
        unfold wL_wire_208 wL_wire_213
        rw [if_neg (by decide)]
        refine x_fault p1 hl2 ht2 hb2 (by omega) (by omega) p2 ⟨vi 3 (by omega), ?_⟩
        rw [cl3, cl1, e18, s3, if_pos (show nI np = (8 : Int32) + nI o by rw [hnp]; exact (nI_add 8 o).symm)]
        refine x_wire p1 hl2 ht2 hb2 (by omega) (by omega) p2 hn6 e4 (fun τ' hD => ⟨vi 1 (by omega), ?_⟩)
        obtain ⟨d1, ⟨d2, d3, d4, d5, d6, d7, d8⟩, d9, d10⟩ := hD
        have f18 : τ'.1 18 = μ.1 18 := d10.trans e18
        rw [if_pos (show nI (l * l * t) = τ'.1 18 1 by rw [f18, s1])]
        refine ⟨by decide, hp τ' (l * l * t) b 0 ⟨d1, ⟨?_, d3, ?_, d4, hb2.2, d5, by omega, ?_, Or.inl d8⟩, ⟨?_, ?_, ?_, ?_, ?_, ?_, ?_, ?_⟩, ⟨⟨by omega, d9, fun i hi => by omega⟩, ⟨by omega, by omega, fun i hi => by omega⟩, d6⟩, fun i hi => by omega, fun i i' hi => by omega⟩⟩
        · rw [d2]
          exact ⟨nI_le (a := 10) hl2.1 (by omega), nI_le (b := 40) hl2.2 (by omega)⟩
        · have m1 : l * l ≤ 40 * 40 := Nat.mul_le_mul hl2.2 hl2.2
          have m2 : l * l * t ≤ 40 * 40 * 9 := Nat.mul_le_mul m1 ht2.2
          omega
        · rw [d7]
          split
          · exact Or.inl rfl
          · exact Or.inr rfl
        · rw [f18, s0, d2]
        · rw [f18, s1]
        · rw [f18, s2]
        · rw [f18, s3, d7]
          by_cases z : o = 0
          · rw [if_pos (by omega), z]; rfl
          · rw [if_neg (by omega), show o = 1 by omega]; rfl
        · rw [f18, s4 4 (by omega) (by omega)]; rfl
        · rw [f18, s4 5 (by omega) (by omega)]; rfl
        · rw [f18, s4 6 (by omega) (by omega), d8]
        · rw [f18, s4 7 (by omega) (by omega)]; rfl
      have z1 : ¬ (1 : Int32) = 0 := by decide
      have g0 : PG μ μ 0 (wcN l t b) := ⟨m11, fun k hk => by omega, fun _ _ _ => rfl, rfl⟩
      refine pg_put g0 (by omega) (lt0 (d := 10) (by omega) (by omega) (by omega)) (hbd 0).1 (hbd 0).2 (fun τ1 g1 => ?_)
      rw [if_neg z1]
      refine ⟨by decide, pg_put g1 (by omega) (lt1 (by omega)) (hbd 1).1 (hbd 1).2 (fun τ2 g2 => ?_)⟩
      rw [if_neg z1]
      refine pg_put g2 (by omega) rfl (hbd 2).1 (hbd 2).2 (fun τ3 g3 => ?_)
      rw [if_neg z1]
      refine pg_put g3 (by omega) (nI_add 48 t) (hbd 3).1 (hbd 3).2 (fun τ4 g4 => ?_)
      rw [if_neg z1]
      refine pg_put g4 (by omega) rfl (hbd 4).1 (hbd 4).2 (fun τ5 g5 => ?_)
      rw [if_neg z1]
      refine ⟨by decide, pg_put g5 (by omega) (lt0 (d := 100) (by omega) (by omega) (by omega)) (hbd 5).1 (hbd 5).2 (fun τ6 g6 => ?_)⟩
      rw [if_neg z1]
      have c6 : (48 : Int32) + (nI b / 10 - nI b / 10 / 10 * 10) = nI (wcN l t b 6) := by
        rw [show nI b / 10 = nI (b / 10) from pk_div (d := 10) (by omega) (by omega) (by omega)]
        exact lt1 (by omega)
      refine ⟨by decide, by decide, pg_put g6 (by omega) c6 (hbd 6).1 (hbd 6).2 (fun τ7 g7 => ?_)⟩
      rw [if_neg z1]
      refine ⟨by decide, pg_put g7 (by omega) (lt1 (by omega)) (hbd 7).1 (hbd 7).2 (fun τ8 g8 => ?_)⟩
      rw [if_neg z1]
      refine ⟨vi 3 (by omega), ?_⟩
      rw [show τ8.1 18 3 = nI o from (congrFun (g8.2.2.1 18 (by omega) (by omega)) 3).trans s3]
      by_cases z : o = 0
      · rw [if_pos (by rw [z]; rfl)]
        exact fin τ8 8 g8 (by omega)
      · rw [if_neg (show ¬ nI o = 0 from fun q => z ((nI_eq (b := 0) (by omega) (by omega)).mp q))]
        refine pg_put g8 (by omega) rfl (hbd 8).1 (hbd 8).2 (fun τ9 g9 => ?_)
        rw [if_neg z1]
        exact fin τ9 9 g9 (by omega)
    | succ m ih =>
      intro i hi
      have ih' := ih (i + 1) (by omega)
      rw [wL_wire_42, if_neg (show ¬ (32 : Int32) ≤ nI i from nI_ge (b := 32) (by omega) (by omega)), nI_clamp (show i < 2 ^ 31 by omega), nI_1]
      refine ⟨vi i (by omega), ?_⟩
      rw [← rowW_s] at ih'
      exact ih'
  unfold wL_wire
  rw [a1, a2, a3, a4, nI_1, a6, a7, a8, b1, b2, b3]
  have k0 := key 32 0 (by omega)
  rw [rowW_0] at k0
  exact ⟨by decide, by decide, by decide, by decide, fun z => by have := (nI_eq (b := 0) (by omega) (by omega)).mp z; omega, by decide, by decide, 33, k0⟩
end
section
/-! PURE PART H: the law's thing -/
theorem isT_sN {σ : St} {b tk : Nat} {kv : Int32} (h : KD tk kv) : isT (sN σ b tk) b := by
  refine ⟨List.mem_append_right _ (List.mem_singleton.mpr rfl), ?_⟩
  have e : (sN σ b tk).2.2.2.2.1 b = tk := by simp [sN, va_up]
  rw [e]
  rcases h with ⟨e, -⟩ | ⟨e, -⟩ | ⟨e, -⟩ | ⟨e, -⟩ | ⟨e, -⟩ <;> simp [e]
abbrev nT (σ : St) (b tk : Nat) (v1 v2 v3 : Int32) : St := sT (sT (sT (sN σ b tk) b 0 v1) b 2 v2) b 1 v3
theorem i_init9 {σ : St} {b tk : Nat} {kv v1 v2 v3 : Int32} {Φ : St → Prop} (hk : KD tk kv) (hp : Φ (nT σ b tk v1 v2 v3)) : wX9_init (sN σ b tk) b v1 v2 v3 Φ := by
  unfold wX9_init
  have q : isT (sN σ b tk) b := isT_sN hk
  exact ⟨q, q, q, hp⟩
theorem i_newThing {σ : St} {kv v1 v2 v3 : Int32} {Φ : Option Nat → St → Prop} (hv : 0 ≤ kv ∧ kv ≤ 4) (hp : ∀ b tk, b ∉ σ.2.2.2.1 → KD tk kv → Φ (some b) (nT σ b tk v1 v2 v3)) : wX11_newThing σ kv v1 v2 v3 Φ := by
  unfold wX11_newThing
  refine ⟨?_, ?_, ?_, ?_, ?_⟩
  · rintro rfl b hb
    have k : KD 1 1 := Or.inr (Or.inl ⟨rfl, rfl⟩)
    exact i_init9 k (hp b 1 hb k)
  · rintro rfl b hb
    have k : KD 3 2 := Or.inr (Or.inr (Or.inl ⟨rfl, rfl⟩))
    exact i_init9 k (hp b 3 hb k)
  · rintro rfl b hb
    have k : KD 5 3 := Or.inr (Or.inr (Or.inr (Or.inl ⟨rfl, rfl⟩)))
    exact i_init9 k (hp b 5 hb k)
  · rintro rfl b hb
    have k : KD 4 4 := Or.inr (Or.inr (Or.inr (Or.inr ⟨rfl, rfl⟩)))
    exact i_init9 k (hp b 4 hb k)
  · intro e b hb
    have z : kv = 0 := by
      rcases sw4 hv with rfl | rfl | rfl | rfl | rfl
      · rfl
      all_goals exact absurd e (by decide)
    have k : KD 9 kv := Or.inl ⟨rfl, z⟩
    exact i_init9 k (hp b 9 hb k)
theorem x_thing {σ : St} {nt hh : Nat} {kv wv pv : Int32} {Φ : Int32 → St → Prop} (hk : 0 ≤ kv ∧ kv ≤ 4) (hw : 1 ≤ wv ∧ wv ≤ 20) (hc : 0 ≤ pv ∧ pv ≤ 1) (h0 : 0 < σ.1 3 0) (h42 : σ.1 4 2 = nI nt) (hf : nt < 6) (h34 : σ.1 3 4 = nI hh) (hp : ∀ b tk, b ∉ σ.2.2.2.1 → KD tk kv → Φ (nI nt) (sV (sH (nT σ b tk wv pv (nI hh)) nt (some b)) 4 2 (nI (nt + 1)))) : wX11_thing σ kv wv pv Φ := by
  unfold wX11_thing
  rw [e_isCabin, if_pos hc, if_neg (by decide), e_isKind, if_pos hk, if_neg (by decide), if_neg (show ¬ wv < 1 by grind), if_pos hw.2, e_isThere, if_pos h0, if_neg (by decide)]
  unfold wX6_isFull
  rw [h42, if_pos (show nI nt < 6 from nI_lt (b := 6) (by omega) (by omega))]
  refine ⟨by decide, ?_⟩
  dsimp only
  rw [if_pos rfl, h34]
  refine i_newThing hk (fun b tk hb hkd => ⟨b, rfl, ?_⟩)
  have hin : vp_in (nI nt) 6 := vp_in_nI (by omega) (by omega)
  have hp' := hp b tk hb hkd
  obtain ⟨τ, hτ⟩ : ∃ τ, τ = nT σ b tk wv pv (nI hh) := ⟨_, rfl⟩
  rw [← hτ] at hp' ⊢
  have t1 : τ.1 = σ.1 := by rw [hτ]; rfl
  have tT : isT τ b := by rw [hτ]; exact isT_sN hkd
  unfold wX6_put
  rw [t1, h42, if_neg (nI_pos (by omega)), if_pos (show nI nt < 6 from nI_lt (b := 6) (by omega) (by omega)), nI_clamp (by omega)]
  refine ⟨tT, hin, ?_⟩
  rw [show (sH τ nt (some b)).1 4 2 = nI nt by rw [show (sH τ nt (some b)).1 = τ.1 from rfl, t1]; exact h42, nI_1]
  rw [show (sV (sH τ nt (some b)) 4 2 (nI (nt + 1))).1 4 2 - 1 = nI nt from Eq.trans (nI_sub (a := nt + 1) (b := 1) (by omega)) rfl]
  exact hp'
set_option maxHeartbeats 4000000 in
theorem l_thing {σ : St} {nt hh s b p x : Nat} {Φ : Int32 → St → Prop} (hI : PI σ nt hh s b p) (hnt : nt < 6) (hx : x < 2 ^ 31) (hp : ∀ τ, PI τ (nt + 1) hh s b p → Φ 1 τ) : wL_thing σ (nI x) 18 Φ := by
  obtain ⟨hpg, hW, ⟨r0, r1, r2, r3, r4, r5, r6, r7⟩, ⟨hT, hB, h34⟩, hP, hinj⟩ := hI
  have l0 := wn_pos hW
  have a1 : nI x - nI x / 5 * 5 = nI (x % 5) := pk_rem (d := 5) hx (by omega) (by omega)
  have a2 : nI x / 8 = nI (x / 8) := pk_div (d := 8) hx (by omega) (by omega)
  have a3 : nI (x / 8) - nI (x / 8) / 20 * 20 = nI (x / 8 % 20) := pk_rem (d := 20) (by omega) (by omega) (by omega)
  have a4 : nI x / 256 = nI (x / 256) := pk_div (d := 256) hx (by omega) (by omega)
  have a5 : nI (x / 256) - nI (x / 256) / 2 * 2 = nI (x / 256 % 2) := pk_rem (d := 2) (by omega) (by omega) (by omega)
  have a6 : (1 : Int32) + nI (x / 8 % 20) = nI (1 + x / 8 % 20) := nI_add 1 _
  obtain ⟨kv, hkv⟩ : ∃ kv, kv = nI (x % 5) := ⟨_, rfl⟩
  obtain ⟨wn, hwn⟩ : ∃ wn, wn = 1 + x / 8 % 20 := ⟨_, rfl⟩
  obtain ⟨pv, hpv⟩ : ∃ pv, pv = nI (x / 256 % 2) := ⟨_, rfl⟩
  have hk : 0 ≤ kv ∧ kv ≤ 4 := by rw [hkv]; exact ⟨nI_pos' (by omega), nI_le (b := 4) (by omega) (by omega)⟩
  have hw : 1 ≤ nI wn ∧ nI wn ≤ 20 := ⟨nI_le (a := 1) (by omega) (by omega), nI_le (b := 20) (by omega) (by omega)⟩
  have hc : 0 ≤ pv ∧ pv ≤ 1 := by rw [hpv]; exact ⟨nI_pos' (by omega), nI_le (b := 1) (by omega) (by omega)⟩
  obtain ⟨j, hj⟩ : ∃ j, j = 8 + 4 * nt := ⟨_, rfl⟩
  have e0 : (8 : Int32) + 4 * nI nt = nI j := by rw [ix8, hj]
  have e1 : nI j + 1 = nI (j + 1) := nI_1 _
  have e2 : nI j + 2 = nI (j + 2) := nI_add j 2
  have e3 : nI j + 3 = nI (j + 3) := nI_add j 3
  have k0 : (nI j).toNatClampNeg = j := nI_clamp (by omega)
  have k1 : (nI (j + 1)).toNatClampNeg = j + 1 := nI_clamp (by omega)
  have k2 : (nI (j + 2)).toNatClampNeg = j + 2 := nI_clamp (by omega)
  have k3 : (nI (j + 3)).toNatClampNeg = j + 3 := nI_clamp (by omega)
  have f5 : (sV (sV (sV σ 18 j kv) 18 (j + 1) (nI wn)) 18 (j + 2) pv).1 18 5 = nI hh := by rw [sv_o (by omega), sv_o (by omega), sv_o (by omega)]; exact r5
  have f7 : (sV (sV (sV (sV σ 18 j kv) 18 (j + 1) (nI wn)) 18 (j + 2) pv) 18 (j + 3) (nI hh)).1 18 7 = nI nt := by rw [sv_o (by omega), sv_o (by omega), sv_o (by omega), sv_o (by omega)]; exact r7
  unfold wL_thing
  rw [cl7, cl5, r7, e0, e1, e2, e3, k0, k1, k2, k3, a1, a2, a3, a4, a5, a6, ← hkv, ← hwn, ← hpv, f5, f7, nI_1 nt]
  obtain ⟨ν, hν⟩ : ∃ ν, ν = sV (sV (sV (sV (sV σ 18 j kv) 18 (j + 1) (nI wn)) 18 (j + 2) pv) 18 (j + 3) (nI hh)) 18 7 (nI (nt + 1)) := ⟨_, rfl⟩
  rw [← hν]
  have g0 : ν.1 18 j = kv := by rw [hν, sv_o (by omega), sv_o (by omega), sv_o (by omega), sv_o (by omega), sv_s]
  have g1 : ν.1 18 (j + 1) = nI wn := by rw [hν, sv_o (by omega), sv_o (by omega), sv_o (by omega), sv_s]
  have g2 : ν.1 18 (j + 2) = pv := by rw [hν, sv_o (by omega), sv_o (by omega), sv_s]
  have g3 : ν.1 18 (j + 3) = nI hh := by rw [hν, sv_o (by omega), sv_s]
  have g7 : ν.1 18 7 = nI (nt + 1) := by rw [hν, sv_s]
  have gO : ∀ k, k < j → k ≠ 7 → ν.1 18 k = σ.1 18 k := fun k h1 h2 => by rw [hν, sv_o (by omega), sv_o (by omega), sv_o (by omega), sv_o (by omega), sv_o (by omega)]
  have gX : ∀ k, k ≠ 18 → ν.1 k = σ.1 k := fun k h1 => by
    rw [hν]
    simp [sV, up2, va_up, h1]
  have gR : ν.2 = σ.2 := by rw [hν]; rfl
  clear hν f5 f7
  rw [g1, g2]
  refine ⟨vi 7 (by omega), by decide, vi j (by omega), by decide, by decide, vi _ (by omega), by decide, by decide, vi _ (by omega), vi 5 (by omega), vi _ (by omega), vi 7 (by omega), vi 7 (by omega), by decide, vi _ (by omega), vi _ (by omega), ?_⟩
  refine x_thing (hh := hh) (nt := nt) hk hw hc (by rw [gX 3 (by omega)]; exact l0) (by rw [gX 4 (by omega)]; exact hT.2.1) hnt (by rw [gX 3 (by omega)]; exact h34) (fun b9 tk hb hkd => ⟨vi 7 (by omega), ?_⟩)
  obtain ⟨τ, hτ⟩ : ∃ τ, τ = sV (sH (nT ν b9 tk (nI wn) pv (nI hh)) nt (some b9)) 4 2 (nI (nt + 1)) := ⟨_, rfl⟩
  rw [← hτ]
  have t18 : τ.1 18 = ν.1 18 := by rw [hτ]; rfl
  have t1 : τ.1 1 = σ.1 1 := by rw [← gX 1 (by omega), hτ]; rfl
  have t3 : τ.1 3 = σ.1 3 := by rw [← gX 3 (by omega), hτ]; rfl
  have t4 : τ.1 4 2 = nI (nt + 1) := by rw [hτ]; rfl
  rw [t18, g7, if_pos (show nI nt = nI (nt + 1) - 1 from Eq.symm (Eq.trans (nI_sub (a := nt + 1) (b := 1) (by omega)) rfl))]
  refine ⟨by decide, hp τ ⟨by rw [t1]; exact hpg, ?_, ?_, ⟨⟨by omega, t4, fun i hi => ?_⟩, ⟨by omega, hB.2.1, fun i hi => ?_⟩, by rw [t3]; exact h34⟩, fun i hi => ?_, fun i i' hi hi' hr => ?_⟩⟩
  · unfold WN
    rw [t3]
    exact hW
  · rw [t18, t3, gO 0 (by omega) (by omega), gO 1 (by omega) (by omega), gO 2 (by omega) (by omega), gO 3 (by omega) (by omega), gO 4 (by omega) (by omega), gO 5 (by omega) (by omega), gO 6 (by omega) (by omega), g7]
    exact ⟨r0, r1, r2, r3, r4, r5, r6, rfl⟩
  · by_cases hi2 : i = nt
    · refine ⟨b9, ?_, ?_, ?_, ?_, ?_, ?_⟩
      · rw [hi2, hτ]; simp [sV, sH, va_up]
      · rw [hτ]; exact List.mem_append_right _ (List.mem_singleton.mpr rfl)
      · rw [t18, show rK (ν.1 18) i = kv by rw [hi2, ← g0, hj], hτ]; simpa [sV, sH, sT, sN, va_up, up2] using hkd
      · rw [t18, show rW (ν.1 18) i = nI wn by rw [hi2, ← g1, hj, Nat.add_right_comm 8 (4 * nt) 1], hτ]; simp [sV, sH, sT, sN, va_up, up2]
      · rw [t18, show rM (ν.1 18) i = nI hh by rw [hi2, ← g3, hj, Nat.add_right_comm 8 (4 * nt) 3], hτ]; simp [sV, sH, sT, sN, va_up, up2]
      · rw [t18, show rP (ν.1 18) i = pv by rw [hi2, ← g2, hj, Nat.add_right_comm 8 (4 * nt) 2], hτ]; simp [sV, sH, sT, sN, va_up, up2]
    · obtain ⟨a, ha, d2, d3, d4, d5, d6⟩ := hT.2.2 i (by omega)
      have hab : a ≠ b9 := fun q => hb (by rw [gR]; exact q ▸ d2)
      have q0 : rK (ν.1 18) i = rK (σ.1 18) i := gO _ (by omega) (by omega)
      have q1 : rW (ν.1 18) i = rW (σ.1 18) i := gO _ (by omega) (by omega)
      have q2 : rP (ν.1 18) i = rP (σ.1 18) i := gO _ (by omega) (by omega)
      have q3 : rM (ν.1 18) i = rM (σ.1 18) i := gO _ (by omega) (by omega)
      refine ⟨a, ?_, ?_, ?_, ?_, ?_, ?_⟩
      · rw [hτ]; simpa [sV, sH, sT, sN, va_up, up2, hi2, gR] using ha
      · rw [hτ]; exact List.mem_append_left _ (by rw [gR]; exact d2)
      · rw [t18, q0, hτ]; simpa [sV, sH, sT, sN, va_up, up2, hi2, hab, gR] using d3
      · rw [t18, q1, hτ]; simpa [sV, sH, sT, sN, va_up, up2, hi2, hab, gR] using d4
      · rw [t18, q3, hτ]; simpa [sV, sH, sT, sN, va_up, up2, hi2, hab, gR] using d5
      · rw [t18, q2, hτ]; simpa [sV, sH, sT, sN, va_up, up2, hi2, hab, gR] using d6
  · rw [t18]
    by_cases hi2 : i = nt
    · exact ⟨wn, hh, by rw [hi2, ← g1, hj, Nat.add_right_comm 8 (4 * nt) 1], by omega, by rw [hi2, ← g3, hj, Nat.add_right_comm 8 (4 * nt) 3], Nat.le_refl _⟩
    · obtain ⟨w, c, u1, u2, u3, u4⟩ := hB.2.2 i (by omega)
      exact ⟨w, c, (gO _ (by omega) (by omega)).trans u1, u2, (gO _ (by omega) (by omega)).trans u3, u4⟩
  · rw [t18]
    by_cases hi2 : i = nt
    · rw [show rP (ν.1 18) i = pv by rw [hi2, ← g2, hj, Nat.add_right_comm 8 (4 * nt) 2]]
      grind
    · rw [show rP (ν.1 18) i = rP (σ.1 18) i from gO _ (by omega) (by omega)]
      exact hP i (by omega)
  · have key : ∀ i, i < nt → σ.2.2.1 i ≠ some b9 := fun i hi q => by
      obtain ⟨a, d1, d2, -⟩ := hT.2.2 i hi
      rw [d1] at q
      exact hb (by rw [gR]; exact Option.some.inj q ▸ d2)
    have hr' : va_up σ.2.2.1 nt (some b9) i = va_up σ.2.2.1 nt (some b9) i' := by
      rw [hτ] at hr
      rw [← gR]
      exact hr
    unfold va_up at hr'
    by_cases hi2 : i = nt <;> by_cases hi3 : i' = nt
    · omega
    · rw [if_pos hi2, if_neg hi3] at hr'
      exact absurd (Eq.symm hr') (key i' (by omega))
    · rw [if_neg hi2, if_pos hi3] at hr'
      exact absurd hr' (key i (by omega))
    · rw [if_neg hi2, if_neg hi3] at hr'
      exact hinj i i' (by omega) (by omega) hr'
end
section
/-! PURE PART I: caught; the kinds that a THING is of -/
theorem neg_div {d : Nat} (hd : d < 2 ^ 30) : (nI 0 - nI d) / 360 = nI 0 - nI (d / 360) := by
  apply Int32.toInt_inj.mp
  have e0 : (360 : Int32).toInt = 360 := by decide
  rw [Jvm.Kit.i32_div (by rw [e0]; omega), pk_sub_toInt (by omega) hd, pk_sub_toInt (by omega) (by omega), e0]
  rw [show ((0 : Nat) : Int) - (d : Int) = -(d : Int) by omega, Int.neg_tdiv, Int.tdiv_eq_ediv_of_nonneg (by omega)]
  omega
theorem neg_rem {d : Nat} (hd : d < 2 ^ 30) : (nI 0 - nI d) - (nI 0 - nI d) / 360 * 360 = nI 0 - nI (d % 360) := by
  rw [neg_div hd]
  have h := pk_rem (a := d) (d := 360) (by omega) (by omega) (by omega)
  rw [pk_div (by omega) (by omega) (by omega)] at h
  rw [← h, show nI 360 = (360 : Int32) from rfl, show nI 0 = (0 : Int32) from rfl]
  grind
theorem e_fmodN {σ : St} {d : Nat} (h0 : 0 < d) (hd : d < 2 ^ 30) (Φ : Int32 → St → Prop) : wJ9_floorMod_7cf53 σ (nI 0 - nI d) 360 Φ = Φ (nI ((360 - d % 360) % 360)) σ := by
  unfold wJ9_floorMod_7cf53
  have hn : ¬ 0 ≤ nI 0 - nI d := by
    have := pk_sneg hd h0
    grind
  rw [if_neg (fun q => hn ((xor_sgn _).mp q)), neg_rem hd]
  simp only [nz360, true_and]
  have hlt : d % 360 < 360 := Nat.mod_lt _ (by omega)
  by_cases z : d % 360 = 0
  · rw [z, if_pos (by decide)]
    rfl
  · have hz : ¬ nI 0 - nI (d % 360) = 0 := by
      have := pk_sneg (a := 0) (b := d % 360) (by omega) (by omega)
      grind
    rw [if_neg hz]
    have e : nI 0 - nI (d % 360) + 360 = nI ((360 - d % 360) % 360) := by
      rw [Nat.mod_eq_of_lt (show 360 - d % 360 < 360 by omega), ← nI_sub (by omega), show nI 360 = (360 : Int32) from rfl, show nI 0 = (0 : Int32) from rfl]
      grind
    rw [e]
def cqN (q : Nat) : Nat := if q ≤ 90 then 90 - q else (360 - (q - 90) % 360) % 360
theorem cq_lt (q : Nat) : cqN q < 360 := by
  unfold cqN
  split
  · omega
  · exact Nat.mod_lt _ (by omega)
theorem sub90 {q : Nat} (h : 90 < q) : (90 : Int32) - nI q = nI 0 - nI (q - 90) := by
  rw [← nI_sub (show 90 ≤ q by omega), show nI 90 = (90 : Int32) from rfl, show nI 0 = (0 : Int32) from rfl]
  grind
theorem x_c {σ : St} {q : Nat} {Φ : Int32 → St → Prop} (hq : q < 2 ^ 29) (hp : Φ (nI (cqN q)) σ) : wJ9_floorMod_7cf53 σ (90 - nI q) 360 Φ := by
  unfold cqN at hp
  by_cases h : q ≤ 90
  · rw [if_pos h] at hp
    rw [show (90 : Int32) = nI 90 from rfl, nI_sub h, e_fmodP (by omega), Nat.mod_eq_of_lt (by omega)]
    exact hp
  · rw [if_neg h] at hp
    rw [sub90 (by omega), e_fmodN (by omega) (by omega)]
    exact hp
theorem m_c {q : Nat} (hq : q < 2 ^ 29) : (90 - nI q) - (90 - nI q) / 360 * 360 + 360 - ((90 - nI q) - (90 - nI q) / 360 * 360 + 360) / 360 * 360 = nI (cqN q) := by
  unfold cqN
  by_cases h : q ≤ 90
  · rw [if_pos h, show (90 : Int32) = nI 90 from rfl, nI_sub h, show (360 : Int32) = nI 360 from rfl, pk_rem (by omega) (by omega) (by omega), nI_add, pk_rem (by omega) (by omega) (by omega)]
    congr 1
    omega
  · have hlt : (q - 90) % 360 < 360 := Nat.mod_lt _ (by omega)
    have e : nI 0 - nI ((q - 90) % 360) + 360 = nI (360 - (q - 90) % 360) := by
      rw [← nI_sub (by omega), show nI 360 = (360 : Int32) from rfl, show nI 0 = (0 : Int32) from rfl]
      grind
    rw [if_neg h, sub90 (by omega), neg_rem (by omega), e, show (360 : Int32) = nI 360 from rfl, pk_rem (by omega) (by omega) (by omega)]
def apN (p c : Nat) : Nat := if c ≤ p then (if p - c ≤ 360 - (p - c) then p - c else 360 - (p - c)) else (if c - p ≤ 360 - (c - p) then c - p else 360 - (c - p))
theorem ap_le (p c : Nat) (hp : p < 360) (hc : c < 360) : apN p c ≤ 360 := by
  unfold apN
  split <;> split <;> omega
theorem x_apart {σ : St} {p c : Nat} {Φ : Int32 → St → Prop} (hp : p < 360) (hc : c < 360) (h : Φ (nI (apN p c)) σ) : wX11_apartOnCircle σ (nI p) (nI c) Φ := by
  unfold wX11_apartOnCircle
  unfold apN at h
  by_cases q : c ≤ p
  · rw [if_pos q] at h
    rw [nI_sub q, e_fmodP (by omega), Nat.mod_eq_of_lt (by omega), e_min, show (360 : Int32) = nI 360 from rfl, nI_sub (by omega)]
    by_cases z : p - c ≤ 360 - (p - c)
    · rw [if_pos z] at h
      rw [if_neg (nI_nlt z (by omega))]
      exact h
    · rw [if_neg z] at h
      rw [if_pos (nI_lt (by omega) (by omega))]
      exact h
  · rw [if_neg q] at h
    have e : nI p - nI c = nI 0 - nI (c - p) := by
      rw [← nI_sub (show p ≤ c by omega), show nI 0 = (0 : Int32) from rfl]
      grind
    rw [e, e_fmodN (by omega) (by omega), Nat.mod_eq_of_lt (show c - p < 360 by omega), Nat.mod_eq_of_lt (show 360 - (c - p) < 360 by omega), e_min, show (360 : Int32) = nI 360 from rfl, nI_sub (by omega), show 360 - (360 - (c - p)) = c - p by omega]
    by_cases z : c - p ≤ 360 - (c - p)
    · rw [if_pos z] at h
      by_cases y : c - p < 360 - (c - p)
      · rw [if_pos (nI_lt y (by omega))]
        exact h
      · rw [if_neg (nI_nlt (by omega) (by omega)), show 360 - (c - p) = c - p by omega]
        exact h
    · rw [if_neg z] at h
      rw [if_neg (nI_nlt (by omega) (by omega))]
      exact h
def ctR (p t c : Nat) : Nat → Nat → Int32
  | 0, _ => -1
  | n + 1, w => if 5 < apN (placeN p (w * t)) c then ctR p t c n (w + 1) else nI w
theorem x_caughtL {σ : St} {p t c : Nat} {Φ : Int32 → St → Prop} (hp : σ.1 3 3 = nI p) (hp2 : p < 360) (ht : turnsS (σ.1 3 1) (σ.1 3 0) = nI t) (ht2 : t ≤ 144) (hc : c < 360) : ∀ m w, w + m = 99 → Φ (ctR p t c m w) σ → wX11_caught_51 Φ (m + 1) σ (nI c) (nI w) := by
  intro m
  induction m with
  | zero =>
    intro w hw h
    have : w = 99 := by omega
    subst this
    rw [wX11_caught_51, if_pos (show (98 : Int32) < nI 99 by decide)]
    exact h
  | succ m ih =>
    intro w hw h
    rw [wX11_caught_51, if_neg (show ¬ (98 : Int32) < nI w from nI_nlt (b := w) (a := 98) (by omega) (by omega))]
    refine i_place hp hp2 ht ht2 (by omega) ?_
    have hpl : placeN p (w * t) < 360 := Nat.mod_lt _ (by omega)
    refine x_apart hpl hc ?_
    have hap := ap_le _ _ hpl hc
    rw [ctR] at h
    by_cases q : 5 < apN (placeN p (w * t)) c
    · rw [if_pos (show (5 : Int32) < nI _ from nI_lt (a := 5) q (by omega)), nI_1]
      rw [if_pos q] at h
      exact ih (w + 1) (by omega) h
    · rw [if_neg (show ¬ (5 : Int32) < nI _ from nI_nlt (a := 5) (by omega) (by omega))]
      rw [if_neg q] at h
      exact h
theorem x_caught {σ : St} {s b p k t : Nat} {Φ : Int32 → St → Prop} (hW : WN σ s b p) (hbr : σ.1 3 6 = 0) (k1 : 1 ≤ k) (k2 : k ≤ 99) (ht : turnsS (nI s) (σ.1 3 0) = nI t) (ht2 : t ≤ 144) (hp : Φ (ctR p t (cqN (k * t)) 99 0) σ) : wX11_caught σ (nI k) Φ := by
  have l0 := wn_pos hW
  obtain ⟨g1, g2, g3, g4, g5, g7, g8, q5, q6⟩ := hW
  unfold wX11_caught
  have c1 : 1 ≤ nI k := nI_le (a := 1) k1 (by omega)
  have ht' : turnsS (σ.1 3 1) (σ.1 3 0) = nI t := by rw [g2]; exact ht
  have hb : k * t ≤ 99 * 144 := Nat.mul_le_mul k2 ht2
  rw [if_neg (show ¬ nI k < 1 by grind), if_pos (show nI k ≤ 99 from nI_le (b := 99) k2 (by omega)), e_isWhole, if_pos (show 0 < σ.1 3 0 ∧ σ.1 3 6 = 0 from ⟨l0, hbr⟩), if_neg (by decide), e_turnsNow, ht', nI_mul]
  exact x_c (by omega) ⟨100, x_caughtL g7 g8 ht' ht2 (cq_lt _) 99 0 (by omega) hp⟩
theorem x_caughtS {σ : St} {k : Nat} {Φ : Int32 → St → Prop} (hbr : ¬ σ.1 3 6 = 0) (k1 : 1 ≤ k) (k2 : k ≤ 99) (hp : Φ (-103) σ) : wX11_caught σ (nI k) Φ := by
  unfold wX11_caught
  have c1 : 1 ≤ nI k := nI_le (a := 1) k1 (by omega)
  rw [if_neg (show ¬ nI k < 1 by grind), if_pos (show nI k ≤ 99 from nI_le (b := 99) k2 (by omega)), e_isWhole, if_neg (show ¬ (0 < σ.1 3 0 ∧ σ.1 3 6 = 0) from fun q => hbr q.2), if_pos rfl]
  exact hp
/-! the law's own search -/
def fmN (x c : Nat) : Nat := (x + 360 - c) % 360
theorem m_ap {x c : Nat} (hx : x < 2 ^ 29) (hc : c < 360) : (nI x - nI c - (nI x - nI c) / 360 * 360) + 360 - ((nI x - nI c - (nI x - nI c) / 360 * 360) + 360) / 360 * 360 = nI (fmN x c) := by
  unfold fmN
  by_cases h : c ≤ x
  · have e1 : nI (x - c) - nI (x - c) / 360 * 360 = nI ((x - c) % 360) := pk_rem (d := 360) (by omega) (by omega) (by omega)
    have e2 : nI ((x - c) % 360) + 360 = nI ((x - c) % 360 + 360) := nI_add _ 360
    have e3 : nI ((x - c) % 360 + 360) - nI ((x - c) % 360 + 360) / 360 * 360 = nI (((x - c) % 360 + 360) % 360) := pk_rem (d := 360) (by omega) (by omega) (by omega)
    rw [nI_sub h, e1, e2, e3]
    congr 1
    omega
  · have e0 : nI x - nI c = nI 0 - nI (c - x) := by
      rw [← nI_sub (show x ≤ c by omega), show nI 0 = (0 : Int32) from rfl]
      grind
    have e2 : nI 0 - nI ((c - x) % 360) + 360 = nI (360 - (c - x) % 360) := by
      rw [← nI_sub (by omega), show nI 360 = (360 : Int32) from rfl, show nI 0 = (0 : Int32) from rfl]
      grind
    have e3 : nI (360 - (c - x) % 360) - nI (360 - (c - x) % 360) / 360 * 360 = nI ((360 - (c - x) % 360) % 360) := pk_rem (d := 360) (by omega) (by omega) (by omega)
    rw [e0, neg_rem (by omega), e2, e3]
    congr 1
    omega
theorem fm_lt (x c : Nat) : fmN x c < 360 := Nat.mod_lt _ (by omega)
theorem ap_fm {p ht c : Nat} (hc : c < 360) : (fmN (p + ht * 10) c < 6 ∨ 354 < fmN (p + ht * 10) c) ↔ ¬ 5 < apN (placeN p ht) c := by
  unfold fmN apN placeN
  generalize p + ht * 10 = Y
  by_cases h1 : c ≤ Y % 360
  · rw [if_pos h1]
    by_cases h2 : Y % 360 - c ≤ 360 - (Y % 360 - c)
    · rw [if_pos h2]; omega
    · rw [if_neg h2]; omega
  · rw [if_neg h1]
    by_cases h2 : c - Y % 360 ≤ 360 - (c - Y % 360)
    · rw [if_pos h2]; omega
    · rw [if_neg h2]; omega
theorem m1_add (x : Int32) : x + (-1) = x - 1 := by grind
set_option maxHeartbeats 4000000 in
theorem l_search {K80 : St → Nat → Int32 → Prop} {L : Nat} {xs : Nat → Int32} {σ : St} {kk nt hh s b p t c k : Nat} {v5 v6 : Int32} (hI : PI σ nt hh s b p) (ht : turnsS (nI s) (σ.1 3 0) = nI t) (ht2 : t ≤ 144) (hc : c = cqN (k * t)) (k1 : 1 ≤ k) (k2 : k ≤ 99) (hn : ∀ r : Int32, wL_law_649 K80 L xs σ kk v5 v6 r r) : ∃ n0, wL_law_564 K80 L xs n0 σ kk v5 v6 (nI k) (nI t) (nI c) (-1) 98 := by
  obtain ⟨hpg, hW, ⟨r0, r1, r2, r3, r4, r5, r6, r7⟩, hR, hP, hinj⟩ := hI
  have g8 : p < 360 := hW.2.2.2.2.2.2.1
  have q6 := hW.2.2.2.2.2.2.2.2
  have hc3 : c < 360 := by rw [hc]; exact cq_lt _
  have key : ∀ j, j ≤ 99 → wL_law_564 K80 L xs (j + 1) σ kk v5 v6 (nI k) (nI t) (nI c) (ctR p t c (99 - j) j) (nI j - 1) := by
    intro j
    induction j with
    | zero =>
      intro _
      rw [wL_law_564, if_pos (by decide)]
      by_cases z : σ.1 3 6 = 0
      · refine x_caught hW z k1 k2 ht ht2 ⟨vi 6 (by omega), ?_⟩
        rw [cl6, r6, z, if_neg (by decide), ← hc]
        exact hn _
      · have z1 : σ.1 3 6 = 1 := q6.resolve_left z
        refine x_caughtS z k1 k2 ⟨vi 6 (by omega), ?_⟩
        rw [cl6, r6, if_pos z1]
        exact hn _
    | succ j ih =>
      intro hj
      have ih' := ih (by omega)
      have ej : nI (j + 1) - 1 = nI j := Eq.trans (nI_sub (a := j + 1) (b := 1) (by omega)) rfl
      have hjt : j * t ≤ 98 * 144 := Nat.mul_le_mul (by omega) ht2
      have ex : σ.1 18 (4 : Int32).toNatClampNeg + nI j * nI t * 10 = nI (p + j * t * 10) := by
        rw [cl4, r4, show (10 : Int32) = nI 10 from rfl, nI_mul, nI_mul, nI_add]
      rw [wL_law_564, ej, if_neg (nI_pos (by omega)), ex, m_ap (by omega) hc3]
      refine ⟨vi 4 (by omega), by decide, by decide, ?_⟩
      have hfl := fm_lt (p + j * t * 10) c
      have hiff := ap_fm (p := p) (ht := j * t) hc3
      have hstep : ctR p t c (99 - j) j = if 5 < apN (placeN p (j * t)) c then ctR p t c (99 - (j + 1)) (j + 1) else nI j := by
        rw [show 99 - j = (99 - (j + 1)) + 1 by omega, ctR]
      rw [hstep] at ih'
      unfold wL_law_613 wL_law_620
      rw [m1_add]
      by_cases h1 : fmN (p + j * t * 10) c < 6
      · rw [if_pos (show nI _ < 6 from nI_lt (b := 6) h1 (by omega))]
        rw [if_neg (hiff.mp (Or.inl h1))] at ih'
        exact ih'
      · rw [if_neg (show ¬ nI _ < 6 from nI_nlt (b := 6) (by omega) (by omega))]
        by_cases h2 : fmN (p + j * t * 10) c ≤ 354
        · rw [if_pos (show nI _ ≤ 354 from nI_le (b := 354) h2 (by omega))]
          have h5 : 5 < apN (placeN p (j * t)) c := by
            by_cases q : 5 < apN (placeN p (j * t)) c
            · exact q
            · exact absurd (hiff.mpr q) (by omega)
          rw [if_pos h5] at ih'
          exact ih'
        · rw [if_neg (show ¬ nI _ ≤ 354 from nI_ge (a := 354) (by omega) (by omega))]
          rw [if_neg (hiff.mp (Or.inr (by omega)))] at ih'
          exact ih'
  have k0 := key 99 (by omega)
  exact ⟨100, k0⟩
/-! as -/
theorem l_as1 {K80 : St → Nat → Int32 → Prop} {K429 : St → Nat → Int32 → Int32 → Int32 → Prop} {L : Nat} {xs : Nat → Int32} {σ : St} {kk nt i : Nat} {v5 v6 : Int32} (hT : ThX σ nt) (hi : i < nt) (hn : K429 σ kk v5 v6 (nI (i + 1))) : ∃ n0, wL_law_441 K80 K429 L xs n0 σ kk v5 v6 (nI i) 0 := by
  have hn6 := hT.1
  have key : ∀ m w, w + m = 5 → wL_law_441 K80 K429 L xs (m + 1) σ kk v5 v6 (nI i) (nI w) := by
    intro m
    induction m with
    | zero =>
      intro w hw
      have : w = 5 := by omega
      subst this
      rw [wL_law_441, if_pos (show (5 : Int32) ≤ nI 5 by decide), nI_1]
      exact hn
    | succ m ih =>
      intro w hw
      have ih' := ih (w + 1) (by omega)
      rw [wL_law_441, if_neg (show ¬ (5 : Int32) ≤ nI w from nI_ge (b := 5) (by omega) (by omega)), ix8, nI_clamp (show 8 + 4 * i < 2 ^ 31 by omega)]
      refine ⟨vi _ (by omega), x_as hT hi ⟨nI_pos' (by omega), nI_le (b := 4) (by omega) (by omega)⟩ ?_⟩
      have y1 : ∀ a : Int32, asR σ.1 i (nI w) = nI i → wL_law_490 K80 K429 (wL_law_441 K80 K429 L xs (m + 1)) L xs σ kk v5 v6 (nI i) (nI w) (asR σ.1 i (nI w)) := fun a e => by
        unfold wL_law_490 wL_law_496
        rw [if_pos e, nI_1]
        exact ih'
      have y2 : ∀ a : Int32, asR σ.1 i (nI w) = -1 → wL_law_495 K80 K429 (wL_law_441 K80 K429 L xs (m + 1)) L xs σ kk v5 v6 (nI i) (nI w) (asR σ.1 i (nI w)) := fun a e => by
        unfold wL_law_495 wL_law_496
        rw [if_pos e, nI_1]
        exact ih'
      by_cases h0 : nI w = 0
      · rw [if_pos h0]
        exact y1 0 (by unfold asR; rw [if_pos (Or.inl h0)])
      · rw [if_neg h0]
        by_cases h1 : nI w = σ.1 18 (8 + 4 * i)
        · rw [if_pos h1]
          exact y1 0 (by unfold asR; rw [if_pos (Or.inr (Or.inl h1.symm))])
        · rw [if_neg h1]
          by_cases h3 : nI w = 3
          · rw [if_pos h3]
            by_cases h4 : σ.1 18 (8 + 4 * i) = 4
            · rw [if_pos h4]
              exact y1 0 (by unfold asR; rw [if_pos (Or.inr (Or.inr ⟨h3, h4⟩))])
            · rw [if_neg h4]
              exact y2 0 (by unfold asR; rw [if_neg (fun q => q.elim h0 (fun q => q.elim (fun q => h1 q.symm) (fun q => h4 q.2)))])
          · rw [if_neg h3]
            exact y2 0 (by unfold asR; rw [if_neg (fun q => q.elim h0 (fun q => q.elim (fun q => h1 q.symm) (fun q => h3 q.1)))])
  exact ⟨6, key 5 0 (by omega)⟩
theorem l_429 {K80 : St → Nat → Int32 → Prop} {L : Nat} {xs : Nat → Int32} {σ : St} {kk nt hh s b p x : Nat} {v5 : Int32} (hI : PI σ nt hh s b p) (hx : x < 2 ^ 31) (hn : ∀ r : Int32, wL_law_649 K80 L xs σ kk v5 (nI x) r r) : ∃ n0, wL_law_429 K80 L xs n0 σ kk v5 (nI x) 0 := by
  have hI' := hI
  obtain ⟨hpg, hW, ⟨r0, r1, r2, r3, r4, r5, r6, r7⟩, hR, hP, hinj⟩ := hI
  have hT := hR.1
  have hn6 := hT.1
  have key : ∀ m i, i + m = nt → wL_law_429 K80 L xs (m + 1) σ kk v5 (nI x) (nI i) := by
    intro m
    induction m with
    | zero =>
      intro i hi
      have : i = nt := by omega
      subst this
      rw [wL_law_429, cl7, r7, if_pos (nI_le (Nat.le_refl _) (by omega)), cl0]
      have hl : 10 ≤ σ.1 18 0 ∧ σ.1 18 0 ≤ 40 := by rw [r0]; exact hW.1
      obtain ⟨t, t1, t2⟩ := turns_nat (s := s) hW.2.2.1 hl
      refine ⟨vi 7 (by omega), by decide, by decide, vi 0 (by omega), l_turns r1 hl ⟨by decide, by decide, ?_⟩⟩
      have a1 : nI x / 4096 = nI (x / 4096) := pk_div (d := 4096) hx (by omega) (by omega)
      have a2 : nI (x / 4096) - nI (x / 4096) / 99 * 99 = nI (x / 4096 % 99) := pk_rem (d := 99) (by omega) (by omega) (by omega)
      have a3 : (1 : Int32) + nI (x / 4096 % 99) = nI (1 + x / 4096 % 99) := nI_add 1 _
      have hb : (1 + x / 4096 % 99) * t ≤ 99 * 144 := Nat.mul_le_mul (by omega) t2
      rw [a1, a2, a3, t1, nI_mul, m_c (by omega)]
      exact l_search hI' (by rw [← r0]; exact t1) t2 rfl (by omega) (by omega) hn
    | succ m ih =>
      intro i hi
      rw [wL_law_429, cl7, r7, if_neg (nI_ge (by omega) (by omega))]
      exact ⟨vi 7 (by omega), l_as1 hT (by omega) (ih (i + 1) (by omega))⟩
  exact ⟨nt + 1, key nt 0 (by omega)⟩
theorem l_416 {K80 : St → Nat → Int32 → Prop} {L : Nat} {xs : Nat → Int32} {σ : St} {kk nt hh s b p x : Nat} {v5 : Int32} (hI : PI σ nt hh s b p) (hx : x < 2 ^ 31) (hn : ∀ r : Int32, wL_law_649 K80 L xs σ kk v5 (nI x) r r) : wL_law_416 K80 L xs σ kk v5 (nI x) := by
  unfold wL_law_416
  refine l_told hI ?_
  rw [if_neg (by decide)]
  exact l_429 hI hx hn
end
section
/-! PURE PART J: whirls: the law's own hours, and the class's -/
theorem wr_eq {V V' : Nat → Nat → Int32} {nt : Nat} {sp bears : Int32} (h : V' 18 = V 18) : ∀ n l p h br s, wr V' nt sp bears n l p h br s = wr V nt sp bears n l p h br s
  | 0, l, p, h, br, s => by rw [wr, wr]
  | n + 1, l, p, hh, br, s => by
    have e : ∀ z l', brS V' nt z sp l' bears = brS V nt z sp l' bears := fun z l' => by
      unfold brS cab2 cabV
      rw [h]
    rw [wr, wr, e, wr_eq h n]
theorem br01 (V : Nat → Nat → Int32) (nt hh : Nat) (sp l bears : Int32) : brS V nt hh sp l bears = 0 ∨ brS V nt hh sp l bears = 1 := by
  unfold brS
  split
  · exact Or.inl rfl
  · exact Or.inr rfl
/-- the second row of the law, and where its hours stand -/
def TH (σ τ : St) (nt s b : Nat) (l : Int32) (p h : Nat) (br : Int32) : Prop := Sim σ τ ∧ RA (σ.1 18) (τ.1 19) ∧ τ.1 19 0 = l ∧ τ.1 19 1 = nI s ∧ τ.1 19 2 = nI b ∧ τ.1 19 4 = nI p ∧ τ.1 19 5 = nI h ∧ τ.1 19 6 = br ∧ τ.1 19 7 = nI nt
theorem lN_seed {sd : Nat} (hs : sd < 2 ^ 31) : ((1103515245 : Int64) * lN sd + 12345) - ((1103515245 : Int64) * lN sd + 12345) / 2147483648 * 2147483648 = lN (sdN sd) := by
  rw [show (1103515245 : Int64) = lN 1103515245 from rfl, lN_mul, show (12345 : Int64) = lN 12345 from rfl, lN_add, show (2147483648 : Int64) = lN 2147483648 from rfl, lN_rem (by omega) (by omega) (by omega)]
  rfl
theorem lN_way {sd : Nat} (hs : sd < 2 ^ 31) : (lN sd / 65536 - lN sd / 65536 / 7 * 7).toInt32 = nI (sd / 65536 % 7) := by
  rw [show (65536 : Int64) = lN 65536 from rfl, show (7 : Int64) = lN 7 from rfl, lN_div (by omega) (by omega) (by omega), lN_rem (by omega) (by omega) (by omega), lN_i]
set_option maxHeartbeats 4000000 in
theorem l_hours {K80 : St → Nat → Int32 → Prop} {L : Nat} {xs : Nat → Int32} {σ : St} {kk nt hh s b p N : Nat} {v5 v14 : Int32} {R : Int32 × Nat × Nat × Nat} (hI : PI σ nt hh s b p) (hh6 : hh ≤ 600) (hN : N ≤ 60)
    (hn : ∀ τ br g, TH σ τ nt s b R.1 R.2.1 R.2.2.1 br → R.2.2.1 = hh + g → R.2.2.2 < 2 ^ 31 → wL_law_835 K80 L xs τ kk v5 (nI N) v14 (lN R.2.2.2) (nI g)) :
    ∀ m g, g + m = N → ∀ τ l p' br sd, TH σ τ nt s b l p' (hh + g) br → (10 ≤ l ∧ l ≤ 40) → p' < 360 → (br = 0 ∨ br = 1) → sd < 2 ^ 31 → wr σ.1 nt (nI s) (nI b) m l p' (hh + g) br sd = R → wL_law_722 K80 L xs (m + 1) τ kk v5 (nI N) v14 (lN sd) (nI g) := by
  obtain ⟨hpg, hW, ⟨r0, r1, r2, r3, r4, r5, r6, r7⟩, ⟨hT, hB, h34⟩, hP, hinj⟩ := hI
  have hs3 := hW.2.2.1
  have hn6 := hT.1
  intro m
  induction m with
  | zero =>
    intro g hg τ l p' br sd hH hl hp hbr hsd hwr
    have : g = N := by omega
    subst this
    rw [wL_law_722, if_pos (nI_le (Nat.le_refl _) (by omega))]
    rw [wr] at hwr
    subst hwr
    exact hn τ br g hH rfl hsd
  | succ m ih =>
    intro g hg τ l p' br sd hH hl hp hbr hsd hwr
    have hH' := hH
    obtain ⟨hS, hRA, t0, t1, t2, t4, t5, t6, t7⟩ := hH'
    rw [wL_law_722, if_neg (nI_ge (by omega) (by omega)), cl6, t6]
    refine ⟨vi 6 (by omega), ?_⟩
    by_cases hb : br = 0
    · rw [if_pos hb]
      rw [wr, if_pos hb] at hwr
      rw [lN_seed hsd, lN_way (sdN_lt sd)]
      refine ⟨by decide, by decide, by decide, ?_⟩
      have hw := wrL_in (s := sd) hl
      obtain ⟨t, u1, u2⟩ := turns_nat (s := s) hs3 hw
      rw [u1, nI_clamp (show t < 2 ^ 31 by omega)] at hwr
      have hB1 : TB (fun _ => σ.1 18) nt (hh + g + 1) := TB.up (V := fun _ => σ.1 18) hB (by omega) (by omega)
      -- the hour itself
      have kh : ∀ d : Int32, l - d = wrL l sd → wL_law_810 K80 (wL_law_722 K80 L xs (m + 1)) L xs τ kk v5 (nI N) v14 (lN (sdN sd)) (nI g) d := by
        intro d hd
        unfold wL_law_810
        refine l_hour19 (r := σ.1 18) (nt := nt) (hh := hh + g) (s := s) (b := b) (p := p') (t := t) (l := wrL l sd) (br := brS σ.1 nt (hh + g + 1) (nI s) (wrL l sd) (nI b)) hRA hn6 t7 hP hB1 (by rw [t0]; exact hd) hw t1 t2 t4 hp t5 u1 u2 rfl ?_
        have hle : (-1 : Int32) ≤ (if brS σ.1 nt (hh + g + 1) (nI s) (wrL l sd) (nI b) = 0 then wrL l sd else -1) := by
          split
          · have := hw.1
            grind
          · decide
        rw [if_pos hle]
        unfold wL_law_829
        rw [nI_1]
        have hS1 : ∀ {a : Nat} {v : Int32} {μ : St}, Sim σ μ → Sim σ (sV μ 19 a v) := fun h => sm_sV h (Or.inr rfl)
        refine ih (g + 1) (by omega) _ (wrL l sd) (placeN p' t) _ (sdN sd) ⟨hS1 (hS1 (hS1 (hS1 hS))), ra_sV (ra_sV (ra_sV (ra_sV hRA (by omega)) (by omega)) (by omega)) (by omega), rfl, t1, t2, rfl, rfl, rfl, t7⟩ hw (Nat.mod_lt _ (by omega)) (br01 _ _ _ _ _ _) (sdN_lt sd) hwr
      -- which hour
      have kd : ∀ d : Int32, d = wdS (nI (sdN sd / 65536 % 7)) → wL_law_780 K80 (wL_law_722 K80 L xs (m + 1)) L xs τ kk v5 (nI N) v14 (lN (sdN sd)) (nI g) d := by
        intro d hd
        unfold wL_law_780 wL_law_809
        rw [cl0, t0]
        refine ⟨vi 0 (by omega), ?_⟩
        have hwr' : wrL l sd = if 10 ≤ l - d ∧ l - d ≤ 40 then l - d else l := by rw [hd]; rfl
        by_cases z1 : l - d ≤ 9
        · rw [if_pos z1]
          rw [if_neg (by grind)] at hwr'
          exact kh 0 (by rw [hwr']; exact Int32.sub_zero l)
        · rw [if_neg z1]
          refine ⟨vi 0 (by omega), ?_⟩
          by_cases z2 : 41 ≤ l - d
          · rw [if_pos z2]
            rw [if_neg (by grind)] at hwr'
            exact kh 0 (by rw [hwr']; exact Int32.sub_zero l)
          · rw [if_neg z2]
            rw [if_pos (by grind)] at hwr'
            exact kh d hwr'.symm
      by_cases z : (4 : Int32) ≤ nI (sdN sd / 65536 % 7)
      · rw [if_pos z]
        exact kd _ (by unfold wdS; rw [if_neg (by grind)])
      · rw [if_neg z]
        exact kd _ (by unfold wdS; rw [if_pos (by grind)])
    · rw [if_neg hb]
      rw [wr_0 hb] at hwr
      subst hwr
      exact hn τ br g hH rfl hsd
theorem l_copy {K80 : St → Nat → Int32 → Prop} {L : Nat} {xs : Nat → Int32} {σ : St} {kk : Nat} {v5 v13 v14 : Int32} {v15 : Int64} (hn : ∃ n0, wL_law_722 K80 L xs n0 (rowW σ.1 19 32 (σ.1 18), σ.2) kk v5 v13 v14 v15 0) : ∃ n0, wL_law_698 K80 L xs n0 σ kk v5 v13 v14 v15 0 := by
  have key : ∀ m i, i + m = 32 → wL_law_698 K80 L xs (m + 1) (rowW σ.1 19 i (σ.1 18), σ.2) kk v5 v13 v14 v15 (nI i) := by
    intro m
    induction m with
    | zero =>
      intro i hi
      have : i = 32 := by omega
      subst this
      rw [wL_law_698, if_pos (show (32 : Int32) ≤ nI 32 by decide)]
      exact hn
    | succ m ih =>
      intro i hi
      have ih' := ih (i + 1) (by omega)
      rw [wL_law_698, if_neg (show ¬ (32 : Int32) ≤ nI i from nI_ge (b := 32) (by omega) (by omega)), nI_clamp (show i < 2 ^ 31 by omega), nI_1]
      refine ⟨vi i (by omega), vi i (by omega), ?_⟩
      rw [← rowW_s] at ih'
      exact ih'
  have k0 := key 32 0 (by omega)
  rw [rowW_0] at k0
  exact ⟨33, k0⟩
theorem row19 (σ : St) : Sim σ (rowW σ.1 19 32 (σ.1 18), σ.2) ∧ ∀ k, k < 32 → ((rowW σ.1 19 32 (σ.1 18), σ.2) : St).1 19 k = σ.1 18 k := by
  refine ⟨⟨fun k h1 h2 => ?_, rfl⟩, fun k hk => ?_⟩
  · funext j
    show rowW σ.1 19 32 (σ.1 18) k j = σ.1 k j
    unfold rowW
    rw [if_neg (fun q => h2 q.1)]
  · show rowW σ.1 19 32 (σ.1 18) 19 k = σ.1 18 k
    unfold rowW
    rw [if_pos ⟨rfl, hk⟩]
set_option maxHeartbeats 4000000 in
theorem l_649 {K80 : St → Nat → Int32 → Prop} {L : Nat} {xs : Nat → Int32} {σ : St} {kk nt hh s b p x tt : Nat} (hL : L < 2 ^ 31) (hI : PI σ nt hh s b p) (hh6 : hh ≤ 600) (hx : x < 2 ^ 31) (htt : tt < 44) (hK : ∀ τ, PI τ nt hh s b p → K80 τ kk (nI (tt + 1))) : ∀ r : Int32, wL_law_649 K80 L xs σ kk (nI tt) (nI x) r r := by
  intro r
  unfold wL_law_649
  rw [if_pos rfl]
  have hfin : ∀ τ, PI τ nt hh s b p → wL_law_953 K80 L xs τ kk (nI tt) := fun τ h => by
    unfold wL_law_953
    rw [nI_1]
    exact hK τ h
  refine ⟨by decide, ?_⟩
  have e6 : nI tt - nI tt / 6 * 6 = nI (tt % 6) := pk_rem (d := 6) (by omega) (by omega) (by omega)
  have d6 : nI tt / 6 = nI (tt / 6) := pk_div (d := 6) (by omega) (by omega) (by omega)
  rw [e6, d6]
  by_cases h2 : nI (tt % 6) = 2
  · rw [if_pos h2]
    have a1 : nI x / 512 = nI (x / 512) := pk_div (d := 512) hx (by omega) (by omega)
    have a2 : nI (x / 512) - nI (x / 512) / 60 * 60 = nI (x / 512 % 60) := pk_rem (d := 60) (by omega) (by omega) (by omega)
    have a3 : (1 : Int32) + nI (x / 512 % 60) = nI (1 + x / 512 % 60) := nI_add 1 _
    have a4 : (52 : Int32) + nI (tt / 6) = nI (52 + tt / 6) := nI_add 52 _
    rw [a1, a2, a3, a4]
    refine ⟨by decide, by decide, by decide, nI_pos (by omega), ?_⟩
    obtain ⟨sd, sd1, hsd⟩ : ∃ sd, sd < 2 ^ 31 ∧ cellV xs L (nI (52 + tt / 6)) = nI sd := by
      obtain ⟨j, j1, j2⟩ := pk_andE (if nI L ≤ nI (52 + tt / 6) then 7919 * nI (52 + tt / 6) + 13 else xs (nI (52 + tt / 6)).toNatClampNeg) (m := 2147483647) 31 (by decide)
      exact ⟨j, j1, j2⟩
    rw [hsd, nI_l sd1]
    obtain ⟨N, hN⟩ : ∃ N, N = 1 + x / 512 % 60 := ⟨_, rfl⟩
    rw [← hN]
    have hN1 : 1 ≤ N := by omega
    have hN2 : N ≤ 60 := by omega
    clear hN a1 a2 a3
    refine l_copy ?_
    obtain ⟨hS, h19⟩ := row19 σ
    have hI' := hI
    obtain ⟨hpg, hW, ⟨r0, r1, r2, r3, r4, r5, r6, r7⟩, hR, hP, hinj⟩ := hI'
    have q6 := hW.2.2.2.2.2.2.2.2
    obtain ⟨R, hRw⟩ : ∃ R, wr σ.1 nt (nI s) (nI b) N (σ.1 3 0) p hh (σ.1 3 6) sd = R := ⟨_, rfl⟩
    refine ⟨N + 1, l_hours (R := R) (σ := σ) hI hh6 hN2 ?_ N 0 (by omega) _ (σ.1 3 0) p (σ.1 3 6) sd ⟨hS, fun k h1 h2 => h19 k h2, (h19 0 (by omega)).trans r0, (h19 1 (by omega)).trans r1, (h19 2 (by omega)).trans r2, (h19 4 (by omega)).trans r4, (h19 5 (by omega)).trans r5, (h19 6 (by omega)).trans r6, (h19 7 (by omega)).trans r7⟩ hW.1 hW.2.2.2.2.2.2.1 q6 sd1 hRw⟩
    intro τ br g hH hg hR4
    obtain ⟨hSt, -, t0, -, -, t4, -, -, -⟩ := hH
    have hIt := sm_pi hSt hI
    have e186 : τ.1 18 6 = σ.1 3 6 := (congrFun (hSt.1 18 (by omega) (by omega)) 6).trans r6
    unfold wL_law_835
    rw [cl6, e186]
    refine ⟨vi 6 (by omega), ?_⟩
    by_cases z : σ.1 3 6 = 0
    · rw [if_neg (by rw [z]; decide)]
      -- the WIRE is whole: what whirls tells is what the law's hours came to
      have hw : ∀ (μ : St) (v : Int32) (Ψ : Int32 → St → Prop), Sim0 τ μ → 0 ≤ v ∧ v ≤ 3 → (∀ ν, Sim0 τ ν → Ψ (whR R hh v) ν) → wX11_whirls μ (nI N) (nI sd) v Ψ := by
        intro μ v Ψ hM hv hΨ
        have hSm : Sim σ μ := sm_tr hSt (sm_of hM)
        have hIm := sm_pi hSm hI
        have e3 : μ.1 3 = σ.1 3 := hSm.1 3 (by omega) (by omega)
        have e18 : μ.1 18 = σ.1 18 := hSm.1 18 (by omega) (by omega)
        refine x_whirls (nt := nt) (s := s) (b := b) (p := p) (hh := hh) hIm.2.2.2.1 hh6 hIm.2.1 (by rw [e3]; exact z) hN1 hN2 sd1 hv (fun ν hν => ?_)
        rw [wr_eq e18, e3, ← z, hRw]
        exact hΨ ν ⟨fun k hk => (hν.1 k hk).trans (hM.1 k hk), hν.2.trans hM.2⟩
      have z0 : (0 : Int32) = 0 := rfl
      unfold wL_law_848
      refine hw τ 0 _ ⟨fun _ _ => rfl, rfl⟩ (by decide) (fun τ1 h1 => ?_)
      rw [if_pos rfl, cl0]
      refine ⟨vi 0 (by omega), ?_⟩
      unfold wL_law_872
      rw [if_pos (show whR R hh 0 = τ1.1 19 0 by rw [congrFun (h1.1 19 (by omega)) 0, t0]; simp [whR])]
      refine hw τ1 1 _ h1 (by decide) (fun τ2 h2 => ?_)
      rw [if_pos rfl, cl4]
      refine ⟨vi 4 (by omega), ?_⟩
      unfold wL_law_897
      rw [if_pos (show whR R hh 1 = τ2.1 19 4 by rw [congrFun (h2.1 19 (by omega)) 4, t4]; simp [whR])]
      refine hw τ2 2 _ h2 (by decide) (fun τ3 h3 => ?_)
      rw [if_pos rfl]
      unfold wL_law_921
      have eg : whR R hh 2 = nI g := by
        have : nI (hh + g) - nI hh = nI g := by rw [nI_sub (by omega)]; congr 1; omega
        simpa [whR, hg] using this
      rw [if_pos eg]
      refine hw τ3 3 _ h3 (by decide) (fun τ4 h4 => ?_)
      rw [if_pos rfl]
      unfold wL_law_947
      have e3 : whR R hh 3 = nI R.2.2.2 := by simp [whR]
      rw [e3, nI_l hR4, lg_cmp_self, if_pos rfl]
      exact hfin τ4 (sm_pi (sm_tr hSt (sm_of h4)) hI)
    · have z1 : σ.1 3 6 = 1 := q6.resolve_left z
      rw [if_pos z1]
      have e36 : ¬ τ.1 3 6 = 0 := by rw [congrFun (hSt.1 3 (by omega) (by omega)) 6]; exact z
      have w1 : ¬ (1 : Int32) = 0 := by decide
      unfold wL_law_848
      refine x_whirlsS e36 hN1 hN2 sd1 (by decide) ?_
      rw [if_neg w1]
      unfold wL_law_872
      rw [if_pos rfl]
      refine x_whirlsS e36 hN1 hN2 sd1 (by decide) ?_
      rw [if_neg w1]
      unfold wL_law_897
      rw [if_pos rfl]
      refine x_whirlsS e36 hN1 hN2 sd1 (by decide) ?_
      rw [if_neg w1]
      unfold wL_law_921
      rw [if_pos rfl]
      refine x_whirlsS e36 hN1 hN2 sd1 (by decide) ?_
      rw [if_neg w1]
      unfold wL_law_947
      rw [if_pos (by decide)]
      exact hfin τ hIt
  · rw [if_neg h2]
    exact hfin σ hI
end
section
/-! PURE PART K: the law's acts, its loops, the law -/
theorem cell_nat (xs : Nat → Int32) (L : Nat) (k : Int32) : ∃ x, x < 2 ^ 31 ∧ cellV xs L k = nI x := by
  obtain ⟨j, j1, j2⟩ := pk_andE (if nI L ≤ k then 7919 * k + 13 else xs k.toNatClampNeg) (m := 2147483647) 31 (by decide)
  exact ⟨j, j1, j2⟩
theorem sv_id (σ : St) (q b : Nat) : sV σ q b (σ.1 q b) = σ := by
  have e : up2 σ.1 q b (σ.1 q b) = σ.1 := by
    funext i j
    unfold up2 va_up
    by_cases h : i = q
    · subst h
      by_cases h2 : j = b
      · subst h2; simp
      · simp [h2]
    · simp [h]
  unfold sV
  rw [e]
/-- what comes behind an act -/
def KN (K80 : St → Nat → Int32 → Prop) (kk hh tt : Nat) : Prop := ∀ τ nt' hh' s' b' p' kk', PI τ nt' hh' s' b' p' → hh' ≤ hh + 1 → kk' ≤ kk + 1 → K80 τ kk' (nI (tt + 1))
theorem l_rest {K80 : St → Nat → Int32 → Prop} {L : Nat} {xs : Nat → Int32} {σ : St} {kk kk' hh tt x nt' hh' s' b' p' : Nat} (hL : L < 2 ^ 31) (hK : KN K80 kk hh tt) (hh6 : hh ≤ 500) (hx : x < 2 ^ 31) (htt : tt < 44) (hI : PI σ nt' hh' s' b' p') (h1 : hh' ≤ hh + 1) (h2 : kk' ≤ kk + 1) : wL_law_416 K80 L xs σ kk' (nI tt) (nI x) :=
  l_416 hI hx (l_649 hL hI (by omega) hx htt (fun τ hτ => hK τ _ _ _ _ _ _ hτ h1 h2))
set_option maxHeartbeats 4000000 in
theorem l_hourA {K80 : St → Nat → Int32 → Prop} {L : Nat} {xs : Nat → Int32} {σ : St} {kk nt hh s b p tt x : Nat} {d : Int32} (hL : L < 2 ^ 31) (hK : KN K80 kk hh tt) (hh6 : hh ≤ 500) (hx : x < 2 ^ 31) (htt : tt < 44) (hI : PI σ nt hh s b p) (hd : -3 ≤ d ∧ d ≤ 3) : wL_law_165 K80 L xs σ kk (nI tt) (nI x) d := by
  have hI' := hI
  obtain ⟨hpg, hW, ⟨r0, r1, r2, r3, r4, r5, r6, r7⟩, ⟨hT, hB, h34⟩, hP, hinj⟩ := hI'
  have hn6 := hT.1
  have no : ¬ (σ.1 3 6 = 0 ∧ 10 ≤ σ.1 3 0 - d ∧ σ.1 3 0 - d ≤ 40) → wL_law_201 K80 L xs σ kk (nI tt) (nI x) d 0 := by
    intro h
    unfold wL_law_201
    refine x_hourS hd h ?_
    rw [if_pos rfl]
    unfold wL_law_225
    rw [if_pos rfl]
    exact l_rest hL hK hh6 hx htt hI (by omega) (by omega)
  unfold wL_law_165 wL_law_200
  rw [cl6, cl0, r6, r0]
  refine ⟨vi 6 (by omega), ?_⟩
  by_cases z : σ.1 3 6 = 0
  · rw [if_pos z]
    refine ⟨vi 0 (by omega), ?_⟩
    by_cases z1 : σ.1 3 0 - d ≤ 9
    · rw [if_pos z1]
      exact no (fun q => by have := q.2.1; grind)
    · rw [if_neg z1]
      refine ⟨vi 0 (by omega), ?_⟩
      by_cases z2 : 41 ≤ σ.1 3 0 - d
      · rw [if_pos z2]
        exact no (fun q => by have := q.2.2; grind)
      · rw [if_neg z2]
        have hl : 10 ≤ σ.1 3 0 - d ∧ σ.1 3 0 - d ≤ 40 := by
          constructor <;> grind
        obtain ⟨t, t1, t2⟩ := turns_nat (s := s) hW.2.2.1 hl
        obtain ⟨l, hle⟩ : ∃ l, l = σ.1 3 0 - d := ⟨_, rfl⟩
        obtain ⟨br, hbr⟩ : ∃ br, br = brS σ.1 nt (hh + 1) (nI s) l (nI b) := ⟨_, rfl⟩
        have hB1 : TB σ.1 nt (hh + 1) := hB.up (by omega) (by omega)
        unfold wL_law_201
        refine x_hour (nt := nt) (hh := hh) (s := s) (b := b) (p := p) (t := t) (br := br) h34 hB1 hT hW hd z hl t1 t2 (by rw [hbr, hle]) ?_
        rw [if_neg (by decide), ← hle]
        rw [← hle] at t1 hl
        obtain ⟨μ, hμ⟩ : ∃ μ, μ = sV (sV (sV (sV σ 3 0 l) 3 4 (nI (hh + 1))) 3 3 (nI (placeN p t))) 3 6 br := ⟨_, rfl⟩
        rw [← hμ]
        have m18 : μ.1 18 = σ.1 18 := by rw [hμ]; rfl
        refine l_hour18 (σ := μ) (r := σ.1 18) (nt := nt) (hh := hh) (s := s) (b := b) (p := p) (t := t) (l := l) (br := br) (by rw [m18]; exact ra_rfl) hn6 (by rw [m18]; exact r7) hP hB1 (by rw [m18, r0, hle]) hl (by rw [m18]; exact r1) (by rw [m18]; exact r2) (by rw [m18]; exact r4) hW.2.2.2.2.2.2.1 (by rw [m18]; exact r5) t1 t2 (by rw [hbr]; rfl) ?_
        unfold wL_law_225
        rw [if_pos rfl]
        obtain ⟨τ, hτ⟩ : ∃ τ, τ = sV (sV (sV (sV μ 18 0 l) 18 5 (nI (hh + 1))) 18 4 (nI (placeN p t))) 18 6 br := ⟨_, rfl⟩
        rw [← hτ]
        have hRA : RA (σ.1 18) (τ.1 18) := by
          rw [hτ]
          exact ra_sV (ra_sV (ra_sV (ra_sV (by rw [m18]; exact ra_rfl) (by omega)) (by omega)) (by omega)) (by omega)
        have t22 : τ.2.2 = σ.2.2 := by rw [hτ, hμ]; rfl
        have x1 : τ.1 1 1 = 0 := by rw [hτ, hμ]; exact hpg
        have x30 : τ.1 3 0 = l := by rw [hτ, hμ]; rfl
        have x31 : τ.1 3 1 = nI s := by rw [hτ, hμ]; exact hW.2.1
        have x32 : τ.1 3 2 = nI b := by rw [hτ, hμ]; exact hW.2.2.2.1
        have x33 : τ.1 3 3 = nI (placeN p t) := by rw [hτ, hμ]; rfl
        have x34 : τ.1 3 4 = nI (hh + 1) := by rw [hτ, hμ]; rfl
        have x35 : τ.1 3 5 = σ.1 3 5 := by rw [hτ, hμ]; rfl
        have x36 : τ.1 3 6 = br := by rw [hτ, hμ]; rfl
        have x42 : τ.1 4 2 = nI nt := by rw [hτ, hμ]; exact hT.2.1
        have y0 : τ.1 18 0 = l := by rw [hτ]; rfl
        have y1 : τ.1 18 1 = nI s := by rw [hτ, hμ]; exact r1
        have y2 : τ.1 18 2 = nI b := by rw [hτ, hμ]; exact r2
        have y3 : τ.1 18 3 = σ.1 3 5 := by rw [hτ, hμ]; exact r3
        have y4 : τ.1 18 4 = nI (placeN p t) := by rw [hτ]; rfl
        have y5 : τ.1 18 5 = nI (hh + 1) := by rw [hτ]; rfl
        have y6 : τ.1 18 6 = br := by rw [hτ]; rfl
        have y7 : τ.1 18 7 = nI nt := by rw [hτ, hμ]; exact r7
        refine l_rest hL hK hh6 hx htt (nt' := nt) (hh' := hh + 1) (s' := s) (b' := b) (p' := placeN p t) ⟨x1, ⟨by rw [x30]; exact hl, x31, hW.2.2.1, x32, hW.2.2.2.2.1, x33, Nat.mod_lt _ (by omega), by rw [x35]; exact hW.2.2.2.2.2.2.2.1, by rw [x36, hbr]; exact br01 _ _ _ _ _ _⟩, ⟨y0.trans x30.symm, y1, y2, y3.trans x35.symm, y4, y5, y6.trans x36.symm, y7⟩, ⟨⟨hn6, x42, fun i hi => ?_⟩, ra_tb hRA hB1, x34⟩, fun i hi => ?_, ?_⟩ (by omega) (by omega)
        · obtain ⟨a, ha, d2, d3, d4, d5, d6⟩ := hT.2.2 i hi
          refine ⟨a, by rw [t22]; exact ha, ?_⟩
          unfold TXr
          rw [t22, show rK (τ.1 18) i = rK (σ.1 18) i from hRA _ (by omega) (by omega), show rW (τ.1 18) i = rW (σ.1 18) i from hRA _ (by omega) (by omega), show rM (τ.1 18) i = rM (σ.1 18) i from hRA _ (by omega) (by omega), show rP (τ.1 18) i = rP (σ.1 18) i from hRA _ (by omega) (by omega)]
          exact ⟨d2, d3, d4, d5, d6⟩
        · rw [show rP (τ.1 18) i = rP (σ.1 18) i from hRA _ (by omega) (by omega)]
          exact hP i hi
        · rw [t22]
          exact hinj
  · rw [if_neg z]
    exact no (fun q => z q.1)
set_option maxHeartbeats 4000000 in
theorem l_carryA {K80 : St → Nat → Int32 → Prop} {L : Nat} {xs : Nat → Int32} {σ : St} {kk nt hh s b p tt x i : Nat} {mv : Int32} (hL : L < 2 ^ 31) (hK : KN K80 kk hh tt) (hh6 : hh ≤ 500) (hx : x < 2 ^ 31) (htt : tt < 44) (hI : PI σ nt hh s b p) (hi : i < nt)
    (hmv : (mv = 1 ∧ σ.1 3 6 = 0 ∧ ¬ (rK (σ.1 18) i = 2 ∧ 2 < turnsS (σ.1 3 1) (σ.1 3 0))) ∨ (mv = 0 ∧ ¬ (σ.1 3 6 = 0 ∧ ¬ (rK (σ.1 18) i = 2 ∧ 2 < turnsS (σ.1 3 1) (σ.1 3 0))))) : wL_law_283 K80 L xs σ kk (nI tt) (nI x) (nI i) mv := by
  have hI' := hI
  obtain ⟨hpg, hW, ⟨r0, r1, r2, r3, r4, r5, r6, r7⟩, ⟨hT, hB, h34⟩, hP, hinj⟩ := hI'
  have hn6 := hT.1
  have l0 := wn_pos hW
  obtain ⟨a, ha, d2, d3, d4, d5, d6⟩ := hT.2.2 i hi
  have kc : (nI (10 + 4 * i)).toNatClampNeg = 10 + 4 * i := nI_clamp (by omega)
  unfold wL_law_283 wL_law_321
  rw [ix10, kc]
  rcases hmv with ⟨rfl, hy⟩ | ⟨rfl, hno⟩
  · rw [if_neg (by decide)]
    refine ⟨vi _ (by omega), vi _ (by omega), ?_⟩
    refine x_carry (σ := sV σ 18 (10 + 4 * i) (1 - σ.1 18 (10 + 4 * i))) (nt := nt) (kv := rK (σ.1 18) i) (pl := rP (σ.1 18) i) hn6 hT.2.1 hi ha d2 d3 d6 l0 (fun _ => ?_) (fun q => absurd hy q)
    rw [if_neg (by decide)]
    refine ⟨vi _ (by omega), ?_⟩
    obtain ⟨τ, hτ⟩ : ∃ τ, τ = sT (sV σ 18 (10 + 4 * i) (1 - σ.1 18 (10 + 4 * i))) a 2 (1 - rP (σ.1 18) i) := ⟨_, rfl⟩
    rw [← hτ]
    have t18 : τ.1 18 = (sV σ 18 (10 + 4 * i) (1 - σ.1 18 (10 + 4 * i))).1 18 := by rw [hτ]; rfl
    have tP : τ.1 18 (10 + 4 * i) = 1 - rP (σ.1 18) i := by rw [t18, sv_s]
    have tO : ∀ k, k ≠ 10 + 4 * i → τ.1 18 k = σ.1 18 k := fun k hk => by rw [t18, sv_o hk]
    have tX : ∀ k, k ≠ 18 → τ.1 k = σ.1 k := fun k hk => by
      rw [hτ]
      simp [sT, sV, up2, va_up, hk]
    unfold wL_law_347
    rw [if_pos tP.symm]
    refine l_rest hL hK hh6 hx htt (nt' := nt) (hh' := hh) (s' := s) (b' := b) (p' := p) ⟨by rw [tX 1 (by omega)]; exact hpg, ?_, ?_, ⟨⟨hn6, by rw [tX 4 (by omega)]; exact hT.2.1, fun i' hi' => ?_⟩, ⟨hn6, hB.2.1, fun i' hi' => ?_⟩, by rw [tX 3 (by omega)]; exact h34⟩, fun i' hi' => ?_, ?_⟩ (by omega) (by omega)
    · unfold WN
      rw [tX 3 (by omega)]
      exact hW
    · rw [tX 3 (by omega), tO 0 (by omega), tO 1 (by omega), tO 2 (by omega), tO 3 (by omega), tO 4 (by omega), tO 5 (by omega), tO 6 (by omega), tO 7 (by omega)]
      exact ⟨r0, r1, r2, r3, r4, r5, r6, r7⟩
    · obtain ⟨c, hc, f2, f3, f4, f5, f6⟩ := hT.2.2 i' hi'
      refine ⟨c, by rw [hτ]; exact hc, by rw [hτ]; exact f2, ?_, ?_, ?_, ?_⟩
      · rw [show rK (τ.1 18) i' = rK (σ.1 18) i' from tO _ (by omega), hτ]; exact f3
      · rw [show rW (τ.1 18) i' = rW (σ.1 18) i' from tO _ (by omega), hτ]
        by_cases hca : c = a
        · subst hca; simpa [sT, sV, up2, va_up] using f4
        · simpa [sT, sV, up2, va_up, hca] using f4
      · rw [show rM (τ.1 18) i' = rM (σ.1 18) i' from tO _ (by omega), hτ]
        by_cases hca : c = a
        · subst hca; simpa [sT, sV, up2, va_up] using f5
        · simpa [sT, sV, up2, va_up, hca] using f5
      · by_cases hii : i' = i
        · have hca : c = a := Option.some.inj (hc.symm.trans (by rw [hii]; exact ha))
          rw [hii, show rP (τ.1 18) i = 1 - rP (σ.1 18) i from tP, hτ, hca]
          simp [sT, sV, up2, va_up]
        · have hca : c ≠ a := fun q => hii (hinj i' i hi' hi (hc.trans (by rw [q]; exact ha.symm)))
          rw [show rP (τ.1 18) i' = rP (σ.1 18) i' from tO _ (by omega), hτ]
          simpa [sT, sV, up2, va_up, hca] using f6
    · obtain ⟨w, c, u1, u2, u3, u4⟩ := hB.2.2 i' hi'
      exact ⟨w, c, (tO _ (by omega)).trans u1, u2, (tO _ (by omega)).trans u3, u4⟩
    · by_cases hii : i' = i
      · rw [hii, show rP (τ.1 18) i = 1 - rP (σ.1 18) i from tP]
        rcases hP i hi with q | q <;> rw [q] <;> decide
      · rw [show rP (τ.1 18) i' = rP (σ.1 18) i' from tO _ (by omega)]
        exact hP i' hi'
    · rw [hτ]
      exact hinj
  · rw [if_pos rfl, sv_id]
    refine ⟨vi _ (by omega), vi _ (by omega), ?_⟩
    refine x_carry (σ := σ) (nt := nt) (kv := rK (σ.1 18) i) (pl := rP (σ.1 18) i) hn6 hT.2.1 hi ha d2 d3 d6 l0 (fun q => absurd q hno) (fun _ => ?_)
    rw [if_pos rfl]
    unfold wL_law_347
    rw [if_pos rfl]
    exact l_rest hL hK hh6 hx htt hI (by omega) (by omega)
theorem l_355 {K80 : St → Nat → Int32 → Prop} {L : Nat} {xs : Nat → Int32} {σ : St} {kk nt hh s b p tt x : Nat} {v7 : Int32} (hL : L < 2 ^ 31) (hK : KN K80 kk hh tt) (hkk : kk < 600) (hh6 : hh ≤ 500) (hx : x < 2 ^ 31) (htt : tt < 44) (hI : PI σ nt hh s b p) : wL_law_355 K80 L xs σ kk (nI tt) (nI x) v7 := by
  have hI' := hI
  obtain ⟨hpg, hW, ⟨r0, r1, r2, r3, r4, r5, r6, r7⟩, ⟨hT, hB, h34⟩, hP, hinj⟩ := hI'
  have hn6 := hT.1
  have a1 : nI x / 16 = nI (x / 16) := pk_div (d := 16) hx (by omega) (by omega)
  have h386 : wL_law_386 K80 L xs σ kk (nI tt) (nI x) v7 := by
    have h0 : wL_law_416 K80 L xs σ kk (nI tt) (nI x) := l_rest hL hK hh6 hx htt hI (by omega) (by omega)
    unfold wL_law_386
    refine ⟨vi 6 (by omega), ?_⟩
    by_cases z1 : σ.1 18 (6 : Int32).toNatClampNeg = 1
    · rw [if_pos z1]
      by_cases z2 : v7 = 15
      · rw [if_pos z2, a1]
        refine ⟨by decide, l_wire (nt := nt) (by omega) hpg hn6 hT.2.1 (fun τ s' b' p' hτ => ?_)⟩
        rw [if_neg (by decide)]
        exact l_rest hL hK hh6 hx htt hτ (by omega) (by omega)
      · rw [if_neg z2]
        exact h0
    · rw [if_neg z1]
      exact h0
  unfold wL_law_355
  by_cases z : v7 = 14
  · rw [if_pos z, cl7, r7]
    refine ⟨vi 7 (by omega), ?_⟩
    by_cases h6 : nt = 6
    · rw [if_pos (show (6 : Int32) ≤ nI nt by rw [h6]; decide)]
      exact h386
    · rw [if_neg (show ¬ (6 : Int32) ≤ nI nt from nI_ge (b := 6) (by omega) (by omega)), a1]
      refine ⟨by decide, hkk, l_thing hI (by omega) (by omega) (fun τ hτ => ?_)⟩
      rw [if_neg (by decide)]
      exact l_rest hL hK hh6 hx htt hτ (by omega) (by omega)
  · rw [if_neg z]
    exact h386
theorem l_126 {K80 : St → Nat → Int32 → Prop} {L : Nat} {xs : Nat → Int32} {σ : St} {kk nt hh s b p tt x k : Nat} {v7 : Int32} (hL : L < 2 ^ 31) (hK : KN K80 kk hh tt) (hkk : kk < 600) (hh6 : hh ≤ 500) (hx : x < 2 ^ 31) (htt : tt < 44) (hI : PI σ nt hh s b p) (hk : nt = 0 ∨ k < nt) : wL_law_126 K80 L xs σ kk (nI tt) (nI x) v7 (nI k) := by
  have hI' := hI
  obtain ⟨hpg, hW, ⟨r0, r1, r2, r3, r4, r5, r6, r7⟩, ⟨hT, hB, h34⟩, hP, hinj⟩ := hI'
  have hn6 := hT.1
  have g2 := hW.2.1
  unfold wL_law_126
  by_cases z9 : (9 : Int32) ≤ v7
  · rw [if_pos z9]
    by_cases z14 : (14 : Int32) ≤ v7
    · rw [if_pos z14]
      exact l_355 hL hK hkk hh6 hx htt hI
    · rw [if_neg z14, cl7, cl6, cl0, r7, r6, r0]
      refine ⟨vi 7 (by omega), ?_⟩
      by_cases z0 : nt = 0
      · rw [if_pos (show nI nt ≤ 0 by rw [z0]; decide)]
        exact l_355 hL hK hkk hh6 hx htt hI
      · have hk' : k < nt := hk.resolve_left z0
        rw [if_neg (show ¬ nI nt ≤ 0 from nI_ge (a := 0) (by omega) (by omega)), ix8, nI_clamp (show 8 + 4 * k < 2 ^ 31 by omega)]
        refine ⟨vi 6 (by omega), ?_⟩
        unfold wL_law_282 wL_law_278
        by_cases z6 : σ.1 3 6 = 0
        · rw [if_pos z6]
          refine ⟨vi _ (by omega), ?_⟩
          by_cases z2 : σ.1 18 (8 + 4 * k) = 2
          · rw [if_pos z2]
            refine ⟨vi 0 (by omega), l_turns r1 hW.1 ?_⟩
            by_cases zt : (3 : Int32) ≤ turnsS (nI s) (σ.1 3 0)
            · rw [if_pos zt]
              exact l_carryA hL hK hh6 hx htt hI hk' (Or.inr ⟨rfl, fun q => q.2 ⟨z2, by rw [g2]; grind⟩⟩)
            · rw [if_neg zt]
              exact l_carryA hL hK hh6 hx htt hI hk' (Or.inl ⟨rfl, z6, fun q => by have := q.2; rw [g2] at this; grind⟩)
          · rw [if_neg z2]
            exact l_carryA hL hK hh6 hx htt hI hk' (Or.inl ⟨rfl, z6, fun q => z2 q.1⟩)
        · rw [if_neg z6]
          exact l_carryA hL hK hh6 hx htt hI hk' (Or.inr ⟨rfl, fun q => z6 q.1⟩)
  · rw [if_neg z9]
    have a1 : nI x / 128 = nI (x / 128) := pk_div (d := 128) hx (by omega) (by omega)
    have a2 : nI (x / 128) - nI (x / 128) / 7 * 7 = nI (x / 128 % 7) := pk_rem (d := 7) (by omega) (by omega) (by omega)
    refine ⟨by decide, by decide, by decide, by decide, ?_⟩
    rw [a1, a2]
    have hd : ∀ n, n < 7 → -3 ≤ nI n - 3 ∧ nI n - 3 ≤ 3 := by decide +kernel
    split
    · exact l_hourA hL hK hh6 hx htt hI (by decide)
    · exact l_hourA hL hK hh6 hx htt hI (hd _ (Nat.mod_lt _ (by omega)))
theorem l_end {L : Nat} {xs : Nat → Int32} {σ : St} {kk nt hh s b p n : Nat} (hI : PI σ nt hh s b p) : wL_law_80 L xs (n + 1) σ kk (nI 44) := by
  obtain ⟨hpg, hW, ⟨r0, r1, r2, r3, r4, r5, r6, r7⟩, ⟨hT, hB, h34⟩, hP, hinj⟩ := hI
  have hn6 := hT.1
  rw [wL_law_80, if_pos (show (44 : Int32) ≤ nI 44 by decide)]
  refine x_cabinU (by decide) ?_
  rw [if_pos rfl]
  refine x_cabinO (by decide) (by decide) ?_
  rw [if_pos rfl, cl7, r7]
  refine ⟨vi 7 (by omega), x_aboutU hT (Or.inr (nI_le (Nat.le_refl _) (by omega))) ?_⟩
  rw [if_pos rfl, r7]
  refine ⟨vi 7 (by omega), x_asU hT (Or.inr (nI_le (Nat.le_refl _) (by omega))) ?_⟩
  rw [if_pos rfl]
  refine x_carryU hT (Or.inr (show nI nt ≤ 6 from nI_le (b := 6) (by omega) (by omega))) ?_
  rw [if_pos rfl]
  refine x_hourO (Or.inr (by decide)) ?_
  rw [if_pos rfl]
  refine x_hourO (Or.inl (by decide)) ?_
  rw [if_pos rfl]
  refine x_caughtO (Or.inl (by decide)) ?_
  rw [if_pos rfl]
  refine x_caughtO (Or.inr (by decide)) ?_
  rw [if_pos rfl]
  refine x_whirlsO (Or.inl (by decide)) ?_
  rw [if_pos rfl]
  refine x_whirlsO (Or.inr (Or.inl (by decide))) ?_
  rw [if_pos rfl]
  refine x_whirlsO (Or.inr (Or.inr (Or.inl (by decide)))) ?_
  rw [if_pos rfl]
  refine x_whirlsO (Or.inr (Or.inr (Or.inr (Or.inr (by decide))))) ?_
  rw [if_pos rfl, r7]
  refine ⟨vi 7 (by omega), ?_⟩
  by_cases z : nt = 0
  · rw [if_pos (by rw [z]; rfl)]
  · rw [if_neg (show ¬ nI nt = 0 from fun q => z ((nI_eq (b := 0) (by omega) (by omega)).mp q))]
    refine x_aboutO (i := 0) hT (by omega) ?_
    rw [if_pos rfl]
    refine x_asO (i := 0) hT (by omega) ?_
    rw [if_pos rfl]
set_option maxHeartbeats 4000000 in
theorem l_80 {L : Nat} {xs : Nat → Int32} (hL : L < 2 ^ 31) : ∀ m tt, tt + m = 44 → ∀ σ nt hh s b p kk, PI σ nt hh s b p → hh ≤ tt → kk ≤ 5 + tt → wL_law_80 L xs (m + 1) σ kk (nI tt) := by
  intro m
  induction m with
  | zero =>
    intro tt ht σ nt hh s b p kk hI _ _
    have : tt = 44 := by omega
    subst this
    exact l_end hI
  | succ m ih =>
    intro tt ht σ nt hh s b p kk hI hh1 hk1
    have hI' := hI
    obtain ⟨hpg, hW, ⟨r0, r1, r2, r3, r4, r5, r6, r7⟩, ⟨hT, hB, h34⟩, hP, hinj⟩ := hI'
    have hn6 := hT.1
    obtain ⟨x, hx, hc⟩ := cell_nat xs L (8 + nI tt)
    have hK : KN (wL_law_80 L xs (m + 1)) kk hh tt := fun τ nt' hh' s' b' p' kk' hτ h1 h2 => ih (tt + 1) (by omega) τ nt' hh' s' b' p' kk' hτ (by omega) (by omega)
    rw [wL_law_80, if_neg (show ¬ (44 : Int32) ≤ nI tt from nI_ge (b := 44) (by omega) (by omega)), hc, cl7, r7]
    have a1 : nI x / 16 = nI (x / 16) := pk_div (d := 16) hx (by omega) (by omega)
    refine ⟨by rw [show (8 : Int32) + nI tt = nI (8 + tt) from nI_add 8 _]; exact nI_pos (by omega), by decide, vi 7 (by omega), ?_⟩
    by_cases z : nt = 0
    · rw [if_pos (by rw [z]; rfl)]
      exact l_126 (k := 0) hL hK (by omega) (by omega) hx (by omega) hI (Or.inl z)
    · have hz : ¬ nI nt = 0 := fun q => z ((nI_eq (b := 0) (by omega) (by omega)).mp q)
      rw [if_neg hz, a1, show nI (x / 16) - nI (x / 16) / nI nt * nI nt = nI (x / 16 % nt) from pk_rem (by omega) (by omega) (by omega)]
      exact ⟨by decide, vi 7 (by omega), hz, l_126 hL hK (by omega) (by omega) hx (by omega) hI (Or.inr (Nat.mod_lt _ (by omega)))⟩
theorem l_46 {L : Nat} {xs : Nat → Int32} (hL : L < 2 ^ 31) {f : Nat} (hf : f ≤ 5) : ∀ m t, t + m = f → ∀ σ s b p, PI σ t 0 s b p → wL_law_46 L xs (m + 1) σ t (nI f) (nI t) := by
  intro m
  induction m with
  | zero =>
    intro t ht σ s b p hI
    have : t = f := by omega
    subst this
    rw [wL_law_46, if_pos (nI_le (Nat.le_refl _) (by omega))]
    exact ⟨45, l_80 hL 44 0 (by omega) σ t 0 s b p t hI (by omega) (by omega)⟩
  | succ m ih =>
    intro t ht σ s b p hI
    obtain ⟨x, hx, hc⟩ := cell_nat xs L (2 + nI t)
    rw [wL_law_46, if_neg (nI_ge (by omega) (by omega)), hc]
    refine ⟨by rw [show (2 : Int32) + nI t = nI (2 + t) from nI_add 2 _]; exact nI_pos (by omega), by omega, l_thing hI (by omega) hx (fun τ hτ => ?_)⟩
    rw [if_neg (by decide), nI_1]
    exact ih (t + 1) (by omega) τ s b p hτ
theorem law_true {L : Nat} {xs : Nat → Int32} (hL : L < 2 ^ 31) {σ : St} (h1 : σ.1 1 1 = 0) (h2 : σ.1 4 2 = 0) : wL_law L xs σ 0 := by
  obtain ⟨x, hx, hc⟩ := cell_nat xs L 0
  obtain ⟨y, hy, hd⟩ := cell_nat xs L 1
  unfold wL_law
  rw [hc, hd]
  refine ⟨by decide, l_wire (nt := 0) hx h1 (by omega) h2 (fun τ s b p hτ => ?_)⟩
  rw [if_neg (by decide)]
  refine ⟨by decide, by decide, ?_⟩
  have a1 : nI y - nI y / 6 * 6 = nI (y % 6) := pk_rem (d := 6) hy (by omega) (by omega)
  rw [a1]
  exact ⟨y % 6 + 1, l_46 hL (by omega) (y % 6) 0 (by omega) τ s b p hτ⟩
end
