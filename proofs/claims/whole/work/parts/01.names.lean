-- ===== PART A: goes FIRST, ahead of the names: the tables' words, and 'selects' of the private methods out of them =====
/-- a private method of a class that the tables say can be made, by its rows of tables_1 -/
def lw_okq (q : MethodName × Nat) : Prop := (q.1.cls ≠ "java/lang/invoke/MethodHandle" ∧ q.1.cls ≠ "java/lang/invoke/VarHandle") ∧ Cond.instantiable q.1.cls q.2 ∈ tables_1 ∧ Cond.privateMethod q.1 ∈ tables_1 ∧ Cond.instanceMethod q.1 ∈ tables_1
theorem lw_p0 : lw_okq (⟨"TwoOnACable$Page", "isWireLetter", "(I)Z"⟩, 2) := ⟨⟨by decide +kernel, by decide +kernel⟩, List.mem_of_getElem? (i := 24) (by decide +kernel), List.mem_of_getElem? (i := 236) (by decide +kernel), List.mem_of_getElem? (i := 237) (by decide +kernel)⟩
theorem lw_p1 : lw_okq (⟨"TwoOnACable$Page", "isBetween", "(ICC)Z"⟩, 2) := ⟨⟨by decide +kernel, by decide +kernel⟩, List.mem_of_getElem? (i := 24) (by decide +kernel), List.mem_of_getElem? (i := 240) (by decide +kernel), List.mem_of_getElem? (i := 241) (by decide +kernel)⟩
theorem lw_p2 : lw_okq (⟨"TwoOnACable$Evening", "setUp", "(LTwoOnACable$Cable;LTwoOnACable$Load;)V"⟩, 7) := ⟨⟨by decide +kernel, by decide +kernel⟩, List.mem_of_getElem? (i := 120) (by decide +kernel), List.mem_of_getElem? (i := 520) (by decide +kernel), List.mem_of_getElem? (i := 521) (by decide +kernel)⟩
theorem lw_p3 : lw_okq (⟨"TwoOnACable$Evening", "gapWith", "(ILTwoOnACable$Cable;)I"⟩, 7) := ⟨⟨by decide +kernel, by decide +kernel⟩, List.mem_of_getElem? (i := 120) (by decide +kernel), List.mem_of_getElem? (i := 529) (by decide +kernel), List.mem_of_getElem? (i := 530) (by decide +kernel)⟩
theorem lw_p4 : lw_okq (⟨"TwoOnACable$Search", "begin", "(I)V"⟩, 4) := ⟨⟨by decide +kernel, by decide +kernel⟩, List.mem_of_getElem? (i := 150) (by decide +kernel), List.mem_of_getElem? (i := 548) (by decide +kernel), List.mem_of_getElem? (i := 549) (by decide +kernel)⟩
theorem lw_p5 : lw_okq (⟨"TwoOnACable$Search", "step", "(Z)V"⟩, 4) := ⟨⟨by decide +kernel, by decide +kernel⟩, List.mem_of_getElem? (i := 150) (by decide +kernel), List.mem_of_getElem? (i := 553) (by decide +kernel), List.mem_of_getElem? (i := 554) (by decide +kernel)⟩
theorem lw_p6 : lw_okq (⟨"TwoOnACable$Search", "stepFrom", "(IZI)V"⟩, 4) := ⟨⟨by decide +kernel, by decide +kernel⟩, List.mem_of_getElem? (i := 150) (by decide +kernel), List.mem_of_getElem? (i := 557) (by decide +kernel), List.mem_of_getElem? (i := 558) (by decide +kernel)⟩
theorem lw_p7 : lw_okq (⟨"TwoOnACable$Search", "dropBroken", "(LTwoOnACable$Cable;II)V"⟩, 4) := ⟨⟨by decide +kernel, by decide +kernel⟩, List.mem_of_getElem? (i := 150) (by decide +kernel), List.mem_of_getElem? (i := 566) (by decide +kernel), List.mem_of_getElem? (i := 567) (by decide +kernel)⟩
theorem lw_p8 : lw_okq (⟨"TwoOnACable$Search", "leastWay", "(LTwoOnACable$Cable;III)I"⟩, 4) := ⟨⟨by decide +kernel, by decide +kernel⟩, List.mem_of_getElem? (i := 150) (by decide +kernel), List.mem_of_getElem? (i := 572) (by decide +kernel), List.mem_of_getElem? (i := 573) (by decide +kernel)⟩
theorem lw_p9 : lw_okq (⟨"TwoOnACable", "tryHours", "(II)I"⟩, 10) := ⟨⟨by decide +kernel, by decide +kernel⟩, List.mem_of_getElem? (i := 16) (by decide +kernel), List.mem_of_getElem? (i := 640) (by decide +kernel), List.mem_of_getElem? (i := 641) (by decide +kernel)⟩
theorem lw_p10 : lw_okq (⟨"TwoOnACable", "withCabins", "(J)J"⟩, 10) := ⟨⟨by decide +kernel, by decide +kernel⟩, List.mem_of_getElem? (i := 16) (by decide +kernel), List.mem_of_getElem? (i := 682) (by decide +kernel), List.mem_of_getElem? (i := 683) (by decide +kernel)⟩
theorem lw_p11 : lw_okq (⟨"TwoOnACable", "withThings", "(J)J"⟩, 10) := ⟨⟨by decide +kernel, by decide +kernel⟩, List.mem_of_getElem? (i := 16) (by decide +kernel), List.mem_of_getElem? (i := 691) (by decide +kernel), List.mem_of_getElem? (i := 692) (by decide +kernel)⟩
theorem lw_p12 : lw_okq (⟨"TwoOnACable", "withOutlook", "(J)J"⟩, 10) := ⟨⟨by decide +kernel, by decide +kernel⟩, List.mem_of_getElem? (i := 16) (by decide +kernel), List.mem_of_getElem? (i := 696) (by decide +kernel), List.mem_of_getElem? (i := 697) (by decide +kernel)⟩
theorem lw_p13 : lw_okq (⟨"TwoOnACableModel", "readWire", "()V"⟩, 40) := ⟨⟨by decide +kernel, by decide +kernel⟩, List.mem_of_getElem? (i := 706) (by decide +kernel), List.mem_of_getElem? (i := 847) (by decide +kernel), List.mem_of_getElem? (i := 848) (by decide +kernel)⟩
theorem lw_p14 : lw_okq (⟨"TwoOnACableModel", "takes", "(II)Z"⟩, 40) := ⟨⟨by decide +kernel, by decide +kernel⟩, List.mem_of_getElem? (i := 706) (by decide +kernel), List.mem_of_getElem? (i := 851) (by decide +kernel), List.mem_of_getElem? (i := 852) (by decide +kernel)⟩
theorem lw_p15 : lw_okq (⟨"TwoOnACableModel", "cabinNow", "(II)I"⟩, 40) := ⟨⟨by decide +kernel, by decide +kernel⟩, List.mem_of_getElem? (i := 706) (by decide +kernel), List.mem_of_getElem? (i := 866) (by decide +kernel), List.mem_of_getElem? (i := 867) (by decide +kernel)⟩
def lw_privs_1 : List (MethodName × Nat) := [(⟨"TwoOnACable$Page", "isWireLetter", "(I)Z"⟩, 2), (⟨"TwoOnACable$Page", "isBetween", "(ICC)Z"⟩, 2), (⟨"TwoOnACable$Evening", "setUp", "(LTwoOnACable$Cable;LTwoOnACable$Load;)V"⟩, 7), (⟨"TwoOnACable$Evening", "gapWith", "(ILTwoOnACable$Cable;)I"⟩, 7), (⟨"TwoOnACable$Search", "begin", "(I)V"⟩, 4), (⟨"TwoOnACable$Search", "step", "(Z)V"⟩, 4), (⟨"TwoOnACable$Search", "stepFrom", "(IZI)V"⟩, 4), (⟨"TwoOnACable$Search", "dropBroken", "(LTwoOnACable$Cable;II)V"⟩, 4), (⟨"TwoOnACable$Search", "leastWay", "(LTwoOnACable$Cable;III)I"⟩, 4), (⟨"TwoOnACable", "tryHours", "(II)I"⟩, 10), (⟨"TwoOnACable", "withCabins", "(J)J"⟩, 10), (⟨"TwoOnACable", "withThings", "(J)J"⟩, 10), (⟨"TwoOnACable", "withOutlook", "(J)J"⟩, 10), (⟨"TwoOnACableModel", "readWire", "()V"⟩, 40), (⟨"TwoOnACableModel", "takes", "(II)Z"⟩, 40), (⟨"TwoOnACableModel", "cabinNow", "(II)I"⟩, 40)]
theorem lw_r1 : ∀ q ∈ lw_privs_1, lw_okq q := List.forall_mem_cons.mpr ⟨lw_p0, List.forall_mem_cons.mpr ⟨lw_p1, List.forall_mem_cons.mpr ⟨lw_p2, List.forall_mem_cons.mpr ⟨lw_p3, List.forall_mem_cons.mpr ⟨lw_p4, List.forall_mem_cons.mpr ⟨lw_p5, List.forall_mem_cons.mpr ⟨lw_p6, List.forall_mem_cons.mpr ⟨lw_p7, List.forall_mem_cons.mpr ⟨lw_p8, List.forall_mem_cons.mpr ⟨lw_p9, List.forall_mem_cons.mpr ⟨lw_p10, List.forall_mem_cons.mpr ⟨lw_p11, List.forall_mem_cons.mpr ⟨lw_p12, List.forall_mem_cons.mpr ⟨lw_p13, List.forall_mem_cons.mpr ⟨lw_p14, List.forall_mem_cons.mpr ⟨lw_p15, fun _ h => absurd h List.not_mem_nil⟩⟩⟩⟩⟩⟩⟩⟩⟩⟩⟩⟩⟩⟩⟩⟩
theorem lw_p16 : lw_okq (⟨"TwoOnACableModel", "cabinWeighs", "(III)I"⟩, 40) := ⟨⟨by decide +kernel, by decide +kernel⟩, List.mem_of_getElem? (i := 706) (by decide +kernel), List.mem_of_getElem? (i := 870) (by decide +kernel), List.mem_of_getElem? (i := 871) (by decide +kernel)⟩
theorem lw_p17 : lw_okq (⟨"TwoOnACableModel", "weighs", "(II)I"⟩, 40) := ⟨⟨by decide +kernel, by decide +kernel⟩, List.mem_of_getElem? (i := 706) (by decide +kernel), List.mem_of_getElem? (i := 877) (by decide +kernel), List.mem_of_getElem? (i := 878) (by decide +kernel)⟩
theorem lw_p18 : lw_okq (⟨"TwoOnACableModel", "armBy", "(IIII)I"⟩, 40) := ⟨⟨by decide +kernel, by decide +kernel⟩, List.mem_of_getElem? (i := 706) (by decide +kernel), List.mem_of_getElem? (i := 881) (by decide +kernel), List.mem_of_getElem? (i := 882) (by decide +kernel)⟩
theorem lw_p19 : lw_okq (⟨"TwoOnACableModel", "floorBy", "(IIII)I"⟩, 40) := ⟨⟨by decide +kernel, by decide +kernel⟩, List.mem_of_getElem? (i := 706) (by decide +kernel), List.mem_of_getElem? (i := 885) (by decide +kernel), List.mem_of_getElem? (i := 886) (by decide +kernel)⟩
theorem lw_p20 : lw_okq (⟨"TwoOnACableModel", "turnsAt", "(I)I"⟩, 40) := ⟨⟨by decide +kernel, by decide +kernel⟩, List.mem_of_getElem? (i := 706) (by decide +kernel), List.mem_of_getElem? (i := 889) (by decide +kernel), List.mem_of_getElem? (i := 890) (by decide +kernel)⟩
theorem lw_p21 : lw_okq (⟨"TwoOnACableModel", "inCabin", "(I)I"⟩, 40) := ⟨⟨by decide +kernel, by decide +kernel⟩, List.mem_of_getElem? (i := 706) (by decide +kernel), List.mem_of_getElem? (i := 893) (by decide +kernel), List.mem_of_getElem? (i := 894) (by decide +kernel)⟩
theorem lw_p22 : lw_okq (⟨"TwoOnACableModel", "isThing", "(I)Z"⟩, 40) := ⟨⟨by decide +kernel, by decide +kernel⟩, List.mem_of_getElem? (i := 706) (by decide +kernel), List.mem_of_getElem? (i := 905) (by decide +kernel), List.mem_of_getElem? (i := 906) (by decide +kernel)⟩
theorem lw_p23 : lw_okq (⟨"TwoOnACableModel", "thingNow", "(II)I"⟩, 40) := ⟨⟨by decide +kernel, by decide +kernel⟩, List.mem_of_getElem? (i := 706) (by decide +kernel), List.mem_of_getElem? (i := 909) (by decide +kernel), List.mem_of_getElem? (i := 910) (by decide +kernel)⟩
theorem lw_p24 : lw_okq (⟨"TwoOnACableModel", "mayCarry", "(I)Z"⟩, 40) := ⟨⟨by decide +kernel, by decide +kernel⟩, List.mem_of_getElem? (i := 706) (by decide +kernel), List.mem_of_getElem? (i := 921) (by decide +kernel), List.mem_of_getElem? (i := 922) (by decide +kernel)⟩
theorem lw_p25 : lw_okq (⟨"TwoOnACableModel", "goHour", "(I)Z"⟩, 40) := ⟨⟨by decide +kernel, by decide +kernel⟩, List.mem_of_getElem? (i := 706) (by decide +kernel), List.mem_of_getElem? (i := 932) (by decide +kernel), List.mem_of_getElem? (i := 933) (by decide +kernel)⟩
theorem lw_p26 : lw_okq (⟨"TwoOnACableModel", "strainAt", "(II)I"⟩, 40) := ⟨⟨by decide +kernel, by decide +kernel⟩, List.mem_of_getElem? (i := 706) (by decide +kernel), List.mem_of_getElem? (i := 936) (by decide +kernel), List.mem_of_getElem? (i := 937) (by decide +kernel)⟩
theorem lw_p27 : lw_okq (⟨"TwoOnACableModel", "evenNow", "(I)I"⟩, 40) := ⟨⟨by decide +kernel, by decide +kernel⟩, List.mem_of_getElem? (i := 706) (by decide +kernel), List.mem_of_getElem? (i := 944) (by decide +kernel), List.mem_of_getElem? (i := 945) (by decide +kernel)⟩
theorem lw_p28 : lw_okq (⟨"TwoOnACableModel", "layEven", "()V"⟩, 40) := ⟨⟨by decide +kernel, by decide +kernel⟩, List.mem_of_getElem? (i := 706) (by decide +kernel), List.mem_of_getElem? (i := 948) (by decide +kernel), List.mem_of_getElem? (i := 949) (by decide +kernel)⟩
theorem lw_p29 : lw_okq (⟨"TwoOnACableModel", "soonestNow", "(II)I"⟩, 40) := ⟨⟨by decide +kernel, by decide +kernel⟩, List.mem_of_getElem? (i := 706) (by decide +kernel), List.mem_of_getElem? (i := 960) (by decide +kernel), List.mem_of_getElem? (i := 961) (by decide +kernel)⟩
theorem lw_p30 : lw_okq (⟨"TwoOnACableModel", "firstBy", "(II)I"⟩, 40) := ⟨⟨by decide +kernel, by decide +kernel⟩, List.mem_of_getElem? (i := 706) (by decide +kernel), List.mem_of_getElem? (i := 964) (by decide +kernel), List.mem_of_getElem? (i := 965) (by decide +kernel)⟩
theorem lw_p31 : lw_okq (⟨"TwoOnACableModel", "goLengths", "(I)V"⟩, 40) := ⟨⟨by decide +kernel, by decide +kernel⟩, List.mem_of_getElem? (i := 706) (by decide +kernel), List.mem_of_getElem? (i := 968) (by decide +kernel), List.mem_of_getElem? (i := 969) (by decide +kernel)⟩
def lw_privs_2 : List (MethodName × Nat) := [(⟨"TwoOnACableModel", "cabinWeighs", "(III)I"⟩, 40), (⟨"TwoOnACableModel", "weighs", "(II)I"⟩, 40), (⟨"TwoOnACableModel", "armBy", "(IIII)I"⟩, 40), (⟨"TwoOnACableModel", "floorBy", "(IIII)I"⟩, 40), (⟨"TwoOnACableModel", "turnsAt", "(I)I"⟩, 40), (⟨"TwoOnACableModel", "inCabin", "(I)I"⟩, 40), (⟨"TwoOnACableModel", "isThing", "(I)Z"⟩, 40), (⟨"TwoOnACableModel", "thingNow", "(II)I"⟩, 40), (⟨"TwoOnACableModel", "mayCarry", "(I)Z"⟩, 40), (⟨"TwoOnACableModel", "goHour", "(I)Z"⟩, 40), (⟨"TwoOnACableModel", "strainAt", "(II)I"⟩, 40), (⟨"TwoOnACableModel", "evenNow", "(I)I"⟩, 40), (⟨"TwoOnACableModel", "layEven", "()V"⟩, 40), (⟨"TwoOnACableModel", "soonestNow", "(II)I"⟩, 40), (⟨"TwoOnACableModel", "firstBy", "(II)I"⟩, 40), (⟨"TwoOnACableModel", "goLengths", "(I)V"⟩, 40)]
theorem lw_r2 : ∀ q ∈ lw_privs_2, lw_okq q := List.forall_mem_cons.mpr ⟨lw_p16, List.forall_mem_cons.mpr ⟨lw_p17, List.forall_mem_cons.mpr ⟨lw_p18, List.forall_mem_cons.mpr ⟨lw_p19, List.forall_mem_cons.mpr ⟨lw_p20, List.forall_mem_cons.mpr ⟨lw_p21, List.forall_mem_cons.mpr ⟨lw_p22, List.forall_mem_cons.mpr ⟨lw_p23, List.forall_mem_cons.mpr ⟨lw_p24, List.forall_mem_cons.mpr ⟨lw_p25, List.forall_mem_cons.mpr ⟨lw_p26, List.forall_mem_cons.mpr ⟨lw_p27, List.forall_mem_cons.mpr ⟨lw_p28, List.forall_mem_cons.mpr ⟨lw_p29, List.forall_mem_cons.mpr ⟨lw_p30, List.forall_mem_cons.mpr ⟨lw_p31, fun _ h => absurd h List.not_mem_nil⟩⟩⟩⟩⟩⟩⟩⟩⟩⟩⟩⟩⟩⟩⟩⟩
theorem lw_p32 : lw_okq (⟨"TwoOnACableModel", "caughtNow", "(I)I"⟩, 40) := ⟨⟨by decide +kernel, by decide +kernel⟩, List.mem_of_getElem? (i := 706) (by decide +kernel), List.mem_of_getElem? (i := 979) (by decide +kernel), List.mem_of_getElem? (i := 980) (by decide +kernel)⟩
theorem lw_p33 : lw_okq (⟨"TwoOnACableModel", "fitsNow", "(I)I"⟩, 40) := ⟨⟨by decide +kernel, by decide +kernel⟩, List.mem_of_getElem? (i := 706) (by decide +kernel), List.mem_of_getElem? (i := 998) (by decide +kernel), List.mem_of_getElem? (i := 999) (by decide +kernel)⟩
theorem lw_p34 : lw_okq (⟨"TwoOnACableModel", "lastsNow", "(II)J"⟩, 40) := ⟨⟨by decide +kernel, by decide +kernel⟩, List.mem_of_getElem? (i := 706) (by decide +kernel), List.mem_of_getElem? (i := 1007) (by decide +kernel), List.mem_of_getElem? (i := 1008) (by decide +kernel)⟩
theorem lw_p35 : lw_okq (⟨"TwoOnACableModel", "breaksBy", "()I"⟩, 40) := ⟨⟨by decide +kernel, by decide +kernel⟩, List.mem_of_getElem? (i := 706) (by decide +kernel), List.mem_of_getElem? (i := 1011) (by decide +kernel), List.mem_of_getElem? (i := 1012) (by decide +kernel)⟩
theorem lw_p36 : lw_okq (⟨"TwoOnACableModel", "whirlsNow", "(III)I"⟩, 40) := ⟨⟨by decide +kernel, by decide +kernel⟩, List.mem_of_getElem? (i := 706) (by decide +kernel), List.mem_of_getElem? (i := 1024) (by decide +kernel), List.mem_of_getElem? (i := 1025) (by decide +kernel)⟩
theorem lw_p37 : lw_okq (⟨"TwoOnACableModel", "draw", "(I)I"⟩, 40) := ⟨⟨by decide +kernel, by decide +kernel⟩, List.mem_of_getElem? (i := 706) (by decide +kernel), List.mem_of_getElem? (i := 1028) (by decide +kernel), List.mem_of_getElem? (i := 1029) (by decide +kernel)⟩
theorem lw_p38 : lw_okq (⟨"TwoOnACableModel", "howMany", "(I)I"⟩, 40) := ⟨⟨by decide +kernel, by decide +kernel⟩, List.mem_of_getElem? (i := 706) (by decide +kernel), List.mem_of_getElem? (i := 1048) (by decide +kernel), List.mem_of_getElem? (i := 1049) (by decide +kernel)⟩
theorem lw_p39 : lw_okq (⟨"TwoOnACableModel", "mix", "(J)V"⟩, 40) := ⟨⟨by decide +kernel, by decide +kernel⟩, List.mem_of_getElem? (i := 706) (by decide +kernel), List.mem_of_getElem? (i := 1060) (by decide +kernel), List.mem_of_getElem? (i := 1061) (by decide +kernel)⟩
def lw_privs_3 : List (MethodName × Nat) := [(⟨"TwoOnACableModel", "caughtNow", "(I)I"⟩, 40), (⟨"TwoOnACableModel", "fitsNow", "(I)I"⟩, 40), (⟨"TwoOnACableModel", "lastsNow", "(II)J"⟩, 40), (⟨"TwoOnACableModel", "breaksBy", "()I"⟩, 40), (⟨"TwoOnACableModel", "whirlsNow", "(III)I"⟩, 40), (⟨"TwoOnACableModel", "draw", "(I)I"⟩, 40), (⟨"TwoOnACableModel", "howMany", "(I)I"⟩, 40), (⟨"TwoOnACableModel", "mix", "(J)V"⟩, 40)]
theorem lw_r3 : ∀ q ∈ lw_privs_3, lw_okq q := List.forall_mem_cons.mpr ⟨lw_p32, List.forall_mem_cons.mpr ⟨lw_p33, List.forall_mem_cons.mpr ⟨lw_p34, List.forall_mem_cons.mpr ⟨lw_p35, List.forall_mem_cons.mpr ⟨lw_p36, List.forall_mem_cons.mpr ⟨lw_p37, List.forall_mem_cons.mpr ⟨lw_p38, List.forall_mem_cons.mpr ⟨lw_p39, fun _ h => absurd h List.not_mem_nil⟩⟩⟩⟩⟩⟩⟩⟩
def lw_privs : List (MethodName × Nat) := lw_privs_1 ++ (lw_privs_2 ++ (lw_privs_3))
def lw_tbl : List Cond := k2_sels lw_privs ++ tables_1
theorem lw_privs_ok : ∀ q ∈ lw_privs, lw_okq q := by
  show ∀ q ∈ lw_privs_1 ++ (lw_privs_2 ++ (lw_privs_3)), lw_okq q
  exact List.forall_mem_append.mpr ⟨lw_r1, List.forall_mem_append.mpr ⟨lw_r2, lw_r3⟩⟩
def RX0 : String := "TwoOnACable$Cable"
def TX0 : u_T := fun k => match k with
  | 0 => ("TwoOnACable$Cable", "length", "I", false)
  | 1 => ("TwoOnACable$Cable", "spin", "I", false)
  | 2 => ("TwoOnACable$Cable", "bears", "I", false)
  | 3 => ("TwoOnACable$Cable", "place", "I", false)
  | 4 => ("TwoOnACable$Cable", "hours", "I", false)
  | 5 => ("TwoOnACable$Cable", "old", "Z", false)
  | _ => ("TwoOnACable$Cable", "broken", "Z", false)
def tyX0 : Nat → FieldType := fun k => match k with
  | 0 => .int
  | 1 => .int
  | 2 => .int
  | 3 => .int
  | 4 => .int
  | 5 => .boolean
  | _ => .boolean
abbrev wsX00 : List Cond := u_ws RX0 TX0 7
theorem nmX0 : ∀ a, a < 7 → ∀ b, b < 7 → a ≠ b → (TX0 a).2.1 ≠ (TX0 b).2.1 := by decide +kernel
theorem tyX0_ok : ∀ k, k < 7 → parseFieldDescriptor (TX0 k).2.2.1 = some (tyX0 k) := by decide +kernel
abbrev cX0_init : ByteArray := prog_2_method_1_code
def yX0_init : MethodName := ⟨RX0, "<init>", "()V"⟩
abbrev cX0_hang : ByteArray := prog_2_method_2_code
def yX0_hang : MethodName := ⟨RX0, "hang", "(LTwoOnACable$Page;)V"⟩
abbrev cX0_becomeLike : ByteArray := prog_2_method_3_code
def yX0_becomeLike : MethodName := ⟨RX0, "becomeLike", "(LTwoOnACable$Cable;)V"⟩
abbrev cX0_isThere : ByteArray := prog_2_method_4_code
def yX0_isThere : MethodName := ⟨RX0, "isThere", "()Z"⟩
abbrev cX0_isWhole : ByteArray := prog_2_method_5_code
def yX0_isWhole : MethodName := ⟨RX0, "isWhole", "()Z"⟩
abbrev cX0_turnsAt : ByteArray := prog_2_method_6_code
def yX0_turnsAt : MethodName := ⟨RX0, "turnsAt", "(I)I"⟩
abbrev cX0_turnsNow : ByteArray := prog_2_method_7_code
def yX0_turnsNow : MethodName := ⟨RX0, "turnsNow", "()I"⟩
abbrev cX0_armAt : ByteArray := prog_2_method_8_code
def yX0_armAt : MethodName := ⟨RX0, "armAt", "(IIII)I"⟩
abbrev cX0_floorAt : ByteArray := prog_2_method_9_code
def yX0_floorAt : MethodName := ⟨RX0, "floorAt", "(IIII)I"⟩
abbrev cX0_strainBy : ByteArray := prog_2_method_10_code
def yX0_strainBy : MethodName := ⟨RX0, "strainBy", "(II)I"⟩
abbrev cX0_armNow : ByteArray := prog_2_method_11_code
def yX0_armNow : MethodName := ⟨RX0, "armNow", "(ILTwoOnACable$Load;)I"⟩
abbrev cX0_floorNow : ByteArray := prog_2_method_12_code
def yX0_floorNow : MethodName := ⟨RX0, "floorNow", "(ILTwoOnACable$Load;)I"⟩
abbrev cX0_strainNow : ByteArray := prog_2_method_13_code
def yX0_strainNow : MethodName := ⟨RX0, "strainNow", "(LTwoOnACable$Load;)I"⟩
abbrev cX0_placeAfter : ByteArray := prog_2_method_14_code
def yX0_placeAfter : MethodName := ⟨RX0, "placeAfter", "(I)I"⟩
abbrev cX0_goHour : ByteArray := prog_2_method_15_code
def yX0_goHour : MethodName := ⟨RX0, "goHour", "(ILTwoOnACable$Load;)V"⟩
abbrev cX0_breakingHundredths : ByteArray := prog_2_method_16_code
def yX0_breakingHundredths : MethodName := ⟨RX0, "breakingHundredths", "(I)I"⟩
def RX1 : String := "TwoOnACable$Cook"
def TX1 : u_T := fun k => match k with
  | 0 => ("TwoOnACable$Thing", "weight", "I", true)
  | 1 => ("TwoOnACable$Thing", "came", "I", true)
  | _ => ("TwoOnACable$Thing", "place", "I", false)
def tyX1 : Nat → FieldType := fun k => match k with
  | 0 => .int
  | 1 => .int
  | _ => .int
abbrev wsX10 : List Cond := u_ws RX1 TX1 3
theorem nmX1 : ∀ a, a < 3 → ∀ b, b < 3 → a ≠ b → (TX1 a).2.1 ≠ (TX1 b).2.1 := by decide +kernel
theorem tyX1_ok : ∀ k, k < 3 → parseFieldDescriptor (TX1 k).2.2.1 = some (tyX1 k) := by decide +kernel
abbrev cX1_init : ByteArray := prog_3_method_1_code
def yX1_init : MethodName := ⟨RX1, "<init>", "(III)V"⟩
abbrev cX1_kind : ByteArray := prog_3_method_2_code
def yX1_kind : MethodName := ⟨RX1, "kind", "()I"⟩
abbrev cX1_weighs : ByteArray := prog_3_method_3_code
def yX1_weighs : MethodName := ⟨RX1, "weighs", "(I)I"⟩
def RX2 : String := "TwoOnACable$Evening"
def TX2 : u_T := fun k => match k with
  | 0 => ("TwoOnACable$Evening", "weighs", "[I", true)
  | 1 => ("TwoOnACable$Evening", "gains", "[I", true)
  | 2 => ("TwoOnACable$Evening", "apart", "I", false)
  | 3 => ("TwoOnACable$Evening", "bits", "I", false)
  | 4 => ("TwoOnACable$Evening", "staying", "I", false)
  | 5 => ("TwoOnACable$Evening", "first", "I", false)
  | _ => ("TwoOnACable$Evening", "both", "I", false)
def tyX2 : Nat → FieldType := fun k => match k with
  | 0 => .array .int
  | 1 => .array .int
  | 2 => .int
  | 3 => .int
  | 4 => .int
  | 5 => .int
  | _ => .int
abbrev wsX20 : List Cond := u_ws RX2 TX2 7
theorem nmX2 : ∀ a, a < 7 → ∀ b, b < 7 → a ≠ b → (TX2 a).2.1 ≠ (TX2 b).2.1 := by decide +kernel
theorem tyX2_ok : ∀ k, k < 7 → parseFieldDescriptor (TX2 k).2.2.1 = some (tyX2 k) := by decide +kernel
abbrev cX2_init : ByteArray := prog_4_method_1_code
def yX2_init : MethodName := ⟨RX2, "<init>", "()V"⟩
abbrev cX2_find : ByteArray := prog_4_method_2_code
def yX2_find : MethodName := ⟨RX2, "find", "(LTwoOnACable$Cable;LTwoOnACable$Load;)V"⟩
abbrev cX2_setUp : ByteArray := prog_4_method_3_code
def yX2_setUp : MethodName := ⟨RX2, "setUp", "(LTwoOnACable$Cable;LTwoOnACable$Load;)V"⟩
abbrev cX2_gapWith : ByteArray := prog_4_method_4_code
def yX2_gapWith : MethodName := ⟨RX2, "gapWith", "(ILTwoOnACable$Cable;)I"⟩
abbrev cX2_summed : ByteArray := prog_4_method_5_code
def yX2_summed : MethodName := ⟨RX2, "summed", "([II)I"⟩
def RX3 : String := "TwoOnACable$Guest"
def TX3 : u_T := fun k => match k with
  | 0 => ("TwoOnACable$Thing", "weight", "I", true)
  | 1 => ("TwoOnACable$Thing", "came", "I", true)
  | _ => ("TwoOnACable$Thing", "place", "I", false)
def tyX3 : Nat → FieldType := fun k => match k with
  | 0 => .int
  | 1 => .int
  | _ => .int
abbrev wsX30 : List Cond := u_ws RX3 TX3 3
theorem nmX3 : ∀ a, a < 3 → ∀ b, b < 3 → a ≠ b → (TX3 a).2.1 ≠ (TX3 b).2.1 := by decide +kernel
theorem tyX3_ok : ∀ k, k < 3 → parseFieldDescriptor (TX3 k).2.2.1 = some (tyX3 k) := by decide +kernel
abbrev cX3_init : ByteArray := prog_5_method_1_code
def yX3_init : MethodName := ⟨RX3, "<init>", "(III)V"⟩
abbrev cX3_kind : ByteArray := prog_5_method_2_code
def yX3_kind : MethodName := ⟨RX3, "kind", "()I"⟩
abbrev cX3_goesAcross : ByteArray := prog_5_method_3_code
def yX3_goesAcross : MethodName := ⟨RX3, "goesAcross", "(I)Z"⟩
def RX4 : String := "TwoOnACable$Hens"
def TX4 : u_T := fun k => match k with
  | 0 => ("TwoOnACable$Thing", "weight", "I", true)
  | 1 => ("TwoOnACable$Thing", "came", "I", true)
  | _ => ("TwoOnACable$Thing", "place", "I", false)
def tyX4 : Nat → FieldType := fun k => match k with
  | 0 => .int
  | 1 => .int
  | _ => .int
abbrev wsX40 : List Cond := u_ws RX4 TX4 3
theorem nmX4 : ∀ a, a < 3 → ∀ b, b < 3 → a ≠ b → (TX4 a).2.1 ≠ (TX4 b).2.1 := by decide +kernel
theorem tyX4_ok : ∀ k, k < 3 → parseFieldDescriptor (TX4 k).2.2.1 = some (tyX4 k) := by decide +kernel
abbrev cX4_init : ByteArray := prog_6_method_1_code
def yX4_init : MethodName := ⟨RX4, "<init>", "(III)V"⟩
abbrev cX4_kind : ByteArray := prog_6_method_2_code
def yX4_kind : MethodName := ⟨RX4, "kind", "()I"⟩
abbrev cX4_weighs : ByteArray := prog_6_method_3_code
def yX4_weighs : MethodName := ⟨RX4, "weighs", "(I)I"⟩
def RX5 : String := "TwoOnACable$Live"
def TX5 : u_T := fun k => match k with
  | 0 => ("TwoOnACable$Thing", "weight", "I", true)
  | 1 => ("TwoOnACable$Thing", "came", "I", true)
  | _ => ("TwoOnACable$Thing", "place", "I", false)
def tyX5 : Nat → FieldType := fun k => match k with
  | 0 => .int
  | 1 => .int
  | _ => .int
abbrev wsX50 : List Cond := u_ws RX5 TX5 3
theorem nmX5 : ∀ a, a < 3 → ∀ b, b < 3 → a ≠ b → (TX5 a).2.1 ≠ (TX5 b).2.1 := by decide +kernel
theorem tyX5_ok : ∀ k, k < 3 → parseFieldDescriptor (TX5 k).2.2.1 = some (tyX5 k) := by decide +kernel
abbrev cX5_init : ByteArray := prog_7_method_1_code
def yX5_init : MethodName := ⟨RX5, "<init>", "(III)V"⟩
abbrev cX5_kind : ByteArray := prog_7_method_2_code
def yX5_kind : MethodName := ⟨RX5, "kind", "()I"⟩
abbrev cX5_weighs : ByteArray := prog_7_method_3_code
def yX5_weighs : MethodName := ⟨RX5, "weighs", "(I)I"⟩
def RX6 : String := "TwoOnACable$Load"
def TX6 : u_T := fun k => match k with
  | 0 => ("TwoOnACable$Load", "things", "[LTwoOnACable$Thing;", true)
  | 1 => ("TwoOnACable$Load", "keptPlaces", "[I", true)
  | 2 => ("TwoOnACable$Load", "size", "I", false)
  | _ => ("TwoOnACable$Load", "keptSize", "I", false)
def tyX6 : Nat → FieldType := fun k => match k with
  | 0 => .array (.object "TwoOnACable$Thing")
  | 1 => .array .int
  | 2 => .int
  | _ => .int
abbrev wsX60 : List Cond := u_ws RX6 TX6 4
theorem nmX6 : ∀ a, a < 4 → ∀ b, b < 4 → a ≠ b → (TX6 a).2.1 ≠ (TX6 b).2.1 := by decide +kernel
theorem tyX6_ok : ∀ k, k < 4 → parseFieldDescriptor (TX6 k).2.2.1 = some (tyX6 k) := by decide +kernel
abbrev cX6_init : ByteArray := prog_8_method_1_code
def yX6_init : MethodName := ⟨RX6, "<init>", "()V"⟩
abbrev cX6_isFull : ByteArray := prog_8_method_2_code
def yX6_isFull : MethodName := ⟨RX6, "isFull", "()Z"⟩
abbrev cX6_put : ByteArray := prog_8_method_3_code
def yX6_put : MethodName := ⟨RX6, "put", "(LTwoOnACable$Thing;)I"⟩
abbrev cX6_at : ByteArray := prog_8_method_4_code
def yX6_at : MethodName := ⟨RX6, "at", "(I)LTwoOnACable$Thing;"⟩
abbrev cX6_cutTo : ByteArray := prog_8_method_5_code
def yX6_cutTo : MethodName := ⟨RX6, "cutTo", "(I)V"⟩
abbrev cX6_keepPlaces : ByteArray := prog_8_method_6_code
def yX6_keepPlaces : MethodName := ⟨RX6, "keepPlaces", "()V"⟩
abbrev cX6_goBack : ByteArray := prog_8_method_7_code
def yX6_goBack : MethodName := ⟨RX6, "goBack", "()V"⟩
abbrev cX6_weighsIn : ByteArray := prog_8_method_8_code
def yX6_weighsIn : MethodName := ⟨RX6, "weighsIn", "(II)I"⟩
abbrev cX6_sizeIn : ByteArray := prog_8_method_9_code
def yX6_sizeIn : MethodName := ⟨RX6, "sizeIn", "(I)I"⟩
def RX7 : String := "TwoOnACable$Page"
def TX7 : u_T := fun k => match k with
  | 0 => ("TwoOnACable$Page", "row", "[C", true)
  | _ => ("TwoOnACable$Page", "size", "I", false)
def tyX7 : Nat → FieldType := fun k => match k with
  | 0 => .array .char
  | _ => .int
abbrev wsX70 : List Cond := u_ws RX7 TX7 2
theorem nmX7 : ∀ a, a < 2 → ∀ b, b < 2 → a ≠ b → (TX7 a).2.1 ≠ (TX7 b).2.1 := by decide +kernel
theorem tyX7_ok : ∀ k, k < 2 → parseFieldDescriptor (TX7 k).2.2.1 = some (tyX7 k) := by decide +kernel
abbrev cX7_init : ByteArray := prog_9_method_1_code
def yX7_init : MethodName := ⟨RX7, "<init>", "()V"⟩
abbrev cX7_hasRoomFor : ByteArray := prog_9_method_2_code
def yX7_hasRoomFor : MethodName := ⟨RX7, "hasRoomFor", "(I)Z"⟩
abbrev cX7_put : ByteArray := prog_9_method_3_code
def yX7_put : MethodName := ⟨RX7, "put", "(C)V"⟩
abbrev cX7_at : ByteArray := prog_9_method_4_code
def yX7_at : MethodName := ⟨RX7, "at", "(I)I"⟩
abbrev cX7_emptied : ByteArray := prog_9_method_5_code
def yX7_emptied : MethodName := ⟨RX7, "emptied", "()I"⟩
abbrev cX7_firstWrong : ByteArray := prog_9_method_6_code
def yX7_firstWrong : MethodName := ⟨RX7, "firstWrong", "()I"⟩
abbrev cX7_isWire : ByteArray := prog_9_method_7_code
def yX7_isWire : MethodName := ⟨RX7, "isWire", "()Z"⟩
abbrev cX7_digitAt : ByteArray := prog_9_method_8_code
def yX7_digitAt : MethodName := ⟨RX7, "digitAt", "(I)I"⟩
abbrev cX7_isWireLetter : ByteArray := prog_9_method_9_code
def yX7_isWireLetter : MethodName := ⟨RX7, "isWireLetter", "(I)Z"⟩
abbrev cX7_isBetween : ByteArray := prog_9_method_10_code
def yX7_isBetween : MethodName := ⟨RX7, "isBetween", "(ICC)Z"⟩
def RX8 : String := "TwoOnACable$Search"
def TX8 : u_T := fun k => match k with
  | 0 => ("TwoOnACable$Search", "now", "[I", true)
  | 1 => ("TwoOnACable$Search", "next", "[I", true)
  | 2 => ("TwoOnACable$Search", "hours", "I", false)
  | _ => ("TwoOnACable$Search", "first", "I", false)
def tyX8 : Nat → FieldType := fun k => match k with
  | 0 => .array .int
  | 1 => .array .int
  | 2 => .int
  | _ => .int
abbrev wsX80 : List Cond := u_ws RX8 TX8 4
theorem nmX8 : ∀ a, a < 4 → ∀ b, b < 4 → a ≠ b → (TX8 a).2.1 ≠ (TX8 b).2.1 := by decide +kernel
theorem tyX8_ok : ∀ k, k < 4 → parseFieldDescriptor (TX8 k).2.2.1 = some (tyX8 k) := by decide +kernel
abbrev cX8_init : ByteArray := prog_10_method_1_code
def yX8_init : MethodName := ⟨RX8, "<init>", "()V"⟩
abbrev cX8_find : ByteArray := prog_10_method_2_code
def yX8_find : MethodName := ⟨RX8, "find", "(LTwoOnACable$Cable;LTwoOnACable$Load;I)V"⟩
abbrev cX8_begin : ByteArray := prog_10_method_3_code
def yX8_begin : MethodName := ⟨RX8, "begin", "(I)V"⟩
abbrev cX8_step : ByteArray := prog_10_method_4_code
def yX8_step : MethodName := ⟨RX8, "step", "(Z)V"⟩
abbrev cX8_stepFrom : ByteArray := prog_10_method_5_code
def yX8_stepFrom : MethodName := ⟨RX8, "stepFrom", "(IZI)V"⟩
abbrev cX8_dropBroken : ByteArray := prog_10_method_6_code
def yX8_dropBroken : MethodName := ⟨RX8, "dropBroken", "(LTwoOnACable$Cable;II)V"⟩
abbrev cX8_leastWay : ByteArray := prog_10_method_7_code
def yX8_leastWay : MethodName := ⟨RX8, "leastWay", "(LTwoOnACable$Cable;III)I"⟩
def RX9 : String := "TwoOnACable$Thing"
def TX9 : u_T := fun k => match k with
  | 0 => ("TwoOnACable$Thing", "weight", "I", true)
  | 1 => ("TwoOnACable$Thing", "came", "I", true)
  | _ => ("TwoOnACable$Thing", "place", "I", false)
def tyX9 : Nat → FieldType := fun k => match k with
  | 0 => .int
  | 1 => .int
  | _ => .int
abbrev wsX90 : List Cond := u_ws RX9 TX9 3
theorem nmX9 : ∀ a, a < 3 → ∀ b, b < 3 → a ≠ b → (TX9 a).2.1 ≠ (TX9 b).2.1 := by decide +kernel
theorem tyX9_ok : ∀ k, k < 3 → parseFieldDescriptor (TX9 k).2.2.1 = some (tyX9 k) := by decide +kernel
abbrev cX9_init : ByteArray := prog_11_method_1_code
def yX9_init : MethodName := ⟨RX9, "<init>", "(III)V"⟩
abbrev cX9_kind : ByteArray := prog_11_method_2_code
def yX9_kind : MethodName := ⟨RX9, "kind", "()I"⟩
abbrev cX9_weighs : ByteArray := prog_11_method_3_code
def yX9_weighs : MethodName := ⟨RX9, "weighs", "(I)I"⟩
abbrev cX9_goesAcross : ByteArray := prog_11_method_4_code
def yX9_goesAcross : MethodName := ⟨RX9, "goesAcross", "(I)Z"⟩
abbrev cX9_hoursHere : ByteArray := prog_11_method_5_code
def yX9_hoursHere : MethodName := ⟨RX9, "hoursHere", "(I)I"⟩
def RX10 : String := "TwoOnACable$Told"
def TX10 : u_T := fun k => match k with
  | 0 => ("TwoOnACable$Told", "lengths", "[I", true)
  | 1 => ("TwoOnACable$Told", "turns", "[I", true)
  | _ => ("TwoOnACable$Told", "size", "I", false)
def tyX10 : Nat → FieldType := fun k => match k with
  | 0 => .array .int
  | 1 => .array .int
  | _ => .int
abbrev wsX100 : List Cond := u_ws RX10 TX10 3
theorem nmX10 : ∀ a, a < 3 → ∀ b, b < 3 → a ≠ b → (TX10 a).2.1 ≠ (TX10 b).2.1 := by decide +kernel
theorem tyX10_ok : ∀ k, k < 3 → parseFieldDescriptor (TX10 k).2.2.1 = some (tyX10 k) := by decide +kernel
abbrev cX10_init : ByteArray := prog_12_method_1_code
def yX10_init : MethodName := ⟨RX10, "<init>", "()V"⟩
abbrev cX10_isFull : ByteArray := prog_12_method_2_code
def yX10_isFull : MethodName := ⟨RX10, "isFull", "()Z"⟩
abbrev cX10_put : ByteArray := prog_12_method_3_code
def yX10_put : MethodName := ⟨RX10, "put", "(II)I"⟩
abbrev cX10_emptied : ByteArray := prog_12_method_4_code
def yX10_emptied : MethodName := ⟨RX10, "emptied", "()I"⟩
abbrev cX10_leastSpin : ByteArray := prog_12_method_5_code
def yX10_leastSpin : MethodName := ⟨RX10, "leastSpin", "()I"⟩
abbrev cX10_greatestSpin : ByteArray := prog_12_method_6_code
def yX10_greatestSpin : MethodName := ⟨RX10, "greatestSpin", "()I"⟩
def RX11 : String := "TwoOnACable"
def TX11 : u_T := fun k => match k with
  | 0 => ("TwoOnACable", "page", "LTwoOnACable$Page;", true)
  | 1 => ("TwoOnACable", "cable", "LTwoOnACable$Cable;", true)
  | 2 => ("TwoOnACable", "load", "LTwoOnACable$Load;", true)
  | 3 => ("TwoOnACable", "told", "LTwoOnACable$Told;", true)
  | 4 => ("TwoOnACable", "evening", "LTwoOnACable$Evening;", true)
  | 5 => ("TwoOnACable", "search", "LTwoOnACable$Search;", true)
  | 6 => ("TwoOnACable", "trial", "LTwoOnACable$Cable;", true)
  | 7 => ("TwoOnACable", "keptCable", "LTwoOnACable$Cable;", true)
  | 8 => ("TwoOnACable", "isKept", "Z", false)
  | _ => ("TwoOnACable", "reads", "I", false)
def tyX11 : Nat → FieldType := fun k => match k with
  | 0 => .object "TwoOnACable$Page"
  | 1 => .object "TwoOnACable$Cable"
  | 2 => .object "TwoOnACable$Load"
  | 3 => .object "TwoOnACable$Told"
  | 4 => .object "TwoOnACable$Evening"
  | 5 => .object "TwoOnACable$Search"
  | 6 => .object "TwoOnACable$Cable"
  | 7 => .object "TwoOnACable$Cable"
  | 8 => .boolean
  | _ => .int
abbrev wsX110 : List Cond := u_ws RX11 TX11 10
theorem nmX11 : ∀ a, a < 10 → ∀ b, b < 10 → a ≠ b → (TX11 a).2.1 ≠ (TX11 b).2.1 := by decide +kernel
theorem tyX11_ok : ∀ k, k < 10 → parseFieldDescriptor (TX11 k).2.2.1 = some (tyX11 k) := by decide +kernel
abbrev cX11_init : ByteArray := prog_1_method_1_code
def yX11_init : MethodName := ⟨RX11, "<init>", "()V"⟩
abbrev cX11_letters : ByteArray := prog_1_method_2_code
def yX11_letters : MethodName := ⟨RX11, "letters", "(J)I"⟩
abbrev cX11_blank : ByteArray := prog_1_method_3_code
def yX11_blank : MethodName := ⟨RX11, "blank", "()I"⟩
abbrev cX11_fault : ByteArray := prog_1_method_4_code
def yX11_fault : MethodName := ⟨RX11, "fault", "()I"⟩
abbrev cX11_wire : ByteArray := prog_1_method_5_code
def yX11_wire : MethodName := ⟨RX11, "wire", "()I"⟩
abbrev cX11_cabin : ByteArray := prog_1_method_6_code
def yX11_cabin : MethodName := ⟨RX11, "cabin", "(II)I"⟩
abbrev cX11_thing : ByteArray := prog_1_method_7_code
def yX11_thing : MethodName := ⟨RX11, "thing", "(III)I"⟩
abbrev cX11_about : ByteArray := prog_1_method_8_code
def yX11_about : MethodName := ⟨RX11, "about", "(II)I"⟩
abbrev cX11_as : ByteArray := prog_1_method_9_code
def yX11_as : MethodName := ⟨RX11, "as", "(II)I"⟩
abbrev cX11_carry : ByteArray := prog_1_method_10_code
def yX11_carry : MethodName := ⟨RX11, "carry", "(I)I"⟩
abbrev cX11_hour : ByteArray := prog_1_method_11_code
def yX11_hour : MethodName := ⟨RX11, "hour", "(I)I"⟩
abbrev cX11_even : ByteArray := prog_1_method_12_code
def yX11_even : MethodName := ⟨RX11, "even", "(I)I"⟩
abbrev cX11_soonest : ByteArray := prog_1_method_13_code
def yX11_soonest : MethodName := ⟨RX11, "soonest", "(II)I"⟩
abbrev cX11_caught : ByteArray := prog_1_method_14_code
def yX11_caught : MethodName := ⟨RX11, "caught", "(I)I"⟩
abbrev cX11_weighed : ByteArray := prog_1_method_15_code
def yX11_weighed : MethodName := ⟨RX11, "weighed", "(II)I"⟩
abbrev cX11_forget : ByteArray := prog_1_method_16_code
def yX11_forget : MethodName := ⟨RX11, "forget", "()I"⟩
abbrev cX11_fits : ByteArray := prog_1_method_17_code
def yX11_fits : MethodName := ⟨RX11, "fits", "(I)I"⟩
abbrev cX11_lasts : ByteArray := prog_1_method_18_code
def yX11_lasts : MethodName := ⟨RX11, "lasts", "(II)J"⟩
abbrev cX11_whirls : ByteArray := prog_1_method_19_code
def yX11_whirls : MethodName := ⟨RX11, "whirls", "(III)I"⟩
abbrev cX11_image : ByteArray := prog_1_method_20_code
def yX11_image : MethodName := ⟨RX11, "image", "()I"⟩
abbrev cX11_restore : ByteArray := prog_1_method_21_code
def yX11_restore : MethodName := ⟨RX11, "restore", "()I"⟩
abbrev cX11_count : ByteArray := prog_1_method_22_code
def yX11_count : MethodName := ⟨RX11, "count", "(I)I"⟩
abbrev cX11_digest : ByteArray := prog_1_method_23_code
def yX11_digest : MethodName := ⟨RX11, "digest", "()J"⟩
abbrev cX11_withCabins : ByteArray := prog_1_method_24_code
def yX11_withCabins : MethodName := ⟨RX11, "withCabins", "(J)J"⟩
abbrev cX11_withThings : ByteArray := prog_1_method_25_code
def yX11_withThings : MethodName := ⟨RX11, "withThings", "(J)J"⟩
abbrev cX11_withOutlook : ByteArray := prog_1_method_26_code
def yX11_withOutlook : MethodName := ⟨RX11, "withOutlook", "(J)J"⟩
abbrev cX11_tryHours : ByteArray := prog_1_method_27_code
def yX11_tryHours : MethodName := ⟨RX11, "tryHours", "(II)I"⟩
abbrev cX11_nextSeed : ByteArray := prog_1_method_28_code
def yX11_nextSeed : MethodName := ⟨RX11, "nextSeed", "(I)I"⟩
abbrev cX11_mixed : ByteArray := prog_1_method_29_code
def yX11_mixed : MethodName := ⟨RX11, "mixed", "(JJ)J"⟩
abbrev cX11_byteOf : ByteArray := prog_1_method_30_code
def yX11_byteOf : MethodName := ⟨RX11, "byteOf", "(JI)I"⟩
abbrev cX11_lettersIn : ByteArray := prog_1_method_31_code
def yX11_lettersIn : MethodName := ⟨RX11, "lettersIn", "(J)I"⟩
abbrev cX11_isCabin : ByteArray := prog_1_method_32_code
def yX11_isCabin : MethodName := ⟨RX11, "isCabin", "(I)Z"⟩
abbrev cX11_isKind : ByteArray := prog_1_method_33_code
def yX11_isKind : MethodName := ⟨RX11, "isKind", "(I)Z"⟩
abbrev cX11_isLength : ByteArray := prog_1_method_34_code
def yX11_isLength : MethodName := ⟨RX11, "isLength", "(I)Z"⟩
abbrev cX11_apartOnCircle : ByteArray := prog_1_method_35_code
def yX11_apartOnCircle : MethodName := ⟨RX11, "apartOnCircle", "(II)I"⟩
abbrev cX11_windingOf : ByteArray := prog_1_method_36_code
def yX11_windingOf : MethodName := ⟨RX11, "windingOf", "(I)I"⟩
abbrev cX11_reduced : ByteArray := prog_1_method_37_code
def yX11_reduced : MethodName := ⟨RX11, "reduced", "(II)I"⟩
abbrev cX11_power : ByteArray := prog_1_method_38_code
def yX11_power : MethodName := ⟨RX11, "power", "(II)J"⟩
abbrev cX11_newThing : ByteArray := prog_1_method_39_code
def yX11_newThing : MethodName := ⟨RX11, "newThing", "(IIII)LTwoOnACable$Thing;"⟩
abbrev cX11_isOfKind : ByteArray := prog_1_method_40_code
def yX11_isOfKind : MethodName := ⟨RX11, "isOfKind", "(LTwoOnACable$Thing;I)Z"⟩
def RX12 : String := "TwoOnACableModel"
def TX12 : u_T := fun k => match k with
  | 0 => ("TwoOnACableModel", "isWire", "Z", false)
  | 1 => ("TwoOnACableModel", "wires", "I", false)
  | 2 => ("TwoOnACableModel", "length", "I", false)
  | 3 => ("TwoOnACableModel", "spin", "I", false)
  | 4 => ("TwoOnACableModel", "bears", "I", false)
  | 5 => ("TwoOnACableModel", "isOld", "Z", false)
  | 6 => ("TwoOnACableModel", "isBroken", "Z", false)
  | 7 => ("TwoOnACableModel", "place", "I", false)
  | 8 => ("TwoOnACableModel", "hours", "I", false)
  | 9 => ("TwoOnACableModel", "things", "I", false)
  | 10 => ("TwoOnACableModel", "kindOf", "[I", true)
  | 11 => ("TwoOnACableModel", "weightOf", "[I", true)
  | 12 => ("TwoOnACableModel", "cabinOf", "[I", true)
  | 13 => ("TwoOnACableModel", "cameOf", "[I", true)
  | 14 => ("TwoOnACableModel", "told", "I", false)
  | 15 => ("TwoOnACableModel", "toldLength", "[I", true)
  | 16 => ("TwoOnACableModel", "toldTurns", "[I", true)
  | 17 => ("TwoOnACableModel", "pageLength", "I", false)
  | 18 => ("TwoOnACableModel", "page", "[B", true)
  | 19 => ("TwoOnACableModel", "faultAt", "I", false)
  | 20 => ("TwoOnACableModel", "isWhole", "Z", false)
  | 21 => ("TwoOnACableModel", "newLength", "I", false)
  | 22 => ("TwoOnACableModel", "newTurns", "I", false)
  | 23 => ("TwoOnACableModel", "newBears", "I", false)
  | 24 => ("TwoOnACableModel", "newOld", "Z", false)
  | 25 => ("TwoOnACableModel", "evenApart", "I", false)
  | 26 => ("TwoOnACableModel", "evenSet", "I", false)
  | 27 => ("TwoOnACableModel", "firstTo", "[I", true)
  | 28 => ("TwoOnACableModel", "firstThen", "[I", true)
  | 29 => ("TwoOnACableModel", "seedNow", "J", false)
  | 30 => ("TwoOnACableModel", "isKept", "Z", false)
  | 31 => ("TwoOnACableModel", "keptWire", "I", false)
  | 32 => ("TwoOnACableModel", "keptLength", "I", false)
  | 33 => ("TwoOnACableModel", "keptPlace", "I", false)
  | 34 => ("TwoOnACableModel", "keptHours", "I", false)
  | 35 => ("TwoOnACableModel", "keptBroken", "Z", false)
  | 36 => ("TwoOnACableModel", "keptThings", "I", false)
  | 37 => ("TwoOnACableModel", "keptCabin", "[I", true)
  | 38 => ("TwoOnACableModel", "keptCame", "[I", true)
  | _ => ("TwoOnACableModel", "h", "J", false)
def tyX12 : Nat → FieldType := fun k => match k with
  | 0 => .boolean
  | 1 => .int
  | 2 => .int
  | 3 => .int
  | 4 => .int
  | 5 => .boolean
  | 6 => .boolean
  | 7 => .int
  | 8 => .int
  | 9 => .int
  | 10 => .array .int
  | 11 => .array .int
  | 12 => .array .int
  | 13 => .array .int
  | 14 => .int
  | 15 => .array .int
  | 16 => .array .int
  | 17 => .int
  | 18 => .array .byte
  | 19 => .int
  | 20 => .boolean
  | 21 => .int
  | 22 => .int
  | 23 => .int
  | 24 => .boolean
  | 25 => .int
  | 26 => .int
  | 27 => .array .int
  | 28 => .array .int
  | 29 => .long
  | 30 => .boolean
  | 31 => .int
  | 32 => .int
  | 33 => .int
  | 34 => .int
  | 35 => .boolean
  | 36 => .int
  | 37 => .array .int
  | 38 => .array .int
  | _ => .long
abbrev wsX120 : List Cond := u_ws RX12 TX12 40
theorem nmX12 : ∀ a, a < 40 → ∀ b, b < 40 → a ≠ b → (TX12 a).2.1 ≠ (TX12 b).2.1 := by decide +kernel
theorem tyX12_ok : ∀ k, k < 40 → parseFieldDescriptor (TX12 k).2.2.1 = some (tyX12 k) := by decide +kernel
abbrev cX12_init : ByteArray := prog_14_method_1_code
def yX12_init : MethodName := ⟨RX12, "<init>", "()V"⟩
abbrev cX12_within : ByteArray := prog_14_method_3_code
def yX12_within : MethodName := ⟨RX12, "within", "(III)Z"⟩
abbrev cX12_has : ByteArray := prog_14_method_4_code
def yX12_has : MethodName := ⟨RX12, "has", "(II)Z"⟩
abbrev cX12_letters : ByteArray := prog_14_method_5_code
def yX12_letters : MethodName := ⟨RX12, "letters", "(J)I"⟩
abbrev cX12_blank : ByteArray := prog_14_method_6_code
def yX12_blank : MethodName := ⟨RX12, "blank", "()I"⟩
abbrev cX12_takes : ByteArray := prog_14_method_7_code
def yX12_takes : MethodName := ⟨RX12, "takes", "(II)Z"⟩
abbrev cX12_readWire : ByteArray := prog_14_method_8_code
def yX12_readWire : MethodName := ⟨RX12, "readWire", "()V"⟩
abbrev cX12_fault : ByteArray := prog_14_method_9_code
def yX12_fault : MethodName := ⟨RX12, "fault", "()I"⟩
abbrev cX12_wire : ByteArray := prog_14_method_10_code
def yX12_wire : MethodName := ⟨RX12, "wire", "()I"⟩
abbrev cX12_weighs : ByteArray := prog_14_method_11_code
def yX12_weighs : MethodName := ⟨RX12, "weighs", "(II)I"⟩
abbrev cX12_cabinWeighs : ByteArray := prog_14_method_12_code
def yX12_cabinWeighs : MethodName := ⟨RX12, "cabinWeighs", "(III)I"⟩
abbrev cX12_turnsAt : ByteArray := prog_14_method_13_code
def yX12_turnsAt : MethodName := ⟨RX12, "turnsAt", "(I)I"⟩
abbrev cX12_armBy : ByteArray := prog_14_method_14_code
def yX12_armBy : MethodName := ⟨RX12, "armBy", "(IIII)I"⟩
abbrev cX12_floorBy : ByteArray := prog_14_method_15_code
def yX12_floorBy : MethodName := ⟨RX12, "floorBy", "(IIII)I"⟩
abbrev cX12_strainAt : ByteArray := prog_14_method_16_code
def yX12_strainAt : MethodName := ⟨RX12, "strainAt", "(II)I"⟩
abbrev cX12_inCabin : ByteArray := prog_14_method_17_code
def yX12_inCabin : MethodName := ⟨RX12, "inCabin", "(I)I"⟩
abbrev cX12_cabinNow : ByteArray := prog_14_method_18_code
def yX12_cabinNow : MethodName := ⟨RX12, "cabinNow", "(II)I"⟩
abbrev cX12_cabin : ByteArray := prog_14_method_19_code
def yX12_cabin : MethodName := ⟨RX12, "cabin", "(II)I"⟩
abbrev cX12_isThing : ByteArray := prog_14_method_20_code
def yX12_isThing : MethodName := ⟨RX12, "isThing", "(I)Z"⟩
abbrev cX12_thing : ByteArray := prog_14_method_21_code
def yX12_thing : MethodName := ⟨RX12, "thing", "(III)I"⟩
abbrev cX12_thingNow : ByteArray := prog_14_method_22_code
def yX12_thingNow : MethodName := ⟨RX12, "thingNow", "(II)I"⟩
abbrev cX12_about : ByteArray := prog_14_method_23_code
def yX12_about : MethodName := ⟨RX12, "about", "(II)I"⟩
abbrev cX12_as : ByteArray := prog_14_method_24_code
def yX12_as : MethodName := ⟨RX12, "as", "(II)I"⟩
abbrev cX12_mayCarry : ByteArray := prog_14_method_25_code
def yX12_mayCarry : MethodName := ⟨RX12, "mayCarry", "(I)Z"⟩
abbrev cX12_carry : ByteArray := prog_14_method_26_code
def yX12_carry : MethodName := ⟨RX12, "carry", "(I)I"⟩
abbrev cX12_isLength : ByteArray := prog_14_method_27_code
def yX12_isLength : MethodName := ⟨RX12, "isLength", "(I)Z"⟩
abbrev cX12_mayBe : ByteArray := prog_14_method_28_code
def yX12_mayBe : MethodName := ⟨RX12, "mayBe", "(I)Z"⟩
abbrev cX12_goHour : ByteArray := prog_14_method_29_code
def yX12_goHour : MethodName := ⟨RX12, "goHour", "(I)Z"⟩
abbrev cX12_hour : ByteArray := prog_14_method_30_code
def yX12_hour : MethodName := ⟨RX12, "hour", "(I)I"⟩
abbrev cX12_sized : ByteArray := prog_14_method_31_code
def yX12_sized : MethodName := ⟨RX12, "sized", "(I)I"⟩
abbrev cX12_layEven : ByteArray := prog_14_method_32_code
def yX12_layEven : MethodName := ⟨RX12, "layEven", "()V"⟩
abbrev cX12_evenNow : ByteArray := prog_14_method_33_code
def yX12_evenNow : MethodName := ⟨RX12, "evenNow", "(I)I"⟩
abbrev cX12_even : ByteArray := prog_14_method_34_code
def yX12_even : MethodName := ⟨RX12, "even", "(I)I"⟩
abbrev cX12_by : ByteArray := prog_14_method_35_code
def yX12_by : MethodName := ⟨RX12, "by", "(I)I"⟩
abbrev cX12_goLengths : ByteArray := prog_14_method_36_code
def yX12_goLengths : MethodName := ⟨RX12, "goLengths", "(I)V"⟩
abbrev cX12_firstBy : ByteArray := prog_14_method_37_code
def yX12_firstBy : MethodName := ⟨RX12, "firstBy", "(II)I"⟩
abbrev cX12_soonestNow : ByteArray := prog_14_method_38_code
def yX12_soonestNow : MethodName := ⟨RX12, "soonestNow", "(II)I"⟩
abbrev cX12_soonest : ByteArray := prog_14_method_39_code
def yX12_soonest : MethodName := ⟨RX12, "soonest", "(II)I"⟩
abbrev cX12_caughtNow : ByteArray := prog_14_method_40_code
def yX12_caughtNow : MethodName := ⟨RX12, "caughtNow", "(I)I"⟩
abbrev cX12_caught : ByteArray := prog_14_method_41_code
def yX12_caught : MethodName := ⟨RX12, "caught", "(I)I"⟩
abbrev cX12_weighed : ByteArray := prog_14_method_42_code
def yX12_weighed : MethodName := ⟨RX12, "weighed", "(II)I"⟩
abbrev cX12_forget : ByteArray := prog_14_method_43_code
def yX12_forget : MethodName := ⟨RX12, "forget", "()I"⟩
abbrev cX12_fitsNow : ByteArray := prog_14_method_44_code
def yX12_fitsNow : MethodName := ⟨RX12, "fitsNow", "(I)I"⟩
abbrev cX12_fits : ByteArray := prog_14_method_45_code
def yX12_fits : MethodName := ⟨RX12, "fits", "(I)I"⟩
abbrev cX12_lowest : ByteArray := prog_14_method_46_code
def yX12_lowest : MethodName := ⟨RX12, "lowest", "(JJI)J"⟩
abbrev cX12_breaksBy : ByteArray := prog_14_method_47_code
def yX12_breaksBy : MethodName := ⟨RX12, "breaksBy", "()I"⟩
abbrev cX12_lastsNow : ByteArray := prog_14_method_48_code
def yX12_lastsNow : MethodName := ⟨RX12, "lastsNow", "(II)J"⟩
abbrev cX12_lasts : ByteArray := prog_14_method_49_code
def yX12_lasts : MethodName := ⟨RX12, "lasts", "(II)J"⟩
abbrev cX12_draw : ByteArray := prog_14_method_50_code
def yX12_draw : MethodName := ⟨RX12, "draw", "(I)I"⟩
abbrev cX12_whirlsNow : ByteArray := prog_14_method_51_code
def yX12_whirlsNow : MethodName := ⟨RX12, "whirlsNow", "(III)I"⟩
abbrev cX12_whirls : ByteArray := prog_14_method_52_code
def yX12_whirls : MethodName := ⟨RX12, "whirls", "(III)I"⟩
abbrev cX12_image : ByteArray := prog_14_method_53_code
def yX12_image : MethodName := ⟨RX12, "image", "()I"⟩
abbrev cX12_restore : ByteArray := prog_14_method_54_code
def yX12_restore : MethodName := ⟨RX12, "restore", "()I"⟩
abbrev cX12_one : ByteArray := prog_14_method_55_code
def yX12_one : MethodName := ⟨RX12, "one", "(Z)I"⟩
abbrev cX12_howMany : ByteArray := prog_14_method_56_code
def yX12_howMany : MethodName := ⟨RX12, "howMany", "(I)I"⟩
abbrev cX12_count : ByteArray := prog_14_method_57_code
def yX12_count : MethodName := ⟨RX12, "count", "(I)I"⟩
abbrev cX12_mix : ByteArray := prog_14_method_58_code
def yX12_mix : MethodName := ⟨RX12, "mix", "(J)V"⟩
abbrev cX12_digest : ByteArray := prog_14_method_59_code
def yX12_digest : MethodName := ⟨RX12, "digest", "()J"⟩
def RJ9 : String := "java/lang/Math"
def TJ9 : u_T := fun k => match k with
  | _ => ("", "", "", false)
def tyJ9 : Nat → FieldType := fun k => match k with
  | _ => .int
abbrev wsJ90 : List Cond := u_ws RJ9 TJ9 0
theorem nmJ9 : ∀ a, a < 0 → ∀ b, b < 0 → a ≠ b → (TJ9 a).2.1 ≠ (TJ9 b).2.1 := by decide +kernel
theorem tyJ9_ok : ∀ k, k < 0 → parseFieldDescriptor (TJ9 k).2.2.1 = some (tyJ9 k) := by decide +kernel
abbrev cJ9_floorMod_7cf53 : ByteArray := prog_15_method_50_code
def yJ9_floorMod_7cf53 : MethodName := ⟨RJ9, "floorMod", "(II)I"⟩
abbrev cJ9_abs_0f7a4 : ByteArray := prog_15_method_59_code
def yJ9_abs_0f7a4 : MethodName := ⟨RJ9, "abs", "(I)I"⟩
abbrev cJ9_max_7cf53 : ByteArray := prog_15_method_65_code
def yJ9_max_7cf53 : MethodName := ⟨RJ9, "max", "(II)I"⟩
abbrev cJ9_min_7cf53 : ByteArray := prog_15_method_69_code
def yJ9_min_7cf53 : MethodName := ⟨RJ9, "min", "(II)I"⟩
def RL : String := "TwoOnACableLaw"
abbrev cL_law : ByteArray := code
def yL_law : MethodName := ⟨RL, "law", "([I)Z"⟩
abbrev vwCl : List vw_C := [(RX0, TX0, 7), (RX1, TX1, 3), (RX2, TX2, 7), (RX3, TX3, 3), (RX4, TX4, 3), (RX5, TX5, 3), (RX6, TX6, 4), (RX7, TX7, 2), (RX8, TX8, 4), (RX9, TX9, 3), (RX10, TX10, 3), (RX11, TX11, 10), (RX12, TX12, 40)]
