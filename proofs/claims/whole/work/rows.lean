section
-- ===== PART A: goes FIRST, ahead of the names: the tables' words, and 'selects' of the private methods out of them =====
/-- a private method of a class that the tables say can be made, by its rows of tables_1 -/
def lw_okq (q : MethodName × Nat) : Prop := (q.1.cls ≠ "java/lang/invoke/MethodHandle" ∧ q.1.cls ≠ "java/lang/invoke/VarHandle") ∧ Cond.instantiable q.1.cls q.2 ∈ tables_1 ∧ Cond.privateMethod q.1 ∈ tables_1 ∧ Cond.instanceMethod q.1 ∈ tables_1
theorem lw_p0 : lw_okq (⟨"TwoOnACable$Page", "isWireLetter", "(I)Z"⟩, 2) := ⟨⟨by decide +kernel, by decide +kernel⟩, List.mem_of_getElem? (i := 24) (by decide +kernel), List.mem_of_getElem? (i := 236) (by decide +kernel), List.mem_of_getElem? (i := 237) (by decide +kernel)⟩
theorem lw_p1 : lw_okq (⟨"TwoOnACable$Page", "isBetween", "(ICC)Z"⟩, 2) := ⟨⟨by decide +kernel, by decide +kernel⟩, List.mem_of_getElem? (i := 24) (by decide +kernel), List.mem_of_getElem? (i := 240) (by decide +kernel), List.mem_of_getElem? (i := 241) (by decide +kernel)⟩
theorem lw_p2 : lw_okq (⟨"TwoOnACable$Evening", "setUp", "(LTwoOnACable$Cable;LTwoOnACable$Load;)V"⟩, 7) := ⟨⟨by decide +kernel, by decide +kernel⟩, List.mem_of_getElem? (i := 120) (by decide +kernel), List.mem_of_getElem? (i := 523) (by decide +kernel), List.mem_of_getElem? (i := 524) (by decide +kernel)⟩
theorem lw_p3 : lw_okq (⟨"TwoOnACable$Evening", "gapWith", "(ILTwoOnACable$Cable;)I"⟩, 7) := ⟨⟨by decide +kernel, by decide +kernel⟩, List.mem_of_getElem? (i := 120) (by decide +kernel), List.mem_of_getElem? (i := 532) (by decide +kernel), List.mem_of_getElem? (i := 533) (by decide +kernel)⟩
theorem lw_p4 : lw_okq (⟨"TwoOnACable$Search", "begin", "(I)V"⟩, 4) := ⟨⟨by decide +kernel, by decide +kernel⟩, List.mem_of_getElem? (i := 150) (by decide +kernel), List.mem_of_getElem? (i := 551) (by decide +kernel), List.mem_of_getElem? (i := 552) (by decide +kernel)⟩
theorem lw_p5 : lw_okq (⟨"TwoOnACable$Search", "step", "(Z)V"⟩, 4) := ⟨⟨by decide +kernel, by decide +kernel⟩, List.mem_of_getElem? (i := 150) (by decide +kernel), List.mem_of_getElem? (i := 556) (by decide +kernel), List.mem_of_getElem? (i := 557) (by decide +kernel)⟩
theorem lw_p6 : lw_okq (⟨"TwoOnACable$Search", "stepFrom", "(IZI)V"⟩, 4) := ⟨⟨by decide +kernel, by decide +kernel⟩, List.mem_of_getElem? (i := 150) (by decide +kernel), List.mem_of_getElem? (i := 560) (by decide +kernel), List.mem_of_getElem? (i := 561) (by decide +kernel)⟩
theorem lw_p7 : lw_okq (⟨"TwoOnACable$Search", "dropBroken", "(LTwoOnACable$Cable;II)V"⟩, 4) := ⟨⟨by decide +kernel, by decide +kernel⟩, List.mem_of_getElem? (i := 150) (by decide +kernel), List.mem_of_getElem? (i := 569) (by decide +kernel), List.mem_of_getElem? (i := 570) (by decide +kernel)⟩
theorem lw_p8 : lw_okq (⟨"TwoOnACable$Search", "leastWay", "(LTwoOnACable$Cable;III)I"⟩, 4) := ⟨⟨by decide +kernel, by decide +kernel⟩, List.mem_of_getElem? (i := 150) (by decide +kernel), List.mem_of_getElem? (i := 574) (by decide +kernel), List.mem_of_getElem? (i := 575) (by decide +kernel)⟩
theorem lw_p9 : lw_okq (⟨"TwoOnACable", "tryHours", "(II)I"⟩, 10) := ⟨⟨by decide +kernel, by decide +kernel⟩, List.mem_of_getElem? (i := 16) (by decide +kernel), List.mem_of_getElem? (i := 642) (by decide +kernel), List.mem_of_getElem? (i := 643) (by decide +kernel)⟩
theorem lw_p10 : lw_okq (⟨"TwoOnACable", "withCabins", "(J)J"⟩, 10) := ⟨⟨by decide +kernel, by decide +kernel⟩, List.mem_of_getElem? (i := 16) (by decide +kernel), List.mem_of_getElem? (i := 685) (by decide +kernel), List.mem_of_getElem? (i := 686) (by decide +kernel)⟩
theorem lw_p11 : lw_okq (⟨"TwoOnACable", "withThings", "(J)J"⟩, 10) := ⟨⟨by decide +kernel, by decide +kernel⟩, List.mem_of_getElem? (i := 16) (by decide +kernel), List.mem_of_getElem? (i := 694) (by decide +kernel), List.mem_of_getElem? (i := 695) (by decide +kernel)⟩
theorem lw_p12 : lw_okq (⟨"TwoOnACable", "withOutlook", "(J)J"⟩, 10) := ⟨⟨by decide +kernel, by decide +kernel⟩, List.mem_of_getElem? (i := 16) (by decide +kernel), List.mem_of_getElem? (i := 699) (by decide +kernel), List.mem_of_getElem? (i := 700) (by decide +kernel)⟩
theorem lw_p13 : lw_okq (⟨"TwoOnACableModel", "readWire", "()V"⟩, 40) := ⟨⟨by decide +kernel, by decide +kernel⟩, List.mem_of_getElem? (i := 709) (by decide +kernel), List.mem_of_getElem? (i := 850) (by decide +kernel), List.mem_of_getElem? (i := 851) (by decide +kernel)⟩
theorem lw_p14 : lw_okq (⟨"TwoOnACableModel", "takes", "(II)Z"⟩, 40) := ⟨⟨by decide +kernel, by decide +kernel⟩, List.mem_of_getElem? (i := 709) (by decide +kernel), List.mem_of_getElem? (i := 854) (by decide +kernel), List.mem_of_getElem? (i := 855) (by decide +kernel)⟩
theorem lw_p15 : lw_okq (⟨"TwoOnACableModel", "cabinNow", "(II)I"⟩, 40) := ⟨⟨by decide +kernel, by decide +kernel⟩, List.mem_of_getElem? (i := 709) (by decide +kernel), List.mem_of_getElem? (i := 869) (by decide +kernel), List.mem_of_getElem? (i := 870) (by decide +kernel)⟩
def lw_privs_1 : List (MethodName × Nat) := [(⟨"TwoOnACable$Page", "isWireLetter", "(I)Z"⟩, 2), (⟨"TwoOnACable$Page", "isBetween", "(ICC)Z"⟩, 2), (⟨"TwoOnACable$Evening", "setUp", "(LTwoOnACable$Cable;LTwoOnACable$Load;)V"⟩, 7), (⟨"TwoOnACable$Evening", "gapWith", "(ILTwoOnACable$Cable;)I"⟩, 7), (⟨"TwoOnACable$Search", "begin", "(I)V"⟩, 4), (⟨"TwoOnACable$Search", "step", "(Z)V"⟩, 4), (⟨"TwoOnACable$Search", "stepFrom", "(IZI)V"⟩, 4), (⟨"TwoOnACable$Search", "dropBroken", "(LTwoOnACable$Cable;II)V"⟩, 4), (⟨"TwoOnACable$Search", "leastWay", "(LTwoOnACable$Cable;III)I"⟩, 4), (⟨"TwoOnACable", "tryHours", "(II)I"⟩, 10), (⟨"TwoOnACable", "withCabins", "(J)J"⟩, 10), (⟨"TwoOnACable", "withThings", "(J)J"⟩, 10), (⟨"TwoOnACable", "withOutlook", "(J)J"⟩, 10), (⟨"TwoOnACableModel", "readWire", "()V"⟩, 40), (⟨"TwoOnACableModel", "takes", "(II)Z"⟩, 40), (⟨"TwoOnACableModel", "cabinNow", "(II)I"⟩, 40)]
theorem lw_r1 : ∀ q ∈ lw_privs_1, lw_okq q := List.forall_mem_cons.mpr ⟨lw_p0, List.forall_mem_cons.mpr ⟨lw_p1, List.forall_mem_cons.mpr ⟨lw_p2, List.forall_mem_cons.mpr ⟨lw_p3, List.forall_mem_cons.mpr ⟨lw_p4, List.forall_mem_cons.mpr ⟨lw_p5, List.forall_mem_cons.mpr ⟨lw_p6, List.forall_mem_cons.mpr ⟨lw_p7, List.forall_mem_cons.mpr ⟨lw_p8, List.forall_mem_cons.mpr ⟨lw_p9, List.forall_mem_cons.mpr ⟨lw_p10, List.forall_mem_cons.mpr ⟨lw_p11, List.forall_mem_cons.mpr ⟨lw_p12, List.forall_mem_cons.mpr ⟨lw_p13, List.forall_mem_cons.mpr ⟨lw_p14, List.forall_mem_cons.mpr ⟨lw_p15, fun _ h => absurd h List.not_mem_nil⟩⟩⟩⟩⟩⟩⟩⟩⟩⟩⟩⟩⟩⟩⟩⟩
theorem lw_p16 : lw_okq (⟨"TwoOnACableModel", "cabinWeighs", "(III)I"⟩, 40) := ⟨⟨by decide +kernel, by decide +kernel⟩, List.mem_of_getElem? (i := 709) (by decide +kernel), List.mem_of_getElem? (i := 873) (by decide +kernel), List.mem_of_getElem? (i := 874) (by decide +kernel)⟩
theorem lw_p17 : lw_okq (⟨"TwoOnACableModel", "weighs", "(II)I"⟩, 40) := ⟨⟨by decide +kernel, by decide +kernel⟩, List.mem_of_getElem? (i := 709) (by decide +kernel), List.mem_of_getElem? (i := 880) (by decide +kernel), List.mem_of_getElem? (i := 881) (by decide +kernel)⟩
theorem lw_p18 : lw_okq (⟨"TwoOnACableModel", "armBy", "(IIII)I"⟩, 40) := ⟨⟨by decide +kernel, by decide +kernel⟩, List.mem_of_getElem? (i := 709) (by decide +kernel), List.mem_of_getElem? (i := 884) (by decide +kernel), List.mem_of_getElem? (i := 885) (by decide +kernel)⟩
theorem lw_p19 : lw_okq (⟨"TwoOnACableModel", "floorBy", "(IIII)I"⟩, 40) := ⟨⟨by decide +kernel, by decide +kernel⟩, List.mem_of_getElem? (i := 709) (by decide +kernel), List.mem_of_getElem? (i := 888) (by decide +kernel), List.mem_of_getElem? (i := 889) (by decide +kernel)⟩
theorem lw_p20 : lw_okq (⟨"TwoOnACableModel", "turnsAt", "(I)I"⟩, 40) := ⟨⟨by decide +kernel, by decide +kernel⟩, List.mem_of_getElem? (i := 709) (by decide +kernel), List.mem_of_getElem? (i := 892) (by decide +kernel), List.mem_of_getElem? (i := 893) (by decide +kernel)⟩
theorem lw_p21 : lw_okq (⟨"TwoOnACableModel", "inCabin", "(I)I"⟩, 40) := ⟨⟨by decide +kernel, by decide +kernel⟩, List.mem_of_getElem? (i := 709) (by decide +kernel), List.mem_of_getElem? (i := 896) (by decide +kernel), List.mem_of_getElem? (i := 897) (by decide +kernel)⟩
theorem lw_p22 : lw_okq (⟨"TwoOnACableModel", "isThing", "(I)Z"⟩, 40) := ⟨⟨by decide +kernel, by decide +kernel⟩, List.mem_of_getElem? (i := 709) (by decide +kernel), List.mem_of_getElem? (i := 908) (by decide +kernel), List.mem_of_getElem? (i := 909) (by decide +kernel)⟩
theorem lw_p23 : lw_okq (⟨"TwoOnACableModel", "thingNow", "(II)I"⟩, 40) := ⟨⟨by decide +kernel, by decide +kernel⟩, List.mem_of_getElem? (i := 709) (by decide +kernel), List.mem_of_getElem? (i := 912) (by decide +kernel), List.mem_of_getElem? (i := 913) (by decide +kernel)⟩
theorem lw_p24 : lw_okq (⟨"TwoOnACableModel", "mayCarry", "(I)Z"⟩, 40) := ⟨⟨by decide +kernel, by decide +kernel⟩, List.mem_of_getElem? (i := 709) (by decide +kernel), List.mem_of_getElem? (i := 924) (by decide +kernel), List.mem_of_getElem? (i := 925) (by decide +kernel)⟩
theorem lw_p25 : lw_okq (⟨"TwoOnACableModel", "goHour", "(I)Z"⟩, 40) := ⟨⟨by decide +kernel, by decide +kernel⟩, List.mem_of_getElem? (i := 709) (by decide +kernel), List.mem_of_getElem? (i := 935) (by decide +kernel), List.mem_of_getElem? (i := 936) (by decide +kernel)⟩
theorem lw_p26 : lw_okq (⟨"TwoOnACableModel", "strainAt", "(II)I"⟩, 40) := ⟨⟨by decide +kernel, by decide +kernel⟩, List.mem_of_getElem? (i := 709) (by decide +kernel), List.mem_of_getElem? (i := 939) (by decide +kernel), List.mem_of_getElem? (i := 940) (by decide +kernel)⟩
theorem lw_p27 : lw_okq (⟨"TwoOnACableModel", "evenNow", "(I)I"⟩, 40) := ⟨⟨by decide +kernel, by decide +kernel⟩, List.mem_of_getElem? (i := 709) (by decide +kernel), List.mem_of_getElem? (i := 947) (by decide +kernel), List.mem_of_getElem? (i := 948) (by decide +kernel)⟩
theorem lw_p28 : lw_okq (⟨"TwoOnACableModel", "layEven", "()V"⟩, 40) := ⟨⟨by decide +kernel, by decide +kernel⟩, List.mem_of_getElem? (i := 709) (by decide +kernel), List.mem_of_getElem? (i := 951) (by decide +kernel), List.mem_of_getElem? (i := 952) (by decide +kernel)⟩
theorem lw_p29 : lw_okq (⟨"TwoOnACableModel", "soonestNow", "(II)I"⟩, 40) := ⟨⟨by decide +kernel, by decide +kernel⟩, List.mem_of_getElem? (i := 709) (by decide +kernel), List.mem_of_getElem? (i := 963) (by decide +kernel), List.mem_of_getElem? (i := 964) (by decide +kernel)⟩
theorem lw_p30 : lw_okq (⟨"TwoOnACableModel", "firstBy", "(II)I"⟩, 40) := ⟨⟨by decide +kernel, by decide +kernel⟩, List.mem_of_getElem? (i := 709) (by decide +kernel), List.mem_of_getElem? (i := 967) (by decide +kernel), List.mem_of_getElem? (i := 968) (by decide +kernel)⟩
theorem lw_p31 : lw_okq (⟨"TwoOnACableModel", "goLengths", "(I)V"⟩, 40) := ⟨⟨by decide +kernel, by decide +kernel⟩, List.mem_of_getElem? (i := 709) (by decide +kernel), List.mem_of_getElem? (i := 971) (by decide +kernel), List.mem_of_getElem? (i := 972) (by decide +kernel)⟩
def lw_privs_2 : List (MethodName × Nat) := [(⟨"TwoOnACableModel", "cabinWeighs", "(III)I"⟩, 40), (⟨"TwoOnACableModel", "weighs", "(II)I"⟩, 40), (⟨"TwoOnACableModel", "armBy", "(IIII)I"⟩, 40), (⟨"TwoOnACableModel", "floorBy", "(IIII)I"⟩, 40), (⟨"TwoOnACableModel", "turnsAt", "(I)I"⟩, 40), (⟨"TwoOnACableModel", "inCabin", "(I)I"⟩, 40), (⟨"TwoOnACableModel", "isThing", "(I)Z"⟩, 40), (⟨"TwoOnACableModel", "thingNow", "(II)I"⟩, 40), (⟨"TwoOnACableModel", "mayCarry", "(I)Z"⟩, 40), (⟨"TwoOnACableModel", "goHour", "(I)Z"⟩, 40), (⟨"TwoOnACableModel", "strainAt", "(II)I"⟩, 40), (⟨"TwoOnACableModel", "evenNow", "(I)I"⟩, 40), (⟨"TwoOnACableModel", "layEven", "()V"⟩, 40), (⟨"TwoOnACableModel", "soonestNow", "(II)I"⟩, 40), (⟨"TwoOnACableModel", "firstBy", "(II)I"⟩, 40), (⟨"TwoOnACableModel", "goLengths", "(I)V"⟩, 40)]
theorem lw_r2 : ∀ q ∈ lw_privs_2, lw_okq q := List.forall_mem_cons.mpr ⟨lw_p16, List.forall_mem_cons.mpr ⟨lw_p17, List.forall_mem_cons.mpr ⟨lw_p18, List.forall_mem_cons.mpr ⟨lw_p19, List.forall_mem_cons.mpr ⟨lw_p20, List.forall_mem_cons.mpr ⟨lw_p21, List.forall_mem_cons.mpr ⟨lw_p22, List.forall_mem_cons.mpr ⟨lw_p23, List.forall_mem_cons.mpr ⟨lw_p24, List.forall_mem_cons.mpr ⟨lw_p25, List.forall_mem_cons.mpr ⟨lw_p26, List.forall_mem_cons.mpr ⟨lw_p27, List.forall_mem_cons.mpr ⟨lw_p28, List.forall_mem_cons.mpr ⟨lw_p29, List.forall_mem_cons.mpr ⟨lw_p30, List.forall_mem_cons.mpr ⟨lw_p31, fun _ h => absurd h List.not_mem_nil⟩⟩⟩⟩⟩⟩⟩⟩⟩⟩⟩⟩⟩⟩⟩⟩
theorem lw_p32 : lw_okq (⟨"TwoOnACableModel", "caughtNow", "(I)I"⟩, 40) := ⟨⟨by decide +kernel, by decide +kernel⟩, List.mem_of_getElem? (i := 709) (by decide +kernel), List.mem_of_getElem? (i := 982) (by decide +kernel), List.mem_of_getElem? (i := 983) (by decide +kernel)⟩
theorem lw_p33 : lw_okq (⟨"TwoOnACableModel", "fitsNow", "(I)I"⟩, 40) := ⟨⟨by decide +kernel, by decide +kernel⟩, List.mem_of_getElem? (i := 709) (by decide +kernel), List.mem_of_getElem? (i := 1001) (by decide +kernel), List.mem_of_getElem? (i := 1002) (by decide +kernel)⟩
theorem lw_p34 : lw_okq (⟨"TwoOnACableModel", "lastsNow", "(II)J"⟩, 40) := ⟨⟨by decide +kernel, by decide +kernel⟩, List.mem_of_getElem? (i := 709) (by decide +kernel), List.mem_of_getElem? (i := 1010) (by decide +kernel), List.mem_of_getElem? (i := 1011) (by decide +kernel)⟩
theorem lw_p35 : lw_okq (⟨"TwoOnACableModel", "breaksBy", "()I"⟩, 40) := ⟨⟨by decide +kernel, by decide +kernel⟩, List.mem_of_getElem? (i := 709) (by decide +kernel), List.mem_of_getElem? (i := 1014) (by decide +kernel), List.mem_of_getElem? (i := 1015) (by decide +kernel)⟩
theorem lw_p36 : lw_okq (⟨"TwoOnACableModel", "whirlsNow", "(III)I"⟩, 40) := ⟨⟨by decide +kernel, by decide +kernel⟩, List.mem_of_getElem? (i := 709) (by decide +kernel), List.mem_of_getElem? (i := 1027) (by decide +kernel), List.mem_of_getElem? (i := 1028) (by decide +kernel)⟩
theorem lw_p37 : lw_okq (⟨"TwoOnACableModel", "draw", "(I)I"⟩, 40) := ⟨⟨by decide +kernel, by decide +kernel⟩, List.mem_of_getElem? (i := 709) (by decide +kernel), List.mem_of_getElem? (i := 1031) (by decide +kernel), List.mem_of_getElem? (i := 1032) (by decide +kernel)⟩
theorem lw_p38 : lw_okq (⟨"TwoOnACableModel", "howMany", "(I)I"⟩, 40) := ⟨⟨by decide +kernel, by decide +kernel⟩, List.mem_of_getElem? (i := 709) (by decide +kernel), List.mem_of_getElem? (i := 1051) (by decide +kernel), List.mem_of_getElem? (i := 1052) (by decide +kernel)⟩
theorem lw_p39 : lw_okq (⟨"TwoOnACableModel", "mix", "(J)V"⟩, 40) := ⟨⟨by decide +kernel, by decide +kernel⟩, List.mem_of_getElem? (i := 709) (by decide +kernel), List.mem_of_getElem? (i := 1063) (by decide +kernel), List.mem_of_getElem? (i := 1064) (by decide +kernel)⟩
def lw_privs_3 : List (MethodName × Nat) := [(⟨"TwoOnACableModel", "caughtNow", "(I)I"⟩, 40), (⟨"TwoOnACableModel", "fitsNow", "(I)I"⟩, 40), (⟨"TwoOnACableModel", "lastsNow", "(II)J"⟩, 40), (⟨"TwoOnACableModel", "breaksBy", "()I"⟩, 40), (⟨"TwoOnACableModel", "whirlsNow", "(III)I"⟩, 40), (⟨"TwoOnACableModel", "draw", "(I)I"⟩, 40), (⟨"TwoOnACableModel", "howMany", "(I)I"⟩, 40), (⟨"TwoOnACableModel", "mix", "(J)V"⟩, 40)]
theorem lw_r3 : ∀ q ∈ lw_privs_3, lw_okq q := List.forall_mem_cons.mpr ⟨lw_p32, List.forall_mem_cons.mpr ⟨lw_p33, List.forall_mem_cons.mpr ⟨lw_p34, List.forall_mem_cons.mpr ⟨lw_p35, List.forall_mem_cons.mpr ⟨lw_p36, List.forall_mem_cons.mpr ⟨lw_p37, List.forall_mem_cons.mpr ⟨lw_p38, List.forall_mem_cons.mpr ⟨lw_p39, fun _ h => absurd h List.not_mem_nil⟩⟩⟩⟩⟩⟩⟩⟩
def lw_privs : List (MethodName × Nat) := lw_privs_1 ++ (lw_privs_2 ++ (lw_privs_3))
def lw_tbl : List Cond := k2_sels lw_privs ++ tables_1
theorem lw_privs_ok : ∀ q ∈ lw_privs, lw_okq q := by
  show ∀ q ∈ lw_privs_1 ++ (lw_privs_2 ++ (lw_privs_3)), lw_okq q
  exact List.forall_mem_append.mpr ⟨lw_r1, List.forall_mem_append.mpr ⟨lw_r2, lw_r3⟩⟩
def RX0 : String := "TwoOnACable$Cable"
def TX0 : u_T := fun k => match k with
  | 0 => ("TwoOnACable$Cable", "length", "I", false)
  | 1 => ("TwoOnACable$Cable", "spin", "I", false)
  | 2 => ("TwoOnACable$Cable", "bears", "I", false)
  | 3 => ("TwoOnACable$Cable", "place", "I", false)
  | 4 => ("TwoOnACable$Cable", "hours", "I", false)
  | 5 => ("TwoOnACable$Cable", "old", "Z", false)
  | _ => ("TwoOnACable$Cable", "broken", "Z", false)
def tyX0 : Nat → FieldType := fun k => match k with
  | 0 => .int
  | 1 => .int
  | 2 => .int
  | 3 => .int
  | 4 => .int
  | 5 => .boolean
  | _ => .boolean
abbrev wsX00 : List Cond := u_ws RX0 TX0 7
theorem nmX0 : ∀ a, a < 7 → ∀ b, b < 7 → a ≠ b → (TX0 a).2.1 ≠ (TX0 b).2.1 := by decide +kernel
theorem tyX0_ok : ∀ k, k < 7 → parseFieldDescriptor (TX0 k).2.2.1 = some (tyX0 k) := by decide +kernel
abbrev cX0_init : ByteArray := prog_2_method_1_code
def yX0_init : MethodName := ⟨RX0, "<init>", "()V"⟩
abbrev cX0_hang : ByteArray := prog_2_method_2_code
def yX0_hang : MethodName := ⟨RX0, "hang", "(LTwoOnACable$Page;)V"⟩
abbrev cX0_becomeLike : ByteArray := prog_2_method_3_code
def yX0_becomeLike : MethodName := ⟨RX0, "becomeLike", "(LTwoOnACable$Cable;)V"⟩
abbrev cX0_isThere : ByteArray := prog_2_method_4_code
def yX0_isThere : MethodName := ⟨RX0, "isThere", "()Z"⟩
abbrev cX0_isWhole : ByteArray := prog_2_method_5_code
def yX0_isWhole : MethodName := ⟨RX0, "isWhole", "()Z"⟩
abbrev cX0_turnsAt : ByteArray := prog_2_method_6_code
def yX0_turnsAt : MethodName := ⟨RX0, "turnsAt", "(I)I"⟩
abbrev cX0_turnsNow : ByteArray := prog_2_method_7_code
def yX0_turnsNow : MethodName := ⟨RX0, "turnsNow", "()I"⟩
abbrev cX0_armAt : ByteArray := prog_2_method_8_code
def yX0_armAt : MethodName := ⟨RX0, "armAt", "(IIII)I"⟩
abbrev cX0_floorAt : ByteArray := prog_2_method_9_code
def yX0_floorAt : MethodName := ⟨RX0, "floorAt", "(IIII)I"⟩
abbrev cX0_strainAt : ByteArray := prog_2_method_10_code
def yX0_strainAt : MethodName := ⟨RX0, "strainAt", "(III)I"⟩
abbrev cX0_armNow : ByteArray := prog_2_method_11_code
def yX0_armNow : MethodName := ⟨RX0, "armNow", "(ILTwoOnACable$Load;)I"⟩
abbrev cX0_floorNow : ByteArray := prog_2_method_12_code
def yX0_floorNow : MethodName := ⟨RX0, "floorNow", "(ILTwoOnACable$Load;)I"⟩
abbrev cX0_strainNow : ByteArray := prog_2_method_13_code
def yX0_strainNow : MethodName := ⟨RX0, "strainNow", "(LTwoOnACable$Load;)I"⟩
abbrev cX0_placeAfter : ByteArray := prog_2_method_14_code
def yX0_placeAfter : MethodName := ⟨RX0, "placeAfter", "(I)I"⟩
abbrev cX0_goHour : ByteArray := prog_2_method_15_code
def yX0_goHour : MethodName := ⟨RX0, "goHour", "(ILTwoOnACable$Load;)V"⟩
abbrev cX0_breakingHundredths : ByteArray := prog_2_method_16_code
def yX0_breakingHundredths : MethodName := ⟨RX0, "breakingHundredths", "(LTwoOnACable$Load;)I"⟩
def RX1 : String := "TwoOnACable$Cook"
def TX1 : u_T := fun k => match k with
  | 0 => ("TwoOnACable$Thing", "weight", "I", true)
  | 1 => ("TwoOnACable$Thing", "came", "I", true)
  | _ => ("TwoOnACable$Thing", "place", "I", false)
def tyX1 : Nat → FieldType := fun k => match k with
  | 0 => .int
  | 1 => .int
  | _ => .int
abbrev wsX10 : List Cond := u_ws RX1 TX1 3
theorem nmX1 : ∀ a, a < 3 → ∀ b, b < 3 → a ≠ b → (TX1 a).2.1 ≠ (TX1 b).2.1 := by decide +kernel
theorem tyX1_ok : ∀ k, k < 3 → parseFieldDescriptor (TX1 k).2.2.1 = some (tyX1 k) := by decide +kernel
abbrev cX1_init : ByteArray := prog_3_method_1_code
def yX1_init : MethodName := ⟨RX1, "<init>", "(III)V"⟩
abbrev cX1_kind : ByteArray := prog_3_method_2_code
def yX1_kind : MethodName := ⟨RX1, "kind", "()I"⟩
abbrev cX1_weighs : ByteArray := prog_3_method_3_code
def yX1_weighs : MethodName := ⟨RX1, "weighs", "(I)I"⟩
def RX2 : String := "TwoOnACable$Evening"
def TX2 : u_T := fun k => match k with
  | 0 => ("TwoOnACable$Evening", "weighs", "[I", true)
  | 1 => ("TwoOnACable$Evening", "gains", "[I", true)
  | 2 => ("TwoOnACable$Evening", "apart", "I", false)
  | 3 => ("TwoOnACable$Evening", "bits", "I", false)
  | 4 => ("TwoOnACable$Evening", "staying", "I", false)
  | 5 => ("TwoOnACable$Evening", "first", "I", false)
  | _ => ("TwoOnACable$Evening", "both", "I", false)
def tyX2 : Nat → FieldType := fun k => match k with
  | 0 => .array .int
  | 1 => .array .int
  | 2 => .int
  | 3 => .int
  | 4 => .int
  | 5 => .int
  | _ => .int
abbrev wsX20 : List Cond := u_ws RX2 TX2 7
theorem nmX2 : ∀ a, a < 7 → ∀ b, b < 7 → a ≠ b → (TX2 a).2.1 ≠ (TX2 b).2.1 := by decide +kernel
theorem tyX2_ok : ∀ k, k < 7 → parseFieldDescriptor (TX2 k).2.2.1 = some (tyX2 k) := by decide +kernel
abbrev cX2_init : ByteArray := prog_4_method_1_code
def yX2_init : MethodName := ⟨RX2, "<init>", "()V"⟩
abbrev cX2_find : ByteArray := prog_4_method_2_code
def yX2_find : MethodName := ⟨RX2, "find", "(LTwoOnACable$Cable;LTwoOnACable$Load;)V"⟩
abbrev cX2_setUp : ByteArray := prog_4_method_3_code
def yX2_setUp : MethodName := ⟨RX2, "setUp", "(LTwoOnACable$Cable;LTwoOnACable$Load;)V"⟩
abbrev cX2_gapWith : ByteArray := prog_4_method_4_code
def yX2_gapWith : MethodName := ⟨RX2, "gapWith", "(ILTwoOnACable$Cable;)I"⟩
abbrev cX2_summed : ByteArray := prog_4_method_5_code
def yX2_summed : MethodName := ⟨RX2, "summed", "([II)I"⟩
def RX3 : String := "TwoOnACable$Guest"
def TX3 : u_T := fun k => match k with
  | 0 => ("TwoOnACable$Thing", "weight", "I", true)
  | 1 => ("TwoOnACable$Thing", "came", "I", true)
  | _ => ("TwoOnACable$Thing", "place", "I", false)
def tyX3 : Nat → FieldType := fun k => match k with
  | 0 => .int
  | 1 => .int
  | _ => .int
abbrev wsX30 : List Cond := u_ws RX3 TX3 3
theorem nmX3 : ∀ a, a < 3 → ∀ b, b < 3 → a ≠ b → (TX3 a).2.1 ≠ (TX3 b).2.1 := by decide +kernel
theorem tyX3_ok : ∀ k, k < 3 → parseFieldDescriptor (TX3 k).2.2.1 = some (tyX3 k) := by decide +kernel
abbrev cX3_init : ByteArray := prog_5_method_1_code
def yX3_init : MethodName := ⟨RX3, "<init>", "(III)V"⟩
abbrev cX3_kind : ByteArray := prog_5_method_2_code
def yX3_kind : MethodName := ⟨RX3, "kind", "()I"⟩
abbrev cX3_goesAcross : ByteArray := prog_5_method_3_code
def yX3_goesAcross : MethodName := ⟨RX3, "goesAcross", "(I)Z"⟩
def RX4 : String := "TwoOnACable$Hens"
def TX4 : u_T := fun k => match k with
  | 0 => ("TwoOnACable$Thing", "weight", "I", true)
  | 1 => ("TwoOnACable$Thing", "came", "I", true)
  | _ => ("TwoOnACable$Thing", "place", "I", false)
def tyX4 : Nat → FieldType := fun k => match k with
  | 0 => .int
  | 1 => .int
  | _ => .int
abbrev wsX40 : List Cond := u_ws RX4 TX4 3
theorem nmX4 : ∀ a, a < 3 → ∀ b, b < 3 → a ≠ b → (TX4 a).2.1 ≠ (TX4 b).2.1 := by decide +kernel
theorem tyX4_ok : ∀ k, k < 3 → parseFieldDescriptor (TX4 k).2.2.1 = some (tyX4 k) := by decide +kernel
abbrev cX4_init : ByteArray := prog_6_method_1_code
def yX4_init : MethodName := ⟨RX4, "<init>", "(III)V"⟩
abbrev cX4_kind : ByteArray := prog_6_method_2_code
def yX4_kind : MethodName := ⟨RX4, "kind", "()I"⟩
abbrev cX4_weighs : ByteArray := prog_6_method_3_code
def yX4_weighs : MethodName := ⟨RX4, "weighs", "(I)I"⟩
def RX5 : String := "TwoOnACable$Live"
def TX5 : u_T := fun k => match k with
  | 0 => ("TwoOnACable$Thing", "weight", "I", true)
  | 1 => ("TwoOnACable$Thing", "came", "I", true)
  | _ => ("TwoOnACable$Thing", "place", "I", false)
def tyX5 : Nat → FieldType := fun k => match k with
  | 0 => .int
  | 1 => .int
  | _ => .int
abbrev wsX50 : List Cond := u_ws RX5 TX5 3
theorem nmX5 : ∀ a, a < 3 → ∀ b, b < 3 → a ≠ b → (TX5 a).2.1 ≠ (TX5 b).2.1 := by decide +kernel
theorem tyX5_ok : ∀ k, k < 3 → parseFieldDescriptor (TX5 k).2.2.1 = some (tyX5 k) := by decide +kernel
abbrev cX5_init : ByteArray := prog_7_method_1_code
def yX5_init : MethodName := ⟨RX5, "<init>", "(III)V"⟩
abbrev cX5_kind : ByteArray := prog_7_method_2_code
def yX5_kind : MethodName := ⟨RX5, "kind", "()I"⟩
abbrev cX5_weighs : ByteArray := prog_7_method_3_code
def yX5_weighs : MethodName := ⟨RX5, "weighs", "(I)I"⟩
abbrev cX5_grown : ByteArray := prog_7_method_4_code
def yX5_grown : MethodName := ⟨RX5, "grown", "(I)I"⟩
def RX6 : String := "TwoOnACable$Load"
def TX6 : u_T := fun k => match k with
  | 0 => ("TwoOnACable$Load", "things", "[LTwoOnACable$Thing;", true)
  | 1 => ("TwoOnACable$Load", "keptPlaces", "[I", true)
  | 2 => ("TwoOnACable$Load", "size", "I", false)
  | _ => ("TwoOnACable$Load", "keptSize", "I", false)
def tyX6 : Nat → FieldType := fun k => match k with
  | 0 => .array (.object "TwoOnACable$Thing")
  | 1 => .array .int
  | 2 => .int
  | _ => .int
abbrev wsX60 : List Cond := u_ws RX6 TX6 4
theorem nmX6 : ∀ a, a < 4 → ∀ b, b < 4 → a ≠ b → (TX6 a).2.1 ≠ (TX6 b).2.1 := by decide +kernel
theorem tyX6_ok : ∀ k, k < 4 → parseFieldDescriptor (TX6 k).2.2.1 = some (tyX6 k) := by decide +kernel
abbrev cX6_init : ByteArray := prog_8_method_1_code
def yX6_init : MethodName := ⟨RX6, "<init>", "()V"⟩
abbrev cX6_isFull : ByteArray := prog_8_method_2_code
def yX6_isFull : MethodName := ⟨RX6, "isFull", "()Z"⟩
abbrev cX6_put : ByteArray := prog_8_method_3_code
def yX6_put : MethodName := ⟨RX6, "put", "(LTwoOnACable$Thing;)I"⟩
abbrev cX6_at : ByteArray := prog_8_method_4_code
def yX6_at : MethodName := ⟨RX6, "at", "(I)LTwoOnACable$Thing;"⟩
abbrev cX6_cutTo : ByteArray := prog_8_method_5_code
def yX6_cutTo : MethodName := ⟨RX6, "cutTo", "(I)V"⟩
abbrev cX6_keepPlaces : ByteArray := prog_8_method_6_code
def yX6_keepPlaces : MethodName := ⟨RX6, "keepPlaces", "()V"⟩
abbrev cX6_goBack : ByteArray := prog_8_method_7_code
def yX6_goBack : MethodName := ⟨RX6, "goBack", "()V"⟩
abbrev cX6_weighsIn : ByteArray := prog_8_method_8_code
def yX6_weighsIn : MethodName := ⟨RX6, "weighsIn", "(II)I"⟩
abbrev cX6_sizeIn : ByteArray := prog_8_method_9_code
def yX6_sizeIn : MethodName := ⟨RX6, "sizeIn", "(I)I"⟩
def RX7 : String := "TwoOnACable$Page"
def TX7 : u_T := fun k => match k with
  | 0 => ("TwoOnACable$Page", "row", "[C", true)
  | _ => ("TwoOnACable$Page", "size", "I", false)
def tyX7 : Nat → FieldType := fun k => match k with
  | 0 => .array .char
  | _ => .int
abbrev wsX70 : List Cond := u_ws RX7 TX7 2
theorem nmX7 : ∀ a, a < 2 → ∀ b, b < 2 → a ≠ b → (TX7 a).2.1 ≠ (TX7 b).2.1 := by decide +kernel
theorem tyX7_ok : ∀ k, k < 2 → parseFieldDescriptor (TX7 k).2.2.1 = some (tyX7 k) := by decide +kernel
abbrev cX7_init : ByteArray := prog_9_method_1_code
def yX7_init : MethodName := ⟨RX7, "<init>", "()V"⟩
abbrev cX7_hasRoomFor : ByteArray := prog_9_method_2_code
def yX7_hasRoomFor : MethodName := ⟨RX7, "hasRoomFor", "(I)Z"⟩
abbrev cX7_put : ByteArray := prog_9_method_3_code
def yX7_put : MethodName := ⟨RX7, "put", "(C)V"⟩
abbrev cX7_at : ByteArray := prog_9_method_4_code
def yX7_at : MethodName := ⟨RX7, "at", "(I)I"⟩
abbrev cX7_emptied : ByteArray := prog_9_method_5_code
def yX7_emptied : MethodName := ⟨RX7, "emptied", "()I"⟩
abbrev cX7_firstWrong : ByteArray := prog_9_method_6_code
def yX7_firstWrong : MethodName := ⟨RX7, "firstWrong", "()I"⟩
abbrev cX7_isWire : ByteArray := prog_9_method_7_code
def yX7_isWire : MethodName := ⟨RX7, "isWire", "()Z"⟩
abbrev cX7_digitAt : ByteArray := prog_9_method_8_code
def yX7_digitAt : MethodName := ⟨RX7, "digitAt", "(I)I"⟩
abbrev cX7_isWireLetter : ByteArray := prog_9_method_9_code
def yX7_isWireLetter : MethodName := ⟨RX7, "isWireLetter", "(I)Z"⟩
abbrev cX7_isBetween : ByteArray := prog_9_method_10_code
def yX7_isBetween : MethodName := ⟨RX7, "isBetween", "(ICC)Z"⟩
def RX8 : String := "TwoOnACable$Search"
def TX8 : u_T := fun k => match k with
  | 0 => ("TwoOnACable$Search", "now", "[I", true)
  | 1 => ("TwoOnACable$Search", "next", "[I", true)
  | 2 => ("TwoOnACable$Search", "hours", "I", false)
  | _ => ("TwoOnACable$Search", "first", "I", false)
def tyX8 : Nat → FieldType := fun k => match k with
  | 0 => .array .int
  | 1 => .array .int
  | 2 => .int
  | _ => .int
abbrev wsX80 : List Cond := u_ws RX8 TX8 4
theorem nmX8 : ∀ a, a < 4 → ∀ b, b < 4 → a ≠ b → (TX8 a).2.1 ≠ (TX8 b).2.1 := by decide +kernel
theorem tyX8_ok : ∀ k, k < 4 → parseFieldDescriptor (TX8 k).2.2.1 = some (tyX8 k) := by decide +kernel
abbrev cX8_init : ByteArray := prog_10_method_1_code
def yX8_init : MethodName := ⟨RX8, "<init>", "()V"⟩
abbrev cX8_find : ByteArray := prog_10_method_2_code
def yX8_find : MethodName := ⟨RX8, "find", "(LTwoOnACable$Cable;LTwoOnACable$Load;I)V"⟩
abbrev cX8_begin : ByteArray := prog_10_method_3_code
def yX8_begin : MethodName := ⟨RX8, "begin", "(I)V"⟩
abbrev cX8_step : ByteArray := prog_10_method_4_code
def yX8_step : MethodName := ⟨RX8, "step", "(Z)V"⟩
abbrev cX8_stepFrom : ByteArray := prog_10_method_5_code
def yX8_stepFrom : MethodName := ⟨RX8, "stepFrom", "(IZI)V"⟩
abbrev cX8_dropBroken : ByteArray := prog_10_method_6_code
def yX8_dropBroken : MethodName := ⟨RX8, "dropBroken", "(LTwoOnACable$Cable;II)V"⟩
abbrev cX8_leastWay : ByteArray := prog_10_method_7_code
def yX8_leastWay : MethodName := ⟨RX8, "leastWay", "(LTwoOnACable$Cable;III)I"⟩
def RX9 : String := "TwoOnACable$Thing"
def TX9 : u_T := fun k => match k with
  | 0 => ("TwoOnACable$Thing", "weight", "I", true)
  | 1 => ("TwoOnACable$Thing", "came", "I", true)
  | _ => ("TwoOnACable$Thing", "place", "I", false)
def tyX9 : Nat → FieldType := fun k => match k with
  | 0 => .int
  | 1 => .int
  | _ => .int
abbrev wsX90 : List Cond := u_ws RX9 TX9 3
theorem nmX9 : ∀ a, a < 3 → ∀ b, b < 3 → a ≠ b → (TX9 a).2.1 ≠ (TX9 b).2.1 := by decide +kernel
theorem tyX9_ok : ∀ k, k < 3 → parseFieldDescriptor (TX9 k).2.2.1 = some (tyX9 k) := by decide +kernel
abbrev cX9_init : ByteArray := prog_11_method_1_code
def yX9_init : MethodName := ⟨RX9, "<init>", "(III)V"⟩
abbrev cX9_kind : ByteArray := prog_11_method_2_code
def yX9_kind : MethodName := ⟨RX9, "kind", "()I"⟩
abbrev cX9_weighs : ByteArray := prog_11_method_3_code
def yX9_weighs : MethodName := ⟨RX9, "weighs", "(I)I"⟩
abbrev cX9_goesAcross : ByteArray := prog_11_method_4_code
def yX9_goesAcross : MethodName := ⟨RX9, "goesAcross", "(I)Z"⟩
abbrev cX9_hoursHere : ByteArray := prog_11_method_5_code
def yX9_hoursHere : MethodName := ⟨RX9, "hoursHere", "(I)I"⟩
def RX10 : String := "TwoOnACable$Told"
def TX10 : u_T := fun k => match k with
  | 0 => ("TwoOnACable$Told", "lengths", "[I", true)
  | 1 => ("TwoOnACable$Told", "turns", "[I", true)
  | _ => ("TwoOnACable$Told", "size", "I", false)
def tyX10 : Nat → FieldType := fun k => match k with
  | 0 => .array .int
  | 1 => .array .int
  | _ => .int
abbrev wsX100 : List Cond := u_ws RX10 TX10 3
theorem nmX10 : ∀ a, a < 3 → ∀ b, b < 3 → a ≠ b → (TX10 a).2.1 ≠ (TX10 b).2.1 := by decide +kernel
theorem tyX10_ok : ∀ k, k < 3 → parseFieldDescriptor (TX10 k).2.2.1 = some (tyX10 k) := by decide +kernel
abbrev cX10_init : ByteArray := prog_12_method_1_code
def yX10_init : MethodName := ⟨RX10, "<init>", "()V"⟩
abbrev cX10_isFull : ByteArray := prog_12_method_2_code
def yX10_isFull : MethodName := ⟨RX10, "isFull", "()Z"⟩
abbrev cX10_put : ByteArray := prog_12_method_3_code
def yX10_put : MethodName := ⟨RX10, "put", "(II)I"⟩
abbrev cX10_emptied : ByteArray := prog_12_method_4_code
def yX10_emptied : MethodName := ⟨RX10, "emptied", "()I"⟩
abbrev cX10_leastSpin : ByteArray := prog_12_method_5_code
def yX10_leastSpin : MethodName := ⟨RX10, "leastSpin", "()I"⟩
abbrev cX10_greatestSpin : ByteArray := prog_12_method_6_code
def yX10_greatestSpin : MethodName := ⟨RX10, "greatestSpin", "()I"⟩
def RX11 : String := "TwoOnACable"
def TX11 : u_T := fun k => match k with
  | 0 => ("TwoOnACable", "page", "LTwoOnACable$Page;", true)
  | 1 => ("TwoOnACable", "cable", "LTwoOnACable$Cable;", true)
  | 2 => ("TwoOnACable", "load", "LTwoOnACable$Load;", true)
  | 3 => ("TwoOnACable", "told", "LTwoOnACable$Told;", true)
  | 4 => ("TwoOnACable", "evening", "LTwoOnACable$Evening;", true)
  | 5 => ("TwoOnACable", "search", "LTwoOnACable$Search;", true)
  | 6 => ("TwoOnACable", "trial", "LTwoOnACable$Cable;", true)
  | 7 => ("TwoOnACable", "keptCable", "LTwoOnACable$Cable;", true)
  | 8 => ("TwoOnACable", "isKept", "Z", false)
  | _ => ("TwoOnACable", "reads", "I", false)
def tyX11 : Nat → FieldType := fun k => match k with
  | 0 => .object "TwoOnACable$Page"
  | 1 => .object "TwoOnACable$Cable"
  | 2 => .object "TwoOnACable$Load"
  | 3 => .object "TwoOnACable$Told"
  | 4 => .object "TwoOnACable$Evening"
  | 5 => .object "TwoOnACable$Search"
  | 6 => .object "TwoOnACable$Cable"
  | 7 => .object "TwoOnACable$Cable"
  | 8 => .boolean
  | _ => .int
abbrev wsX110 : List Cond := u_ws RX11 TX11 10
theorem nmX11 : ∀ a, a < 10 → ∀ b, b < 10 → a ≠ b → (TX11 a).2.1 ≠ (TX11 b).2.1 := by decide +kernel
theorem tyX11_ok : ∀ k, k < 10 → parseFieldDescriptor (TX11 k).2.2.1 = some (tyX11 k) := by decide +kernel
abbrev cX11_init : ByteArray := prog_1_method_1_code
def yX11_init : MethodName := ⟨RX11, "<init>", "()V"⟩
abbrev cX11_letters : ByteArray := prog_1_method_2_code
def yX11_letters : MethodName := ⟨RX11, "letters", "(J)I"⟩
abbrev cX11_blank : ByteArray := prog_1_method_3_code
def yX11_blank : MethodName := ⟨RX11, "blank", "()I"⟩
abbrev cX11_fault : ByteArray := prog_1_method_4_code
def yX11_fault : MethodName := ⟨RX11, "fault", "()I"⟩
abbrev cX11_wire : ByteArray := prog_1_method_5_code
def yX11_wire : MethodName := ⟨RX11, "wire", "()I"⟩
abbrev cX11_cabin : ByteArray := prog_1_method_6_code
def yX11_cabin : MethodName := ⟨RX11, "cabin", "(II)I"⟩
abbrev cX11_thing : ByteArray := prog_1_method_7_code
def yX11_thing : MethodName := ⟨RX11, "thing", "(III)I"⟩
abbrev cX11_about : ByteArray := prog_1_method_8_code
def yX11_about : MethodName := ⟨RX11, "about", "(II)I"⟩
abbrev cX11_as : ByteArray := prog_1_method_9_code
def yX11_as : MethodName := ⟨RX11, "as", "(II)I"⟩
abbrev cX11_carry : ByteArray := prog_1_method_10_code
def yX11_carry : MethodName := ⟨RX11, "carry", "(I)I"⟩
abbrev cX11_hour : ByteArray := prog_1_method_11_code
def yX11_hour : MethodName := ⟨RX11, "hour", "(I)I"⟩
abbrev cX11_even : ByteArray := prog_1_method_12_code
def yX11_even : MethodName := ⟨RX11, "even", "(I)I"⟩
abbrev cX11_soonest : ByteArray := prog_1_method_13_code
def yX11_soonest : MethodName := ⟨RX11, "soonest", "(II)I"⟩
abbrev cX11_caught : ByteArray := prog_1_method_14_code
def yX11_caught : MethodName := ⟨RX11, "caught", "(I)I"⟩
abbrev cX11_weighed : ByteArray := prog_1_method_15_code
def yX11_weighed : MethodName := ⟨RX11, "weighed", "(II)I"⟩
abbrev cX11_forget : ByteArray := prog_1_method_16_code
def yX11_forget : MethodName := ⟨RX11, "forget", "()I"⟩
abbrev cX11_fits : ByteArray := prog_1_method_17_code
def yX11_fits : MethodName := ⟨RX11, "fits", "(I)I"⟩
abbrev cX11_lasts : ByteArray := prog_1_method_18_code
def yX11_lasts : MethodName := ⟨RX11, "lasts", "(II)J"⟩
abbrev cX11_whirls : ByteArray := prog_1_method_19_code
def yX11_whirls : MethodName := ⟨RX11, "whirls", "(III)I"⟩
abbrev cX11_image : ByteArray := prog_1_method_20_code
def yX11_image : MethodName := ⟨RX11, "image", "()I"⟩
abbrev cX11_restore : ByteArray := prog_1_method_21_code
def yX11_restore : MethodName := ⟨RX11, "restore", "()I"⟩
abbrev cX11_count : ByteArray := prog_1_method_22_code
def yX11_count : MethodName := ⟨RX11, "count", "(I)I"⟩
abbrev cX11_digest : ByteArray := prog_1_method_23_code
def yX11_digest : MethodName := ⟨RX11, "digest", "()J"⟩
abbrev cX11_withCabins : ByteArray := prog_1_method_24_code
def yX11_withCabins : MethodName := ⟨RX11, "withCabins", "(J)J"⟩
abbrev cX11_withThings : ByteArray := prog_1_method_25_code
def yX11_withThings : MethodName := ⟨RX11, "withThings", "(J)J"⟩
abbrev cX11_withOutlook : ByteArray := prog_1_method_26_code
def yX11_withOutlook : MethodName := ⟨RX11, "withOutlook", "(J)J"⟩
abbrev cX11_tryHours : ByteArray := prog_1_method_27_code
def yX11_tryHours : MethodName := ⟨RX11, "tryHours", "(II)I"⟩
abbrev cX11_nextSeed : ByteArray := prog_1_method_28_code
def yX11_nextSeed : MethodName := ⟨RX11, "nextSeed", "(I)I"⟩
abbrev cX11_mixed : ByteArray := prog_1_method_29_code
def yX11_mixed : MethodName := ⟨RX11, "mixed", "(JJ)J"⟩
abbrev cX11_byteOf : ByteArray := prog_1_method_30_code
def yX11_byteOf : MethodName := ⟨RX11, "byteOf", "(JI)I"⟩
abbrev cX11_lettersIn : ByteArray := prog_1_method_31_code
def yX11_lettersIn : MethodName := ⟨RX11, "lettersIn", "(J)I"⟩
abbrev cX11_isCabin : ByteArray := prog_1_method_32_code
def yX11_isCabin : MethodName := ⟨RX11, "isCabin", "(I)Z"⟩
abbrev cX11_isKind : ByteArray := prog_1_method_33_code
def yX11_isKind : MethodName := ⟨RX11, "isKind", "(I)Z"⟩
abbrev cX11_isLength : ByteArray := prog_1_method_34_code
def yX11_isLength : MethodName := ⟨RX11, "isLength", "(I)Z"⟩
abbrev cX11_apartOnCircle : ByteArray := prog_1_method_35_code
def yX11_apartOnCircle : MethodName := ⟨RX11, "apartOnCircle", "(II)I"⟩
abbrev cX11_windingOf : ByteArray := prog_1_method_36_code
def yX11_windingOf : MethodName := ⟨RX11, "windingOf", "(I)I"⟩
abbrev cX11_reduced : ByteArray := prog_1_method_37_code
def yX11_reduced : MethodName := ⟨RX11, "reduced", "(II)I"⟩
abbrev cX11_power : ByteArray := prog_1_method_38_code
def yX11_power : MethodName := ⟨RX11, "power", "(II)J"⟩
abbrev cX11_newThing : ByteArray := prog_1_method_39_code
def yX11_newThing : MethodName := ⟨RX11, "newThing", "(IIII)LTwoOnACable$Thing;"⟩
abbrev cX11_isOfKind : ByteArray := prog_1_method_40_code
def yX11_isOfKind : MethodName := ⟨RX11, "isOfKind", "(LTwoOnACable$Thing;I)Z"⟩
def RX12 : String := "TwoOnACableModel"
def TX12 : u_T := fun k => match k with
  | 0 => ("TwoOnACableModel", "isWire", "Z", false)
  | 1 => ("TwoOnACableModel", "wires", "I", false)
  | 2 => ("TwoOnACableModel", "length", "I", false)
  | 3 => ("TwoOnACableModel", "spin", "I", false)
  | 4 => ("TwoOnACableModel", "bears", "I", false)
  | 5 => ("TwoOnACableModel", "isOld", "Z", false)
  | 6 => ("TwoOnACableModel", "isBroken", "Z", false)
  | 7 => ("TwoOnACableModel", "place", "I", false)
  | 8 => ("TwoOnACableModel", "hours", "I", false)
  | 9 => ("TwoOnACableModel", "things", "I", false)
  | 10 => ("TwoOnACableModel", "kindOf", "[I", true)
  | 11 => ("TwoOnACableModel", "weightOf", "[I", true)
  | 12 => ("TwoOnACableModel", "cabinOf", "[I", true)
  | 13 => ("TwoOnACableModel", "cameOf", "[I", true)
  | 14 => ("TwoOnACableModel", "told", "I", false)
  | 15 => ("TwoOnACableModel", "toldLength", "[I", true)
  | 16 => ("TwoOnACableModel", "toldTurns", "[I", true)
  | 17 => ("TwoOnACableModel", "pageLength", "I", false)
  | 18 => ("TwoOnACableModel", "page", "[B", true)
  | 19 => ("TwoOnACableModel", "faultAt", "I", false)
  | 20 => ("TwoOnACableModel", "isWhole", "Z", false)
  | 21 => ("TwoOnACableModel", "newLength", "I", false)
  | 22 => ("TwoOnACableModel", "newTurns", "I", false)
  | 23 => ("TwoOnACableModel", "newBears", "I", false)
  | 24 => ("TwoOnACableModel", "newOld", "Z", false)
  | 25 => ("TwoOnACableModel", "evenApart", "I", false)
  | 26 => ("TwoOnACableModel", "evenSet", "I", false)
  | 27 => ("TwoOnACableModel", "firstTo", "[I", true)
  | 28 => ("TwoOnACableModel", "firstThen", "[I", true)
  | 29 => ("TwoOnACableModel", "seedNow", "J", false)
  | 30 => ("TwoOnACableModel", "isKept", "Z", false)
  | 31 => ("TwoOnACableModel", "keptWire", "I", false)
  | 32 => ("TwoOnACableModel", "keptLength", "I", false)
  | 33 => ("TwoOnACableModel", "keptPlace", "I", false)
  | 34 => ("TwoOnACableModel", "keptHours", "I", false)
  | 35 => ("TwoOnACableModel", "keptBroken", "Z", false)
  | 36 => ("TwoOnACableModel", "keptThings", "I", false)
  | 37 => ("TwoOnACableModel", "keptCabin", "[I", true)
  | 38 => ("TwoOnACableModel", "keptCame", "[I", true)
  | _ => ("TwoOnACableModel", "h", "J", false)
def tyX12 : Nat → FieldType := fun k => match k with
  | 0 => .boolean
  | 1 => .int
  | 2 => .int
  | 3 => .int
  | 4 => .int
  | 5 => .boolean
  | 6 => .boolean
  | 7 => .int
  | 8 => .int
  | 9 => .int
  | 10 => .array .int
  | 11 => .array .int
  | 12 => .array .int
  | 13 => .array .int
  | 14 => .int
  | 15 => .array .int
  | 16 => .array .int
  | 17 => .int
  | 18 => .array .byte
  | 19 => .int
  | 20 => .boolean
  | 21 => .int
  | 22 => .int
  | 23 => .int
  | 24 => .boolean
  | 25 => .int
  | 26 => .int
  | 27 => .array .int
  | 28 => .array .int
  | 29 => .long
  | 30 => .boolean
  | 31 => .int
  | 32 => .int
  | 33 => .int
  | 34 => .int
  | 35 => .boolean
  | 36 => .int
  | 37 => .array .int
  | 38 => .array .int
  | _ => .long
abbrev wsX120 : List Cond := u_ws RX12 TX12 40
theorem nmX12 : ∀ a, a < 40 → ∀ b, b < 40 → a ≠ b → (TX12 a).2.1 ≠ (TX12 b).2.1 := by decide +kernel
theorem tyX12_ok : ∀ k, k < 40 → parseFieldDescriptor (TX12 k).2.2.1 = some (tyX12 k) := by decide +kernel
abbrev cX12_init : ByteArray := prog_14_method_1_code
def yX12_init : MethodName := ⟨RX12, "<init>", "()V"⟩
abbrev cX12_within : ByteArray := prog_14_method_3_code
def yX12_within : MethodName := ⟨RX12, "within", "(III)Z"⟩
abbrev cX12_has : ByteArray := prog_14_method_4_code
def yX12_has : MethodName := ⟨RX12, "has", "(II)Z"⟩
abbrev cX12_letters : ByteArray := prog_14_method_5_code
def yX12_letters : MethodName := ⟨RX12, "letters", "(J)I"⟩
abbrev cX12_blank : ByteArray := prog_14_method_6_code
def yX12_blank : MethodName := ⟨RX12, "blank", "()I"⟩
abbrev cX12_takes : ByteArray := prog_14_method_7_code
def yX12_takes : MethodName := ⟨RX12, "takes", "(II)Z"⟩
abbrev cX12_readWire : ByteArray := prog_14_method_8_code
def yX12_readWire : MethodName := ⟨RX12, "readWire", "()V"⟩
abbrev cX12_fault : ByteArray := prog_14_method_9_code
def yX12_fault : MethodName := ⟨RX12, "fault", "()I"⟩
abbrev cX12_wire : ByteArray := prog_14_method_10_code
def yX12_wire : MethodName := ⟨RX12, "wire", "()I"⟩
abbrev cX12_weighs : ByteArray := prog_14_method_11_code
def yX12_weighs : MethodName := ⟨RX12, "weighs", "(II)I"⟩
abbrev cX12_cabinWeighs : ByteArray := prog_14_method_12_code
def yX12_cabinWeighs : MethodName := ⟨RX12, "cabinWeighs", "(III)I"⟩
abbrev cX12_turnsAt : ByteArray := prog_14_method_13_code
def yX12_turnsAt : MethodName := ⟨RX12, "turnsAt", "(I)I"⟩
abbrev cX12_armBy : ByteArray := prog_14_method_14_code
def yX12_armBy : MethodName := ⟨RX12, "armBy", "(IIII)I"⟩
abbrev cX12_floorBy : ByteArray := prog_14_method_15_code
def yX12_floorBy : MethodName := ⟨RX12, "floorBy", "(IIII)I"⟩
abbrev cX12_strainAt : ByteArray := prog_14_method_16_code
def yX12_strainAt : MethodName := ⟨RX12, "strainAt", "(II)I"⟩
abbrev cX12_inCabin : ByteArray := prog_14_method_17_code
def yX12_inCabin : MethodName := ⟨RX12, "inCabin", "(I)I"⟩
abbrev cX12_cabinNow : ByteArray := prog_14_method_18_code
def yX12_cabinNow : MethodName := ⟨RX12, "cabinNow", "(II)I"⟩
abbrev cX12_cabin : ByteArray := prog_14_method_19_code
def yX12_cabin : MethodName := ⟨RX12, "cabin", "(II)I"⟩
abbrev cX12_isThing : ByteArray := prog_14_method_20_code
def yX12_isThing : MethodName := ⟨RX12, "isThing", "(I)Z"⟩
abbrev cX12_thing : ByteArray := prog_14_method_21_code
def yX12_thing : MethodName := ⟨RX12, "thing", "(III)I"⟩
abbrev cX12_thingNow : ByteArray := prog_14_method_22_code
def yX12_thingNow : MethodName := ⟨RX12, "thingNow", "(II)I"⟩
abbrev cX12_about : ByteArray := prog_14_method_23_code
def yX12_about : MethodName := ⟨RX12, "about", "(II)I"⟩
abbrev cX12_as : ByteArray := prog_14_method_24_code
def yX12_as : MethodName := ⟨RX12, "as", "(II)I"⟩
abbrev cX12_mayCarry : ByteArray := prog_14_method_25_code
def yX12_mayCarry : MethodName := ⟨RX12, "mayCarry", "(I)Z"⟩
abbrev cX12_carry : ByteArray := prog_14_method_26_code
def yX12_carry : MethodName := ⟨RX12, "carry", "(I)I"⟩
abbrev cX12_isLength : ByteArray := prog_14_method_27_code
def yX12_isLength : MethodName := ⟨RX12, "isLength", "(I)Z"⟩
abbrev cX12_mayBe : ByteArray := prog_14_method_28_code
def yX12_mayBe : MethodName := ⟨RX12, "mayBe", "(I)Z"⟩
abbrev cX12_goHour : ByteArray := prog_14_method_29_code
def yX12_goHour : MethodName := ⟨RX12, "goHour", "(I)Z"⟩
abbrev cX12_hour : ByteArray := prog_14_method_30_code
def yX12_hour : MethodName := ⟨RX12, "hour", "(I)I"⟩
abbrev cX12_sized : ByteArray := prog_14_method_31_code
def yX12_sized : MethodName := ⟨RX12, "sized", "(I)I"⟩
abbrev cX12_layEven : ByteArray := prog_14_method_32_code
def yX12_layEven : MethodName := ⟨RX12, "layEven", "()V"⟩
abbrev cX12_evenNow : ByteArray := prog_14_method_33_code
def yX12_evenNow : MethodName := ⟨RX12, "evenNow", "(I)I"⟩
abbrev cX12_even : ByteArray := prog_14_method_34_code
def yX12_even : MethodName := ⟨RX12, "even", "(I)I"⟩
abbrev cX12_by : ByteArray := prog_14_method_35_code
def yX12_by : MethodName := ⟨RX12, "by", "(I)I"⟩
abbrev cX12_goLengths : ByteArray := prog_14_method_36_code
def yX12_goLengths : MethodName := ⟨RX12, "goLengths", "(I)V"⟩
abbrev cX12_firstBy : ByteArray := prog_14_method_37_code
def yX12_firstBy : MethodName := ⟨RX12, "firstBy", "(II)I"⟩
abbrev cX12_soonestNow : ByteArray := prog_14_method_38_code
def yX12_soonestNow : MethodName := ⟨RX12, "soonestNow", "(II)I"⟩
abbrev cX12_soonest : ByteArray := prog_14_method_39_code
def yX12_soonest : MethodName := ⟨RX12, "soonest", "(II)I"⟩
abbrev cX12_caughtNow : ByteArray := prog_14_method_40_code
def yX12_caughtNow : MethodName := ⟨RX12, "caughtNow", "(I)I"⟩
abbrev cX12_caught : ByteArray := prog_14_method_41_code
def yX12_caught : MethodName := ⟨RX12, "caught", "(I)I"⟩
abbrev cX12_weighed : ByteArray := prog_14_method_42_code
def yX12_weighed : MethodName := ⟨RX12, "weighed", "(II)I"⟩
abbrev cX12_forget : ByteArray := prog_14_method_43_code
def yX12_forget : MethodName := ⟨RX12, "forget", "()I"⟩
abbrev cX12_fitsNow : ByteArray := prog_14_method_44_code
def yX12_fitsNow : MethodName := ⟨RX12, "fitsNow", "(I)I"⟩
abbrev cX12_fits : ByteArray := prog_14_method_45_code
def yX12_fits : MethodName := ⟨RX12, "fits", "(I)I"⟩
abbrev cX12_lowest : ByteArray := prog_14_method_46_code
def yX12_lowest : MethodName := ⟨RX12, "lowest", "(JJI)J"⟩
abbrev cX12_breaksBy : ByteArray := prog_14_method_47_code
def yX12_breaksBy : MethodName := ⟨RX12, "breaksBy", "()I"⟩
abbrev cX12_lastsNow : ByteArray := prog_14_method_48_code
def yX12_lastsNow : MethodName := ⟨RX12, "lastsNow", "(II)J"⟩
abbrev cX12_lasts : ByteArray := prog_14_method_49_code
def yX12_lasts : MethodName := ⟨RX12, "lasts", "(II)J"⟩
abbrev cX12_draw : ByteArray := prog_14_method_50_code
def yX12_draw : MethodName := ⟨RX12, "draw", "(I)I"⟩
abbrev cX12_whirlsNow : ByteArray := prog_14_method_51_code
def yX12_whirlsNow : MethodName := ⟨RX12, "whirlsNow", "(III)I"⟩
abbrev cX12_whirls : ByteArray := prog_14_method_52_code
def yX12_whirls : MethodName := ⟨RX12, "whirls", "(III)I"⟩
abbrev cX12_image : ByteArray := prog_14_method_53_code
def yX12_image : MethodName := ⟨RX12, "image", "()I"⟩
abbrev cX12_restore : ByteArray := prog_14_method_54_code
def yX12_restore : MethodName := ⟨RX12, "restore", "()I"⟩
abbrev cX12_one : ByteArray := prog_14_method_55_code
def yX12_one : MethodName := ⟨RX12, "one", "(Z)I"⟩
abbrev cX12_howMany : ByteArray := prog_14_method_56_code
def yX12_howMany : MethodName := ⟨RX12, "howMany", "(I)I"⟩
abbrev cX12_count : ByteArray := prog_14_method_57_code
def yX12_count : MethodName := ⟨RX12, "count", "(I)I"⟩
abbrev cX12_mix : ByteArray := prog_14_method_58_code
def yX12_mix : MethodName := ⟨RX12, "mix", "(J)V"⟩
abbrev cX12_digest : ByteArray := prog_14_method_59_code
def yX12_digest : MethodName := ⟨RX12, "digest", "()J"⟩
def RJ9 : String := "java/lang/Math"
def TJ9 : u_T := fun k => match k with
  | _ => ("", "", "", false)
def tyJ9 : Nat → FieldType := fun k => match k with
  | _ => .int
abbrev wsJ90 : List Cond := u_ws RJ9 TJ9 0
theorem nmJ9 : ∀ a, a < 0 → ∀ b, b < 0 → a ≠ b → (TJ9 a).2.1 ≠ (TJ9 b).2.1 := by decide +kernel
theorem tyJ9_ok : ∀ k, k < 0 → parseFieldDescriptor (TJ9 k).2.2.1 = some (tyJ9 k) := by decide +kernel
abbrev cJ9_floorMod_7cf53 : ByteArray := prog_15_method_50_code
def yJ9_floorMod_7cf53 : MethodName := ⟨RJ9, "floorMod", "(II)I"⟩
abbrev cJ9_abs_0f7a4 : ByteArray := prog_15_method_59_code
def yJ9_abs_0f7a4 : MethodName := ⟨RJ9, "abs", "(I)I"⟩
abbrev cJ9_max_7cf53 : ByteArray := prog_15_method_65_code
def yJ9_max_7cf53 : MethodName := ⟨RJ9, "max", "(II)I"⟩
abbrev cJ9_min_7cf53 : ByteArray := prog_15_method_69_code
def yJ9_min_7cf53 : MethodName := ⟨RJ9, "min", "(II)I"⟩
def RL : String := "TwoOnACableLaw"
abbrev cL_law : ByteArray := code
def yL_law : MethodName := ⟨RL, "law", "([I)Z"⟩
abbrev vwCl : List vw_C := [(RX0, TX0, 7), (RX1, TX1, 3), (RX2, TX2, 7), (RX3, TX3, 3), (RX4, TX4, 3), (RX5, TX5, 3), (RX6, TX6, 4), (RX7, TX7, 2), (RX8, TX8, 4), (RX9, TX9, 3), (RX10, TX10, 3), (RX11, TX11, 10), (RX12, TX12, 40)]
end
section
/-! the tables' words that a callee may take over: one list for all methods -/
def gL : List Cond := lw_tbl.filter goodWord
theorem gd_all {ws : List Cond} (h : ∀ w ∈ ws, w ∈ gL) : GoodIn gL ws := fun w hw => ⟨h w hw, good_of_word (List.mem_filter.mp (h w hw)).2⟩
theorem gd_V {own C : String} {idx : Nat} {y : MethodName} {cw : Cond} (h1 : Cond.methodLink own idx y ∈ gL) (h2 : Cond.instanceMethod y ∈ gL) (h3 : Cond.selects C y y ∈ gL) (h4 : Cond.initialized C ∈ gL) (h5 : cw ∈ gL) : GoodIn gL (wsV own idx C y (cw :: gL)) := gd_all fun w hw => by
  simp only [wsV, List.cons_append, List.nil_append, List.mem_cons] at hw
  rcases hw with rfl | rfl | rfl | rfl | rfl | hw <;> assumption
theorem gd_S {own : String} {idx : Nat} {y : MethodName} {cw : Cond} (h1 : Cond.methodLink own idx y ∈ gL) (h2 : Cond.static y ∈ gL) (h4 : Cond.initialized y.cls ∈ gL) (h5 : cw ∈ gL) : GoodIn gL (va_wsS own idx y (cw :: gL)) := gd_all fun w hw => by
  simp only [va_wsS, List.cons_append, List.nil_append, List.mem_cons] at hw
  rcases hw with rfl | rfl | rfl | rfl | hw <;> assumption
theorem gd_U {own C owner : String} {idx : Nat} {x y : MethodName} {cw : Cond} (h1 : Cond.methodLink own idx x ∈ gL) (h2 : Cond.sameMethod x.cls owner x.name x.desc ∈ gL) (h3 : Cond.selects C x y ∈ gL) (h4 : Cond.instanceMethod y ∈ gL) (h6 : Cond.initialized y.cls ∈ gL) (h5 : cw ∈ gL) : GoodIn gL (va_wsU own idx C owner x y (cw :: gL)) := gd_all fun w hw => by
  simp only [va_wsU, List.cons_append, List.nil_append, List.mem_cons] at hw
  rcases hw with rfl | rfl | rfl | rfl | rfl | rfl | hw <;> assumption
theorem gd_O {own C owner : String} {idx : Nat} {x y : MethodName} {cw : Cond} (h1 : Cond.methodLink own idx x ∈ gL) (h2 : Cond.sameMethod x.cls owner x.name x.desc ∈ gL) (h7 : Cond.instanceMethod ⟨owner, x.name, x.desc⟩ ∈ gL) (h3 : Cond.selects C x y ∈ gL) (h4 : Cond.instanceMethod y ∈ gL) (h6 : Cond.initialized y.cls ∈ gL) (h5 : cw ∈ gL) : GoodIn gL (va_wsO own idx C owner x y (cw :: gL)) := gd_all fun w hw => by
  simp only [va_wsO, List.cons_append, List.nil_append, List.mem_cons] at hw
  rcases hw with rfl | rfl | rfl | rfl | rfl | rfl | rfl | hw <;> assumption
theorem gd_N {cw : Cond} (h5 : cw ∈ gL) : GoodIn gL (cw :: gL) := gd_all fun w hw => by
  simp only [List.mem_cons] at hw
  rcases hw with rfl | hw <;> assumption
theorem gm_1 {w : Cond} (h : w ∈ tables_1_1) (g : goodWord w = true) : w ∈ gL := List.mem_filter.mpr ⟨List.mem_append_right _ (List.mem_append_left _ h), g⟩
theorem gm_2 {w : Cond} (h : w ∈ tables_1_2) (g : goodWord w = true) : w ∈ gL := List.mem_filter.mpr ⟨List.mem_append_right _ (List.mem_append_right _ (List.mem_append_left _ h)), g⟩
theorem gm_3 {w : Cond} (h : w ∈ tables_1_3) (g : goodWord w = true) : w ∈ gL := List.mem_filter.mpr ⟨List.mem_append_right _ (List.mem_append_right _ (List.mem_append_right _ (List.mem_append_left _ h))), g⟩
theorem gm_4 {w : Cond} (h : w ∈ tables_1_4) (g : goodWord w = true) : w ∈ gL := List.mem_filter.mpr ⟨List.mem_append_right _ (List.mem_append_right _ (List.mem_append_right _ (List.mem_append_right _ (List.mem_append_left _ h)))), g⟩
theorem gm_5 {w : Cond} (h : w ∈ tables_1_5) (g : goodWord w = true) : w ∈ gL := List.mem_filter.mpr ⟨List.mem_append_right _ (List.mem_append_right _ (List.mem_append_right _ (List.mem_append_right _ (List.mem_append_right _ (h))))), g⟩
theorem gm_0 {w : Cond} (h : w ∈ k2_sels lw_privs) (g : goodWord w = true) : w ∈ gL := List.mem_filter.mpr ⟨List.mem_append_left _ h, g⟩
theorem wt_0 : Cond.initialized "TwoOnACableLaw" ∈ gL := gm_1 (List.mem_of_getElem? (i := 0) (by decide +kernel)) rfl
theorem wt_1 : Cond.initialized "TwoOnACable" ∈ gL := gm_1 (List.mem_of_getElem? (i := 1) (by decide +kernel)) rfl
theorem wt_2 : Cond.initialized "TwoOnACable$Page" ∈ gL := gm_1 (List.mem_of_getElem? (i := 2) (by decide +kernel)) rfl
theorem wt_3 : Cond.initialized "TwoOnACable$Cable" ∈ gL := gm_1 (List.mem_of_getElem? (i := 3) (by decide +kernel)) rfl
theorem wt_4 : Cond.initialized "TwoOnACable$Load" ∈ gL := gm_1 (List.mem_of_getElem? (i := 4) (by decide +kernel)) rfl
theorem wt_5 : Cond.initialized "TwoOnACable$Told" ∈ gL := gm_1 (List.mem_of_getElem? (i := 5) (by decide +kernel)) rfl
theorem wt_6 : Cond.initialized "TwoOnACable$Evening" ∈ gL := gm_1 (List.mem_of_getElem? (i := 6) (by decide +kernel)) rfl
theorem wt_7 : Cond.initialized "TwoOnACable$Search" ∈ gL := gm_1 (List.mem_of_getElem? (i := 7) (by decide +kernel)) rfl
theorem wt_8 : Cond.initialized "TwoOnACableModel" ∈ gL := gm_1 (List.mem_of_getElem? (i := 8) (by decide +kernel)) rfl
theorem wt_9 : Cond.initialized "java/lang/Math" ∈ gL := gm_1 (List.mem_of_getElem? (i := 9) (by decide +kernel)) rfl
theorem wt_10 : Cond.initialized "TwoOnACable$Thing" ∈ gL := gm_1 (List.mem_of_getElem? (i := 10) (by decide +kernel)) rfl
theorem wt_11 : Cond.initialized "TwoOnACable$Cook" ∈ gL := gm_1 (List.mem_of_getElem? (i := 11) (by decide +kernel)) rfl
theorem wt_12 : Cond.initialized "TwoOnACable$Guest" ∈ gL := gm_1 (List.mem_of_getElem? (i := 12) (by decide +kernel)) rfl
theorem wt_13 : Cond.initialized "TwoOnACable$Live" ∈ gL := gm_1 (List.mem_of_getElem? (i := 13) (by decide +kernel)) rfl
theorem wt_14 : Cond.initialized "TwoOnACable$Hens" ∈ gL := gm_1 (List.mem_of_getElem? (i := 14) (by decide +kernel)) rfl
theorem wt_15 : Cond.classLink "TwoOnACableLaw" 7 "TwoOnACable" ∈ gL := gm_1 (List.mem_of_getElem? (i := 15) (by decide +kernel)) rfl
theorem wt_16 : Cond.instantiable "TwoOnACable" 10 ∈ gL := gm_1 (List.mem_of_getElem? (i := 16) (by decide +kernel)) rfl
theorem wt_17 : Cond.methodLink "TwoOnACableLaw" 9 yX11_init ∈ gL := gm_1 (List.mem_of_getElem? (i := 17) (by decide +kernel)) rfl
theorem wt_18 : Cond.instanceMethod yX11_init ∈ gL := gm_1 (List.mem_of_getElem? (i := 18) (by decide +kernel)) rfl
theorem wt_19 : Cond.code yX11_init prog_1_method_1_code 1 (none : Option FieldType) ∈ gL := gm_1 (List.mem_of_getElem? (i := 19) (by decide +kernel)) rfl
theorem wt_20 : Cond.methodLink "TwoOnACable" 1 objectInit ∈ gL := gm_1 (List.mem_of_getElem? (i := 20) (by decide +kernel)) rfl
theorem wt_21 : Cond.instanceMethod objectInit ∈ gL := gm_1 (List.mem_of_getElem? (i := 21) (by decide +kernel)) rfl
theorem wt_22 : Cond.code objectInit object_method_1_code 1 (none : Option FieldType) ∈ gL := gm_1 (List.mem_of_getElem? (i := 22) (by decide +kernel)) rfl
theorem wt_23 : Cond.classLink "TwoOnACable" 7 "TwoOnACable$Page" ∈ gL := gm_1 (List.mem_of_getElem? (i := 23) (by decide +kernel)) rfl
theorem wt_24 : Cond.instantiable "TwoOnACable$Page" 2 ∈ gL := gm_1 (List.mem_of_getElem? (i := 24) (by decide +kernel)) rfl
theorem wt_25 : Cond.instanceMethod yX7_init ∈ gL := gm_1 (List.mem_of_getElem? (i := 26) (by decide +kernel)) rfl
theorem wt_26 : Cond.code yX7_init prog_9_method_1_code 1 (none : Option FieldType) ∈ gL := gm_1 (List.mem_of_getElem? (i := 27) (by decide +kernel)) rfl
theorem wt_27 : Cond.methodLink "TwoOnACable$Page" 3 objectInit ∈ gL := gm_1 (List.mem_of_getElem? (i := 28) (by decide +kernel)) rfl
theorem wt_28 : Cond.fieldLink "TwoOnACable$Page" 9 "TwoOnACable$Page" "row" "[C" ∈ gL := gm_1 (List.mem_of_getElem? (i := 29) (by decide +kernel)) rfl
theorem wt_29 : Cond.fieldLink "TwoOnACable$Page" 15 "TwoOnACable$Page" "size" "I" ∈ gL := gm_1 (List.mem_of_getElem? (i := 30) (by decide +kernel)) rfl
theorem wt_30 : Cond.fieldLink "TwoOnACable" 73 "TwoOnACable$Page" "size" "I" ∈ gL := gm_1 (List.mem_of_getElem? (i := 31) (by decide +kernel)) rfl
theorem wt_31 : Cond.fieldLink "TwoOnACable$Cable" 27 "TwoOnACable$Page" "size" "I" ∈ gL := gm_1 (List.mem_of_getElem? (i := 32) (by decide +kernel)) rfl
theorem wt_32 : Cond.arrayClass FieldType.char ∈ gL := gm_1 (List.mem_of_getElem? (i := 38) (by decide +kernel)) rfl
theorem wt_33 : Cond.classLink "TwoOnACable" 16 "TwoOnACable$Cable" ∈ gL := gm_1 (List.mem_of_getElem? (i := 39) (by decide +kernel)) rfl
theorem wt_34 : Cond.instantiable "TwoOnACable$Cable" 7 ∈ gL := gm_1 (List.mem_of_getElem? (i := 40) (by decide +kernel)) rfl
theorem wt_35 : Cond.instanceMethod yX0_init ∈ gL := gm_1 (List.mem_of_getElem? (i := 42) (by decide +kernel)) rfl
theorem wt_36 : Cond.code yX0_init prog_2_method_1_code 1 (none : Option FieldType) ∈ gL := gm_1 (List.mem_of_getElem? (i := 43) (by decide +kernel)) rfl
theorem wt_37 : Cond.methodLink "TwoOnACable$Cable" 3 objectInit ∈ gL := gm_1 (List.mem_of_getElem? (i := 44) (by decide +kernel)) rfl
theorem wt_38 : Cond.fieldLink "TwoOnACable$Search" 18 "TwoOnACable$Cable" "length" "I" ∈ gL := gm_1 (List.mem_of_getElem? (i := 45) (by decide +kernel)) rfl
theorem wt_39 : Cond.fieldLink "TwoOnACable$Cable" 15 "TwoOnACable$Cable" "length" "I" ∈ gL := gm_1 (List.mem_of_getElem? (i := 46) (by decide +kernel)) rfl
theorem wt_40 : Cond.fieldLink "TwoOnACable$Evening" 77 "TwoOnACable$Cable" "length" "I" ∈ gL := gm_1 (List.mem_of_getElem? (i := 47) (by decide +kernel)) rfl
theorem wt_41 : Cond.fieldLink "TwoOnACable" 178 "TwoOnACable$Cable" "length" "I" ∈ gL := gm_1 (List.mem_of_getElem? (i := 48) (by decide +kernel)) rfl
theorem wt_42 : Cond.fieldLink "TwoOnACable$Cable" 21 "TwoOnACable$Cable" "spin" "I" ∈ gL := gm_1 (List.mem_of_getElem? (i := 49) (by decide +kernel)) rfl
theorem wt_43 : Cond.fieldLink "TwoOnACable" 104 "TwoOnACable$Cable" "spin" "I" ∈ gL := gm_1 (List.mem_of_getElem? (i := 50) (by decide +kernel)) rfl
theorem wt_44 : Cond.fieldLink "TwoOnACable$Cable" 24 "TwoOnACable$Cable" "bears" "I" ∈ gL := gm_1 (List.mem_of_getElem? (i := 51) (by decide +kernel)) rfl
theorem wt_45 : Cond.fieldLink "TwoOnACable$Search" 74 "TwoOnACable$Cable" "bears" "I" ∈ gL := gm_1 (List.mem_of_getElem? (i := 52) (by decide +kernel)) rfl
theorem wt_46 : Cond.fieldLink "TwoOnACable" 260 "TwoOnACable$Cable" "bears" "I" ∈ gL := gm_1 (List.mem_of_getElem? (i := 53) (by decide +kernel)) rfl
theorem wt_47 : Cond.fieldLink "TwoOnACable$Cable" 34 "TwoOnACable$Cable" "place" "I" ∈ gL := gm_1 (List.mem_of_getElem? (i := 54) (by decide +kernel)) rfl
theorem wt_48 : Cond.fieldLink "TwoOnACable" 246 "TwoOnACable$Cable" "place" "I" ∈ gL := gm_1 (List.mem_of_getElem? (i := 55) (by decide +kernel)) rfl
theorem wt_49 : Cond.fieldLink "TwoOnACable$Search" 34 "TwoOnACable$Cable" "hours" "I" ∈ gL := gm_1 (List.mem_of_getElem? (i := 56) (by decide +kernel)) rfl
theorem wt_50 : Cond.fieldLink "TwoOnACable$Cable" 37 "TwoOnACable$Cable" "hours" "I" ∈ gL := gm_1 (List.mem_of_getElem? (i := 57) (by decide +kernel)) rfl
theorem wt_51 : Cond.fieldLink "TwoOnACable$Evening" 46 "TwoOnACable$Cable" "hours" "I" ∈ gL := gm_1 (List.mem_of_getElem? (i := 58) (by decide +kernel)) rfl
theorem wt_52 : Cond.fieldLink "TwoOnACable" 113 "TwoOnACable$Cable" "hours" "I" ∈ gL := gm_1 (List.mem_of_getElem? (i := 59) (by decide +kernel)) rfl
theorem wt_53 : Cond.fieldLink "TwoOnACable$Cable" 30 "TwoOnACable$Cable" "old" "Z" ∈ gL := gm_1 (List.mem_of_getElem? (i := 60) (by decide +kernel)) rfl
theorem wt_54 : Cond.fieldLink "TwoOnACable" 263 "TwoOnACable$Cable" "old" "Z" ∈ gL := gm_1 (List.mem_of_getElem? (i := 61) (by decide +kernel)) rfl
theorem wt_55 : Cond.fieldLink "TwoOnACable$Cable" 40 "TwoOnACable$Cable" "broken" "Z" ∈ gL := gm_1 (List.mem_of_getElem? (i := 62) (by decide +kernel)) rfl
theorem wt_56 : Cond.fieldLink "TwoOnACable" 188 "TwoOnACable$Cable" "broken" "Z" ∈ gL := gm_1 (List.mem_of_getElem? (i := 63) (by decide +kernel)) rfl
theorem wt_57 : Cond.classLink "TwoOnACable" 23 "TwoOnACable$Load" ∈ gL := gm_1 (List.mem_of_getElem? (i := 79) (by decide +kernel)) rfl
theorem wt_58 : Cond.instantiable "TwoOnACable$Load" 4 ∈ gL := gm_1 (List.mem_of_getElem? (i := 80) (by decide +kernel)) rfl
theorem wt_59 : Cond.instanceMethod yX6_init ∈ gL := gm_1 (List.mem_of_getElem? (i := 82) (by decide +kernel)) rfl
theorem wt_60 : Cond.code yX6_init prog_8_method_1_code 1 (none : Option FieldType) ∈ gL := gm_1 (List.mem_of_getElem? (i := 83) (by decide +kernel)) rfl
theorem wt_61 : Cond.methodLink "TwoOnACable$Load" 3 objectInit ∈ gL := gm_1 (List.mem_of_getElem? (i := 84) (by decide +kernel)) rfl
theorem wt_62 : Cond.classLink "TwoOnACable$Load" 9 "TwoOnACable$Thing" ∈ gL := gm_1 (List.mem_of_getElem? (i := 85) (by decide +kernel)) rfl
theorem wt_63 : Cond.fieldLink "TwoOnACable$Load" 11 "TwoOnACable$Load" "things" "[LTwoOnACable$Thing;" ∈ gL := gm_1 (List.mem_of_getElem? (i := 87) (by decide +kernel)) rfl
theorem wt_64 : Cond.fieldLink "TwoOnACable$Load" 17 "TwoOnACable$Load" "keptPlaces" "[I" ∈ gL := gm_1 (List.mem_of_getElem? (i := 88) (by decide +kernel)) rfl
theorem wt_65 : Cond.fieldLink "TwoOnACable$Load" 21 "TwoOnACable$Load" "size" "I" ∈ gL := gm_1 (List.mem_of_getElem? (i := 89) (by decide +kernel)) rfl
theorem wt_66 : Cond.fieldLink "TwoOnACable" 266 "TwoOnACable$Load" "size" "I" ∈ gL := gm_1 (List.mem_of_getElem? (i := 90) (by decide +kernel)) rfl
theorem wt_67 : Cond.fieldLink "TwoOnACable$Load" 31 "TwoOnACable$Load" "keptSize" "I" ∈ gL := gm_1 (List.mem_of_getElem? (i := 91) (by decide +kernel)) rfl
theorem wt_68 : Cond.arrayClass FieldType.int ∈ gL := gm_1 (List.mem_of_getElem? (i := 101) (by decide +kernel)) rfl
theorem wt_69 : Cond.classLink "TwoOnACable" 30 "TwoOnACable$Told" ∈ gL := gm_1 (List.mem_of_getElem? (i := 102) (by decide +kernel)) rfl
theorem wt_70 : Cond.instantiable "TwoOnACable$Told" 3 ∈ gL := gm_1 (List.mem_of_getElem? (i := 103) (by decide +kernel)) rfl
theorem wt_71 : Cond.instanceMethod yX10_init ∈ gL := gm_1 (List.mem_of_getElem? (i := 105) (by decide +kernel)) rfl
theorem wt_72 : Cond.code yX10_init prog_12_method_1_code 1 (none : Option FieldType) ∈ gL := gm_1 (List.mem_of_getElem? (i := 106) (by decide +kernel)) rfl
theorem wt_73 : Cond.methodLink "TwoOnACable$Told" 3 objectInit ∈ gL := gm_1 (List.mem_of_getElem? (i := 107) (by decide +kernel)) rfl
theorem wt_74 : Cond.fieldLink "TwoOnACable$Told" 9 "TwoOnACable$Told" "lengths" "[I" ∈ gL := gm_1 (List.mem_of_getElem? (i := 108) (by decide +kernel)) rfl
theorem wt_75 : Cond.fieldLink "TwoOnACable$Told" 15 "TwoOnACable$Told" "turns" "[I" ∈ gL := gm_1 (List.mem_of_getElem? (i := 109) (by decide +kernel)) rfl
theorem wt_76 : Cond.fieldLink "TwoOnACable$Told" 18 "TwoOnACable$Told" "size" "I" ∈ gL := gm_1 (List.mem_of_getElem? (i := 110) (by decide +kernel)) rfl
theorem wt_77 : Cond.fieldLink "TwoOnACable" 267 "TwoOnACable$Told" "size" "I" ∈ gL := gm_1 (List.mem_of_getElem? (i := 111) (by decide +kernel)) rfl
theorem wt_78 : Cond.classLink "TwoOnACable" 37 "TwoOnACable$Evening" ∈ gL := gm_1 (List.mem_of_getElem? (i := 119) (by decide +kernel)) rfl
theorem wt_79 : Cond.instantiable "TwoOnACable$Evening" 7 ∈ gL := gm_1 (List.mem_of_getElem? (i := 120) (by decide +kernel)) rfl
theorem wt_80 : Cond.instanceMethod yX2_init ∈ gL := gm_1 (List.mem_of_getElem? (i := 122) (by decide +kernel)) rfl
theorem wt_81 : Cond.code yX2_init prog_4_method_1_code 1 (none : Option FieldType) ∈ gL := gm_1 (List.mem_of_getElem? (i := 123) (by decide +kernel)) rfl
theorem wt_82 : Cond.methodLink "TwoOnACable$Evening" 3 objectInit ∈ gL := gm_1 (List.mem_of_getElem? (i := 124) (by decide +kernel)) rfl
theorem wt_83 : Cond.fieldLink "TwoOnACable$Evening" 9 "TwoOnACable$Evening" "weighs" "[I" ∈ gL := gm_1 (List.mem_of_getElem? (i := 125) (by decide +kernel)) rfl
theorem wt_84 : Cond.fieldLink "TwoOnACable$Evening" 15 "TwoOnACable$Evening" "gains" "[I" ∈ gL := gm_1 (List.mem_of_getElem? (i := 126) (by decide +kernel)) rfl
theorem wt_85 : Cond.fieldLink "TwoOnACable$Evening" 34 "TwoOnACable$Evening" "apart" "I" ∈ gL := gm_1 (List.mem_of_getElem? (i := 127) (by decide +kernel)) rfl
theorem wt_86 : Cond.fieldLink "TwoOnACable" 195 "TwoOnACable$Evening" "apart" "I" ∈ gL := gm_1 (List.mem_of_getElem? (i := 128) (by decide +kernel)) rfl
theorem wt_87 : Cond.fieldLink "TwoOnACable$Evening" 37 "TwoOnACable$Evening" "bits" "I" ∈ gL := gm_1 (List.mem_of_getElem? (i := 129) (by decide +kernel)) rfl
theorem wt_88 : Cond.fieldLink "TwoOnACable" 198 "TwoOnACable$Evening" "bits" "I" ∈ gL := gm_1 (List.mem_of_getElem? (i := 130) (by decide +kernel)) rfl
theorem wt_89 : Cond.fieldLink "TwoOnACable$Evening" 22 "TwoOnACable$Evening" "staying" "I" ∈ gL := gm_1 (List.mem_of_getElem? (i := 131) (by decide +kernel)) rfl
theorem wt_90 : Cond.fieldLink "TwoOnACable$Evening" 55 "TwoOnACable$Evening" "first" "I" ∈ gL := gm_1 (List.mem_of_getElem? (i := 132) (by decide +kernel)) rfl
theorem wt_91 : Cond.fieldLink "TwoOnACable$Evening" 58 "TwoOnACable$Evening" "both" "I" ∈ gL := gm_1 (List.mem_of_getElem? (i := 133) (by decide +kernel)) rfl
theorem wt_92 : Cond.classLink "TwoOnACable" 44 "TwoOnACable$Search" ∈ gL := gm_1 (List.mem_of_getElem? (i := 149) (by decide +kernel)) rfl
theorem wt_93 : Cond.instantiable "TwoOnACable$Search" 4 ∈ gL := gm_1 (List.mem_of_getElem? (i := 150) (by decide +kernel)) rfl
theorem wt_94 : Cond.instanceMethod yX8_init ∈ gL := gm_1 (List.mem_of_getElem? (i := 152) (by decide +kernel)) rfl
theorem wt_95 : Cond.code yX8_init prog_10_method_1_code 1 (none : Option FieldType) ∈ gL := gm_1 (List.mem_of_getElem? (i := 153) (by decide +kernel)) rfl
theorem wt_96 : Cond.methodLink "TwoOnACable$Search" 3 objectInit ∈ gL := gm_1 (List.mem_of_getElem? (i := 154) (by decide +kernel)) rfl
theorem wt_97 : Cond.fieldLink "TwoOnACable$Search" 9 "TwoOnACable$Search" "now" "[I" ∈ gL := gm_1 (List.mem_of_getElem? (i := 155) (by decide +kernel)) rfl
theorem wt_98 : Cond.fieldLink "TwoOnACable$Search" 15 "TwoOnACable$Search" "next" "[I" ∈ gL := gm_1 (List.mem_of_getElem? (i := 156) (by decide +kernel)) rfl
theorem wt_99 : Cond.fieldLink "TwoOnACable$Search" 28 "TwoOnACable$Search" "hours" "I" ∈ gL := gm_1 (List.mem_of_getElem? (i := 157) (by decide +kernel)) rfl
theorem wt_100 : Cond.fieldLink "TwoOnACable" 204 "TwoOnACable$Search" "hours" "I" ∈ gL := gm_1 (List.mem_of_getElem? (i := 158) (by decide +kernel)) rfl
theorem wt_101 : Cond.fieldLink "TwoOnACable$Search" 31 "TwoOnACable$Search" "first" "I" ∈ gL := gm_1 (List.mem_of_getElem? (i := 159) (by decide +kernel)) rfl
theorem wt_102 : Cond.fieldLink "TwoOnACable" 205 "TwoOnACable$Search" "first" "I" ∈ gL := gm_1 (List.mem_of_getElem? (i := 160) (by decide +kernel)) rfl
theorem wt_103 : Cond.fieldLink "TwoOnACable" 10 "TwoOnACable" "page" "LTwoOnACable$Page;" ∈ gL := gm_1 (List.mem_of_getElem? (i := 170) (by decide +kernel)) rfl
theorem wt_104 : Cond.fieldLink "TwoOnACable" 19 "TwoOnACable" "cable" "LTwoOnACable$Cable;" ∈ gL := gm_1 (List.mem_of_getElem? (i := 171) (by decide +kernel)) rfl
theorem wt_105 : Cond.fieldLink "TwoOnACable" 26 "TwoOnACable" "load" "LTwoOnACable$Load;" ∈ gL := gm_1 (List.mem_of_getElem? (i := 172) (by decide +kernel)) rfl
theorem wt_106 : Cond.fieldLink "TwoOnACable" 33 "TwoOnACable" "told" "LTwoOnACable$Told;" ∈ gL := gm_1 (List.mem_of_getElem? (i := 173) (by decide +kernel)) rfl
theorem wt_107 : Cond.fieldLink "TwoOnACable" 40 "TwoOnACable" "evening" "LTwoOnACable$Evening;" ∈ gL := gm_1 (List.mem_of_getElem? (i := 174) (by decide +kernel)) rfl
theorem wt_108 : Cond.fieldLink "TwoOnACable" 47 "TwoOnACable" "search" "LTwoOnACable$Search;" ∈ gL := gm_1 (List.mem_of_getElem? (i := 175) (by decide +kernel)) rfl
theorem wt_109 : Cond.fieldLink "TwoOnACable" 51 "TwoOnACable" "trial" "LTwoOnACable$Cable;" ∈ gL := gm_1 (List.mem_of_getElem? (i := 176) (by decide +kernel)) rfl
theorem wt_110 : Cond.fieldLink "TwoOnACable" 54 "TwoOnACable" "keptCable" "LTwoOnACable$Cable;" ∈ gL := gm_1 (List.mem_of_getElem? (i := 177) (by decide +kernel)) rfl
theorem wt_111 : Cond.fieldLink "TwoOnACable" 97 "TwoOnACable" "isKept" "Z" ∈ gL := gm_1 (List.mem_of_getElem? (i := 178) (by decide +kernel)) rfl
theorem wt_112 : Cond.fieldLink "TwoOnACable" 101 "TwoOnACable" "reads" "I" ∈ gL := gm_1 (List.mem_of_getElem? (i := 179) (by decide +kernel)) rfl
theorem wt_113 : Cond.methodLink "TwoOnACableLaw" 15 yX11_letters ∈ gL := gm_1 (List.mem_of_getElem? (i := 201) (by decide +kernel)) rfl
theorem wt_114 : Cond.instanceMethod yX11_letters ∈ gL := gm_1 (List.mem_of_getElem? (i := 202) (by decide +kernel)) rfl
theorem wt_115 : Cond.selects "TwoOnACable" yX11_letters yX11_letters ∈ gL := gm_1 (List.mem_of_getElem? (i := 203) (by decide +kernel)) rfl
theorem wt_116 : Cond.code yX11_letters prog_1_method_2_code 5 (some FieldType.int) ∈ gL := gm_1 (List.mem_of_getElem? (i := 204) (by decide +kernel)) rfl
theorem wt_117 : Cond.methodLink "TwoOnACable" 57 yX11_lettersIn ∈ gL := gm_1 (List.mem_of_getElem? (i := 205) (by decide +kernel)) rfl
theorem wt_118 : Cond.static yX11_lettersIn ∈ gL := gm_1 (List.mem_of_getElem? (i := 206) (by decide +kernel)) rfl
theorem wt_119 : Cond.code yX11_lettersIn prog_1_method_31_code 6 (some FieldType.int) ∈ gL := gm_1 (List.mem_of_getElem? (i := 207) (by decide +kernel)) rfl
theorem wt_120 : Cond.methodLink "TwoOnACable" 65 yX11_byteOf ∈ gL := gm_1 (List.mem_of_getElem? (i := 208) (by decide +kernel)) rfl
theorem wt_121 : Cond.static yX11_byteOf ∈ gL := gm_1 (List.mem_of_getElem? (i := 209) (by decide +kernel)) rfl
theorem wt_122 : Cond.code yX11_byteOf prog_1_method_30_code 3 (some FieldType.int) ∈ gL := gm_1 (List.mem_of_getElem? (i := 210) (by decide +kernel)) rfl
theorem wt_123 : Cond.methodLink "TwoOnACable" 61 yX7_hasRoomFor ∈ gL := gm_1 (List.mem_of_getElem? (i := 211) (by decide +kernel)) rfl
theorem wt_124 : Cond.instanceMethod yX7_hasRoomFor ∈ gL := gm_1 (List.mem_of_getElem? (i := 212) (by decide +kernel)) rfl
theorem wt_125 : Cond.selects "TwoOnACable$Page" yX7_hasRoomFor yX7_hasRoomFor ∈ gL := gm_1 (List.mem_of_getElem? (i := 213) (by decide +kernel)) rfl
theorem wt_126 : Cond.code yX7_hasRoomFor prog_9_method_2_code 2 (some FieldType.boolean) ∈ gL := gm_1 (List.mem_of_getElem? (i := 214) (by decide +kernel)) rfl
theorem wt_127 : Cond.methodLink "TwoOnACable" 69 yX7_put ∈ gL := gm_1 (List.mem_of_getElem? (i := 215) (by decide +kernel)) rfl
theorem wt_128 : Cond.instanceMethod yX7_put ∈ gL := gm_1 (List.mem_of_getElem? (i := 216) (by decide +kernel)) rfl
theorem wt_129 : Cond.selects "TwoOnACable$Page" yX7_put yX7_put ∈ gL := gm_1 (List.mem_of_getElem? (i := 217) (by decide +kernel)) rfl
theorem wt_130 : Cond.code yX7_put prog_9_method_3_code 2 (none : Option FieldType) ∈ gL := gm_1 (List.mem_of_getElem? (i := 218) (by decide +kernel)) rfl
theorem wt_131 : Cond.methodLink "TwoOnACableLaw" 20 yX11_blank ∈ gL := gm_1 (List.mem_of_getElem? (i := 219) (by decide +kernel)) rfl
theorem wt_132 : Cond.instanceMethod yX11_blank ∈ gL := gm_1 (List.mem_of_getElem? (i := 220) (by decide +kernel)) rfl
theorem wt_133 : Cond.selects "TwoOnACable" yX11_blank yX11_blank ∈ gL := gm_1 (List.mem_of_getElem? (i := 221) (by decide +kernel)) rfl
theorem wt_134 : Cond.code yX11_blank prog_1_method_3_code 1 (some FieldType.int) ∈ gL := gm_1 (List.mem_of_getElem? (i := 222) (by decide +kernel)) rfl
theorem wt_135 : Cond.methodLink "TwoOnACable" 77 yX7_emptied ∈ gL := gm_1 (List.mem_of_getElem? (i := 223) (by decide +kernel)) rfl
theorem wt_136 : Cond.instanceMethod yX7_emptied ∈ gL := gm_1 (List.mem_of_getElem? (i := 224) (by decide +kernel)) rfl
theorem wt_137 : Cond.selects "TwoOnACable$Page" yX7_emptied yX7_emptied ∈ gL := gm_1 (List.mem_of_getElem? (i := 225) (by decide +kernel)) rfl
theorem wt_138 : Cond.code yX7_emptied prog_9_method_5_code 2 (some FieldType.int) ∈ gL := gm_1 (List.mem_of_getElem? (i := 226) (by decide +kernel)) rfl
theorem wt_139 : Cond.methodLink "TwoOnACableLaw" 25 yX11_fault ∈ gL := gm_1 (List.mem_of_getElem? (i := 227) (by decide +kernel)) rfl
theorem wt_140 : Cond.instanceMethod yX11_fault ∈ gL := gm_1 (List.mem_of_getElem? (i := 228) (by decide +kernel)) rfl
theorem wt_141 : Cond.selects "TwoOnACable" yX11_fault yX11_fault ∈ gL := gm_1 (List.mem_of_getElem? (i := 229) (by decide +kernel)) rfl
theorem wt_142 : Cond.code yX11_fault prog_1_method_4_code 1 (some FieldType.int) ∈ gL := gm_1 (List.mem_of_getElem? (i := 230) (by decide +kernel)) rfl
theorem wt_143 : Cond.methodLink "TwoOnACable" 81 yX7_firstWrong ∈ gL := gm_1 (List.mem_of_getElem? (i := 231) (by decide +kernel)) rfl
theorem wt_144 : Cond.instanceMethod yX7_firstWrong ∈ gL := gm_1 (List.mem_of_getElem? (i := 232) (by decide +kernel)) rfl
theorem wt_145 : Cond.selects "TwoOnACable$Page" yX7_firstWrong yX7_firstWrong ∈ gL := gm_1 (List.mem_of_getElem? (i := 233) (by decide +kernel)) rfl
theorem wt_146 : Cond.code yX7_firstWrong prog_9_method_6_code 2 (some FieldType.int) ∈ gL := gm_1 (List.mem_of_getElem? (i := 234) (by decide +kernel)) rfl
theorem wt_147 : Cond.methodLink "TwoOnACable$Page" 19 yX7_isWireLetter ∈ gL := gm_1 (List.mem_of_getElem? (i := 235) (by decide +kernel)) rfl
theorem wt_148 : Cond.instanceMethod yX7_isWireLetter ∈ gL := gm_1 (List.mem_of_getElem? (i := 237) (by decide +kernel)) rfl
theorem wt_149 : Cond.code yX7_isWireLetter prog_9_method_9_code 2 (some FieldType.boolean) ∈ gL := gm_1 (List.mem_of_getElem? (i := 238) (by decide +kernel)) rfl
theorem wt_150 : Cond.methodLink "TwoOnACable$Page" 31 yX7_isBetween ∈ gL := gm_1 (List.mem_of_getElem? (i := 239) (by decide +kernel)) rfl
theorem wt_151 : Cond.instanceMethod yX7_isBetween ∈ gL := gm_2 (List.mem_of_getElem? (i := 1) (by decide +kernel)) rfl
theorem wt_152 : Cond.code yX7_isBetween prog_9_method_10_code 4 (some FieldType.boolean) ∈ gL := gm_2 (List.mem_of_getElem? (i := 2) (by decide +kernel)) rfl
theorem wt_153 : Cond.methodLink "TwoOnACable$Page" 27 yX7_at ∈ gL := gm_2 (List.mem_of_getElem? (i := 3) (by decide +kernel)) rfl
theorem wt_154 : Cond.instanceMethod yX7_at ∈ gL := gm_2 (List.mem_of_getElem? (i := 4) (by decide +kernel)) rfl
theorem wt_155 : Cond.selects "TwoOnACable$Page" yX7_at yX7_at ∈ gL := gm_2 (List.mem_of_getElem? (i := 5) (by decide +kernel)) rfl
theorem wt_156 : Cond.code yX7_at prog_9_method_4_code 2 (some FieldType.int) ∈ gL := gm_2 (List.mem_of_getElem? (i := 6) (by decide +kernel)) rfl
theorem wt_157 : Cond.methodLink "TwoOnACableLaw" 29 yX11_wire ∈ gL := gm_2 (List.mem_of_getElem? (i := 7) (by decide +kernel)) rfl
theorem wt_158 : Cond.instanceMethod yX11_wire ∈ gL := gm_2 (List.mem_of_getElem? (i := 8) (by decide +kernel)) rfl
theorem wt_159 : Cond.selects "TwoOnACable" yX11_wire yX11_wire ∈ gL := gm_2 (List.mem_of_getElem? (i := 9) (by decide +kernel)) rfl
theorem wt_160 : Cond.code yX11_wire prog_1_method_5_code 1 (some FieldType.int) ∈ gL := gm_2 (List.mem_of_getElem? (i := 10) (by decide +kernel)) rfl
theorem wt_161 : Cond.methodLink "TwoOnACable" 84 yX7_isWire ∈ gL := gm_2 (List.mem_of_getElem? (i := 11) (by decide +kernel)) rfl
theorem wt_162 : Cond.instanceMethod yX7_isWire ∈ gL := gm_2 (List.mem_of_getElem? (i := 12) (by decide +kernel)) rfl
theorem wt_163 : Cond.selects "TwoOnACable$Page" yX7_isWire yX7_isWire ∈ gL := gm_2 (List.mem_of_getElem? (i := 13) (by decide +kernel)) rfl
theorem wt_164 : Cond.code yX7_isWire prog_9_method_7_code 1 (some FieldType.boolean) ∈ gL := gm_2 (List.mem_of_getElem? (i := 14) (by decide +kernel)) rfl
theorem wt_165 : Cond.methodLink "TwoOnACable$Page" 23 yX7_firstWrong ∈ gL := gm_2 (List.mem_of_getElem? (i := 15) (by decide +kernel)) rfl
theorem wt_166 : Cond.methodLink "TwoOnACable" 88 yX0_hang ∈ gL := gm_2 (List.mem_of_getElem? (i := 16) (by decide +kernel)) rfl
theorem wt_167 : Cond.instanceMethod yX0_hang ∈ gL := gm_2 (List.mem_of_getElem? (i := 17) (by decide +kernel)) rfl
theorem wt_168 : Cond.selects "TwoOnACable$Cable" yX0_hang yX0_hang ∈ gL := gm_2 (List.mem_of_getElem? (i := 18) (by decide +kernel)) rfl
theorem wt_169 : Cond.code yX0_hang prog_2_method_2_code 2 (none : Option FieldType) ∈ gL := gm_2 (List.mem_of_getElem? (i := 19) (by decide +kernel)) rfl
theorem wt_170 : Cond.methodLink "TwoOnACable$Cable" 9 yX7_digitAt ∈ gL := gm_2 (List.mem_of_getElem? (i := 20) (by decide +kernel)) rfl
theorem wt_171 : Cond.instanceMethod yX7_digitAt ∈ gL := gm_2 (List.mem_of_getElem? (i := 21) (by decide +kernel)) rfl
theorem wt_172 : Cond.selects "TwoOnACable$Page" yX7_digitAt yX7_digitAt ∈ gL := gm_2 (List.mem_of_getElem? (i := 22) (by decide +kernel)) rfl
theorem wt_173 : Cond.code yX7_digitAt prog_9_method_8_code 2 (some FieldType.int) ∈ gL := gm_2 (List.mem_of_getElem? (i := 23) (by decide +kernel)) rfl
theorem wt_174 : Cond.methodLink "TwoOnACable" 92 yX6_cutTo ∈ gL := gm_2 (List.mem_of_getElem? (i := 24) (by decide +kernel)) rfl
theorem wt_175 : Cond.instanceMethod yX6_cutTo ∈ gL := gm_2 (List.mem_of_getElem? (i := 25) (by decide +kernel)) rfl
theorem wt_176 : Cond.selects "TwoOnACable$Load" yX6_cutTo yX6_cutTo ∈ gL := gm_2 (List.mem_of_getElem? (i := 26) (by decide +kernel)) rfl
theorem wt_177 : Cond.code yX6_cutTo prog_8_method_5_code 3 (none : Option FieldType) ∈ gL := gm_2 (List.mem_of_getElem? (i := 27) (by decide +kernel)) rfl
theorem wt_178 : Cond.methodLink "TwoOnACable$Load" 25 yJ9_min_7cf53 ∈ gL := gm_2 (List.mem_of_getElem? (i := 28) (by decide +kernel)) rfl
theorem wt_179 : Cond.static yJ9_min_7cf53 ∈ gL := gm_2 (List.mem_of_getElem? (i := 29) (by decide +kernel)) rfl
theorem wt_180 : Cond.code yJ9_min_7cf53 prog_15_method_69_code 2 (some FieldType.int) ∈ gL := gm_2 (List.mem_of_getElem? (i := 30) (by decide +kernel)) rfl
theorem wt_181 : Cond.methodLink "TwoOnACable" 96 yX10_emptied ∈ gL := gm_2 (List.mem_of_getElem? (i := 31) (by decide +kernel)) rfl
theorem wt_182 : Cond.instanceMethod yX10_emptied ∈ gL := gm_2 (List.mem_of_getElem? (i := 32) (by decide +kernel)) rfl
theorem wt_183 : Cond.selects "TwoOnACable$Told" yX10_emptied yX10_emptied ∈ gL := gm_2 (List.mem_of_getElem? (i := 33) (by decide +kernel)) rfl
theorem wt_184 : Cond.code yX10_emptied prog_12_method_4_code 2 (some FieldType.int) ∈ gL := gm_2 (List.mem_of_getElem? (i := 34) (by decide +kernel)) rfl
theorem wt_185 : Cond.methodLink "TwoOnACableLaw" 33 yX11_cabin ∈ gL := gm_2 (List.mem_of_getElem? (i := 35) (by decide +kernel)) rfl
theorem wt_186 : Cond.instanceMethod yX11_cabin ∈ gL := gm_2 (List.mem_of_getElem? (i := 36) (by decide +kernel)) rfl
theorem wt_187 : Cond.selects "TwoOnACable" yX11_cabin yX11_cabin ∈ gL := gm_2 (List.mem_of_getElem? (i := 37) (by decide +kernel)) rfl
theorem wt_188 : Cond.code yX11_cabin prog_1_method_6_code 3 (some FieldType.int) ∈ gL := gm_2 (List.mem_of_getElem? (i := 38) (by decide +kernel)) rfl
theorem wt_189 : Cond.methodLink "TwoOnACable" 107 yX11_isCabin ∈ gL := gm_2 (List.mem_of_getElem? (i := 39) (by decide +kernel)) rfl
theorem wt_190 : Cond.static yX11_isCabin ∈ gL := gm_2 (List.mem_of_getElem? (i := 40) (by decide +kernel)) rfl
theorem wt_191 : Cond.code yX11_isCabin prog_1_method_32_code 1 (some FieldType.boolean) ∈ gL := gm_2 (List.mem_of_getElem? (i := 41) (by decide +kernel)) rfl
theorem wt_192 : Cond.methodLink "TwoOnACable" 110 yX0_isThere ∈ gL := gm_2 (List.mem_of_getElem? (i := 42) (by decide +kernel)) rfl
theorem wt_193 : Cond.instanceMethod yX0_isThere ∈ gL := gm_2 (List.mem_of_getElem? (i := 43) (by decide +kernel)) rfl
theorem wt_194 : Cond.selects "TwoOnACable$Cable" yX0_isThere yX0_isThere ∈ gL := gm_2 (List.mem_of_getElem? (i := 44) (by decide +kernel)) rfl
theorem wt_195 : Cond.code yX0_isThere prog_2_method_4_code 1 (some FieldType.boolean) ∈ gL := gm_2 (List.mem_of_getElem? (i := 45) (by decide +kernel)) rfl
theorem wt_196 : Cond.methodLink "TwoOnACable" 116 yX6_weighsIn ∈ gL := gm_2 (List.mem_of_getElem? (i := 46) (by decide +kernel)) rfl
theorem wt_197 : Cond.instanceMethod yX6_weighsIn ∈ gL := gm_2 (List.mem_of_getElem? (i := 47) (by decide +kernel)) rfl
theorem wt_198 : Cond.selects "TwoOnACable$Load" yX6_weighsIn yX6_weighsIn ∈ gL := gm_2 (List.mem_of_getElem? (i := 48) (by decide +kernel)) rfl
theorem wt_199 : Cond.code yX6_weighsIn prog_8_method_8_code 6 (some FieldType.int) ∈ gL := gm_2 (List.mem_of_getElem? (i := 49) (by decide +kernel)) rfl
theorem wt_200 : Cond.methodLink "TwoOnACable$Load" 34 yX6_at ∈ gL := gm_2 (List.mem_of_getElem? (i := 50) (by decide +kernel)) rfl
theorem wt_201 : Cond.instanceMethod yX6_at ∈ gL := gm_2 (List.mem_of_getElem? (i := 51) (by decide +kernel)) rfl
theorem wt_202 : Cond.selects "TwoOnACable$Load" yX6_at yX6_at ∈ gL := gm_2 (List.mem_of_getElem? (i := 52) (by decide +kernel)) rfl
theorem wt_203 : Cond.code yX6_at prog_8_method_4_code 2 (some (FieldType.object "TwoOnACable$Thing")) ∈ gL := gm_2 (List.mem_of_getElem? (i := 53) (by decide +kernel)) rfl
theorem wt_204 : Cond.methodLink "TwoOnACable$Load" 45 yX9_weighs ∈ gL := gm_2 (List.mem_of_getElem? (i := 54) (by decide +kernel)) rfl
theorem wt_205 : Cond.instanceMethod yX9_weighs ∈ gL := gm_2 (List.mem_of_getElem? (i := 55) (by decide +kernel)) rfl
theorem wt_206 : Cond.selects "TwoOnACable$Thing" yX9_weighs yX9_weighs ∈ gL := gm_2 (List.mem_of_getElem? (i := 56) (by decide +kernel)) rfl
theorem wt_207 : Cond.sameMethod "TwoOnACable$Thing" "TwoOnACable$Thing" "weighs" "(I)I" ∈ gL := gm_2 (List.mem_of_getElem? (i := 57) (by decide +kernel)) rfl
theorem wt_208 : Cond.selects "TwoOnACable$Cook" yX9_weighs yX1_weighs ∈ gL := gm_2 (List.mem_of_getElem? (i := 58) (by decide +kernel)) rfl
theorem wt_209 : Cond.instanceMethod yX1_weighs ∈ gL := gm_2 (List.mem_of_getElem? (i := 59) (by decide +kernel)) rfl
theorem wt_210 : Cond.code yX1_weighs prog_3_method_3_code 2 (some FieldType.int) ∈ gL := gm_2 (List.mem_of_getElem? (i := 60) (by decide +kernel)) rfl
theorem wt_211 : Cond.selects "TwoOnACable$Guest" yX9_weighs yX9_weighs ∈ gL := gm_2 (List.mem_of_getElem? (i := 61) (by decide +kernel)) rfl
theorem wt_212 : Cond.selects "TwoOnACable$Hens" yX9_weighs yX4_weighs ∈ gL := gm_2 (List.mem_of_getElem? (i := 62) (by decide +kernel)) rfl
theorem wt_213 : Cond.instanceMethod yX4_weighs ∈ gL := gm_2 (List.mem_of_getElem? (i := 63) (by decide +kernel)) rfl
theorem wt_214 : Cond.code yX4_weighs prog_6_method_3_code 2 (some FieldType.int) ∈ gL := gm_2 (List.mem_of_getElem? (i := 64) (by decide +kernel)) rfl
theorem wt_215 : Cond.methodLink "TwoOnACable$Hens" 15 ⟨RX4, "grown", "(I)I"⟩ ∈ gL := gm_2 (List.mem_of_getElem? (i := 65) (by decide +kernel)) rfl
theorem wt_216 : Cond.sameMethod "TwoOnACable$Hens" "TwoOnACable$Live" "grown" "(I)I" ∈ gL := gm_2 (List.mem_of_getElem? (i := 66) (by decide +kernel)) rfl
theorem wt_217 : Cond.selects "TwoOnACable$Hens" ⟨RX4, "grown", "(I)I"⟩ yX5_grown ∈ gL := gm_2 (List.mem_of_getElem? (i := 68) (by decide +kernel)) rfl
theorem wt_218 : Cond.instanceMethod yX5_grown ∈ gL := gm_2 (List.mem_of_getElem? (i := 69) (by decide +kernel)) rfl
theorem wt_219 : Cond.code yX5_grown prog_7_method_4_code 2 (some FieldType.int) ∈ gL := gm_2 (List.mem_of_getElem? (i := 70) (by decide +kernel)) rfl
theorem wt_220 : Cond.methodLink "TwoOnACable$Live" 19 ⟨RX5, "hoursHere", "(I)I"⟩ ∈ gL := gm_2 (List.mem_of_getElem? (i := 71) (by decide +kernel)) rfl
theorem wt_221 : Cond.sameMethod "TwoOnACable$Live" "TwoOnACable$Thing" "hoursHere" "(I)I" ∈ gL := gm_2 (List.mem_of_getElem? (i := 72) (by decide +kernel)) rfl
theorem wt_222 : Cond.selects "TwoOnACable$Hens" ⟨RX5, "hoursHere", "(I)I"⟩ yX9_hoursHere ∈ gL := gm_2 (List.mem_of_getElem? (i := 74) (by decide +kernel)) rfl
theorem wt_223 : Cond.selects "TwoOnACable$Live" ⟨RX5, "hoursHere", "(I)I"⟩ yX9_hoursHere ∈ gL := gm_2 (List.mem_of_getElem? (i := 75) (by decide +kernel)) rfl
theorem wt_224 : Cond.instanceMethod yX9_hoursHere ∈ gL := gm_2 (List.mem_of_getElem? (i := 76) (by decide +kernel)) rfl
theorem wt_225 : Cond.code yX9_hoursHere prog_11_method_5_code 2 (some FieldType.int) ∈ gL := gm_2 (List.mem_of_getElem? (i := 77) (by decide +kernel)) rfl
theorem wt_226 : Cond.selects "TwoOnACable$Live" yX9_weighs yX5_weighs ∈ gL := gm_2 (List.mem_of_getElem? (i := 78) (by decide +kernel)) rfl
theorem wt_227 : Cond.instanceMethod yX5_weighs ∈ gL := gm_2 (List.mem_of_getElem? (i := 79) (by decide +kernel)) rfl
theorem wt_228 : Cond.code yX5_weighs prog_7_method_3_code 2 (some FieldType.int) ∈ gL := gm_2 (List.mem_of_getElem? (i := 80) (by decide +kernel)) rfl
theorem wt_229 : Cond.methodLink "TwoOnACable$Live" 15 yX5_grown ∈ gL := gm_2 (List.mem_of_getElem? (i := 81) (by decide +kernel)) rfl
theorem wt_230 : Cond.code yX9_weighs prog_11_method_3_code 2 (some FieldType.int) ∈ gL := gm_2 (List.mem_of_getElem? (i := 82) (by decide +kernel)) rfl
theorem wt_231 : Cond.methodLink "TwoOnACable" 120 yX0_armNow ∈ gL := gm_2 (List.mem_of_getElem? (i := 83) (by decide +kernel)) rfl
theorem wt_232 : Cond.instanceMethod yX0_armNow ∈ gL := gm_2 (List.mem_of_getElem? (i := 84) (by decide +kernel)) rfl
theorem wt_233 : Cond.selects "TwoOnACable$Cable" yX0_armNow yX0_armNow ∈ gL := gm_2 (List.mem_of_getElem? (i := 85) (by decide +kernel)) rfl
theorem wt_234 : Cond.code yX0_armNow prog_2_method_11_code 3 (some FieldType.int) ∈ gL := gm_2 (List.mem_of_getElem? (i := 86) (by decide +kernel)) rfl
theorem wt_235 : Cond.methodLink "TwoOnACable$Cable" 57 yX6_weighsIn ∈ gL := gm_2 (List.mem_of_getElem? (i := 87) (by decide +kernel)) rfl
theorem wt_236 : Cond.methodLink "TwoOnACable$Cable" 50 yX0_armAt ∈ gL := gm_2 (List.mem_of_getElem? (i := 88) (by decide +kernel)) rfl
theorem wt_237 : Cond.instanceMethod yX0_armAt ∈ gL := gm_2 (List.mem_of_getElem? (i := 89) (by decide +kernel)) rfl
theorem wt_238 : Cond.selects "TwoOnACable$Cable" yX0_armAt yX0_armAt ∈ gL := gm_2 (List.mem_of_getElem? (i := 90) (by decide +kernel)) rfl
theorem wt_239 : Cond.code yX0_armAt prog_2_method_8_code 7 (some FieldType.int) ∈ gL := gm_2 (List.mem_of_getElem? (i := 91) (by decide +kernel)) rfl
theorem wt_240 : Cond.methodLink "TwoOnACable" 124 yX0_floorNow ∈ gL := gm_2 (List.mem_of_getElem? (i := 92) (by decide +kernel)) rfl
theorem wt_241 : Cond.instanceMethod yX0_floorNow ∈ gL := gm_2 (List.mem_of_getElem? (i := 93) (by decide +kernel)) rfl
theorem wt_242 : Cond.selects "TwoOnACable$Cable" yX0_floorNow yX0_floorNow ∈ gL := gm_2 (List.mem_of_getElem? (i := 94) (by decide +kernel)) rfl
theorem wt_243 : Cond.code yX0_floorNow prog_2_method_12_code 3 (some FieldType.int) ∈ gL := gm_2 (List.mem_of_getElem? (i := 95) (by decide +kernel)) rfl
theorem wt_244 : Cond.methodLink "TwoOnACable$Cable" 54 yX0_floorAt ∈ gL := gm_2 (List.mem_of_getElem? (i := 96) (by decide +kernel)) rfl
theorem wt_245 : Cond.instanceMethod yX0_floorAt ∈ gL := gm_2 (List.mem_of_getElem? (i := 97) (by decide +kernel)) rfl
theorem wt_246 : Cond.selects "TwoOnACable$Cable" yX0_floorAt yX0_floorAt ∈ gL := gm_2 (List.mem_of_getElem? (i := 98) (by decide +kernel)) rfl
theorem wt_247 : Cond.code yX0_floorAt prog_2_method_9_code 6 (some FieldType.int) ∈ gL := gm_2 (List.mem_of_getElem? (i := 99) (by decide +kernel)) rfl
theorem wt_248 : Cond.methodLink "TwoOnACable$Cable" 47 yX0_turnsAt ∈ gL := gm_2 (List.mem_of_getElem? (i := 100) (by decide +kernel)) rfl
theorem wt_249 : Cond.instanceMethod yX0_turnsAt ∈ gL := gm_2 (List.mem_of_getElem? (i := 101) (by decide +kernel)) rfl
theorem wt_250 : Cond.selects "TwoOnACable$Cable" yX0_turnsAt yX0_turnsAt ∈ gL := gm_2 (List.mem_of_getElem? (i := 102) (by decide +kernel)) rfl
theorem wt_251 : Cond.code yX0_turnsAt prog_2_method_6_code 2 (some FieldType.int) ∈ gL := gm_2 (List.mem_of_getElem? (i := 103) (by decide +kernel)) rfl
theorem wt_252 : Cond.static yX11_isLength ∈ gL := gm_2 (List.mem_of_getElem? (i := 105) (by decide +kernel)) rfl
theorem wt_253 : Cond.code yX11_isLength prog_1_method_34_code 1 (some FieldType.boolean) ∈ gL := gm_2 (List.mem_of_getElem? (i := 106) (by decide +kernel)) rfl
theorem wt_254 : Cond.methodLink "TwoOnACable" 127 yX6_sizeIn ∈ gL := gm_2 (List.mem_of_getElem? (i := 107) (by decide +kernel)) rfl
theorem wt_255 : Cond.instanceMethod yX6_sizeIn ∈ gL := gm_2 (List.mem_of_getElem? (i := 108) (by decide +kernel)) rfl
theorem wt_256 : Cond.selects "TwoOnACable$Load" yX6_sizeIn yX6_sizeIn ∈ gL := gm_2 (List.mem_of_getElem? (i := 109) (by decide +kernel)) rfl
theorem wt_257 : Cond.code yX6_sizeIn prog_8_method_9_code 5 (some FieldType.int) ∈ gL := gm_2 (List.mem_of_getElem? (i := 110) (by decide +kernel)) rfl
theorem wt_258 : Cond.methodLink "TwoOnACableLaw" 38 yX11_thing ∈ gL := gm_2 (List.mem_of_getElem? (i := 111) (by decide +kernel)) rfl
theorem wt_259 : Cond.instanceMethod yX11_thing ∈ gL := gm_2 (List.mem_of_getElem? (i := 112) (by decide +kernel)) rfl
theorem wt_260 : Cond.selects "TwoOnACable" yX11_thing yX11_thing ∈ gL := gm_2 (List.mem_of_getElem? (i := 113) (by decide +kernel)) rfl
theorem wt_261 : Cond.code yX11_thing prog_1_method_7_code 4 (some FieldType.int) ∈ gL := gm_2 (List.mem_of_getElem? (i := 114) (by decide +kernel)) rfl
theorem wt_262 : Cond.methodLink "TwoOnACable" 131 yX11_isKind ∈ gL := gm_2 (List.mem_of_getElem? (i := 115) (by decide +kernel)) rfl
theorem wt_263 : Cond.static yX11_isKind ∈ gL := gm_2 (List.mem_of_getElem? (i := 116) (by decide +kernel)) rfl
theorem wt_264 : Cond.code yX11_isKind prog_1_method_33_code 1 (some FieldType.boolean) ∈ gL := gm_2 (List.mem_of_getElem? (i := 117) (by decide +kernel)) rfl
theorem wt_265 : Cond.methodLink "TwoOnACable" 134 yX6_isFull ∈ gL := gm_2 (List.mem_of_getElem? (i := 118) (by decide +kernel)) rfl
theorem wt_266 : Cond.instanceMethod yX6_isFull ∈ gL := gm_2 (List.mem_of_getElem? (i := 119) (by decide +kernel)) rfl
theorem wt_267 : Cond.selects "TwoOnACable$Load" yX6_isFull yX6_isFull ∈ gL := gm_2 (List.mem_of_getElem? (i := 120) (by decide +kernel)) rfl
theorem wt_268 : Cond.code yX6_isFull prog_8_method_2_code 1 (some FieldType.boolean) ∈ gL := gm_2 (List.mem_of_getElem? (i := 121) (by decide +kernel)) rfl
theorem wt_269 : Cond.methodLink "TwoOnACable" 137 yX11_newThing ∈ gL := gm_2 (List.mem_of_getElem? (i := 122) (by decide +kernel)) rfl
theorem wt_270 : Cond.static yX11_newThing ∈ gL := gm_2 (List.mem_of_getElem? (i := 123) (by decide +kernel)) rfl
theorem wt_271 : Cond.code yX11_newThing prog_1_method_39_code 4 (some (FieldType.object "TwoOnACable$Thing")) ∈ gL := gm_2 (List.mem_of_getElem? (i := 124) (by decide +kernel)) rfl
theorem wt_272 : Cond.classLink "TwoOnACable" 325 "TwoOnACable$Cook" ∈ gL := gm_2 (List.mem_of_getElem? (i := 125) (by decide +kernel)) rfl
theorem wt_273 : Cond.instantiable "TwoOnACable$Cook" 3 ∈ gL := gm_2 (List.mem_of_getElem? (i := 126) (by decide +kernel)) rfl
theorem wt_274 : Cond.methodLink "TwoOnACable" 327 yX1_init ∈ gL := gm_2 (List.mem_of_getElem? (i := 127) (by decide +kernel)) rfl
theorem wt_275 : Cond.instanceMethod yX1_init ∈ gL := gm_2 (List.mem_of_getElem? (i := 128) (by decide +kernel)) rfl
theorem wt_276 : Cond.code yX1_init prog_3_method_1_code 4 (none : Option FieldType) ∈ gL := gm_2 (List.mem_of_getElem? (i := 129) (by decide +kernel)) rfl
theorem wt_277 : Cond.methodLink "TwoOnACable$Cook" 3 yX9_init ∈ gL := gm_2 (List.mem_of_getElem? (i := 130) (by decide +kernel)) rfl
theorem wt_278 : Cond.instanceMethod yX9_init ∈ gL := gm_2 (List.mem_of_getElem? (i := 131) (by decide +kernel)) rfl
theorem wt_279 : Cond.code yX9_init prog_11_method_1_code 4 (none : Option FieldType) ∈ gL := gm_2 (List.mem_of_getElem? (i := 132) (by decide +kernel)) rfl
theorem wt_280 : Cond.methodLink "TwoOnACable$Thing" 3 objectInit ∈ gL := gm_2 (List.mem_of_getElem? (i := 133) (by decide +kernel)) rfl
theorem wt_281 : Cond.fieldLink "TwoOnACable$Thing" 9 "TwoOnACable$Thing" "weight" "I" ∈ gL := gm_2 (List.mem_of_getElem? (i := 134) (by decide +kernel)) rfl
theorem wt_282 : Cond.fieldLink "TwoOnACable$Cook" 9 "TwoOnACable$Cook" "weight" "I" ∈ gL := gm_2 (List.mem_of_getElem? (i := 135) (by decide +kernel)) rfl
theorem wt_283 : Cond.sameField "TwoOnACable$Cook" "TwoOnACable$Thing" "weight" "I" ∈ gL := gm_2 (List.mem_of_getElem? (i := 136) (by decide +kernel)) rfl
theorem wt_284 : Cond.fieldLink "TwoOnACable$Hens" 9 "TwoOnACable$Hens" "weight" "I" ∈ gL := gm_2 (List.mem_of_getElem? (i := 137) (by decide +kernel)) rfl
theorem wt_285 : Cond.sameField "TwoOnACable$Hens" "TwoOnACable$Thing" "weight" "I" ∈ gL := gm_2 (List.mem_of_getElem? (i := 138) (by decide +kernel)) rfl
theorem wt_286 : Cond.fieldLink "TwoOnACable$Live" 9 "TwoOnACable$Live" "weight" "I" ∈ gL := gm_2 (List.mem_of_getElem? (i := 139) (by decide +kernel)) rfl
theorem wt_287 : Cond.sameField "TwoOnACable$Live" "TwoOnACable$Thing" "weight" "I" ∈ gL := gm_2 (List.mem_of_getElem? (i := 140) (by decide +kernel)) rfl
theorem wt_288 : Cond.fieldLink "TwoOnACable" 153 "TwoOnACable$Thing" "weight" "I" ∈ gL := gm_2 (List.mem_of_getElem? (i := 141) (by decide +kernel)) rfl
theorem wt_289 : Cond.fieldLink "TwoOnACable$Thing" 18 "TwoOnACable$Thing" "came" "I" ∈ gL := gm_2 (List.mem_of_getElem? (i := 142) (by decide +kernel)) rfl
theorem wt_290 : Cond.fieldLink "TwoOnACable$Thing" 15 "TwoOnACable$Thing" "place" "I" ∈ gL := gm_2 (List.mem_of_getElem? (i := 143) (by decide +kernel)) rfl
theorem wt_291 : Cond.fieldLink "TwoOnACable$Evening" 74 "TwoOnACable$Thing" "place" "I" ∈ gL := gm_2 (List.mem_of_getElem? (i := 144) (by decide +kernel)) rfl
theorem wt_292 : Cond.fieldLink "TwoOnACable$Load" 38 "TwoOnACable$Thing" "place" "I" ∈ gL := gm_2 (List.mem_of_getElem? (i := 145) (by decide +kernel)) rfl
theorem wt_293 : Cond.fieldLink "TwoOnACable" 156 "TwoOnACable$Thing" "place" "I" ∈ gL := gm_2 (List.mem_of_getElem? (i := 146) (by decide +kernel)) rfl
theorem wt_294 : Cond.classLink "TwoOnACable" 330 "TwoOnACable$Guest" ∈ gL := gm_2 (List.mem_of_getElem? (i := 154) (by decide +kernel)) rfl
theorem wt_295 : Cond.instantiable "TwoOnACable$Guest" 3 ∈ gL := gm_2 (List.mem_of_getElem? (i := 155) (by decide +kernel)) rfl
theorem wt_296 : Cond.methodLink "TwoOnACable" 332 yX3_init ∈ gL := gm_2 (List.mem_of_getElem? (i := 156) (by decide +kernel)) rfl
theorem wt_297 : Cond.instanceMethod yX3_init ∈ gL := gm_2 (List.mem_of_getElem? (i := 157) (by decide +kernel)) rfl
theorem wt_298 : Cond.code yX3_init prog_5_method_1_code 4 (none : Option FieldType) ∈ gL := gm_2 (List.mem_of_getElem? (i := 158) (by decide +kernel)) rfl
theorem wt_299 : Cond.methodLink "TwoOnACable$Guest" 3 yX9_init ∈ gL := gm_2 (List.mem_of_getElem? (i := 159) (by decide +kernel)) rfl
theorem wt_300 : Cond.classLink "TwoOnACable" 333 "TwoOnACable$Live" ∈ gL := gm_2 (List.mem_of_getElem? (i := 164) (by decide +kernel)) rfl
theorem wt_301 : Cond.instantiable "TwoOnACable$Live" 3 ∈ gL := gm_2 (List.mem_of_getElem? (i := 165) (by decide +kernel)) rfl
theorem wt_302 : Cond.methodLink "TwoOnACable" 335 yX5_init ∈ gL := gm_2 (List.mem_of_getElem? (i := 166) (by decide +kernel)) rfl
theorem wt_303 : Cond.instanceMethod yX5_init ∈ gL := gm_2 (List.mem_of_getElem? (i := 167) (by decide +kernel)) rfl
theorem wt_304 : Cond.code yX5_init prog_7_method_1_code 4 (none : Option FieldType) ∈ gL := gm_2 (List.mem_of_getElem? (i := 168) (by decide +kernel)) rfl
theorem wt_305 : Cond.methodLink "TwoOnACable$Live" 3 yX9_init ∈ gL := gm_2 (List.mem_of_getElem? (i := 169) (by decide +kernel)) rfl
theorem wt_306 : Cond.classLink "TwoOnACable" 336 "TwoOnACable$Hens" ∈ gL := gm_2 (List.mem_of_getElem? (i := 174) (by decide +kernel)) rfl
theorem wt_307 : Cond.instantiable "TwoOnACable$Hens" 3 ∈ gL := gm_2 (List.mem_of_getElem? (i := 175) (by decide +kernel)) rfl
theorem wt_308 : Cond.methodLink "TwoOnACable" 338 yX4_init ∈ gL := gm_2 (List.mem_of_getElem? (i := 176) (by decide +kernel)) rfl
theorem wt_309 : Cond.instanceMethod yX4_init ∈ gL := gm_2 (List.mem_of_getElem? (i := 177) (by decide +kernel)) rfl
theorem wt_310 : Cond.code yX4_init prog_6_method_1_code 4 (none : Option FieldType) ∈ gL := gm_2 (List.mem_of_getElem? (i := 178) (by decide +kernel)) rfl
theorem wt_311 : Cond.methodLink "TwoOnACable$Hens" 3 yX5_init ∈ gL := gm_2 (List.mem_of_getElem? (i := 179) (by decide +kernel)) rfl
theorem wt_312 : Cond.classLink "TwoOnACable" 149 "TwoOnACable$Thing" ∈ gL := gm_2 (List.mem_of_getElem? (i := 184) (by decide +kernel)) rfl
theorem wt_313 : Cond.instantiable "TwoOnACable$Thing" 3 ∈ gL := gm_2 (List.mem_of_getElem? (i := 185) (by decide +kernel)) rfl
theorem wt_314 : Cond.methodLink "TwoOnACable" 339 yX9_init ∈ gL := gm_2 (List.mem_of_getElem? (i := 186) (by decide +kernel)) rfl
theorem wt_315 : Cond.methodLink "TwoOnACable" 141 yX6_put ∈ gL := gm_2 (List.mem_of_getElem? (i := 191) (by decide +kernel)) rfl
theorem wt_316 : Cond.instanceMethod yX6_put ∈ gL := gm_2 (List.mem_of_getElem? (i := 192) (by decide +kernel)) rfl
theorem wt_317 : Cond.selects "TwoOnACable$Load" yX6_put yX6_put ∈ gL := gm_2 (List.mem_of_getElem? (i := 193) (by decide +kernel)) rfl
theorem wt_318 : Cond.code yX6_put prog_8_method_3_code 2 (some FieldType.int) ∈ gL := gm_2 (List.mem_of_getElem? (i := 194) (by decide +kernel)) rfl
theorem wt_319 : Cond.methodLink "TwoOnACableLaw" 43 yX11_about ∈ gL := gm_2 (List.mem_of_getElem? (i := 195) (by decide +kernel)) rfl
theorem wt_320 : Cond.instanceMethod yX11_about ∈ gL := gm_2 (List.mem_of_getElem? (i := 196) (by decide +kernel)) rfl
theorem wt_321 : Cond.selects "TwoOnACable" yX11_about yX11_about ∈ gL := gm_2 (List.mem_of_getElem? (i := 197) (by decide +kernel)) rfl
theorem wt_322 : Cond.code yX11_about prog_1_method_8_code 4 (some FieldType.int) ∈ gL := gm_2 (List.mem_of_getElem? (i := 198) (by decide +kernel)) rfl
theorem wt_323 : Cond.methodLink "TwoOnACable" 144 yX6_at ∈ gL := gm_2 (List.mem_of_getElem? (i := 199) (by decide +kernel)) rfl
theorem wt_324 : Cond.methodLink "TwoOnACable" 148 yX9_kind ∈ gL := gm_2 (List.mem_of_getElem? (i := 200) (by decide +kernel)) rfl
theorem wt_325 : Cond.instanceMethod yX9_kind ∈ gL := gm_2 (List.mem_of_getElem? (i := 201) (by decide +kernel)) rfl
theorem wt_326 : Cond.selects "TwoOnACable$Thing" yX9_kind yX9_kind ∈ gL := gm_2 (List.mem_of_getElem? (i := 202) (by decide +kernel)) rfl
theorem wt_327 : Cond.sameMethod "TwoOnACable$Thing" "TwoOnACable$Thing" "kind" "()I" ∈ gL := gm_2 (List.mem_of_getElem? (i := 203) (by decide +kernel)) rfl
theorem wt_328 : Cond.selects "TwoOnACable$Cook" yX9_kind yX1_kind ∈ gL := gm_2 (List.mem_of_getElem? (i := 204) (by decide +kernel)) rfl
theorem wt_329 : Cond.instanceMethod yX1_kind ∈ gL := gm_2 (List.mem_of_getElem? (i := 205) (by decide +kernel)) rfl
theorem wt_330 : Cond.code yX1_kind prog_3_method_2_code 1 (some FieldType.int) ∈ gL := gm_2 (List.mem_of_getElem? (i := 206) (by decide +kernel)) rfl
theorem wt_331 : Cond.selects "TwoOnACable$Guest" yX9_kind yX3_kind ∈ gL := gm_2 (List.mem_of_getElem? (i := 207) (by decide +kernel)) rfl
theorem wt_332 : Cond.instanceMethod yX3_kind ∈ gL := gm_2 (List.mem_of_getElem? (i := 208) (by decide +kernel)) rfl
theorem wt_333 : Cond.code yX3_kind prog_5_method_2_code 1 (some FieldType.int) ∈ gL := gm_2 (List.mem_of_getElem? (i := 209) (by decide +kernel)) rfl
theorem wt_334 : Cond.selects "TwoOnACable$Hens" yX9_kind yX4_kind ∈ gL := gm_2 (List.mem_of_getElem? (i := 210) (by decide +kernel)) rfl
theorem wt_335 : Cond.instanceMethod yX4_kind ∈ gL := gm_2 (List.mem_of_getElem? (i := 211) (by decide +kernel)) rfl
theorem wt_336 : Cond.code yX4_kind prog_6_method_2_code 1 (some FieldType.int) ∈ gL := gm_2 (List.mem_of_getElem? (i := 212) (by decide +kernel)) rfl
theorem wt_337 : Cond.selects "TwoOnACable$Live" yX9_kind yX5_kind ∈ gL := gm_2 (List.mem_of_getElem? (i := 213) (by decide +kernel)) rfl
theorem wt_338 : Cond.instanceMethod yX5_kind ∈ gL := gm_2 (List.mem_of_getElem? (i := 214) (by decide +kernel)) rfl
theorem wt_339 : Cond.code yX5_kind prog_7_method_2_code 1 (some FieldType.int) ∈ gL := gm_2 (List.mem_of_getElem? (i := 215) (by decide +kernel)) rfl
theorem wt_340 : Cond.code yX9_kind prog_11_method_2_code 1 (some FieldType.int) ∈ gL := gm_2 (List.mem_of_getElem? (i := 216) (by decide +kernel)) rfl
theorem wt_341 : Cond.methodLink "TwoOnACable" 159 yX9_weighs ∈ gL := gm_2 (List.mem_of_getElem? (i := 217) (by decide +kernel)) rfl
theorem wt_342 : Cond.methodLink "TwoOnACable" 162 yX9_hoursHere ∈ gL := gm_2 (List.mem_of_getElem? (i := 218) (by decide +kernel)) rfl
theorem wt_343 : Cond.methodLink "TwoOnACableLaw" 47 yX11_as ∈ gL := gm_2 (List.mem_of_getElem? (i := 219) (by decide +kernel)) rfl
theorem wt_344 : Cond.instanceMethod yX11_as ∈ gL := gm_2 (List.mem_of_getElem? (i := 220) (by decide +kernel)) rfl
theorem wt_345 : Cond.selects "TwoOnACable" yX11_as yX11_as ∈ gL := gm_2 (List.mem_of_getElem? (i := 221) (by decide +kernel)) rfl
theorem wt_346 : Cond.code yX11_as prog_1_method_9_code 4 (some FieldType.int) ∈ gL := gm_2 (List.mem_of_getElem? (i := 222) (by decide +kernel)) rfl
theorem wt_347 : Cond.methodLink "TwoOnACable" 165 yX11_isOfKind ∈ gL := gm_2 (List.mem_of_getElem? (i := 223) (by decide +kernel)) rfl
theorem wt_348 : Cond.static yX11_isOfKind ∈ gL := gm_2 (List.mem_of_getElem? (i := 224) (by decide +kernel)) rfl
theorem wt_349 : Cond.code yX11_isOfKind prog_1_method_40_code 2 (some FieldType.boolean) ∈ gL := gm_2 (List.mem_of_getElem? (i := 225) (by decide +kernel)) rfl
theorem wt_350 : Cond.methodLink "TwoOnACableLaw" 51 yX11_carry ∈ gL := gm_2 (List.mem_of_getElem? (i := 226) (by decide +kernel)) rfl
theorem wt_351 : Cond.instanceMethod yX11_carry ∈ gL := gm_2 (List.mem_of_getElem? (i := 227) (by decide +kernel)) rfl
theorem wt_352 : Cond.selects "TwoOnACable" yX11_carry yX11_carry ∈ gL := gm_2 (List.mem_of_getElem? (i := 228) (by decide +kernel)) rfl
theorem wt_353 : Cond.code yX11_carry prog_1_method_10_code 3 (some FieldType.int) ∈ gL := gm_2 (List.mem_of_getElem? (i := 229) (by decide +kernel)) rfl
theorem wt_354 : Cond.methodLink "TwoOnACable" 169 yX0_isWhole ∈ gL := gm_2 (List.mem_of_getElem? (i := 230) (by decide +kernel)) rfl
theorem wt_355 : Cond.instanceMethod yX0_isWhole ∈ gL := gm_2 (List.mem_of_getElem? (i := 231) (by decide +kernel)) rfl
theorem wt_356 : Cond.selects "TwoOnACable$Cable" yX0_isWhole yX0_isWhole ∈ gL := gm_2 (List.mem_of_getElem? (i := 232) (by decide +kernel)) rfl
theorem wt_357 : Cond.code yX0_isWhole prog_2_method_5_code 1 (some FieldType.boolean) ∈ gL := gm_2 (List.mem_of_getElem? (i := 233) (by decide +kernel)) rfl
theorem wt_358 : Cond.methodLink "TwoOnACable" 172 yX0_turnsNow ∈ gL := gm_2 (List.mem_of_getElem? (i := 234) (by decide +kernel)) rfl
theorem wt_359 : Cond.instanceMethod yX0_turnsNow ∈ gL := gm_2 (List.mem_of_getElem? (i := 235) (by decide +kernel)) rfl
theorem wt_360 : Cond.selects "TwoOnACable$Cable" yX0_turnsNow yX0_turnsNow ∈ gL := gm_2 (List.mem_of_getElem? (i := 236) (by decide +kernel)) rfl
theorem wt_361 : Cond.code yX0_turnsNow prog_2_method_7_code 1 (some FieldType.int) ∈ gL := gm_2 (List.mem_of_getElem? (i := 237) (by decide +kernel)) rfl
theorem wt_362 : Cond.methodLink "TwoOnACable" 175 yX9_goesAcross ∈ gL := gm_2 (List.mem_of_getElem? (i := 238) (by decide +kernel)) rfl
theorem wt_363 : Cond.instanceMethod yX9_goesAcross ∈ gL := gm_2 (List.mem_of_getElem? (i := 239) (by decide +kernel)) rfl
theorem wt_364 : Cond.selects "TwoOnACable$Thing" yX9_goesAcross yX9_goesAcross ∈ gL := gm_3 (List.mem_of_getElem? (i := 0) (by decide +kernel)) rfl
theorem wt_365 : Cond.sameMethod "TwoOnACable$Thing" "TwoOnACable$Thing" "goesAcross" "(I)Z" ∈ gL := gm_3 (List.mem_of_getElem? (i := 1) (by decide +kernel)) rfl
theorem wt_366 : Cond.selects "TwoOnACable$Cook" yX9_goesAcross yX9_goesAcross ∈ gL := gm_3 (List.mem_of_getElem? (i := 2) (by decide +kernel)) rfl
theorem wt_367 : Cond.selects "TwoOnACable$Guest" yX9_goesAcross yX3_goesAcross ∈ gL := gm_3 (List.mem_of_getElem? (i := 3) (by decide +kernel)) rfl
theorem wt_368 : Cond.instanceMethod yX3_goesAcross ∈ gL := gm_3 (List.mem_of_getElem? (i := 4) (by decide +kernel)) rfl
theorem wt_369 : Cond.code yX3_goesAcross prog_5_method_3_code 2 (some FieldType.boolean) ∈ gL := gm_3 (List.mem_of_getElem? (i := 5) (by decide +kernel)) rfl
theorem wt_370 : Cond.selects "TwoOnACable$Hens" yX9_goesAcross yX9_goesAcross ∈ gL := gm_3 (List.mem_of_getElem? (i := 6) (by decide +kernel)) rfl
theorem wt_371 : Cond.selects "TwoOnACable$Live" yX9_goesAcross yX9_goesAcross ∈ gL := gm_3 (List.mem_of_getElem? (i := 7) (by decide +kernel)) rfl
theorem wt_372 : Cond.code yX9_goesAcross prog_11_method_4_code 2 (some FieldType.boolean) ∈ gL := gm_3 (List.mem_of_getElem? (i := 8) (by decide +kernel)) rfl
theorem wt_373 : Cond.methodLink "TwoOnACableLaw" 56 yX11_hour ∈ gL := gm_3 (List.mem_of_getElem? (i := 9) (by decide +kernel)) rfl
theorem wt_374 : Cond.instanceMethod yX11_hour ∈ gL := gm_3 (List.mem_of_getElem? (i := 10) (by decide +kernel)) rfl
theorem wt_375 : Cond.selects "TwoOnACable" yX11_hour yX11_hour ∈ gL := gm_3 (List.mem_of_getElem? (i := 11) (by decide +kernel)) rfl
theorem wt_376 : Cond.code yX11_hour prog_1_method_11_code 2 (some FieldType.int) ∈ gL := gm_3 (List.mem_of_getElem? (i := 12) (by decide +kernel)) rfl
theorem wt_377 : Cond.methodLink "TwoOnACable" 181 yX11_isLength ∈ gL := gm_3 (List.mem_of_getElem? (i := 13) (by decide +kernel)) rfl
theorem wt_378 : Cond.methodLink "TwoOnACable" 184 yX0_goHour ∈ gL := gm_3 (List.mem_of_getElem? (i := 14) (by decide +kernel)) rfl
theorem wt_379 : Cond.instanceMethod yX0_goHour ∈ gL := gm_3 (List.mem_of_getElem? (i := 15) (by decide +kernel)) rfl
theorem wt_380 : Cond.selects "TwoOnACable$Cable" yX0_goHour yX0_goHour ∈ gL := gm_3 (List.mem_of_getElem? (i := 16) (by decide +kernel)) rfl
theorem wt_381 : Cond.code yX0_goHour prog_2_method_15_code 3 (none : Option FieldType) ∈ gL := gm_3 (List.mem_of_getElem? (i := 17) (by decide +kernel)) rfl
theorem wt_382 : Cond.methodLink "TwoOnACable$Cable" 76 yX0_placeAfter ∈ gL := gm_3 (List.mem_of_getElem? (i := 18) (by decide +kernel)) rfl
theorem wt_383 : Cond.instanceMethod yX0_placeAfter ∈ gL := gm_3 (List.mem_of_getElem? (i := 19) (by decide +kernel)) rfl
theorem wt_384 : Cond.selects "TwoOnACable$Cable" yX0_placeAfter yX0_placeAfter ∈ gL := gm_3 (List.mem_of_getElem? (i := 20) (by decide +kernel)) rfl
theorem wt_385 : Cond.code yX0_placeAfter prog_2_method_14_code 2 (some FieldType.int) ∈ gL := gm_3 (List.mem_of_getElem? (i := 21) (by decide +kernel)) rfl
theorem wt_386 : Cond.methodLink "TwoOnACable$Cable" 67 yX0_turnsNow ∈ gL := gm_3 (List.mem_of_getElem? (i := 22) (by decide +kernel)) rfl
theorem wt_387 : Cond.methodLink "TwoOnACable$Cable" 71 yJ9_floorMod_7cf53 ∈ gL := gm_3 (List.mem_of_getElem? (i := 23) (by decide +kernel)) rfl
theorem wt_388 : Cond.static yJ9_floorMod_7cf53 ∈ gL := gm_3 (List.mem_of_getElem? (i := 24) (by decide +kernel)) rfl
theorem wt_389 : Cond.code yJ9_floorMod_7cf53 prog_15_method_50_code 3 (some FieldType.int) ∈ gL := gm_3 (List.mem_of_getElem? (i := 25) (by decide +kernel)) rfl
theorem wt_390 : Cond.methodLink "TwoOnACable$Cable" 79 yX0_strainNow ∈ gL := gm_3 (List.mem_of_getElem? (i := 26) (by decide +kernel)) rfl
theorem wt_391 : Cond.instanceMethod yX0_strainNow ∈ gL := gm_3 (List.mem_of_getElem? (i := 27) (by decide +kernel)) rfl
theorem wt_392 : Cond.selects "TwoOnACable$Cable" yX0_strainNow yX0_strainNow ∈ gL := gm_3 (List.mem_of_getElem? (i := 28) (by decide +kernel)) rfl
theorem wt_393 : Cond.code yX0_strainNow prog_2_method_13_code 2 (some FieldType.int) ∈ gL := gm_3 (List.mem_of_getElem? (i := 29) (by decide +kernel)) rfl
theorem wt_394 : Cond.methodLink "TwoOnACable$Cable" 63 yX0_strainAt ∈ gL := gm_3 (List.mem_of_getElem? (i := 30) (by decide +kernel)) rfl
theorem wt_395 : Cond.instanceMethod yX0_strainAt ∈ gL := gm_3 (List.mem_of_getElem? (i := 31) (by decide +kernel)) rfl
theorem wt_396 : Cond.selects "TwoOnACable$Cable" yX0_strainAt yX0_strainAt ∈ gL := gm_3 (List.mem_of_getElem? (i := 32) (by decide +kernel)) rfl
theorem wt_397 : Cond.code yX0_strainAt prog_2_method_10_code 4 (some FieldType.int) ∈ gL := gm_3 (List.mem_of_getElem? (i := 33) (by decide +kernel)) rfl
theorem wt_398 : Cond.methodLink "TwoOnACableLaw" 60 yX11_even ∈ gL := gm_3 (List.mem_of_getElem? (i := 34) (by decide +kernel)) rfl
theorem wt_399 : Cond.instanceMethod yX11_even ∈ gL := gm_3 (List.mem_of_getElem? (i := 35) (by decide +kernel)) rfl
theorem wt_400 : Cond.selects "TwoOnACable" yX11_even yX11_even ∈ gL := gm_3 (List.mem_of_getElem? (i := 36) (by decide +kernel)) rfl
theorem wt_401 : Cond.code yX11_even prog_1_method_12_code 2 (some FieldType.int) ∈ gL := gm_3 (List.mem_of_getElem? (i := 37) (by decide +kernel)) rfl
theorem wt_402 : Cond.methodLink "TwoOnACable" 191 yX2_find ∈ gL := gm_3 (List.mem_of_getElem? (i := 38) (by decide +kernel)) rfl
theorem wt_403 : Cond.instanceMethod yX2_find ∈ gL := gm_3 (List.mem_of_getElem? (i := 39) (by decide +kernel)) rfl
theorem wt_404 : Cond.selects "TwoOnACable$Evening" yX2_find yX2_find ∈ gL := gm_3 (List.mem_of_getElem? (i := 40) (by decide +kernel)) rfl
theorem wt_405 : Cond.code yX2_find prog_4_method_2_code 7 (none : Option FieldType) ∈ gL := gm_3 (List.mem_of_getElem? (i := 41) (by decide +kernel)) rfl
theorem wt_406 : Cond.methodLink "TwoOnACable$Evening" 18 yX2_setUp ∈ gL := gm_3 (List.mem_of_getElem? (i := 42) (by decide +kernel)) rfl
theorem wt_407 : Cond.instanceMethod yX2_setUp ∈ gL := gm_3 (List.mem_of_getElem? (i := 44) (by decide +kernel)) rfl
theorem wt_408 : Cond.code yX2_setUp prog_4_method_3_code 6 (none : Option FieldType) ∈ gL := gm_3 (List.mem_of_getElem? (i := 45) (by decide +kernel)) rfl
theorem wt_409 : Cond.methodLink "TwoOnACable$Evening" 40 yX0_turnsNow ∈ gL := gm_3 (List.mem_of_getElem? (i := 46) (by decide +kernel)) rfl
theorem wt_410 : Cond.methodLink "TwoOnACable$Evening" 49 yX6_weighsIn ∈ gL := gm_3 (List.mem_of_getElem? (i := 47) (by decide +kernel)) rfl
theorem wt_411 : Cond.methodLink "TwoOnACable$Evening" 61 yX6_at ∈ gL := gm_3 (List.mem_of_getElem? (i := 48) (by decide +kernel)) rfl
theorem wt_412 : Cond.methodLink "TwoOnACable$Evening" 65 yX9_goesAcross ∈ gL := gm_3 (List.mem_of_getElem? (i := 49) (by decide +kernel)) rfl
theorem wt_413 : Cond.methodLink "TwoOnACable$Evening" 71 yX9_weighs ∈ gL := gm_3 (List.mem_of_getElem? (i := 50) (by decide +kernel)) rfl
theorem wt_414 : Cond.methodLink "TwoOnACable$Evening" 26 yX2_gapWith ∈ gL := gm_3 (List.mem_of_getElem? (i := 51) (by decide +kernel)) rfl
theorem wt_415 : Cond.instanceMethod yX2_gapWith ∈ gL := gm_3 (List.mem_of_getElem? (i := 53) (by decide +kernel)) rfl
theorem wt_416 : Cond.code yX2_gapWith prog_4_method_4_code 5 (some FieldType.int) ∈ gL := gm_3 (List.mem_of_getElem? (i := 54) (by decide +kernel)) rfl
theorem wt_417 : Cond.methodLink "TwoOnACable$Evening" 30 yX2_summed ∈ gL := gm_3 (List.mem_of_getElem? (i := 55) (by decide +kernel)) rfl
theorem wt_418 : Cond.static yX2_summed ∈ gL := gm_3 (List.mem_of_getElem? (i := 56) (by decide +kernel)) rfl
theorem wt_419 : Cond.code yX2_summed prog_4_method_5_code 4 (some FieldType.int) ∈ gL := gm_3 (List.mem_of_getElem? (i := 57) (by decide +kernel)) rfl
theorem wt_420 : Cond.methodLink "TwoOnACable$Evening" 80 yX0_floorAt ∈ gL := gm_3 (List.mem_of_getElem? (i := 58) (by decide +kernel)) rfl
theorem wt_421 : Cond.methodLink "TwoOnACable$Evening" 84 yJ9_abs_0f7a4 ∈ gL := gm_3 (List.mem_of_getElem? (i := 59) (by decide +kernel)) rfl
theorem wt_422 : Cond.static yJ9_abs_0f7a4 ∈ gL := gm_3 (List.mem_of_getElem? (i := 60) (by decide +kernel)) rfl
theorem wt_423 : Cond.code yJ9_abs_0f7a4 prog_15_method_59_code 1 (some FieldType.int) ∈ gL := gm_3 (List.mem_of_getElem? (i := 61) (by decide +kernel)) rfl
theorem wt_424 : Cond.methodLink "TwoOnACableLaw" 64 yX11_soonest ∈ gL := gm_3 (List.mem_of_getElem? (i := 62) (by decide +kernel)) rfl
theorem wt_425 : Cond.instanceMethod yX11_soonest ∈ gL := gm_3 (List.mem_of_getElem? (i := 63) (by decide +kernel)) rfl
theorem wt_426 : Cond.selects "TwoOnACable" yX11_soonest yX11_soonest ∈ gL := gm_3 (List.mem_of_getElem? (i := 64) (by decide +kernel)) rfl
theorem wt_427 : Cond.code yX11_soonest prog_1_method_13_code 3 (some FieldType.int) ∈ gL := gm_3 (List.mem_of_getElem? (i := 65) (by decide +kernel)) rfl
theorem wt_428 : Cond.methodLink "TwoOnACable" 201 yX8_find ∈ gL := gm_3 (List.mem_of_getElem? (i := 66) (by decide +kernel)) rfl
theorem wt_429 : Cond.instanceMethod yX8_find ∈ gL := gm_3 (List.mem_of_getElem? (i := 67) (by decide +kernel)) rfl
theorem wt_430 : Cond.selects "TwoOnACable$Search" yX8_find yX8_find ∈ gL := gm_3 (List.mem_of_getElem? (i := 68) (by decide +kernel)) rfl
theorem wt_431 : Cond.code yX8_find prog_10_method_2_code 8 (none : Option FieldType) ∈ gL := gm_3 (List.mem_of_getElem? (i := 69) (by decide +kernel)) rfl
theorem wt_432 : Cond.methodLink "TwoOnACable$Search" 24 yX8_begin ∈ gL := gm_3 (List.mem_of_getElem? (i := 70) (by decide +kernel)) rfl
theorem wt_433 : Cond.instanceMethod yX8_begin ∈ gL := gm_3 (List.mem_of_getElem? (i := 72) (by decide +kernel)) rfl
theorem wt_434 : Cond.code yX8_begin prog_10_method_3_code 3 (none : Option FieldType) ∈ gL := gm_3 (List.mem_of_getElem? (i := 73) (by decide +kernel)) rfl
theorem wt_435 : Cond.methodLink "TwoOnACable$Search" 35 yX6_weighsIn ∈ gL := gm_3 (List.mem_of_getElem? (i := 74) (by decide +kernel)) rfl
theorem wt_436 : Cond.methodLink "TwoOnACable$Search" 41 yX8_step ∈ gL := gm_3 (List.mem_of_getElem? (i := 75) (by decide +kernel)) rfl
theorem wt_437 : Cond.instanceMethod yX8_step ∈ gL := gm_3 (List.mem_of_getElem? (i := 77) (by decide +kernel)) rfl
theorem wt_438 : Cond.code yX8_step prog_10_method_4_code 3 (none : Option FieldType) ∈ gL := gm_3 (List.mem_of_getElem? (i := 78) (by decide +kernel)) rfl
theorem wt_439 : Cond.methodLink "TwoOnACable$Search" 53 yX8_stepFrom ∈ gL := gm_3 (List.mem_of_getElem? (i := 79) (by decide +kernel)) rfl
theorem wt_440 : Cond.instanceMethod yX8_stepFrom ∈ gL := gm_3 (List.mem_of_getElem? (i := 81) (by decide +kernel)) rfl
theorem wt_441 : Cond.code yX8_stepFrom prog_10_method_5_code 6 (none : Option FieldType) ∈ gL := gm_3 (List.mem_of_getElem? (i := 82) (by decide +kernel)) rfl
theorem wt_442 : Cond.static yX11_windingOf ∈ gL := gm_3 (List.mem_of_getElem? (i := 84) (by decide +kernel)) rfl
theorem wt_443 : Cond.code yX11_windingOf prog_1_method_36_code 1 (some FieldType.int) ∈ gL := gm_3 (List.mem_of_getElem? (i := 85) (by decide +kernel)) rfl
theorem wt_444 : Cond.methodLink "TwoOnACable$Search" 65 yJ9_min_7cf53 ∈ gL := gm_3 (List.mem_of_getElem? (i := 87) (by decide +kernel)) rfl
theorem wt_445 : Cond.methodLink "TwoOnACable$Search" 45 yX8_dropBroken ∈ gL := gm_3 (List.mem_of_getElem? (i := 88) (by decide +kernel)) rfl
theorem wt_446 : Cond.instanceMethod yX8_dropBroken ∈ gL := gm_3 (List.mem_of_getElem? (i := 90) (by decide +kernel)) rfl
theorem wt_447 : Cond.code yX8_dropBroken prog_10_method_6_code 5 (none : Option FieldType) ∈ gL := gm_3 (List.mem_of_getElem? (i := 91) (by decide +kernel)) rfl
theorem wt_448 : Cond.methodLink "TwoOnACable$Search" 70 yX0_strainAt ∈ gL := gm_3 (List.mem_of_getElem? (i := 92) (by decide +kernel)) rfl
theorem wt_449 : Cond.methodLink "TwoOnACable$Search" 49 yX8_leastWay ∈ gL := gm_3 (List.mem_of_getElem? (i := 93) (by decide +kernel)) rfl
theorem wt_450 : Cond.instanceMethod yX8_leastWay ∈ gL := gm_3 (List.mem_of_getElem? (i := 95) (by decide +kernel)) rfl
theorem wt_451 : Cond.code yX8_leastWay prog_10_method_7_code 8 (some FieldType.int) ∈ gL := gm_3 (List.mem_of_getElem? (i := 96) (by decide +kernel)) rfl
theorem wt_452 : Cond.methodLink "TwoOnACable$Search" 77 yX0_floorAt ∈ gL := gm_3 (List.mem_of_getElem? (i := 97) (by decide +kernel)) rfl
theorem wt_453 : Cond.methodLink "TwoOnACableLaw" 68 yX11_caught ∈ gL := gm_3 (List.mem_of_getElem? (i := 98) (by decide +kernel)) rfl
theorem wt_454 : Cond.instanceMethod yX11_caught ∈ gL := gm_3 (List.mem_of_getElem? (i := 99) (by decide +kernel)) rfl
theorem wt_455 : Cond.selects "TwoOnACable" yX11_caught yX11_caught ∈ gL := gm_3 (List.mem_of_getElem? (i := 100) (by decide +kernel)) rfl
theorem wt_456 : Cond.code yX11_caught prog_1_method_14_code 5 (some FieldType.int) ∈ gL := gm_3 (List.mem_of_getElem? (i := 101) (by decide +kernel)) rfl
theorem wt_457 : Cond.methodLink "TwoOnACable" 208 yJ9_floorMod_7cf53 ∈ gL := gm_3 (List.mem_of_getElem? (i := 102) (by decide +kernel)) rfl
theorem wt_458 : Cond.methodLink "TwoOnACable" 213 yX0_placeAfter ∈ gL := gm_3 (List.mem_of_getElem? (i := 103) (by decide +kernel)) rfl
theorem wt_459 : Cond.methodLink "TwoOnACable" 216 yX11_apartOnCircle ∈ gL := gm_3 (List.mem_of_getElem? (i := 104) (by decide +kernel)) rfl
theorem wt_460 : Cond.static yX11_apartOnCircle ∈ gL := gm_3 (List.mem_of_getElem? (i := 105) (by decide +kernel)) rfl
theorem wt_461 : Cond.code yX11_apartOnCircle prog_1_method_35_code 3 (some FieldType.int) ∈ gL := gm_3 (List.mem_of_getElem? (i := 106) (by decide +kernel)) rfl
theorem wt_462 : Cond.methodLink "TwoOnACable" 322 yJ9_min_7cf53 ∈ gL := gm_3 (List.mem_of_getElem? (i := 107) (by decide +kernel)) rfl
theorem wt_463 : Cond.methodLink "TwoOnACableLaw" 72 yX11_weighed ∈ gL := gm_3 (List.mem_of_getElem? (i := 108) (by decide +kernel)) rfl
theorem wt_464 : Cond.instanceMethod yX11_weighed ∈ gL := gm_3 (List.mem_of_getElem? (i := 109) (by decide +kernel)) rfl
theorem wt_465 : Cond.selects "TwoOnACable" yX11_weighed yX11_weighed ∈ gL := gm_3 (List.mem_of_getElem? (i := 110) (by decide +kernel)) rfl
theorem wt_466 : Cond.code yX11_weighed prog_1_method_15_code 3 (some FieldType.int) ∈ gL := gm_3 (List.mem_of_getElem? (i := 111) (by decide +kernel)) rfl
theorem wt_467 : Cond.methodLink "TwoOnACable" 219 yX10_isFull ∈ gL := gm_3 (List.mem_of_getElem? (i := 112) (by decide +kernel)) rfl
theorem wt_468 : Cond.instanceMethod yX10_isFull ∈ gL := gm_3 (List.mem_of_getElem? (i := 113) (by decide +kernel)) rfl
theorem wt_469 : Cond.selects "TwoOnACable$Told" yX10_isFull yX10_isFull ∈ gL := gm_3 (List.mem_of_getElem? (i := 114) (by decide +kernel)) rfl
theorem wt_470 : Cond.code yX10_isFull prog_12_method_2_code 1 (some FieldType.boolean) ∈ gL := gm_3 (List.mem_of_getElem? (i := 115) (by decide +kernel)) rfl
theorem wt_471 : Cond.methodLink "TwoOnACable" 220 yX10_put ∈ gL := gm_3 (List.mem_of_getElem? (i := 116) (by decide +kernel)) rfl
theorem wt_472 : Cond.instanceMethod yX10_put ∈ gL := gm_3 (List.mem_of_getElem? (i := 117) (by decide +kernel)) rfl
theorem wt_473 : Cond.selects "TwoOnACable$Told" yX10_put yX10_put ∈ gL := gm_3 (List.mem_of_getElem? (i := 118) (by decide +kernel)) rfl
theorem wt_474 : Cond.code yX10_put prog_12_method_3_code 3 (some FieldType.int) ∈ gL := gm_3 (List.mem_of_getElem? (i := 119) (by decide +kernel)) rfl
theorem wt_475 : Cond.methodLink "TwoOnACableLaw" 76 yX11_forget ∈ gL := gm_3 (List.mem_of_getElem? (i := 120) (by decide +kernel)) rfl
theorem wt_476 : Cond.instanceMethod yX11_forget ∈ gL := gm_3 (List.mem_of_getElem? (i := 121) (by decide +kernel)) rfl
theorem wt_477 : Cond.selects "TwoOnACable" yX11_forget yX11_forget ∈ gL := gm_3 (List.mem_of_getElem? (i := 122) (by decide +kernel)) rfl
theorem wt_478 : Cond.code yX11_forget prog_1_method_16_code 1 (some FieldType.int) ∈ gL := gm_3 (List.mem_of_getElem? (i := 123) (by decide +kernel)) rfl
theorem wt_479 : Cond.methodLink "TwoOnACableLaw" 80 yX11_fits ∈ gL := gm_3 (List.mem_of_getElem? (i := 124) (by decide +kernel)) rfl
theorem wt_480 : Cond.instanceMethod yX11_fits ∈ gL := gm_3 (List.mem_of_getElem? (i := 125) (by decide +kernel)) rfl
theorem wt_481 : Cond.selects "TwoOnACable" yX11_fits yX11_fits ∈ gL := gm_3 (List.mem_of_getElem? (i := 126) (by decide +kernel)) rfl
theorem wt_482 : Cond.code yX11_fits prog_1_method_17_code 4 (some FieldType.int) ∈ gL := gm_3 (List.mem_of_getElem? (i := 127) (by decide +kernel)) rfl
theorem wt_483 : Cond.methodLink "TwoOnACable" 222 yX10_leastSpin ∈ gL := gm_3 (List.mem_of_getElem? (i := 128) (by decide +kernel)) rfl
theorem wt_484 : Cond.instanceMethod yX10_leastSpin ∈ gL := gm_3 (List.mem_of_getElem? (i := 129) (by decide +kernel)) rfl
theorem wt_485 : Cond.selects "TwoOnACable$Told" yX10_leastSpin yX10_leastSpin ∈ gL := gm_3 (List.mem_of_getElem? (i := 130) (by decide +kernel)) rfl
theorem wt_486 : Cond.code yX10_leastSpin prog_12_method_5_code 3 (some FieldType.int) ∈ gL := gm_3 (List.mem_of_getElem? (i := 131) (by decide +kernel)) rfl
theorem wt_487 : Cond.methodLink "TwoOnACable$Told" 22 yJ9_max_7cf53 ∈ gL := gm_3 (List.mem_of_getElem? (i := 132) (by decide +kernel)) rfl
theorem wt_488 : Cond.static yJ9_max_7cf53 ∈ gL := gm_3 (List.mem_of_getElem? (i := 133) (by decide +kernel)) rfl
theorem wt_489 : Cond.code yJ9_max_7cf53 prog_15_method_65_code 2 (some FieldType.int) ∈ gL := gm_3 (List.mem_of_getElem? (i := 134) (by decide +kernel)) rfl
theorem wt_490 : Cond.methodLink "TwoOnACable" 225 yX10_greatestSpin ∈ gL := gm_3 (List.mem_of_getElem? (i := 135) (by decide +kernel)) rfl
theorem wt_491 : Cond.instanceMethod yX10_greatestSpin ∈ gL := gm_3 (List.mem_of_getElem? (i := 136) (by decide +kernel)) rfl
theorem wt_492 : Cond.selects "TwoOnACable$Told" yX10_greatestSpin yX10_greatestSpin ∈ gL := gm_3 (List.mem_of_getElem? (i := 137) (by decide +kernel)) rfl
theorem wt_493 : Cond.code yX10_greatestSpin prog_12_method_6_code 3 (some FieldType.int) ∈ gL := gm_3 (List.mem_of_getElem? (i := 138) (by decide +kernel)) rfl
theorem wt_494 : Cond.methodLink "TwoOnACable$Told" 28 yJ9_min_7cf53 ∈ gL := gm_3 (List.mem_of_getElem? (i := 139) (by decide +kernel)) rfl
theorem wt_495 : Cond.methodLink "TwoOnACableLaw" 84 yX11_lasts ∈ gL := gm_3 (List.mem_of_getElem? (i := 140) (by decide +kernel)) rfl
theorem wt_496 : Cond.instanceMethod yX11_lasts ∈ gL := gm_3 (List.mem_of_getElem? (i := 141) (by decide +kernel)) rfl
theorem wt_497 : Cond.selects "TwoOnACable" yX11_lasts yX11_lasts ∈ gL := gm_3 (List.mem_of_getElem? (i := 142) (by decide +kernel)) rfl
theorem wt_498 : Cond.code yX11_lasts prog_1_method_18_code 5 (some FieldType.long) ∈ gL := gm_3 (List.mem_of_getElem? (i := 143) (by decide +kernel)) rfl
theorem wt_499 : Cond.constantLong "TwoOnACable" 228 (-102 : Int64) ∈ gL := gm_3 (List.mem_of_getElem? (i := 144) (by decide +kernel)) rfl
theorem wt_500 : Cond.constantLong "TwoOnACable" 230 (-103 : Int64) ∈ gL := gm_3 (List.mem_of_getElem? (i := 145) (by decide +kernel)) rfl
theorem wt_501 : Cond.methodLink "TwoOnACable" 232 yX0_breakingHundredths ∈ gL := gm_3 (List.mem_of_getElem? (i := 146) (by decide +kernel)) rfl
theorem wt_502 : Cond.instanceMethod yX0_breakingHundredths ∈ gL := gm_3 (List.mem_of_getElem? (i := 147) (by decide +kernel)) rfl
theorem wt_503 : Cond.selects "TwoOnACable$Cable" yX0_breakingHundredths yX0_breakingHundredths ∈ gL := gm_3 (List.mem_of_getElem? (i := 148) (by decide +kernel)) rfl
theorem wt_504 : Cond.code yX0_breakingHundredths prog_2_method_16_code 3 (some FieldType.int) ∈ gL := gm_3 (List.mem_of_getElem? (i := 149) (by decide +kernel)) rfl
theorem wt_505 : Cond.methodLink "TwoOnACable$Cable" 83 yJ9_min_7cf53 ∈ gL := gm_3 (List.mem_of_getElem? (i := 150) (by decide +kernel)) rfl
theorem wt_506 : Cond.methodLink "TwoOnACable" 236 yX11_reduced ∈ gL := gm_3 (List.mem_of_getElem? (i := 151) (by decide +kernel)) rfl
theorem wt_507 : Cond.static yX11_reduced ∈ gL := gm_3 (List.mem_of_getElem? (i := 152) (by decide +kernel)) rfl
theorem wt_508 : Cond.code yX11_reduced prog_1_method_37_code 3 (some FieldType.int) ∈ gL := gm_3 (List.mem_of_getElem? (i := 153) (by decide +kernel)) rfl
theorem wt_509 : Cond.methodLink "TwoOnACable" 239 yX11_power ∈ gL := gm_3 (List.mem_of_getElem? (i := 154) (by decide +kernel)) rfl
theorem wt_510 : Cond.static yX11_power ∈ gL := gm_3 (List.mem_of_getElem? (i := 155) (by decide +kernel)) rfl
theorem wt_511 : Cond.code yX11_power prog_1_method_38_code 5 (some FieldType.long) ∈ gL := gm_3 (List.mem_of_getElem? (i := 156) (by decide +kernel)) rfl
theorem wt_512 : Cond.methodLink "TwoOnACableLaw" 89 yX11_whirls ∈ gL := gm_3 (List.mem_of_getElem? (i := 157) (by decide +kernel)) rfl
theorem wt_513 : Cond.instanceMethod yX11_whirls ∈ gL := gm_3 (List.mem_of_getElem? (i := 158) (by decide +kernel)) rfl
theorem wt_514 : Cond.selects "TwoOnACable" yX11_whirls yX11_whirls ∈ gL := gm_3 (List.mem_of_getElem? (i := 159) (by decide +kernel)) rfl
theorem wt_515 : Cond.code yX11_whirls prog_1_method_19_code 5 (some FieldType.int) ∈ gL := gm_3 (List.mem_of_getElem? (i := 160) (by decide +kernel)) rfl
theorem wt_516 : Cond.methodLink "TwoOnACable" 243 yX11_tryHours ∈ gL := gm_3 (List.mem_of_getElem? (i := 161) (by decide +kernel)) rfl
theorem wt_517 : Cond.instanceMethod yX11_tryHours ∈ gL := gm_3 (List.mem_of_getElem? (i := 163) (by decide +kernel)) rfl
theorem wt_518 : Cond.code yX11_tryHours prog_1_method_27_code 6 (some FieldType.int) ∈ gL := gm_3 (List.mem_of_getElem? (i := 164) (by decide +kernel)) rfl
theorem wt_519 : Cond.methodLink "TwoOnACable" 247 yX0_becomeLike ∈ gL := gm_3 (List.mem_of_getElem? (i := 165) (by decide +kernel)) rfl
theorem wt_520 : Cond.instanceMethod yX0_becomeLike ∈ gL := gm_3 (List.mem_of_getElem? (i := 166) (by decide +kernel)) rfl
theorem wt_521 : Cond.selects "TwoOnACable$Cable" yX0_becomeLike yX0_becomeLike ∈ gL := gm_3 (List.mem_of_getElem? (i := 167) (by decide +kernel)) rfl
theorem wt_522 : Cond.code yX0_becomeLike prog_2_method_3_code 2 (none : Option FieldType) ∈ gL := gm_3 (List.mem_of_getElem? (i := 168) (by decide +kernel)) rfl
theorem wt_523 : Cond.methodLink "TwoOnACable" 307 yX11_nextSeed ∈ gL := gm_3 (List.mem_of_getElem? (i := 169) (by decide +kernel)) rfl
theorem wt_524 : Cond.static yX11_nextSeed ∈ gL := gm_3 (List.mem_of_getElem? (i := 170) (by decide +kernel)) rfl
theorem wt_525 : Cond.code yX11_nextSeed prog_1_method_28_code 1 (some FieldType.int) ∈ gL := gm_3 (List.mem_of_getElem? (i := 171) (by decide +kernel)) rfl
theorem wt_526 : Cond.constantLong "TwoOnACable" 314 (1103515245 : Int64) ∈ gL := gm_3 (List.mem_of_getElem? (i := 172) (by decide +kernel)) rfl
theorem wt_527 : Cond.constantLong "TwoOnACable" 316 (12345 : Int64) ∈ gL := gm_3 (List.mem_of_getElem? (i := 173) (by decide +kernel)) rfl
theorem wt_528 : Cond.constantLong "TwoOnACable" 318 (2147483648 : Int64) ∈ gL := gm_3 (List.mem_of_getElem? (i := 174) (by decide +kernel)) rfl
theorem wt_529 : Cond.constant "TwoOnACable" 310 (65536 : Int32) ∈ gL := gm_3 (List.mem_of_getElem? (i := 175) (by decide +kernel)) rfl
theorem wt_530 : Cond.methodLink "TwoOnACable" 311 yX11_windingOf ∈ gL := gm_3 (List.mem_of_getElem? (i := 176) (by decide +kernel)) rfl
theorem wt_531 : Cond.methodLink "TwoOnACableLaw" 93 yX11_image ∈ gL := gm_3 (List.mem_of_getElem? (i := 177) (by decide +kernel)) rfl
theorem wt_532 : Cond.instanceMethod yX11_image ∈ gL := gm_3 (List.mem_of_getElem? (i := 178) (by decide +kernel)) rfl
theorem wt_533 : Cond.selects "TwoOnACable" yX11_image yX11_image ∈ gL := gm_3 (List.mem_of_getElem? (i := 179) (by decide +kernel)) rfl
theorem wt_534 : Cond.code yX11_image prog_1_method_20_code 1 (some FieldType.int) ∈ gL := gm_3 (List.mem_of_getElem? (i := 180) (by decide +kernel)) rfl
theorem wt_535 : Cond.methodLink "TwoOnACable" 251 yX6_keepPlaces ∈ gL := gm_3 (List.mem_of_getElem? (i := 181) (by decide +kernel)) rfl
theorem wt_536 : Cond.instanceMethod yX6_keepPlaces ∈ gL := gm_3 (List.mem_of_getElem? (i := 182) (by decide +kernel)) rfl
theorem wt_537 : Cond.selects "TwoOnACable$Load" yX6_keepPlaces yX6_keepPlaces ∈ gL := gm_3 (List.mem_of_getElem? (i := 183) (by decide +kernel)) rfl
theorem wt_538 : Cond.code yX6_keepPlaces prog_8_method_6_code 3 (none : Option FieldType) ∈ gL := gm_3 (List.mem_of_getElem? (i := 184) (by decide +kernel)) rfl
theorem wt_539 : Cond.methodLink "TwoOnACableLaw" 97 yX11_restore ∈ gL := gm_3 (List.mem_of_getElem? (i := 185) (by decide +kernel)) rfl
theorem wt_540 : Cond.instanceMethod yX11_restore ∈ gL := gm_3 (List.mem_of_getElem? (i := 186) (by decide +kernel)) rfl
theorem wt_541 : Cond.selects "TwoOnACable" yX11_restore yX11_restore ∈ gL := gm_3 (List.mem_of_getElem? (i := 187) (by decide +kernel)) rfl
theorem wt_542 : Cond.code yX11_restore prog_1_method_21_code 1 (some FieldType.int) ∈ gL := gm_3 (List.mem_of_getElem? (i := 188) (by decide +kernel)) rfl
theorem wt_543 : Cond.methodLink "TwoOnACable" 254 yX6_goBack ∈ gL := gm_3 (List.mem_of_getElem? (i := 189) (by decide +kernel)) rfl
theorem wt_544 : Cond.instanceMethod yX6_goBack ∈ gL := gm_3 (List.mem_of_getElem? (i := 190) (by decide +kernel)) rfl
theorem wt_545 : Cond.selects "TwoOnACable$Load" yX6_goBack yX6_goBack ∈ gL := gm_3 (List.mem_of_getElem? (i := 191) (by decide +kernel)) rfl
theorem wt_546 : Cond.code yX6_goBack prog_8_method_7_code 3 (none : Option FieldType) ∈ gL := gm_3 (List.mem_of_getElem? (i := 192) (by decide +kernel)) rfl
theorem wt_547 : Cond.methodLink "TwoOnACable$Load" 41 yX6_cutTo ∈ gL := gm_3 (List.mem_of_getElem? (i := 193) (by decide +kernel)) rfl
theorem wt_548 : Cond.methodLink "TwoOnACableLaw" 101 yX11_count ∈ gL := gm_3 (List.mem_of_getElem? (i := 194) (by decide +kernel)) rfl
theorem wt_549 : Cond.instanceMethod yX11_count ∈ gL := gm_3 (List.mem_of_getElem? (i := 195) (by decide +kernel)) rfl
theorem wt_550 : Cond.selects "TwoOnACable" yX11_count yX11_count ∈ gL := gm_3 (List.mem_of_getElem? (i := 196) (by decide +kernel)) rfl
theorem wt_551 : Cond.code yX11_count prog_1_method_22_code 2 (some FieldType.int) ∈ gL := gm_3 (List.mem_of_getElem? (i := 197) (by decide +kernel)) rfl
theorem wt_552 : Cond.methodLink "TwoOnACable" 257 yX0_strainNow ∈ gL := gm_3 (List.mem_of_getElem? (i := 198) (by decide +kernel)) rfl
theorem wt_553 : Cond.methodLink "TwoOnACableLaw" 105 yX11_digest ∈ gL := gm_3 (List.mem_of_getElem? (i := 199) (by decide +kernel)) rfl
theorem wt_554 : Cond.instanceMethod yX11_digest ∈ gL := gm_3 (List.mem_of_getElem? (i := 200) (by decide +kernel)) rfl
theorem wt_555 : Cond.selects "TwoOnACable" yX11_digest yX11_digest ∈ gL := gm_3 (List.mem_of_getElem? (i := 201) (by decide +kernel)) rfl
theorem wt_556 : Cond.code yX11_digest prog_1_method_23_code 4 (some FieldType.long) ∈ gL := gm_3 (List.mem_of_getElem? (i := 202) (by decide +kernel)) rfl
theorem wt_557 : Cond.constantLong "TwoOnACable" 268 (683 : Int64) ∈ gL := gm_3 (List.mem_of_getElem? (i := 203) (by decide +kernel)) rfl
theorem wt_558 : Cond.methodLink "TwoOnACable" 270 yX11_withCabins ∈ gL := gm_3 (List.mem_of_getElem? (i := 204) (by decide +kernel)) rfl
theorem wt_559 : Cond.instanceMethod yX11_withCabins ∈ gL := gm_3 (List.mem_of_getElem? (i := 206) (by decide +kernel)) rfl
theorem wt_560 : Cond.code yX11_withCabins prog_1_method_24_code 7 (some FieldType.long) ∈ gL := gm_3 (List.mem_of_getElem? (i := 207) (by decide +kernel)) rfl
theorem wt_561 : Cond.methodLink "TwoOnACable" 292 yX11_cabin ∈ gL := gm_3 (List.mem_of_getElem? (i := 208) (by decide +kernel)) rfl
theorem wt_562 : Cond.methodLink "TwoOnACable" 283 yX11_mixed ∈ gL := gm_3 (List.mem_of_getElem? (i := 209) (by decide +kernel)) rfl
theorem wt_563 : Cond.static yX11_mixed ∈ gL := gm_3 (List.mem_of_getElem? (i := 210) (by decide +kernel)) rfl
theorem wt_564 : Cond.code yX11_mixed prog_1_method_29_code 4 (some FieldType.long) ∈ gL := gm_3 (List.mem_of_getElem? (i := 211) (by decide +kernel)) rfl
theorem wt_565 : Cond.constantLong "TwoOnACable" 320 (31 : Int64) ∈ gL := gm_3 (List.mem_of_getElem? (i := 212) (by decide +kernel)) rfl
theorem wt_566 : Cond.methodLink "TwoOnACable" 274 yX11_withThings ∈ gL := gm_3 (List.mem_of_getElem? (i := 213) (by decide +kernel)) rfl
theorem wt_567 : Cond.instanceMethod yX11_withThings ∈ gL := gm_3 (List.mem_of_getElem? (i := 215) (by decide +kernel)) rfl
theorem wt_568 : Cond.code yX11_withThings prog_1_method_25_code 7 (some FieldType.long) ∈ gL := gm_3 (List.mem_of_getElem? (i := 216) (by decide +kernel)) rfl
theorem wt_569 : Cond.methodLink "TwoOnACable" 295 yX11_about ∈ gL := gm_3 (List.mem_of_getElem? (i := 217) (by decide +kernel)) rfl
theorem wt_570 : Cond.methodLink "TwoOnACable" 277 yX11_withOutlook ∈ gL := gm_3 (List.mem_of_getElem? (i := 218) (by decide +kernel)) rfl
theorem wt_571 : Cond.instanceMethod yX11_withOutlook ∈ gL := gm_3 (List.mem_of_getElem? (i := 220) (by decide +kernel)) rfl
theorem wt_572 : Cond.code yX11_withOutlook prog_1_method_26_code 6 (some FieldType.long) ∈ gL := gm_3 (List.mem_of_getElem? (i := 221) (by decide +kernel)) rfl
theorem wt_573 : Cond.methodLink "TwoOnACable" 298 yX11_even ∈ gL := gm_3 (List.mem_of_getElem? (i := 222) (by decide +kernel)) rfl
theorem wt_574 : Cond.methodLink "TwoOnACable" 301 yX11_soonest ∈ gL := gm_3 (List.mem_of_getElem? (i := 223) (by decide +kernel)) rfl
theorem wt_575 : Cond.methodLink "TwoOnACable" 304 yX11_lasts ∈ gL := gm_3 (List.mem_of_getElem? (i := 224) (by decide +kernel)) rfl
theorem wt_576 : Cond.methodLink "TwoOnACable" 280 yX11_fits ∈ gL := gm_3 (List.mem_of_getElem? (i := 225) (by decide +kernel)) rfl
theorem wt_577 : Cond.methodLink "TwoOnACable" 287 yX7_at ∈ gL := gm_3 (List.mem_of_getElem? (i := 226) (by decide +kernel)) rfl
theorem wt_578 : Cond.methodLink "TwoOnACable" 289 yX11_count ∈ gL := gm_3 (List.mem_of_getElem? (i := 227) (by decide +kernel)) rfl
theorem wt_579 : Cond.classLink "TwoOnACableLaw" 10 "TwoOnACableModel" ∈ gL := gm_3 (List.mem_of_getElem? (i := 228) (by decide +kernel)) rfl
theorem wt_580 : Cond.instantiable "TwoOnACableModel" 40 ∈ gL := gm_3 (List.mem_of_getElem? (i := 229) (by decide +kernel)) rfl
theorem wt_581 : Cond.methodLink "TwoOnACableLaw" 12 yX12_init ∈ gL := gm_3 (List.mem_of_getElem? (i := 230) (by decide +kernel)) rfl
theorem wt_582 : Cond.instanceMethod yX12_init ∈ gL := gm_3 (List.mem_of_getElem? (i := 231) (by decide +kernel)) rfl
theorem wt_583 : Cond.code yX12_init prog_14_method_1_code 1 (none : Option FieldType) ∈ gL := gm_3 (List.mem_of_getElem? (i := 232) (by decide +kernel)) rfl
theorem wt_584 : Cond.methodLink "TwoOnACableModel" 1 objectInit ∈ gL := gm_3 (List.mem_of_getElem? (i := 233) (by decide +kernel)) rfl
theorem wt_585 : Cond.fieldLink "TwoOnACableModel" 95 "TwoOnACableModel" "isWire" "Z" ∈ gL := gm_3 (List.mem_of_getElem? (i := 234) (by decide +kernel)) rfl
theorem wt_586 : Cond.fieldLink "TwoOnACableModel" 98 "TwoOnACableModel" "wires" "I" ∈ gL := gm_3 (List.mem_of_getElem? (i := 235) (by decide +kernel)) rfl
theorem wt_587 : Cond.fieldLink "TwoOnACableModel" 80 "TwoOnACableModel" "length" "I" ∈ gL := gm_3 (List.mem_of_getElem? (i := 236) (by decide +kernel)) rfl
theorem wt_588 : Cond.fieldLink "TwoOnACableModel" 83 "TwoOnACableModel" "spin" "I" ∈ gL := gm_3 (List.mem_of_getElem? (i := 237) (by decide +kernel)) rfl
theorem wt_589 : Cond.fieldLink "TwoOnACableModel" 86 "TwoOnACableModel" "bears" "I" ∈ gL := gm_3 (List.mem_of_getElem? (i := 238) (by decide +kernel)) rfl
theorem wt_590 : Cond.fieldLink "TwoOnACableModel" 89 "TwoOnACableModel" "isOld" "Z" ∈ gL := gm_3 (List.mem_of_getElem? (i := 239) (by decide +kernel)) rfl
theorem wt_591 : Cond.fieldLink "TwoOnACableModel" 92 "TwoOnACableModel" "isBroken" "Z" ∈ gL := gm_4 (List.mem_of_getElem? (i := 0) (by decide +kernel)) rfl
theorem wt_592 : Cond.fieldLink "TwoOnACableModel" 101 "TwoOnACableModel" "place" "I" ∈ gL := gm_4 (List.mem_of_getElem? (i := 1) (by decide +kernel)) rfl
theorem wt_593 : Cond.fieldLink "TwoOnACableModel" 104 "TwoOnACableModel" "hours" "I" ∈ gL := gm_4 (List.mem_of_getElem? (i := 2) (by decide +kernel)) rfl
theorem wt_594 : Cond.fieldLink "TwoOnACableModel" 107 "TwoOnACableModel" "things" "I" ∈ gL := gm_4 (List.mem_of_getElem? (i := 3) (by decide +kernel)) rfl
theorem wt_595 : Cond.fieldLink "TwoOnACableModel" 7 "TwoOnACableModel" "kindOf" "[I" ∈ gL := gm_4 (List.mem_of_getElem? (i := 4) (by decide +kernel)) rfl
theorem wt_596 : Cond.fieldLink "TwoOnACableModel" 13 "TwoOnACableModel" "weightOf" "[I" ∈ gL := gm_4 (List.mem_of_getElem? (i := 5) (by decide +kernel)) rfl
theorem wt_597 : Cond.fieldLink "TwoOnACableModel" 16 "TwoOnACableModel" "cabinOf" "[I" ∈ gL := gm_4 (List.mem_of_getElem? (i := 6) (by decide +kernel)) rfl
theorem wt_598 : Cond.fieldLink "TwoOnACableModel" 19 "TwoOnACableModel" "cameOf" "[I" ∈ gL := gm_4 (List.mem_of_getElem? (i := 7) (by decide +kernel)) rfl
theorem wt_599 : Cond.fieldLink "TwoOnACableModel" 110 "TwoOnACableModel" "told" "I" ∈ gL := gm_4 (List.mem_of_getElem? (i := 8) (by decide +kernel)) rfl
theorem wt_600 : Cond.fieldLink "TwoOnACableModel" 22 "TwoOnACableModel" "toldLength" "[I" ∈ gL := gm_4 (List.mem_of_getElem? (i := 9) (by decide +kernel)) rfl
theorem wt_601 : Cond.fieldLink "TwoOnACableModel" 25 "TwoOnACableModel" "toldTurns" "[I" ∈ gL := gm_4 (List.mem_of_getElem? (i := 10) (by decide +kernel)) rfl
theorem wt_602 : Cond.fieldLink "TwoOnACableModel" 46 "TwoOnACableModel" "pageLength" "I" ∈ gL := gm_4 (List.mem_of_getElem? (i := 11) (by decide +kernel)) rfl
theorem wt_603 : Cond.fieldLink "TwoOnACableModel" 28 "TwoOnACableModel" "page" "[B" ∈ gL := gm_4 (List.mem_of_getElem? (i := 12) (by decide +kernel)) rfl
theorem wt_604 : Cond.fieldLink "TwoOnACableModel" 71 "TwoOnACableModel" "faultAt" "I" ∈ gL := gm_4 (List.mem_of_getElem? (i := 13) (by decide +kernel)) rfl
theorem wt_605 : Cond.fieldLink "TwoOnACableModel" 74 "TwoOnACableModel" "isWhole" "Z" ∈ gL := gm_4 (List.mem_of_getElem? (i := 14) (by decide +kernel)) rfl
theorem wt_606 : Cond.fieldLink "TwoOnACableModel" 50 "TwoOnACableModel" "newLength" "I" ∈ gL := gm_4 (List.mem_of_getElem? (i := 15) (by decide +kernel)) rfl
theorem wt_607 : Cond.fieldLink "TwoOnACableModel" 57 "TwoOnACableModel" "newTurns" "I" ∈ gL := gm_4 (List.mem_of_getElem? (i := 16) (by decide +kernel)) rfl
theorem wt_608 : Cond.fieldLink "TwoOnACableModel" 60 "TwoOnACableModel" "newBears" "I" ∈ gL := gm_4 (List.mem_of_getElem? (i := 17) (by decide +kernel)) rfl
theorem wt_609 : Cond.fieldLink "TwoOnACableModel" 63 "TwoOnACableModel" "newOld" "Z" ∈ gL := gm_4 (List.mem_of_getElem? (i := 18) (by decide +kernel)) rfl
theorem wt_610 : Cond.fieldLink "TwoOnACableModel" 161 "TwoOnACableModel" "evenApart" "I" ∈ gL := gm_4 (List.mem_of_getElem? (i := 19) (by decide +kernel)) rfl
theorem wt_611 : Cond.fieldLink "TwoOnACableModel" 164 "TwoOnACableModel" "evenSet" "I" ∈ gL := gm_4 (List.mem_of_getElem? (i := 20) (by decide +kernel)) rfl
theorem wt_612 : Cond.fieldLink "TwoOnACableModel" 32 "TwoOnACableModel" "firstTo" "[I" ∈ gL := gm_4 (List.mem_of_getElem? (i := 21) (by decide +kernel)) rfl
theorem wt_613 : Cond.fieldLink "TwoOnACableModel" 35 "TwoOnACableModel" "firstThen" "[I" ∈ gL := gm_4 (List.mem_of_getElem? (i := 22) (by decide +kernel)) rfl
theorem wt_614 : Cond.fieldLink "TwoOnACableModel" 218 "TwoOnACableModel" "seedNow" "J" ∈ gL := gm_4 (List.mem_of_getElem? (i := 23) (by decide +kernel)) rfl
theorem wt_615 : Cond.fieldLink "TwoOnACableModel" 234 "TwoOnACableModel" "isKept" "Z" ∈ gL := gm_4 (List.mem_of_getElem? (i := 24) (by decide +kernel)) rfl
theorem wt_616 : Cond.fieldLink "TwoOnACableModel" 237 "TwoOnACableModel" "keptWire" "I" ∈ gL := gm_4 (List.mem_of_getElem? (i := 25) (by decide +kernel)) rfl
theorem wt_617 : Cond.fieldLink "TwoOnACableModel" 240 "TwoOnACableModel" "keptLength" "I" ∈ gL := gm_4 (List.mem_of_getElem? (i := 26) (by decide +kernel)) rfl
theorem wt_618 : Cond.fieldLink "TwoOnACableModel" 243 "TwoOnACableModel" "keptPlace" "I" ∈ gL := gm_4 (List.mem_of_getElem? (i := 27) (by decide +kernel)) rfl
theorem wt_619 : Cond.fieldLink "TwoOnACableModel" 246 "TwoOnACableModel" "keptHours" "I" ∈ gL := gm_4 (List.mem_of_getElem? (i := 28) (by decide +kernel)) rfl
theorem wt_620 : Cond.fieldLink "TwoOnACableModel" 249 "TwoOnACableModel" "keptBroken" "Z" ∈ gL := gm_4 (List.mem_of_getElem? (i := 29) (by decide +kernel)) rfl
theorem wt_621 : Cond.fieldLink "TwoOnACableModel" 252 "TwoOnACableModel" "keptThings" "I" ∈ gL := gm_4 (List.mem_of_getElem? (i := 30) (by decide +kernel)) rfl
theorem wt_622 : Cond.fieldLink "TwoOnACableModel" 38 "TwoOnACableModel" "keptCabin" "[I" ∈ gL := gm_4 (List.mem_of_getElem? (i := 31) (by decide +kernel)) rfl
theorem wt_623 : Cond.fieldLink "TwoOnACableModel" 41 "TwoOnACableModel" "keptCame" "[I" ∈ gL := gm_4 (List.mem_of_getElem? (i := 32) (by decide +kernel)) rfl
theorem wt_624 : Cond.fieldLink "TwoOnACableModel" 264 "TwoOnACableModel" "h" "J" ∈ gL := gm_4 (List.mem_of_getElem? (i := 33) (by decide +kernel)) rfl
theorem wt_625 : Cond.arrayClass FieldType.byte ∈ gL := gm_4 (List.mem_of_getElem? (i := 115) (by decide +kernel)) rfl
theorem wt_626 : Cond.methodLink "TwoOnACableLaw" 19 yX12_letters ∈ gL := gm_4 (List.mem_of_getElem? (i := 116) (by decide +kernel)) rfl
theorem wt_627 : Cond.instanceMethod yX12_letters ∈ gL := gm_4 (List.mem_of_getElem? (i := 117) (by decide +kernel)) rfl
theorem wt_628 : Cond.selects "TwoOnACableModel" yX12_letters yX12_letters ∈ gL := gm_4 (List.mem_of_getElem? (i := 118) (by decide +kernel)) rfl
theorem wt_629 : Cond.code yX12_letters prog_14_method_5_code 7 (some FieldType.int) ∈ gL := gm_4 (List.mem_of_getElem? (i := 119) (by decide +kernel)) rfl
theorem wt_630 : Cond.constantLong "TwoOnACableModel" 44 (255 : Int64) ∈ gL := gm_4 (List.mem_of_getElem? (i := 120) (by decide +kernel)) rfl
theorem wt_631 : Cond.methodLink "TwoOnACableLaw" 24 yX12_blank ∈ gL := gm_4 (List.mem_of_getElem? (i := 121) (by decide +kernel)) rfl
theorem wt_632 : Cond.instanceMethod yX12_blank ∈ gL := gm_4 (List.mem_of_getElem? (i := 122) (by decide +kernel)) rfl
theorem wt_633 : Cond.selects "TwoOnACableModel" yX12_blank yX12_blank ∈ gL := gm_4 (List.mem_of_getElem? (i := 123) (by decide +kernel)) rfl
theorem wt_634 : Cond.code yX12_blank prog_14_method_6_code 2 (some FieldType.int) ∈ gL := gm_4 (List.mem_of_getElem? (i := 124) (by decide +kernel)) rfl
theorem wt_635 : Cond.methodLink "TwoOnACableLaw" 28 yX12_fault ∈ gL := gm_4 (List.mem_of_getElem? (i := 125) (by decide +kernel)) rfl
theorem wt_636 : Cond.instanceMethod yX12_fault ∈ gL := gm_4 (List.mem_of_getElem? (i := 126) (by decide +kernel)) rfl
theorem wt_637 : Cond.selects "TwoOnACableModel" yX12_fault yX12_fault ∈ gL := gm_4 (List.mem_of_getElem? (i := 127) (by decide +kernel)) rfl
theorem wt_638 : Cond.code yX12_fault prog_14_method_9_code 1 (some FieldType.int) ∈ gL := gm_4 (List.mem_of_getElem? (i := 128) (by decide +kernel)) rfl
theorem wt_639 : Cond.methodLink "TwoOnACableModel" 77 yX12_readWire ∈ gL := gm_4 (List.mem_of_getElem? (i := 129) (by decide +kernel)) rfl
theorem wt_640 : Cond.instanceMethod yX12_readWire ∈ gL := gm_4 (List.mem_of_getElem? (i := 131) (by decide +kernel)) rfl
theorem wt_641 : Cond.code yX12_readWire prog_14_method_8_code 2 (none : Option FieldType) ∈ gL := gm_4 (List.mem_of_getElem? (i := 132) (by decide +kernel)) rfl
theorem wt_642 : Cond.methodLink "TwoOnACableModel" 67 yX12_takes ∈ gL := gm_4 (List.mem_of_getElem? (i := 133) (by decide +kernel)) rfl
theorem wt_643 : Cond.instanceMethod yX12_takes ∈ gL := gm_4 (List.mem_of_getElem? (i := 135) (by decide +kernel)) rfl
theorem wt_644 : Cond.code yX12_takes prog_14_method_7_code 4 (some FieldType.boolean) ∈ gL := gm_4 (List.mem_of_getElem? (i := 136) (by decide +kernel)) rfl
theorem wt_645 : Cond.methodLink "TwoOnACableModel" 53 yX12_within ∈ gL := gm_4 (List.mem_of_getElem? (i := 137) (by decide +kernel)) rfl
theorem wt_646 : Cond.static yX12_within ∈ gL := gm_4 (List.mem_of_getElem? (i := 138) (by decide +kernel)) rfl
theorem wt_647 : Cond.code yX12_within prog_14_method_3_code 3 (some FieldType.boolean) ∈ gL := gm_4 (List.mem_of_getElem? (i := 139) (by decide +kernel)) rfl
theorem wt_648 : Cond.methodLink "TwoOnACableLaw" 32 yX12_wire ∈ gL := gm_4 (List.mem_of_getElem? (i := 140) (by decide +kernel)) rfl
theorem wt_649 : Cond.instanceMethod yX12_wire ∈ gL := gm_4 (List.mem_of_getElem? (i := 141) (by decide +kernel)) rfl
theorem wt_650 : Cond.selects "TwoOnACableModel" yX12_wire yX12_wire ∈ gL := gm_4 (List.mem_of_getElem? (i := 142) (by decide +kernel)) rfl
theorem wt_651 : Cond.code yX12_wire prog_14_method_10_code 1 (some FieldType.int) ∈ gL := gm_4 (List.mem_of_getElem? (i := 143) (by decide +kernel)) rfl
theorem wt_652 : Cond.methodLink "TwoOnACableLaw" 37 yX12_cabin ∈ gL := gm_4 (List.mem_of_getElem? (i := 144) (by decide +kernel)) rfl
theorem wt_653 : Cond.instanceMethod yX12_cabin ∈ gL := gm_4 (List.mem_of_getElem? (i := 145) (by decide +kernel)) rfl
theorem wt_654 : Cond.selects "TwoOnACableModel" yX12_cabin yX12_cabin ∈ gL := gm_4 (List.mem_of_getElem? (i := 146) (by decide +kernel)) rfl
theorem wt_655 : Cond.code yX12_cabin prog_14_method_19_code 3 (some FieldType.int) ∈ gL := gm_4 (List.mem_of_getElem? (i := 147) (by decide +kernel)) rfl
theorem wt_656 : Cond.methodLink "TwoOnACableModel" 138 yX12_cabinNow ∈ gL := gm_4 (List.mem_of_getElem? (i := 148) (by decide +kernel)) rfl
theorem wt_657 : Cond.instanceMethod yX12_cabinNow ∈ gL := gm_4 (List.mem_of_getElem? (i := 150) (by decide +kernel)) rfl
theorem wt_658 : Cond.code yX12_cabinNow prog_14_method_18_code 3 (some FieldType.int) ∈ gL := gm_4 (List.mem_of_getElem? (i := 151) (by decide +kernel)) rfl
theorem wt_659 : Cond.methodLink "TwoOnACableModel" 120 yX12_cabinWeighs ∈ gL := gm_4 (List.mem_of_getElem? (i := 152) (by decide +kernel)) rfl
theorem wt_660 : Cond.instanceMethod yX12_cabinWeighs ∈ gL := gm_4 (List.mem_of_getElem? (i := 154) (by decide +kernel)) rfl
theorem wt_661 : Cond.code yX12_cabinWeighs prog_14_method_12_code 7 (some FieldType.int) ∈ gL := gm_4 (List.mem_of_getElem? (i := 155) (by decide +kernel)) rfl
theorem wt_662 : Cond.methodLink "TwoOnACableModel" 113 yX12_has ∈ gL := gm_4 (List.mem_of_getElem? (i := 156) (by decide +kernel)) rfl
theorem wt_663 : Cond.static yX12_has ∈ gL := gm_4 (List.mem_of_getElem? (i := 157) (by decide +kernel)) rfl
theorem wt_664 : Cond.code yX12_has prog_14_method_4_code 2 (some FieldType.boolean) ∈ gL := gm_4 (List.mem_of_getElem? (i := 158) (by decide +kernel)) rfl
theorem wt_665 : Cond.methodLink "TwoOnACableModel" 116 yX12_weighs ∈ gL := gm_4 (List.mem_of_getElem? (i := 159) (by decide +kernel)) rfl
theorem wt_666 : Cond.instanceMethod yX12_weighs ∈ gL := gm_4 (List.mem_of_getElem? (i := 161) (by decide +kernel)) rfl
theorem wt_667 : Cond.code yX12_weighs prog_14_method_11_code 4 (some FieldType.int) ∈ gL := gm_4 (List.mem_of_getElem? (i := 162) (by decide +kernel)) rfl
theorem wt_668 : Cond.methodLink "TwoOnACableModel" 124 yX12_armBy ∈ gL := gm_4 (List.mem_of_getElem? (i := 163) (by decide +kernel)) rfl
theorem wt_669 : Cond.instanceMethod yX12_armBy ∈ gL := gm_4 (List.mem_of_getElem? (i := 165) (by decide +kernel)) rfl
theorem wt_670 : Cond.code yX12_armBy prog_14_method_14_code 8 (some FieldType.int) ∈ gL := gm_4 (List.mem_of_getElem? (i := 166) (by decide +kernel)) rfl
theorem wt_671 : Cond.methodLink "TwoOnACableModel" 132 yX12_floorBy ∈ gL := gm_4 (List.mem_of_getElem? (i := 167) (by decide +kernel)) rfl
theorem wt_672 : Cond.instanceMethod yX12_floorBy ∈ gL := gm_4 (List.mem_of_getElem? (i := 169) (by decide +kernel)) rfl
theorem wt_673 : Cond.code yX12_floorBy prog_14_method_15_code 5 (some FieldType.int) ∈ gL := gm_4 (List.mem_of_getElem? (i := 170) (by decide +kernel)) rfl
theorem wt_674 : Cond.methodLink "TwoOnACableModel" 128 yX12_turnsAt ∈ gL := gm_4 (List.mem_of_getElem? (i := 171) (by decide +kernel)) rfl
theorem wt_675 : Cond.instanceMethod yX12_turnsAt ∈ gL := gm_4 (List.mem_of_getElem? (i := 173) (by decide +kernel)) rfl
theorem wt_676 : Cond.code yX12_turnsAt prog_14_method_13_code 2 (some FieldType.int) ∈ gL := gm_4 (List.mem_of_getElem? (i := 174) (by decide +kernel)) rfl
theorem wt_677 : Cond.methodLink "TwoOnACableModel" 135 yX12_inCabin ∈ gL := gm_4 (List.mem_of_getElem? (i := 175) (by decide +kernel)) rfl
theorem wt_678 : Cond.instanceMethod yX12_inCabin ∈ gL := gm_4 (List.mem_of_getElem? (i := 177) (by decide +kernel)) rfl
theorem wt_679 : Cond.code yX12_inCabin prog_14_method_17_code 4 (some FieldType.int) ∈ gL := gm_4 (List.mem_of_getElem? (i := 178) (by decide +kernel)) rfl
theorem wt_680 : Cond.methodLink "TwoOnACableLaw" 42 yX12_thing ∈ gL := gm_4 (List.mem_of_getElem? (i := 179) (by decide +kernel)) rfl
theorem wt_681 : Cond.instanceMethod yX12_thing ∈ gL := gm_4 (List.mem_of_getElem? (i := 180) (by decide +kernel)) rfl
theorem wt_682 : Cond.selects "TwoOnACableModel" yX12_thing yX12_thing ∈ gL := gm_4 (List.mem_of_getElem? (i := 181) (by decide +kernel)) rfl
theorem wt_683 : Cond.code yX12_thing prog_14_method_21_code 4 (some FieldType.int) ∈ gL := gm_4 (List.mem_of_getElem? (i := 182) (by decide +kernel)) rfl
theorem wt_684 : Cond.methodLink "TwoOnACableLaw" 46 yX12_about ∈ gL := gm_4 (List.mem_of_getElem? (i := 183) (by decide +kernel)) rfl
theorem wt_685 : Cond.instanceMethod yX12_about ∈ gL := gm_4 (List.mem_of_getElem? (i := 184) (by decide +kernel)) rfl
theorem wt_686 : Cond.selects "TwoOnACableModel" yX12_about yX12_about ∈ gL := gm_4 (List.mem_of_getElem? (i := 185) (by decide +kernel)) rfl
theorem wt_687 : Cond.code yX12_about prog_14_method_23_code 3 (some FieldType.int) ∈ gL := gm_4 (List.mem_of_getElem? (i := 186) (by decide +kernel)) rfl
theorem wt_688 : Cond.methodLink "TwoOnACableModel" 141 yX12_isThing ∈ gL := gm_4 (List.mem_of_getElem? (i := 187) (by decide +kernel)) rfl
theorem wt_689 : Cond.instanceMethod yX12_isThing ∈ gL := gm_4 (List.mem_of_getElem? (i := 189) (by decide +kernel)) rfl
theorem wt_690 : Cond.code yX12_isThing prog_14_method_20_code 2 (some FieldType.boolean) ∈ gL := gm_4 (List.mem_of_getElem? (i := 190) (by decide +kernel)) rfl
theorem wt_691 : Cond.methodLink "TwoOnACableModel" 145 yX12_thingNow ∈ gL := gm_4 (List.mem_of_getElem? (i := 191) (by decide +kernel)) rfl
theorem wt_692 : Cond.instanceMethod yX12_thingNow ∈ gL := gm_4 (List.mem_of_getElem? (i := 193) (by decide +kernel)) rfl
theorem wt_693 : Cond.code yX12_thingNow prog_14_method_22_code 3 (some FieldType.int) ∈ gL := gm_4 (List.mem_of_getElem? (i := 194) (by decide +kernel)) rfl
theorem wt_694 : Cond.methodLink "TwoOnACableLaw" 50 yX12_as ∈ gL := gm_4 (List.mem_of_getElem? (i := 195) (by decide +kernel)) rfl
theorem wt_695 : Cond.instanceMethod yX12_as ∈ gL := gm_4 (List.mem_of_getElem? (i := 196) (by decide +kernel)) rfl
theorem wt_696 : Cond.selects "TwoOnACableModel" yX12_as yX12_as ∈ gL := gm_4 (List.mem_of_getElem? (i := 197) (by decide +kernel)) rfl
theorem wt_697 : Cond.code yX12_as prog_14_method_24_code 4 (some FieldType.int) ∈ gL := gm_4 (List.mem_of_getElem? (i := 198) (by decide +kernel)) rfl
theorem wt_698 : Cond.methodLink "TwoOnACableLaw" 55 yX12_carry ∈ gL := gm_4 (List.mem_of_getElem? (i := 199) (by decide +kernel)) rfl
theorem wt_699 : Cond.instanceMethod yX12_carry ∈ gL := gm_4 (List.mem_of_getElem? (i := 200) (by decide +kernel)) rfl
theorem wt_700 : Cond.selects "TwoOnACableModel" yX12_carry yX12_carry ∈ gL := gm_4 (List.mem_of_getElem? (i := 201) (by decide +kernel)) rfl
theorem wt_701 : Cond.code yX12_carry prog_14_method_26_code 2 (some FieldType.int) ∈ gL := gm_4 (List.mem_of_getElem? (i := 202) (by decide +kernel)) rfl
theorem wt_702 : Cond.methodLink "TwoOnACableModel" 148 yX12_mayCarry ∈ gL := gm_4 (List.mem_of_getElem? (i := 203) (by decide +kernel)) rfl
theorem wt_703 : Cond.instanceMethod yX12_mayCarry ∈ gL := gm_4 (List.mem_of_getElem? (i := 205) (by decide +kernel)) rfl
theorem wt_704 : Cond.code yX12_mayCarry prog_14_method_25_code 2 (some FieldType.boolean) ∈ gL := gm_4 (List.mem_of_getElem? (i := 206) (by decide +kernel)) rfl
theorem wt_705 : Cond.methodLink "TwoOnACableLaw" 59 yX12_hour ∈ gL := gm_4 (List.mem_of_getElem? (i := 207) (by decide +kernel)) rfl
theorem wt_706 : Cond.instanceMethod yX12_hour ∈ gL := gm_4 (List.mem_of_getElem? (i := 208) (by decide +kernel)) rfl
theorem wt_707 : Cond.selects "TwoOnACableModel" yX12_hour yX12_hour ∈ gL := gm_4 (List.mem_of_getElem? (i := 209) (by decide +kernel)) rfl
theorem wt_708 : Cond.code yX12_hour prog_14_method_30_code 2 (some FieldType.int) ∈ gL := gm_4 (List.mem_of_getElem? (i := 210) (by decide +kernel)) rfl
theorem wt_709 : Cond.methodLink "TwoOnACableModel" 154 yX12_mayBe ∈ gL := gm_4 (List.mem_of_getElem? (i := 211) (by decide +kernel)) rfl
theorem wt_710 : Cond.static yX12_mayBe ∈ gL := gm_4 (List.mem_of_getElem? (i := 212) (by decide +kernel)) rfl
theorem wt_711 : Cond.code yX12_mayBe prog_14_method_28_code 1 (some FieldType.boolean) ∈ gL := gm_4 (List.mem_of_getElem? (i := 213) (by decide +kernel)) rfl
theorem wt_712 : Cond.methodLink "TwoOnACableModel" 157 yX12_goHour ∈ gL := gm_4 (List.mem_of_getElem? (i := 214) (by decide +kernel)) rfl
theorem wt_713 : Cond.instanceMethod yX12_goHour ∈ gL := gm_4 (List.mem_of_getElem? (i := 216) (by decide +kernel)) rfl
theorem wt_714 : Cond.code yX12_goHour prog_14_method_29_code 2 (some FieldType.boolean) ∈ gL := gm_4 (List.mem_of_getElem? (i := 217) (by decide +kernel)) rfl
theorem wt_715 : Cond.methodLink "TwoOnACableModel" 151 yX12_strainAt ∈ gL := gm_4 (List.mem_of_getElem? (i := 218) (by decide +kernel)) rfl
theorem wt_716 : Cond.instanceMethod yX12_strainAt ∈ gL := gm_4 (List.mem_of_getElem? (i := 220) (by decide +kernel)) rfl
theorem wt_717 : Cond.code yX12_strainAt prog_14_method_16_code 3 (some FieldType.int) ∈ gL := gm_4 (List.mem_of_getElem? (i := 221) (by decide +kernel)) rfl
theorem wt_718 : Cond.methodLink "TwoOnACableLaw" 63 yX12_even ∈ gL := gm_4 (List.mem_of_getElem? (i := 222) (by decide +kernel)) rfl
theorem wt_719 : Cond.instanceMethod yX12_even ∈ gL := gm_4 (List.mem_of_getElem? (i := 223) (by decide +kernel)) rfl
theorem wt_720 : Cond.selects "TwoOnACableModel" yX12_even yX12_even ∈ gL := gm_4 (List.mem_of_getElem? (i := 224) (by decide +kernel)) rfl
theorem wt_721 : Cond.code yX12_even prog_14_method_34_code 2 (some FieldType.int) ∈ gL := gm_4 (List.mem_of_getElem? (i := 225) (by decide +kernel)) rfl
theorem wt_722 : Cond.methodLink "TwoOnACableModel" 173 yX12_evenNow ∈ gL := gm_4 (List.mem_of_getElem? (i := 226) (by decide +kernel)) rfl
theorem wt_723 : Cond.instanceMethod yX12_evenNow ∈ gL := gm_4 (List.mem_of_getElem? (i := 228) (by decide +kernel)) rfl
theorem wt_724 : Cond.code yX12_evenNow prog_14_method_33_code 2 (some FieldType.int) ∈ gL := gm_4 (List.mem_of_getElem? (i := 229) (by decide +kernel)) rfl
theorem wt_725 : Cond.methodLink "TwoOnACableModel" 170 yX12_layEven ∈ gL := gm_4 (List.mem_of_getElem? (i := 230) (by decide +kernel)) rfl
theorem wt_726 : Cond.instanceMethod yX12_layEven ∈ gL := gm_4 (List.mem_of_getElem? (i := 232) (by decide +kernel)) rfl
theorem wt_727 : Cond.code yX12_layEven prog_14_method_32_code 7 (none : Option FieldType) ∈ gL := gm_4 (List.mem_of_getElem? (i := 233) (by decide +kernel)) rfl
theorem wt_728 : Cond.constant "TwoOnACableModel" 160 (1073741824 : Int32) ∈ gL := gm_4 (List.mem_of_getElem? (i := 234) (by decide +kernel)) rfl
theorem wt_729 : Cond.methodLink "TwoOnACableModel" 167 yX12_sized ∈ gL := gm_4 (List.mem_of_getElem? (i := 235) (by decide +kernel)) rfl
theorem wt_730 : Cond.static yX12_sized ∈ gL := gm_4 (List.mem_of_getElem? (i := 236) (by decide +kernel)) rfl
theorem wt_731 : Cond.code yX12_sized prog_14_method_31_code 1 (some FieldType.int) ∈ gL := gm_4 (List.mem_of_getElem? (i := 237) (by decide +kernel)) rfl
theorem wt_732 : Cond.methodLink "TwoOnACableLaw" 67 yX12_soonest ∈ gL := gm_4 (List.mem_of_getElem? (i := 238) (by decide +kernel)) rfl
theorem wt_733 : Cond.instanceMethod yX12_soonest ∈ gL := gm_4 (List.mem_of_getElem? (i := 239) (by decide +kernel)) rfl
theorem wt_734 : Cond.selects "TwoOnACableModel" yX12_soonest yX12_soonest ∈ gL := gm_5 (List.mem_of_getElem? (i := 0) (by decide +kernel)) rfl
theorem wt_735 : Cond.code yX12_soonest prog_14_method_39_code 3 (some FieldType.int) ∈ gL := gm_5 (List.mem_of_getElem? (i := 1) (by decide +kernel)) rfl
theorem wt_736 : Cond.methodLink "TwoOnACableModel" 186 yX12_soonestNow ∈ gL := gm_5 (List.mem_of_getElem? (i := 2) (by decide +kernel)) rfl
theorem wt_737 : Cond.instanceMethod yX12_soonestNow ∈ gL := gm_5 (List.mem_of_getElem? (i := 4) (by decide +kernel)) rfl
theorem wt_738 : Cond.code yX12_soonestNow prog_14_method_38_code 5 (some FieldType.int) ∈ gL := gm_5 (List.mem_of_getElem? (i := 5) (by decide +kernel)) rfl
theorem wt_739 : Cond.methodLink "TwoOnACableModel" 179 yX12_firstBy ∈ gL := gm_5 (List.mem_of_getElem? (i := 6) (by decide +kernel)) rfl
theorem wt_740 : Cond.instanceMethod yX12_firstBy ∈ gL := gm_5 (List.mem_of_getElem? (i := 8) (by decide +kernel)) rfl
theorem wt_741 : Cond.code yX12_firstBy prog_14_method_37_code 6 (some FieldType.int) ∈ gL := gm_5 (List.mem_of_getElem? (i := 9) (by decide +kernel)) rfl
theorem wt_742 : Cond.methodLink "TwoOnACableModel" 182 yX12_goLengths ∈ gL := gm_5 (List.mem_of_getElem? (i := 10) (by decide +kernel)) rfl
theorem wt_743 : Cond.instanceMethod yX12_goLengths ∈ gL := gm_5 (List.mem_of_getElem? (i := 12) (by decide +kernel)) rfl
theorem wt_744 : Cond.code yX12_goLengths prog_14_method_36_code 6 (none : Option FieldType) ∈ gL := gm_5 (List.mem_of_getElem? (i := 13) (by decide +kernel)) rfl
theorem wt_745 : Cond.methodLink "TwoOnACableModel" 176 yX12_by ∈ gL := gm_5 (List.mem_of_getElem? (i := 14) (by decide +kernel)) rfl
theorem wt_746 : Cond.static yX12_by ∈ gL := gm_5 (List.mem_of_getElem? (i := 15) (by decide +kernel)) rfl
theorem wt_747 : Cond.code yX12_by prog_14_method_35_code 1 (some FieldType.int) ∈ gL := gm_5 (List.mem_of_getElem? (i := 16) (by decide +kernel)) rfl
theorem wt_748 : Cond.methodLink "TwoOnACableLaw" 71 yX12_caught ∈ gL := gm_5 (List.mem_of_getElem? (i := 17) (by decide +kernel)) rfl
theorem wt_749 : Cond.instanceMethod yX12_caught ∈ gL := gm_5 (List.mem_of_getElem? (i := 18) (by decide +kernel)) rfl
theorem wt_750 : Cond.selects "TwoOnACableModel" yX12_caught yX12_caught ∈ gL := gm_5 (List.mem_of_getElem? (i := 19) (by decide +kernel)) rfl
theorem wt_751 : Cond.code yX12_caught prog_14_method_41_code 2 (some FieldType.int) ∈ gL := gm_5 (List.mem_of_getElem? (i := 20) (by decide +kernel)) rfl
theorem wt_752 : Cond.methodLink "TwoOnACableModel" 189 yX12_caughtNow ∈ gL := gm_5 (List.mem_of_getElem? (i := 21) (by decide +kernel)) rfl
theorem wt_753 : Cond.instanceMethod yX12_caughtNow ∈ gL := gm_5 (List.mem_of_getElem? (i := 23) (by decide +kernel)) rfl
theorem wt_754 : Cond.code yX12_caughtNow prog_14_method_40_code 7 (some FieldType.int) ∈ gL := gm_5 (List.mem_of_getElem? (i := 24) (by decide +kernel)) rfl
theorem wt_755 : Cond.methodLink "TwoOnACableLaw" 75 yX12_weighed ∈ gL := gm_5 (List.mem_of_getElem? (i := 25) (by decide +kernel)) rfl
theorem wt_756 : Cond.instanceMethod yX12_weighed ∈ gL := gm_5 (List.mem_of_getElem? (i := 26) (by decide +kernel)) rfl
theorem wt_757 : Cond.selects "TwoOnACableModel" yX12_weighed yX12_weighed ∈ gL := gm_5 (List.mem_of_getElem? (i := 27) (by decide +kernel)) rfl
theorem wt_758 : Cond.code yX12_weighed prog_14_method_42_code 3 (some FieldType.int) ∈ gL := gm_5 (List.mem_of_getElem? (i := 28) (by decide +kernel)) rfl
theorem wt_759 : Cond.methodLink "TwoOnACableModel" 192 yX12_isLength ∈ gL := gm_5 (List.mem_of_getElem? (i := 29) (by decide +kernel)) rfl
theorem wt_760 : Cond.static yX12_isLength ∈ gL := gm_5 (List.mem_of_getElem? (i := 30) (by decide +kernel)) rfl
theorem wt_761 : Cond.code yX12_isLength prog_14_method_27_code 1 (some FieldType.boolean) ∈ gL := gm_5 (List.mem_of_getElem? (i := 31) (by decide +kernel)) rfl
theorem wt_762 : Cond.methodLink "TwoOnACableLaw" 79 yX12_forget ∈ gL := gm_5 (List.mem_of_getElem? (i := 32) (by decide +kernel)) rfl
theorem wt_763 : Cond.instanceMethod yX12_forget ∈ gL := gm_5 (List.mem_of_getElem? (i := 33) (by decide +kernel)) rfl
theorem wt_764 : Cond.selects "TwoOnACableModel" yX12_forget yX12_forget ∈ gL := gm_5 (List.mem_of_getElem? (i := 34) (by decide +kernel)) rfl
theorem wt_765 : Cond.code yX12_forget prog_14_method_43_code 2 (some FieldType.int) ∈ gL := gm_5 (List.mem_of_getElem? (i := 35) (by decide +kernel)) rfl
theorem wt_766 : Cond.methodLink "TwoOnACableLaw" 83 yX12_fits ∈ gL := gm_5 (List.mem_of_getElem? (i := 36) (by decide +kernel)) rfl
theorem wt_767 : Cond.instanceMethod yX12_fits ∈ gL := gm_5 (List.mem_of_getElem? (i := 37) (by decide +kernel)) rfl
theorem wt_768 : Cond.selects "TwoOnACableModel" yX12_fits yX12_fits ∈ gL := gm_5 (List.mem_of_getElem? (i := 38) (by decide +kernel)) rfl
theorem wt_769 : Cond.code yX12_fits prog_14_method_45_code 2 (some FieldType.int) ∈ gL := gm_5 (List.mem_of_getElem? (i := 39) (by decide +kernel)) rfl
theorem wt_770 : Cond.methodLink "TwoOnACableModel" 195 yX12_fitsNow ∈ gL := gm_5 (List.mem_of_getElem? (i := 40) (by decide +kernel)) rfl
theorem wt_771 : Cond.instanceMethod yX12_fitsNow ∈ gL := gm_5 (List.mem_of_getElem? (i := 42) (by decide +kernel)) rfl
theorem wt_772 : Cond.code yX12_fitsNow prog_14_method_44_code 8 (some FieldType.int) ∈ gL := gm_5 (List.mem_of_getElem? (i := 43) (by decide +kernel)) rfl
theorem wt_773 : Cond.methodLink "TwoOnACableLaw" 88 yX12_lasts ∈ gL := gm_5 (List.mem_of_getElem? (i := 44) (by decide +kernel)) rfl
theorem wt_774 : Cond.instanceMethod yX12_lasts ∈ gL := gm_5 (List.mem_of_getElem? (i := 45) (by decide +kernel)) rfl
theorem wt_775 : Cond.selects "TwoOnACableModel" yX12_lasts yX12_lasts ∈ gL := gm_5 (List.mem_of_getElem? (i := 46) (by decide +kernel)) rfl
theorem wt_776 : Cond.code yX12_lasts prog_14_method_49_code 3 (some FieldType.long) ∈ gL := gm_5 (List.mem_of_getElem? (i := 47) (by decide +kernel)) rfl
theorem wt_777 : Cond.constantLong "TwoOnACableModel" 208 (-102 : Int64) ∈ gL := gm_5 (List.mem_of_getElem? (i := 48) (by decide +kernel)) rfl
theorem wt_778 : Cond.methodLink "TwoOnACableModel" 210 yX12_lastsNow ∈ gL := gm_5 (List.mem_of_getElem? (i := 49) (by decide +kernel)) rfl
theorem wt_779 : Cond.instanceMethod yX12_lastsNow ∈ gL := gm_5 (List.mem_of_getElem? (i := 51) (by decide +kernel)) rfl
theorem wt_780 : Cond.code yX12_lastsNow prog_14_method_48_code 8 (some FieldType.long) ∈ gL := gm_5 (List.mem_of_getElem? (i := 52) (by decide +kernel)) rfl
theorem wt_781 : Cond.methodLink "TwoOnACableModel" 200 yX12_breaksBy ∈ gL := gm_5 (List.mem_of_getElem? (i := 53) (by decide +kernel)) rfl
theorem wt_782 : Cond.instanceMethod yX12_breaksBy ∈ gL := gm_5 (List.mem_of_getElem? (i := 55) (by decide +kernel)) rfl
theorem wt_783 : Cond.code yX12_breaksBy prog_14_method_47_code 4 (some FieldType.int) ∈ gL := gm_5 (List.mem_of_getElem? (i := 56) (by decide +kernel)) rfl
theorem wt_784 : Cond.constantLong "TwoOnACableModel" 198 (100 : Int64) ∈ gL := gm_5 (List.mem_of_getElem? (i := 57) (by decide +kernel)) rfl
theorem wt_785 : Cond.methodLink "TwoOnACableModel" 204 yX12_lowest ∈ gL := gm_5 (List.mem_of_getElem? (i := 58) (by decide +kernel)) rfl
theorem wt_786 : Cond.static yX12_lowest ∈ gL := gm_5 (List.mem_of_getElem? (i := 59) (by decide +kernel)) rfl
theorem wt_787 : Cond.code yX12_lowest prog_14_method_46_code 11 (some FieldType.long) ∈ gL := gm_5 (List.mem_of_getElem? (i := 60) (by decide +kernel)) rfl
theorem wt_788 : Cond.constantLong "TwoOnACableModel" 214 (-103 : Int64) ∈ gL := gm_5 (List.mem_of_getElem? (i := 61) (by decide +kernel)) rfl
theorem wt_789 : Cond.methodLink "TwoOnACableLaw" 92 yX12_whirls ∈ gL := gm_5 (List.mem_of_getElem? (i := 62) (by decide +kernel)) rfl
theorem wt_790 : Cond.instanceMethod yX12_whirls ∈ gL := gm_5 (List.mem_of_getElem? (i := 63) (by decide +kernel)) rfl
theorem wt_791 : Cond.selects "TwoOnACableModel" yX12_whirls yX12_whirls ∈ gL := gm_5 (List.mem_of_getElem? (i := 64) (by decide +kernel)) rfl
theorem wt_792 : Cond.code yX12_whirls prog_14_method_52_code 4 (some FieldType.int) ∈ gL := gm_5 (List.mem_of_getElem? (i := 65) (by decide +kernel)) rfl
theorem wt_793 : Cond.methodLink "TwoOnACableModel" 231 yX12_whirlsNow ∈ gL := gm_5 (List.mem_of_getElem? (i := 66) (by decide +kernel)) rfl
theorem wt_794 : Cond.instanceMethod yX12_whirlsNow ∈ gL := gm_5 (List.mem_of_getElem? (i := 68) (by decide +kernel)) rfl
theorem wt_795 : Cond.code yX12_whirlsNow prog_14_method_51_code 10 (some FieldType.int) ∈ gL := gm_5 (List.mem_of_getElem? (i := 69) (by decide +kernel)) rfl
theorem wt_796 : Cond.methodLink "TwoOnACableModel" 228 yX12_draw ∈ gL := gm_5 (List.mem_of_getElem? (i := 70) (by decide +kernel)) rfl
theorem wt_797 : Cond.instanceMethod yX12_draw ∈ gL := gm_5 (List.mem_of_getElem? (i := 72) (by decide +kernel)) rfl
theorem wt_798 : Cond.code yX12_draw prog_14_method_50_code 2 (some FieldType.int) ∈ gL := gm_5 (List.mem_of_getElem? (i := 73) (by decide +kernel)) rfl
theorem wt_799 : Cond.constantLong "TwoOnACableModel" 216 (1103515245 : Int64) ∈ gL := gm_5 (List.mem_of_getElem? (i := 74) (by decide +kernel)) rfl
theorem wt_800 : Cond.constantLong "TwoOnACableModel" 222 (12345 : Int64) ∈ gL := gm_5 (List.mem_of_getElem? (i := 75) (by decide +kernel)) rfl
theorem wt_801 : Cond.constantLong "TwoOnACableModel" 224 (2147483647 : Int64) ∈ gL := gm_5 (List.mem_of_getElem? (i := 76) (by decide +kernel)) rfl
theorem wt_802 : Cond.constantLong "TwoOnACableModel" 226 (65536 : Int64) ∈ gL := gm_5 (List.mem_of_getElem? (i := 77) (by decide +kernel)) rfl
theorem wt_803 : Cond.methodLink "TwoOnACableLaw" 96 yX12_image ∈ gL := gm_5 (List.mem_of_getElem? (i := 78) (by decide +kernel)) rfl
theorem wt_804 : Cond.instanceMethod yX12_image ∈ gL := gm_5 (List.mem_of_getElem? (i := 79) (by decide +kernel)) rfl
theorem wt_805 : Cond.selects "TwoOnACableModel" yX12_image yX12_image ∈ gL := gm_5 (List.mem_of_getElem? (i := 80) (by decide +kernel)) rfl
theorem wt_806 : Cond.code yX12_image prog_14_method_53_code 2 (some FieldType.int) ∈ gL := gm_5 (List.mem_of_getElem? (i := 81) (by decide +kernel)) rfl
theorem wt_807 : Cond.methodLink "TwoOnACableLaw" 100 yX12_restore ∈ gL := gm_5 (List.mem_of_getElem? (i := 82) (by decide +kernel)) rfl
theorem wt_808 : Cond.instanceMethod yX12_restore ∈ gL := gm_5 (List.mem_of_getElem? (i := 83) (by decide +kernel)) rfl
theorem wt_809 : Cond.selects "TwoOnACableModel" yX12_restore yX12_restore ∈ gL := gm_5 (List.mem_of_getElem? (i := 84) (by decide +kernel)) rfl
theorem wt_810 : Cond.code yX12_restore prog_14_method_54_code 2 (some FieldType.int) ∈ gL := gm_5 (List.mem_of_getElem? (i := 85) (by decide +kernel)) rfl
theorem wt_811 : Cond.methodLink "TwoOnACableLaw" 104 yX12_count ∈ gL := gm_5 (List.mem_of_getElem? (i := 86) (by decide +kernel)) rfl
theorem wt_812 : Cond.instanceMethod yX12_count ∈ gL := gm_5 (List.mem_of_getElem? (i := 87) (by decide +kernel)) rfl
theorem wt_813 : Cond.selects "TwoOnACableModel" yX12_count yX12_count ∈ gL := gm_5 (List.mem_of_getElem? (i := 88) (by decide +kernel)) rfl
theorem wt_814 : Cond.code yX12_count prog_14_method_57_code 2 (some FieldType.int) ∈ gL := gm_5 (List.mem_of_getElem? (i := 89) (by decide +kernel)) rfl
theorem wt_815 : Cond.methodLink "TwoOnACableModel" 259 yX12_howMany ∈ gL := gm_5 (List.mem_of_getElem? (i := 90) (by decide +kernel)) rfl
theorem wt_816 : Cond.instanceMethod yX12_howMany ∈ gL := gm_5 (List.mem_of_getElem? (i := 92) (by decide +kernel)) rfl
theorem wt_817 : Cond.code yX12_howMany prog_14_method_56_code 2 (some FieldType.int) ∈ gL := gm_5 (List.mem_of_getElem? (i := 93) (by decide +kernel)) rfl
theorem wt_818 : Cond.methodLink "TwoOnACableModel" 255 yX12_one ∈ gL := gm_5 (List.mem_of_getElem? (i := 94) (by decide +kernel)) rfl
theorem wt_819 : Cond.static yX12_one ∈ gL := gm_5 (List.mem_of_getElem? (i := 95) (by decide +kernel)) rfl
theorem wt_820 : Cond.code yX12_one prog_14_method_55_code 1 (some FieldType.int) ∈ gL := gm_5 (List.mem_of_getElem? (i := 96) (by decide +kernel)) rfl
theorem wt_821 : Cond.methodLink "TwoOnACableLaw" 109 yX12_digest ∈ gL := gm_5 (List.mem_of_getElem? (i := 97) (by decide +kernel)) rfl
theorem wt_822 : Cond.instanceMethod yX12_digest ∈ gL := gm_5 (List.mem_of_getElem? (i := 98) (by decide +kernel)) rfl
theorem wt_823 : Cond.selects "TwoOnACableModel" yX12_digest yX12_digest ∈ gL := gm_5 (List.mem_of_getElem? (i := 99) (by decide +kernel)) rfl
theorem wt_824 : Cond.code yX12_digest prog_14_method_59_code 3 (some FieldType.long) ∈ gL := gm_5 (List.mem_of_getElem? (i := 100) (by decide +kernel)) rfl
theorem wt_825 : Cond.constantLong "TwoOnACableModel" 267 (683 : Int64) ∈ gL := gm_5 (List.mem_of_getElem? (i := 101) (by decide +kernel)) rfl
theorem wt_826 : Cond.methodLink "TwoOnACableModel" 269 yX12_mix ∈ gL := gm_5 (List.mem_of_getElem? (i := 102) (by decide +kernel)) rfl
theorem wt_827 : Cond.instanceMethod yX12_mix ∈ gL := gm_5 (List.mem_of_getElem? (i := 104) (by decide +kernel)) rfl
theorem wt_828 : Cond.code yX12_mix prog_14_method_58_code 3 (none : Option FieldType) ∈ gL := gm_5 (List.mem_of_getElem? (i := 105) (by decide +kernel)) rfl
theorem wt_829 : Cond.constantLong "TwoOnACableModel" 262 (31 : Int64) ∈ gL := gm_5 (List.mem_of_getElem? (i := 106) (by decide +kernel)) rfl
theorem wt_830 : Cond.constantLong "TwoOnACableLaw" 13 (4294967295 : Int64) ∈ gL := gm_5 (List.mem_of_getElem? (i := 107) (by decide +kernel)) rfl
theorem wt_831 : Cond.sameMethod "TwoOnACable$Live" "TwoOnACable$Live" "grown" "(I)I" ∈ gL := gm_5 (List.mem_of_getElem? (i := 108) (by decide +kernel)) rfl
theorem wt_832 : Cond.selects "TwoOnACable$Hens" yX5_grown yX5_grown ∈ gL := gm_5 (List.mem_of_getElem? (i := 109) (by decide +kernel)) rfl
theorem wt_833 : Cond.selects "TwoOnACable$Live" yX5_grown yX5_grown ∈ gL := gm_5 (List.mem_of_getElem? (i := 110) (by decide +kernel)) rfl
theorem wt_834 : Cond.sameMethod "TwoOnACable$Thing" "TwoOnACable$Thing" "hoursHere" "(I)I" ∈ gL := gm_5 (List.mem_of_getElem? (i := 111) (by decide +kernel)) rfl
theorem wt_835 : Cond.selects "TwoOnACable$Cook" yX9_hoursHere yX9_hoursHere ∈ gL := gm_5 (List.mem_of_getElem? (i := 112) (by decide +kernel)) rfl
theorem wt_836 : Cond.selects "TwoOnACable$Guest" yX9_hoursHere yX9_hoursHere ∈ gL := gm_5 (List.mem_of_getElem? (i := 113) (by decide +kernel)) rfl
theorem wt_837 : Cond.selects "TwoOnACable$Hens" yX9_hoursHere yX9_hoursHere ∈ gL := gm_5 (List.mem_of_getElem? (i := 114) (by decide +kernel)) rfl
theorem wt_838 : Cond.selects "TwoOnACable$Live" yX9_hoursHere yX9_hoursHere ∈ gL := gm_5 (List.mem_of_getElem? (i := 115) (by decide +kernel)) rfl
theorem wt_839 : Cond.selects "TwoOnACable$Thing" yX9_hoursHere yX9_hoursHere ∈ gL := gm_5 (List.mem_of_getElem? (i := 116) (by decide +kernel)) rfl
theorem wt_840 : Cond.selects RX7 yX7_isWireLetter yX7_isWireLetter ∈ gL := gm_0 (by decide +kernel) rfl
theorem wt_841 : Cond.selects RX7 yX7_isBetween yX7_isBetween ∈ gL := gm_0 (by decide +kernel) rfl
theorem wt_842 : Cond.selects RX2 yX2_setUp yX2_setUp ∈ gL := gm_0 (by decide +kernel) rfl
theorem wt_843 : Cond.selects RX2 yX2_gapWith yX2_gapWith ∈ gL := gm_0 (by decide +kernel) rfl
theorem wt_844 : Cond.selects RX8 yX8_begin yX8_begin ∈ gL := gm_0 (by decide +kernel) rfl
theorem wt_845 : Cond.selects RX8 yX8_step yX8_step ∈ gL := gm_0 (by decide +kernel) rfl
theorem wt_846 : Cond.selects RX8 yX8_stepFrom yX8_stepFrom ∈ gL := gm_0 (by decide +kernel) rfl
theorem wt_847 : Cond.selects RX8 yX8_dropBroken yX8_dropBroken ∈ gL := gm_0 (by decide +kernel) rfl
theorem wt_848 : Cond.selects RX8 yX8_leastWay yX8_leastWay ∈ gL := gm_0 (by decide +kernel) rfl
theorem wt_849 : Cond.selects RX11 yX11_tryHours yX11_tryHours ∈ gL := gm_0 (by decide +kernel) rfl
theorem wt_850 : Cond.selects RX11 yX11_withCabins yX11_withCabins ∈ gL := gm_0 (by decide +kernel) rfl
theorem wt_851 : Cond.selects RX11 yX11_withThings yX11_withThings ∈ gL := gm_0 (by decide +kernel) rfl
theorem wt_852 : Cond.selects RX11 yX11_withOutlook yX11_withOutlook ∈ gL := gm_0 (by decide +kernel) rfl
theorem wt_853 : Cond.selects RX12 yX12_readWire yX12_readWire ∈ gL := gm_0 (by decide +kernel) rfl
theorem wt_854 : Cond.selects RX12 yX12_takes yX12_takes ∈ gL := gm_0 (by decide +kernel) rfl
theorem wt_855 : Cond.selects RX12 yX12_cabinNow yX12_cabinNow ∈ gL := gm_0 (by decide +kernel) rfl
theorem wt_856 : Cond.selects RX12 yX12_cabinWeighs yX12_cabinWeighs ∈ gL := gm_0 (by decide +kernel) rfl
theorem wt_857 : Cond.selects RX12 yX12_weighs yX12_weighs ∈ gL := gm_0 (by decide +kernel) rfl
theorem wt_858 : Cond.selects RX12 yX12_armBy yX12_armBy ∈ gL := gm_0 (by decide +kernel) rfl
theorem wt_859 : Cond.selects RX12 yX12_floorBy yX12_floorBy ∈ gL := gm_0 (by decide +kernel) rfl
theorem wt_860 : Cond.selects RX12 yX12_turnsAt yX12_turnsAt ∈ gL := gm_0 (by decide +kernel) rfl
theorem wt_861 : Cond.selects RX12 yX12_inCabin yX12_inCabin ∈ gL := gm_0 (by decide +kernel) rfl
theorem wt_862 : Cond.selects RX12 yX12_isThing yX12_isThing ∈ gL := gm_0 (by decide +kernel) rfl
theorem wt_863 : Cond.selects RX12 yX12_thingNow yX12_thingNow ∈ gL := gm_0 (by decide +kernel) rfl
theorem wt_864 : Cond.selects RX12 yX12_mayCarry yX12_mayCarry ∈ gL := gm_0 (by decide +kernel) rfl
theorem wt_865 : Cond.selects RX12 yX12_goHour yX12_goHour ∈ gL := gm_0 (by decide +kernel) rfl
theorem wt_866 : Cond.selects RX12 yX12_strainAt yX12_strainAt ∈ gL := gm_0 (by decide +kernel) rfl
theorem wt_867 : Cond.selects RX12 yX12_evenNow yX12_evenNow ∈ gL := gm_0 (by decide +kernel) rfl
theorem wt_868 : Cond.selects RX12 yX12_layEven yX12_layEven ∈ gL := gm_0 (by decide +kernel) rfl
theorem wt_869 : Cond.selects RX12 yX12_soonestNow yX12_soonestNow ∈ gL := gm_0 (by decide +kernel) rfl
theorem wt_870 : Cond.selects RX12 yX12_firstBy yX12_firstBy ∈ gL := gm_0 (by decide +kernel) rfl
theorem wt_871 : Cond.selects RX12 yX12_goLengths yX12_goLengths ∈ gL := gm_0 (by decide +kernel) rfl
theorem wt_872 : Cond.selects RX12 yX12_caughtNow yX12_caughtNow ∈ gL := gm_0 (by decide +kernel) rfl
theorem wt_873 : Cond.selects RX12 yX12_fitsNow yX12_fitsNow ∈ gL := gm_0 (by decide +kernel) rfl
theorem wt_874 : Cond.selects RX12 yX12_lastsNow yX12_lastsNow ∈ gL := gm_0 (by decide +kernel) rfl
theorem wt_875 : Cond.selects RX12 yX12_breaksBy yX12_breaksBy ∈ gL := gm_0 (by decide +kernel) rfl
theorem wt_876 : Cond.selects RX12 yX12_whirlsNow yX12_whirlsNow ∈ gL := gm_0 (by decide +kernel) rfl
theorem wt_877 : Cond.selects RX12 yX12_draw yX12_draw ∈ gL := gm_0 (by decide +kernel) rfl
theorem wt_878 : Cond.selects RX12 yX12_howMany yX12_howMany ∈ gL := gm_0 (by decide +kernel) rfl
theorem wt_879 : Cond.selects RX12 yX12_mix yX12_mix ∈ gL := gm_0 (by decide +kernel) rfl
theorem inX0 : ∀ w ∈ u_ws RX0 TX0 7, w ∈ gL := by decide +kernel
theorem inX1 : ∀ w ∈ u_ws RX1 TX1 3, w ∈ gL := by decide +kernel
theorem inX2 : ∀ w ∈ u_ws RX2 TX2 7, w ∈ gL := by decide +kernel
theorem inX3 : ∀ w ∈ u_ws RX3 TX3 3, w ∈ gL := by decide +kernel
theorem inX4 : ∀ w ∈ u_ws RX4 TX4 3, w ∈ gL := by decide +kernel
theorem inX5 : ∀ w ∈ u_ws RX5 TX5 3, w ∈ gL := by decide +kernel
theorem inX6 : ∀ w ∈ u_ws RX6 TX6 4, w ∈ gL := by decide +kernel
theorem inX7 : ∀ w ∈ u_ws RX7 TX7 2, w ∈ gL := by decide +kernel
theorem inX8 : ∀ w ∈ u_ws RX8 TX8 4, w ∈ gL := by decide +kernel
theorem inX9 : ∀ w ∈ u_ws RX9 TX9 3, w ∈ gL := by decide +kernel
theorem inX10 : ∀ w ∈ u_ws RX10 TX10 3, w ∈ gL := by decide +kernel
theorem inX11 : ∀ w ∈ u_ws RX11 TX11 10, w ∈ gL := by decide +kernel
theorem inX12 : ∀ w ∈ u_ws RX12 TX12 40, w ∈ gL := by decide +kernel
theorem inJ9 : ∀ w ∈ u_ws RJ9 TJ9 0, w ∈ gL := by decide +kernel
end
section
theorem dX0_init_0 : decode cX0_init 0 = .ok (.aload_n 0, 1) := by decide +kernel
theorem dX0_init_1 : decode cX0_init 1 = .ok (.invokespecial 3, 3) := by decide +kernel
theorem dX0_init_4 : decode cX0_init 4 = .ok (.return_, 1) := by decide +kernel
theorem dX0_hang_0 : decode cX0_hang 0 = .ok (.aload_n 0, 1) := by decide +kernel
theorem dX0_hang_1 : decode cX0_hang 1 = .ok (.bipush 10, 2) := by decide +kernel
theorem dX0_hang_3 : decode cX0_hang 3 = .ok (.aload_n 1, 1) := by decide +kernel
theorem dX0_hang_4 : decode cX0_hang 4 = .ok (.iconst 0, 1) := by decide +kernel
theorem dX0_hang_5 : decode cX0_hang 5 = .ok (.invokevirtual 9, 3) := by decide +kernel
theorem dX0_hang_8 : decode cX0_hang 8 = .ok (.imul, 1) := by decide +kernel
theorem dX0_hang_9 : decode cX0_hang 9 = .ok (.aload_n 1, 1) := by decide +kernel
theorem dX0_hang_10 : decode cX0_hang 10 = .ok (.iconst 1, 1) := by decide +kernel
theorem dX0_hang_11 : decode cX0_hang 11 = .ok (.invokevirtual 9, 3) := by decide +kernel
theorem dX0_hang_14 : decode cX0_hang 14 = .ok (.iadd, 1) := by decide +kernel
theorem dX0_hang_15 : decode cX0_hang 15 = .ok (.putfield 15, 3) := by decide +kernel
theorem dX0_hang_18 : decode cX0_hang 18 = .ok (.aload_n 0, 1) := by decide +kernel
theorem dX0_hang_19 : decode cX0_hang 19 = .ok (.aload_n 0, 1) := by decide +kernel
theorem dX0_hang_20 : decode cX0_hang 20 = .ok (.getfield 15, 3) := by decide +kernel
theorem dX0_hang_23 : decode cX0_hang 23 = .ok (.aload_n 0, 1) := by decide +kernel
theorem dX0_hang_24 : decode cX0_hang 24 = .ok (.getfield 15, 3) := by decide +kernel
theorem dX0_hang_27 : decode cX0_hang 27 = .ok (.imul, 1) := by decide +kernel
theorem dX0_hang_28 : decode cX0_hang 28 = .ok (.aload_n 1, 1) := by decide +kernel
theorem dX0_hang_29 : decode cX0_hang 29 = .ok (.iconst 3, 1) := by decide +kernel
theorem dX0_hang_30 : decode cX0_hang 30 = .ok (.invokevirtual 9, 3) := by decide +kernel
theorem dX0_hang_33 : decode cX0_hang 33 = .ok (.imul, 1) := by decide +kernel
theorem dX0_hang_34 : decode cX0_hang 34 = .ok (.putfield 21, 3) := by decide +kernel
theorem dX0_hang_37 : decode cX0_hang 37 = .ok (.aload_n 0, 1) := by decide +kernel
theorem dX0_hang_38 : decode cX0_hang 38 = .ok (.bipush 100, 2) := by decide +kernel
theorem dX0_hang_40 : decode cX0_hang 40 = .ok (.aload_n 1, 1) := by decide +kernel
theorem dX0_hang_41 : decode cX0_hang 41 = .ok (.iconst 5, 1) := by decide +kernel
theorem dX0_hang_42 : decode cX0_hang 42 = .ok (.invokevirtual 9, 3) := by decide +kernel
theorem dX0_hang_45 : decode cX0_hang 45 = .ok (.imul, 1) := by decide +kernel
theorem dX0_hang_46 : decode cX0_hang 46 = .ok (.bipush 10, 2) := by decide +kernel
theorem dX0_hang_48 : decode cX0_hang 48 = .ok (.aload_n 1, 1) := by decide +kernel
theorem dX0_hang_49 : decode cX0_hang 49 = .ok (.bipush 6, 2) := by decide +kernel
theorem dX0_hang_51 : decode cX0_hang 51 = .ok (.invokevirtual 9, 3) := by decide +kernel
theorem dX0_hang_54 : decode cX0_hang 54 = .ok (.imul, 1) := by decide +kernel
theorem dX0_hang_55 : decode cX0_hang 55 = .ok (.iadd, 1) := by decide +kernel
theorem dX0_hang_56 : decode cX0_hang 56 = .ok (.aload_n 1, 1) := by decide +kernel
theorem dX0_hang_57 : decode cX0_hang 57 = .ok (.bipush 7, 2) := by decide +kernel
theorem dX0_hang_59 : decode cX0_hang 59 = .ok (.invokevirtual 9, 3) := by decide +kernel
theorem dX0_hang_62 : decode cX0_hang 62 = .ok (.iadd, 1) := by decide +kernel
theorem dX0_hang_63 : decode cX0_hang 63 = .ok (.putfield 24, 3) := by decide +kernel
theorem dX0_hang_66 : decode cX0_hang 66 = .ok (.aload_n 0, 1) := by decide +kernel
theorem dX0_hang_67 : decode cX0_hang 67 = .ok (.aload_n 1, 1) := by decide +kernel
theorem dX0_hang_68 : decode cX0_hang 68 = .ok (.getfield 27, 3) := by decide +kernel
theorem dX0_hang_71 : decode cX0_hang 71 = .ok (.bipush 8, 2) := by decide +kernel
theorem dX0_hang_73 : decode cX0_hang 73 = .ok (.if_icmp .le 7, 3) := by decide +kernel
theorem dX0_hang_76 : decode cX0_hang 76 = .ok (.iconst 1, 1) := by decide +kernel
theorem dX0_hang_77 : decode cX0_hang 77 = .ok (.goto 4, 3) := by decide +kernel
theorem dX0_hang_80 : decode cX0_hang 80 = .ok (.iconst 0, 1) := by decide +kernel
theorem dX0_hang_81 : decode cX0_hang 81 = .ok (.putfield 30, 3) := by decide +kernel
theorem dX0_hang_84 : decode cX0_hang 84 = .ok (.aload_n 0, 1) := by decide +kernel
theorem dX0_hang_85 : decode cX0_hang 85 = .ok (.iconst 0, 1) := by decide +kernel
theorem dX0_hang_86 : decode cX0_hang 86 = .ok (.putfield 34, 3) := by decide +kernel
theorem dX0_hang_89 : decode cX0_hang 89 = .ok (.aload_n 0, 1) := by decide +kernel
theorem dX0_hang_90 : decode cX0_hang 90 = .ok (.iconst 0, 1) := by decide +kernel
theorem dX0_hang_91 : decode cX0_hang 91 = .ok (.putfield 37, 3) := by decide +kernel
theorem dX0_hang_94 : decode cX0_hang 94 = .ok (.aload_n 0, 1) := by decide +kernel
theorem dX0_hang_95 : decode cX0_hang 95 = .ok (.iconst 0, 1) := by decide +kernel
theorem dX0_hang_96 : decode cX0_hang 96 = .ok (.putfield 40, 3) := by decide +kernel
theorem dX0_hang_99 : decode cX0_hang 99 = .ok (.return_, 1) := by decide +kernel
theorem dX0_becomeLike_0 : decode cX0_becomeLike 0 = .ok (.aload_n 0, 1) := by decide +kernel
theorem dX0_becomeLike_1 : decode cX0_becomeLike 1 = .ok (.aload_n 1, 1) := by decide +kernel
theorem dX0_becomeLike_2 : decode cX0_becomeLike 2 = .ok (.getfield 15, 3) := by decide +kernel
theorem dX0_becomeLike_5 : decode cX0_becomeLike 5 = .ok (.putfield 15, 3) := by decide +kernel
theorem dX0_becomeLike_8 : decode cX0_becomeLike 8 = .ok (.aload_n 0, 1) := by decide +kernel
theorem dX0_becomeLike_9 : decode cX0_becomeLike 9 = .ok (.aload_n 1, 1) := by decide +kernel
theorem dX0_becomeLike_10 : decode cX0_becomeLike 10 = .ok (.getfield 21, 3) := by decide +kernel
theorem dX0_becomeLike_13 : decode cX0_becomeLike 13 = .ok (.putfield 21, 3) := by decide +kernel
theorem dX0_becomeLike_16 : decode cX0_becomeLike 16 = .ok (.aload_n 0, 1) := by decide +kernel
theorem dX0_becomeLike_17 : decode cX0_becomeLike 17 = .ok (.aload_n 1, 1) := by decide +kernel
theorem dX0_becomeLike_18 : decode cX0_becomeLike 18 = .ok (.getfield 24, 3) := by decide +kernel
theorem dX0_becomeLike_21 : decode cX0_becomeLike 21 = .ok (.putfield 24, 3) := by decide +kernel
theorem dX0_becomeLike_24 : decode cX0_becomeLike 24 = .ok (.aload_n 0, 1) := by decide +kernel
theorem dX0_becomeLike_25 : decode cX0_becomeLike 25 = .ok (.aload_n 1, 1) := by decide +kernel
theorem dX0_becomeLike_26 : decode cX0_becomeLike 26 = .ok (.getfield 34, 3) := by decide +kernel
theorem dX0_becomeLike_29 : decode cX0_becomeLike 29 = .ok (.putfield 34, 3) := by decide +kernel
theorem dX0_becomeLike_32 : decode cX0_becomeLike 32 = .ok (.aload_n 0, 1) := by decide +kernel
theorem dX0_becomeLike_33 : decode cX0_becomeLike 33 = .ok (.aload_n 1, 1) := by decide +kernel
theorem dX0_becomeLike_34 : decode cX0_becomeLike 34 = .ok (.getfield 37, 3) := by decide +kernel
theorem dX0_becomeLike_37 : decode cX0_becomeLike 37 = .ok (.putfield 37, 3) := by decide +kernel
theorem dX0_becomeLike_40 : decode cX0_becomeLike 40 = .ok (.aload_n 0, 1) := by decide +kernel
theorem dX0_becomeLike_41 : decode cX0_becomeLike 41 = .ok (.aload_n 1, 1) := by decide +kernel
theorem dX0_becomeLike_42 : decode cX0_becomeLike 42 = .ok (.getfield 30, 3) := by decide +kernel
theorem dX0_becomeLike_45 : decode cX0_becomeLike 45 = .ok (.putfield 30, 3) := by decide +kernel
theorem dX0_becomeLike_48 : decode cX0_becomeLike 48 = .ok (.aload_n 0, 1) := by decide +kernel
theorem dX0_becomeLike_49 : decode cX0_becomeLike 49 = .ok (.aload_n 1, 1) := by decide +kernel
theorem dX0_becomeLike_50 : decode cX0_becomeLike 50 = .ok (.getfield 40, 3) := by decide +kernel
theorem dX0_becomeLike_53 : decode cX0_becomeLike 53 = .ok (.putfield 40, 3) := by decide +kernel
theorem dX0_becomeLike_56 : decode cX0_becomeLike 56 = .ok (.return_, 1) := by decide +kernel
theorem dX0_isThere_0 : decode cX0_isThere 0 = .ok (.aload_n 0, 1) := by decide +kernel
theorem dX0_isThere_1 : decode cX0_isThere 1 = .ok (.getfield 15, 3) := by decide +kernel
theorem dX0_isThere_4 : decode cX0_isThere 4 = .ok (.ifCond .le 7, 3) := by decide +kernel
theorem dX0_isThere_7 : decode cX0_isThere 7 = .ok (.iconst 1, 1) := by decide +kernel
theorem dX0_isThere_8 : decode cX0_isThere 8 = .ok (.goto 4, 3) := by decide +kernel
theorem dX0_isThere_11 : decode cX0_isThere 11 = .ok (.iconst 0, 1) := by decide +kernel
theorem dX0_isThere_12 : decode cX0_isThere 12 = .ok (.ireturn, 1) := by decide +kernel
theorem dX0_isWhole_0 : decode cX0_isWhole 0 = .ok (.aload_n 0, 1) := by decide +kernel
theorem dX0_isWhole_1 : decode cX0_isWhole 1 = .ok (.getfield 15, 3) := by decide +kernel
theorem dX0_isWhole_4 : decode cX0_isWhole 4 = .ok (.ifCond .le 14, 3) := by decide +kernel
theorem dX0_isWhole_7 : decode cX0_isWhole 7 = .ok (.aload_n 0, 1) := by decide +kernel
theorem dX0_isWhole_8 : decode cX0_isWhole 8 = .ok (.getfield 40, 3) := by decide +kernel
theorem dX0_isWhole_11 : decode cX0_isWhole 11 = .ok (.ifCond .ne 7, 3) := by decide +kernel
theorem dX0_isWhole_14 : decode cX0_isWhole 14 = .ok (.iconst 1, 1) := by decide +kernel
theorem dX0_isWhole_15 : decode cX0_isWhole 15 = .ok (.goto 4, 3) := by decide +kernel
theorem dX0_isWhole_18 : decode cX0_isWhole 18 = .ok (.iconst 0, 1) := by decide +kernel
theorem dX0_isWhole_19 : decode cX0_isWhole 19 = .ok (.ireturn, 1) := by decide +kernel
theorem dX0_turnsAt_0 : decode cX0_turnsAt 0 = .ok (.iload_n 1, 1) := by decide +kernel
theorem dX0_turnsAt_1 : decode cX0_turnsAt 1 = .ok (.invokestatic 43, 3) := by decide +kernel
theorem dX0_turnsAt_4 : decode cX0_turnsAt 4 = .ok (.ifCond .eq 14, 3) := by decide +kernel
theorem dX0_turnsAt_7 : decode cX0_turnsAt 7 = .ok (.aload_n 0, 1) := by decide +kernel
theorem dX0_turnsAt_8 : decode cX0_turnsAt 8 = .ok (.getfield 21, 3) := by decide +kernel
theorem dX0_turnsAt_11 : decode cX0_turnsAt 11 = .ok (.iload_n 1, 1) := by decide +kernel
theorem dX0_turnsAt_12 : decode cX0_turnsAt 12 = .ok (.iload_n 1, 1) := by decide +kernel
theorem dX0_turnsAt_13 : decode cX0_turnsAt 13 = .ok (.imul, 1) := by decide +kernel
theorem dX0_turnsAt_14 : decode cX0_turnsAt 14 = .ok (.idiv, 1) := by decide +kernel
theorem dX0_turnsAt_15 : decode cX0_turnsAt 15 = .ok (.goto 4, 3) := by decide +kernel
theorem dX0_turnsAt_18 : decode cX0_turnsAt 18 = .ok (.iconst 0, 1) := by decide +kernel
theorem dX0_turnsAt_19 : decode cX0_turnsAt 19 = .ok (.ireturn, 1) := by decide +kernel
theorem dX0_turnsNow_0 : decode cX0_turnsNow 0 = .ok (.aload_n 0, 1) := by decide +kernel
theorem dX0_turnsNow_1 : decode cX0_turnsNow 1 = .ok (.aload_n 0, 1) := by decide +kernel
theorem dX0_turnsNow_2 : decode cX0_turnsNow 2 = .ok (.getfield 15, 3) := by decide +kernel
theorem dX0_turnsNow_5 : decode cX0_turnsNow 5 = .ok (.invokevirtual 47, 3) := by decide +kernel
theorem dX0_turnsNow_8 : decode cX0_turnsNow 8 = .ok (.ireturn, 1) := by decide +kernel
theorem dX0_armAt_0 : decode cX0_armAt 0 = .ok (.iload_n 3, 1) := by decide +kernel
theorem dX0_armAt_1 : decode cX0_armAt 1 = .ok (.iload 4, 2) := by decide +kernel
theorem dX0_armAt_3 : decode cX0_armAt 3 = .ok (.iadd, 1) := by decide +kernel
theorem dX0_armAt_4 : decode cX0_armAt 4 = .ok (.istore 5, 2) := by decide +kernel
theorem dX0_armAt_6 : decode cX0_armAt 6 = .ok (.iload 5, 2) := by decide +kernel
theorem dX0_armAt_8 : decode cX0_armAt 8 = .ok (.ifCond .le 13, 3) := by decide +kernel
theorem dX0_armAt_11 : decode cX0_armAt 11 = .ok (.iload_n 2, 1) := by decide +kernel
theorem dX0_armAt_12 : decode cX0_armAt 12 = .ok (.iload 4, 2) := by decide +kernel
theorem dX0_armAt_14 : decode cX0_armAt 14 = .ok (.imul, 1) := by decide +kernel
theorem dX0_armAt_15 : decode cX0_armAt 15 = .ok (.iload 5, 2) := by decide +kernel
theorem dX0_armAt_17 : decode cX0_armAt 17 = .ok (.idiv, 1) := by decide +kernel
theorem dX0_armAt_18 : decode cX0_armAt 18 = .ok (.goto 4, 3) := by decide +kernel
theorem dX0_armAt_21 : decode cX0_armAt 21 = .ok (.iconst 0, 1) := by decide +kernel
theorem dX0_armAt_22 : decode cX0_armAt 22 = .ok (.istore 6, 2) := by decide +kernel
theorem dX0_armAt_24 : decode cX0_armAt 24 = .ok (.iload_n 1, 1) := by decide +kernel
theorem dX0_armAt_25 : decode cX0_armAt 25 = .ok (.ifCond .ne 8, 3) := by decide +kernel
theorem dX0_armAt_28 : decode cX0_armAt 28 = .ok (.iload 6, 2) := by decide +kernel
theorem dX0_armAt_30 : decode cX0_armAt 30 = .ok (.goto 7, 3) := by decide +kernel
theorem dX0_armAt_33 : decode cX0_armAt 33 = .ok (.iload_n 2, 1) := by decide +kernel
theorem dX0_armAt_34 : decode cX0_armAt 34 = .ok (.iload 6, 2) := by decide +kernel
theorem dX0_armAt_36 : decode cX0_armAt 36 = .ok (.isub, 1) := by decide +kernel
theorem dX0_armAt_37 : decode cX0_armAt 37 = .ok (.ireturn, 1) := by decide +kernel
theorem dX0_floorAt_0 : decode cX0_floorAt 0 = .ok (.aload_n 0, 1) := by decide +kernel
theorem dX0_floorAt_1 : decode cX0_floorAt 1 = .ok (.iload_n 2, 1) := by decide +kernel
theorem dX0_floorAt_2 : decode cX0_floorAt 2 = .ok (.invokevirtual 47, 3) := by decide +kernel
theorem dX0_floorAt_5 : decode cX0_floorAt 5 = .ok (.istore 5, 2) := by decide +kernel
theorem dX0_floorAt_7 : decode cX0_floorAt 7 = .ok (.aload_n 0, 1) := by decide +kernel
theorem dX0_floorAt_8 : decode cX0_floorAt 8 = .ok (.iload_n 1, 1) := by decide +kernel
theorem dX0_floorAt_9 : decode cX0_floorAt 9 = .ok (.iload_n 2, 1) := by decide +kernel
theorem dX0_floorAt_10 : decode cX0_floorAt 10 = .ok (.iload_n 3, 1) := by decide +kernel
theorem dX0_floorAt_11 : decode cX0_floorAt 11 = .ok (.iload 4, 2) := by decide +kernel
theorem dX0_floorAt_13 : decode cX0_floorAt 13 = .ok (.invokevirtual 50, 3) := by decide +kernel
theorem dX0_floorAt_16 : decode cX0_floorAt 16 = .ok (.iload 5, 2) := by decide +kernel
theorem dX0_floorAt_18 : decode cX0_floorAt 18 = .ok (.imul, 1) := by decide +kernel
theorem dX0_floorAt_19 : decode cX0_floorAt 19 = .ok (.iload 5, 2) := by decide +kernel
theorem dX0_floorAt_21 : decode cX0_floorAt 21 = .ok (.imul, 1) := by decide +kernel
theorem dX0_floorAt_22 : decode cX0_floorAt 22 = .ok (.ireturn, 1) := by decide +kernel
theorem dX0_strainAt_0 : decode cX0_strainAt 0 = .ok (.iload_n 2, 1) := by decide +kernel
theorem dX0_strainAt_1 : decode cX0_strainAt 1 = .ok (.aload_n 0, 1) := by decide +kernel
theorem dX0_strainAt_2 : decode cX0_strainAt 2 = .ok (.iconst 0, 1) := by decide +kernel
theorem dX0_strainAt_3 : decode cX0_strainAt 3 = .ok (.iload_n 1, 1) := by decide +kernel
theorem dX0_strainAt_4 : decode cX0_strainAt 4 = .ok (.iload_n 2, 1) := by decide +kernel
theorem dX0_strainAt_5 : decode cX0_strainAt 5 = .ok (.iload_n 3, 1) := by decide +kernel
theorem dX0_strainAt_6 : decode cX0_strainAt 6 = .ok (.invokevirtual 54, 3) := by decide +kernel
theorem dX0_strainAt_9 : decode cX0_strainAt 9 = .ok (.imul, 1) := by decide +kernel
theorem dX0_strainAt_10 : decode cX0_strainAt 10 = .ok (.bipush 100, 2) := by decide +kernel
theorem dX0_strainAt_12 : decode cX0_strainAt 12 = .ok (.idiv, 1) := by decide +kernel
theorem dX0_strainAt_13 : decode cX0_strainAt 13 = .ok (.ireturn, 1) := by decide +kernel
theorem dX0_armNow_0 : decode cX0_armNow 0 = .ok (.aload_n 0, 1) := by decide +kernel
theorem dX0_armNow_1 : decode cX0_armNow 1 = .ok (.iload_n 1, 1) := by decide +kernel
theorem dX0_armNow_2 : decode cX0_armNow 2 = .ok (.aload_n 0, 1) := by decide +kernel
theorem dX0_armNow_3 : decode cX0_armNow 3 = .ok (.getfield 15, 3) := by decide +kernel
theorem dX0_armNow_6 : decode cX0_armNow 6 = .ok (.aload_n 2, 1) := by decide +kernel
theorem dX0_armNow_7 : decode cX0_armNow 7 = .ok (.iconst 0, 1) := by decide +kernel
theorem dX0_armNow_8 : decode cX0_armNow 8 = .ok (.aload_n 0, 1) := by decide +kernel
theorem dX0_armNow_9 : decode cX0_armNow 9 = .ok (.getfield 37, 3) := by decide +kernel
theorem dX0_armNow_12 : decode cX0_armNow 12 = .ok (.invokevirtual 57, 3) := by decide +kernel
theorem dX0_armNow_15 : decode cX0_armNow 15 = .ok (.aload_n 2, 1) := by decide +kernel
theorem dX0_armNow_16 : decode cX0_armNow 16 = .ok (.iconst 1, 1) := by decide +kernel
theorem dX0_armNow_17 : decode cX0_armNow 17 = .ok (.aload_n 0, 1) := by decide +kernel
theorem dX0_armNow_18 : decode cX0_armNow 18 = .ok (.getfield 37, 3) := by decide +kernel
theorem dX0_armNow_21 : decode cX0_armNow 21 = .ok (.invokevirtual 57, 3) := by decide +kernel
theorem dX0_armNow_24 : decode cX0_armNow 24 = .ok (.invokevirtual 50, 3) := by decide +kernel
theorem dX0_armNow_27 : decode cX0_armNow 27 = .ok (.ireturn, 1) := by decide +kernel
theorem dX0_floorNow_0 : decode cX0_floorNow 0 = .ok (.aload_n 0, 1) := by decide +kernel
theorem dX0_floorNow_1 : decode cX0_floorNow 1 = .ok (.iload_n 1, 1) := by decide +kernel
theorem dX0_floorNow_2 : decode cX0_floorNow 2 = .ok (.aload_n 0, 1) := by decide +kernel
theorem dX0_floorNow_3 : decode cX0_floorNow 3 = .ok (.getfield 15, 3) := by decide +kernel
theorem dX0_floorNow_6 : decode cX0_floorNow 6 = .ok (.aload_n 2, 1) := by decide +kernel
theorem dX0_floorNow_7 : decode cX0_floorNow 7 = .ok (.iconst 0, 1) := by decide +kernel
theorem dX0_floorNow_8 : decode cX0_floorNow 8 = .ok (.aload_n 0, 1) := by decide +kernel
theorem dX0_floorNow_9 : decode cX0_floorNow 9 = .ok (.getfield 37, 3) := by decide +kernel
theorem dX0_floorNow_12 : decode cX0_floorNow 12 = .ok (.invokevirtual 57, 3) := by decide +kernel
theorem dX0_floorNow_15 : decode cX0_floorNow 15 = .ok (.aload_n 2, 1) := by decide +kernel
theorem dX0_floorNow_16 : decode cX0_floorNow 16 = .ok (.iconst 1, 1) := by decide +kernel
theorem dX0_floorNow_17 : decode cX0_floorNow 17 = .ok (.aload_n 0, 1) := by decide +kernel
theorem dX0_floorNow_18 : decode cX0_floorNow 18 = .ok (.getfield 37, 3) := by decide +kernel
theorem dX0_floorNow_21 : decode cX0_floorNow 21 = .ok (.invokevirtual 57, 3) := by decide +kernel
theorem dX0_floorNow_24 : decode cX0_floorNow 24 = .ok (.invokevirtual 54, 3) := by decide +kernel
theorem dX0_floorNow_27 : decode cX0_floorNow 27 = .ok (.ireturn, 1) := by decide +kernel
theorem dX0_strainNow_0 : decode cX0_strainNow 0 = .ok (.aload_n 0, 1) := by decide +kernel
theorem dX0_strainNow_1 : decode cX0_strainNow 1 = .ok (.aload_n 0, 1) := by decide +kernel
theorem dX0_strainNow_2 : decode cX0_strainNow 2 = .ok (.getfield 15, 3) := by decide +kernel
theorem dX0_strainNow_5 : decode cX0_strainNow 5 = .ok (.aload_n 1, 1) := by decide +kernel
theorem dX0_strainNow_6 : decode cX0_strainNow 6 = .ok (.iconst 0, 1) := by decide +kernel
theorem dX0_strainNow_7 : decode cX0_strainNow 7 = .ok (.aload_n 0, 1) := by decide +kernel
theorem dX0_strainNow_8 : decode cX0_strainNow 8 = .ok (.getfield 37, 3) := by decide +kernel
theorem dX0_strainNow_11 : decode cX0_strainNow 11 = .ok (.invokevirtual 57, 3) := by decide +kernel
theorem dX0_strainNow_14 : decode cX0_strainNow 14 = .ok (.aload_n 1, 1) := by decide +kernel
theorem dX0_strainNow_15 : decode cX0_strainNow 15 = .ok (.iconst 1, 1) := by decide +kernel
theorem dX0_strainNow_16 : decode cX0_strainNow 16 = .ok (.aload_n 0, 1) := by decide +kernel
theorem dX0_strainNow_17 : decode cX0_strainNow 17 = .ok (.getfield 37, 3) := by decide +kernel
theorem dX0_strainNow_20 : decode cX0_strainNow 20 = .ok (.invokevirtual 57, 3) := by decide +kernel
theorem dX0_strainNow_23 : decode cX0_strainNow 23 = .ok (.invokevirtual 63, 3) := by decide +kernel
theorem dX0_strainNow_26 : decode cX0_strainNow 26 = .ok (.ireturn, 1) := by decide +kernel
theorem dX0_placeAfter_0 : decode cX0_placeAfter 0 = .ok (.aload_n 0, 1) := by decide +kernel
theorem dX0_placeAfter_1 : decode cX0_placeAfter 1 = .ok (.getfield 34, 3) := by decide +kernel
theorem dX0_placeAfter_4 : decode cX0_placeAfter 4 = .ok (.iload_n 1, 1) := by decide +kernel
theorem dX0_placeAfter_5 : decode cX0_placeAfter 5 = .ok (.aload_n 0, 1) := by decide +kernel
theorem dX0_placeAfter_6 : decode cX0_placeAfter 6 = .ok (.invokevirtual 67, 3) := by decide +kernel
theorem dX0_placeAfter_9 : decode cX0_placeAfter 9 = .ok (.imul, 1) := by decide +kernel
theorem dX0_placeAfter_10 : decode cX0_placeAfter 10 = .ok (.bipush 10, 2) := by decide +kernel
theorem dX0_placeAfter_12 : decode cX0_placeAfter 12 = .ok (.imul, 1) := by decide +kernel
theorem dX0_placeAfter_13 : decode cX0_placeAfter 13 = .ok (.iadd, 1) := by decide +kernel
theorem dX0_placeAfter_14 : decode cX0_placeAfter 14 = .ok (.sipush 360, 3) := by decide +kernel
theorem dX0_placeAfter_17 : decode cX0_placeAfter 17 = .ok (.invokestatic 71, 3) := by decide +kernel
theorem dX0_placeAfter_20 : decode cX0_placeAfter 20 = .ok (.ireturn, 1) := by decide +kernel
theorem dX0_goHour_0 : decode cX0_goHour 0 = .ok (.aload_n 0, 1) := by decide +kernel
theorem dX0_goHour_1 : decode cX0_goHour 1 = .ok (.dup, 1) := by decide +kernel
theorem dX0_goHour_2 : decode cX0_goHour 2 = .ok (.getfield 15, 3) := by decide +kernel
theorem dX0_goHour_5 : decode cX0_goHour 5 = .ok (.iload_n 1, 1) := by decide +kernel
theorem dX0_goHour_6 : decode cX0_goHour 6 = .ok (.isub, 1) := by decide +kernel
theorem dX0_goHour_7 : decode cX0_goHour 7 = .ok (.putfield 15, 3) := by decide +kernel
theorem dX0_goHour_10 : decode cX0_goHour 10 = .ok (.aload_n 0, 1) := by decide +kernel
theorem dX0_goHour_11 : decode cX0_goHour 11 = .ok (.dup, 1) := by decide +kernel
theorem dX0_goHour_12 : decode cX0_goHour 12 = .ok (.getfield 37, 3) := by decide +kernel
theorem dX0_goHour_15 : decode cX0_goHour 15 = .ok (.iconst 1, 1) := by decide +kernel
theorem dX0_goHour_16 : decode cX0_goHour 16 = .ok (.iadd, 1) := by decide +kernel
theorem dX0_goHour_17 : decode cX0_goHour 17 = .ok (.putfield 37, 3) := by decide +kernel
theorem dX0_goHour_20 : decode cX0_goHour 20 = .ok (.aload_n 0, 1) := by decide +kernel
theorem dX0_goHour_21 : decode cX0_goHour 21 = .ok (.aload_n 0, 1) := by decide +kernel
theorem dX0_goHour_22 : decode cX0_goHour 22 = .ok (.iconst 1, 1) := by decide +kernel
theorem dX0_goHour_23 : decode cX0_goHour 23 = .ok (.invokevirtual 76, 3) := by decide +kernel
theorem dX0_goHour_26 : decode cX0_goHour 26 = .ok (.putfield 34, 3) := by decide +kernel
theorem dX0_goHour_29 : decode cX0_goHour 29 = .ok (.aload_n 0, 1) := by decide +kernel
theorem dX0_goHour_30 : decode cX0_goHour 30 = .ok (.aload_n 0, 1) := by decide +kernel
theorem dX0_goHour_31 : decode cX0_goHour 31 = .ok (.aload_n 2, 1) := by decide +kernel
theorem dX0_goHour_32 : decode cX0_goHour 32 = .ok (.invokevirtual 79, 3) := by decide +kernel
theorem dX0_goHour_35 : decode cX0_goHour 35 = .ok (.aload_n 0, 1) := by decide +kernel
theorem dX0_goHour_36 : decode cX0_goHour 36 = .ok (.getfield 24, 3) := by decide +kernel
theorem dX0_goHour_39 : decode cX0_goHour 39 = .ok (.if_icmp .le 7, 3) := by decide +kernel
theorem dX0_goHour_42 : decode cX0_goHour 42 = .ok (.iconst 1, 1) := by decide +kernel
theorem dX0_goHour_43 : decode cX0_goHour 43 = .ok (.goto 4, 3) := by decide +kernel
theorem dX0_goHour_46 : decode cX0_goHour 46 = .ok (.iconst 0, 1) := by decide +kernel
theorem dX0_goHour_47 : decode cX0_goHour 47 = .ok (.putfield 40, 3) := by decide +kernel
theorem dX0_goHour_50 : decode cX0_goHour 50 = .ok (.return_, 1) := by decide +kernel
theorem dX0_breakingHundredths_0 : decode cX0_breakingHundredths 0 = .ok (.aload_n 0, 1) := by decide +kernel
theorem dX0_breakingHundredths_1 : decode cX0_breakingHundredths 1 = .ok (.aload_n 1, 1) := by decide +kernel
theorem dX0_breakingHundredths_2 : decode cX0_breakingHundredths 2 = .ok (.invokevirtual 79, 3) := by decide +kernel
theorem dX0_breakingHundredths_5 : decode cX0_breakingHundredths 5 = .ok (.istore_n 2, 1) := by decide +kernel
theorem dX0_breakingHundredths_6 : decode cX0_breakingHundredths 6 = .ok (.aload_n 0, 1) := by decide +kernel
theorem dX0_breakingHundredths_7 : decode cX0_breakingHundredths 7 = .ok (.getfield 30, 3) := by decide +kernel
theorem dX0_breakingHundredths_10 : decode cX0_breakingHundredths 10 = .ok (.ifCond .eq 11, 3) := by decide +kernel
theorem dX0_breakingHundredths_13 : decode cX0_breakingHundredths 13 = .ok (.aload_n 0, 1) := by decide +kernel
theorem dX0_breakingHundredths_14 : decode cX0_breakingHundredths 14 = .ok (.getfield 24, 3) := by decide +kernel
theorem dX0_breakingHundredths_17 : decode cX0_breakingHundredths 17 = .ok (.iconst 1, 1) := by decide +kernel
theorem dX0_breakingHundredths_18 : decode cX0_breakingHundredths 18 = .ok (.if_icmp .ge 18, 3) := by decide +kernel
theorem dX0_breakingHundredths_21 : decode cX0_breakingHundredths 21 = .ok (.iload_n 2, 1) := by decide +kernel
theorem dX0_breakingHundredths_22 : decode cX0_breakingHundredths 22 = .ok (.aload_n 0, 1) := by decide +kernel
theorem dX0_breakingHundredths_23 : decode cX0_breakingHundredths 23 = .ok (.getfield 24, 3) := by decide +kernel
theorem dX0_breakingHundredths_26 : decode cX0_breakingHundredths 26 = .ok (.if_icmp .le 8, 3) := by decide +kernel
theorem dX0_breakingHundredths_29 : decode cX0_breakingHundredths 29 = .ok (.bipush 100, 2) := by decide +kernel
theorem dX0_breakingHundredths_31 : decode cX0_breakingHundredths 31 = .ok (.goto 4, 3) := by decide +kernel
theorem dX0_breakingHundredths_34 : decode cX0_breakingHundredths 34 = .ok (.iconst 0, 1) := by decide +kernel
theorem dX0_breakingHundredths_35 : decode cX0_breakingHundredths 35 = .ok (.ireturn, 1) := by decide +kernel
theorem dX0_breakingHundredths_36 : decode cX0_breakingHundredths 36 = .ok (.bipush 100, 2) := by decide +kernel
theorem dX0_breakingHundredths_38 : decode cX0_breakingHundredths 38 = .ok (.iload_n 2, 1) := by decide +kernel
theorem dX0_breakingHundredths_39 : decode cX0_breakingHundredths 39 = .ok (.bipush 100, 2) := by decide +kernel
theorem dX0_breakingHundredths_41 : decode cX0_breakingHundredths 41 = .ok (.imul, 1) := by decide +kernel
theorem dX0_breakingHundredths_42 : decode cX0_breakingHundredths 42 = .ok (.aload_n 0, 1) := by decide +kernel
theorem dX0_breakingHundredths_43 : decode cX0_breakingHundredths 43 = .ok (.getfield 24, 3) := by decide +kernel
theorem dX0_breakingHundredths_46 : decode cX0_breakingHundredths 46 = .ok (.idiv, 1) := by decide +kernel
theorem dX0_breakingHundredths_47 : decode cX0_breakingHundredths 47 = .ok (.invokestatic 83, 3) := by decide +kernel
theorem dX0_breakingHundredths_50 : decode cX0_breakingHundredths 50 = .ok (.ireturn, 1) := by decide +kernel
theorem dX1_init_0 : decode cX1_init 0 = .ok (.aload_n 0, 1) := by decide +kernel
theorem dX1_init_1 : decode cX1_init 1 = .ok (.iload_n 1, 1) := by decide +kernel
theorem dX1_init_2 : decode cX1_init 2 = .ok (.iload_n 2, 1) := by decide +kernel
theorem dX1_init_3 : decode cX1_init 3 = .ok (.iload_n 3, 1) := by decide +kernel
theorem dX1_init_4 : decode cX1_init 4 = .ok (.invokespecial 3, 3) := by decide +kernel
theorem dX1_init_7 : decode cX1_init 7 = .ok (.return_, 1) := by decide +kernel
theorem dX1_kind_0 : decode cX1_kind 0 = .ok (.iconst 1, 1) := by decide +kernel
theorem dX1_kind_1 : decode cX1_kind 1 = .ok (.ireturn, 1) := by decide +kernel
theorem dX1_weighs_0 : decode cX1_weighs 0 = .ok (.aload_n 0, 1) := by decide +kernel
theorem dX1_weighs_1 : decode cX1_weighs 1 = .ok (.getfield 9, 3) := by decide +kernel
theorem dX1_weighs_4 : decode cX1_weighs 4 = .ok (.iconst 2, 1) := by decide +kernel
theorem dX1_weighs_5 : decode cX1_weighs 5 = .ok (.iadd, 1) := by decide +kernel
theorem dX1_weighs_6 : decode cX1_weighs 6 = .ok (.ireturn, 1) := by decide +kernel
theorem dX2_init_0 : decode cX2_init 0 = .ok (.aload_n 0, 1) := by decide +kernel
theorem dX2_init_1 : decode cX2_init 1 = .ok (.invokespecial 3, 3) := by decide +kernel
theorem dX2_init_4 : decode cX2_init 4 = .ok (.aload_n 0, 1) := by decide +kernel
theorem dX2_init_5 : decode cX2_init 5 = .ok (.bipush 6, 2) := by decide +kernel
theorem dX2_init_7 : decode cX2_init 7 = .ok (.newarray .int, 2) := by decide +kernel
theorem dX2_init_9 : decode cX2_init 9 = .ok (.putfield 9, 3) := by decide +kernel
theorem dX2_init_12 : decode cX2_init 12 = .ok (.aload_n 0, 1) := by decide +kernel
theorem dX2_init_13 : decode cX2_init 13 = .ok (.bipush 6, 2) := by decide +kernel
theorem dX2_init_15 : decode cX2_init 15 = .ok (.newarray .int, 2) := by decide +kernel
theorem dX2_init_17 : decode cX2_init 17 = .ok (.putfield 15, 3) := by decide +kernel
theorem dX2_init_20 : decode cX2_init 20 = .ok (.return_, 1) := by decide +kernel
theorem dX2_find_0 : decode cX2_find 0 = .ok (.aload_n 0, 1) := by decide +kernel
theorem dX2_find_1 : decode cX2_find 1 = .ok (.aload_n 1, 1) := by decide +kernel
theorem dX2_find_2 : decode cX2_find 2 = .ok (.aload_n 2, 1) := by decide +kernel
theorem dX2_find_3 : decode cX2_find 3 = .ok (.invokevirtual 18, 3) := by decide +kernel
theorem dX2_find_6 : decode cX2_find 6 = .ok (.iconst 0, 1) := by decide +kernel
theorem dX2_find_7 : decode cX2_find 7 = .ok (.istore_n 3, 1) := by decide +kernel
theorem dX2_find_8 : decode cX2_find 8 = .ok (.iconst 0, 1) := by decide +kernel
theorem dX2_find_9 : decode cX2_find 9 = .ok (.istore 4, 2) := by decide +kernel
theorem dX2_find_11 : decode cX2_find 11 = .ok (.iload 4, 2) := by decide +kernel
theorem dX2_find_13 : decode cX2_find 13 = .ok (.bipush 64, 2) := by decide +kernel
theorem dX2_find_15 : decode cX2_find 15 = .ok (.if_icmp .ge 86, 3) := by decide +kernel
theorem dX2_find_18 : decode cX2_find 18 = .ok (.iload 4, 2) := by decide +kernel
theorem dX2_find_20 : decode cX2_find 20 = .ok (.aload_n 0, 1) := by decide +kernel
theorem dX2_find_21 : decode cX2_find 21 = .ok (.getfield 22, 3) := by decide +kernel
theorem dX2_find_24 : decode cX2_find 24 = .ok (.iand, 1) := by decide +kernel
theorem dX2_find_25 : decode cX2_find 25 = .ok (.ifCond .eq 6, 3) := by decide +kernel
theorem dX2_find_28 : decode cX2_find 28 = .ok (.goto 67, 3) := by decide +kernel
theorem dX2_find_31 : decode cX2_find 31 = .ok (.aload_n 0, 1) := by decide +kernel
theorem dX2_find_32 : decode cX2_find 32 = .ok (.iload 4, 2) := by decide +kernel
theorem dX2_find_34 : decode cX2_find 34 = .ok (.aload_n 1, 1) := by decide +kernel
theorem dX2_find_35 : decode cX2_find 35 = .ok (.invokevirtual 26, 3) := by decide +kernel
theorem dX2_find_38 : decode cX2_find 38 = .ok (.istore 5, 2) := by decide +kernel
theorem dX2_find_40 : decode cX2_find 40 = .ok (.aload_n 0, 1) := by decide +kernel
theorem dX2_find_41 : decode cX2_find 41 = .ok (.getfield 9, 3) := by decide +kernel
theorem dX2_find_44 : decode cX2_find 44 = .ok (.iload 4, 2) := by decide +kernel
theorem dX2_find_46 : decode cX2_find 46 = .ok (.invokestatic 30, 3) := by decide +kernel
theorem dX2_find_49 : decode cX2_find 49 = .ok (.istore 6, 2) := by decide +kernel
theorem dX2_find_51 : decode cX2_find 51 = .ok (.iload 4, 2) := by decide +kernel
theorem dX2_find_53 : decode cX2_find 53 = .ok (.ifCond .eq 27, 3) := by decide +kernel
theorem dX2_find_56 : decode cX2_find 56 = .ok (.iload 5, 2) := by decide +kernel
theorem dX2_find_58 : decode cX2_find 58 = .ok (.aload_n 0, 1) := by decide +kernel
theorem dX2_find_59 : decode cX2_find 59 = .ok (.getfield 34, 3) := by decide +kernel
theorem dX2_find_62 : decode cX2_find 62 = .ok (.if_icmp .lt 18, 3) := by decide +kernel
theorem dX2_find_65 : decode cX2_find 65 = .ok (.iload 5, 2) := by decide +kernel
theorem dX2_find_67 : decode cX2_find 67 = .ok (.aload_n 0, 1) := by decide +kernel
theorem dX2_find_68 : decode cX2_find 68 = .ok (.getfield 34, 3) := by decide +kernel
theorem dX2_find_71 : decode cX2_find 71 = .ok (.if_icmp .ne 24, 3) := by decide +kernel
theorem dX2_find_74 : decode cX2_find 74 = .ok (.iload 6, 2) := by decide +kernel
theorem dX2_find_76 : decode cX2_find 76 = .ok (.iload_n 3, 1) := by decide +kernel
theorem dX2_find_77 : decode cX2_find 77 = .ok (.if_icmp .ge 18, 3) := by decide +kernel
theorem dX2_find_80 : decode cX2_find 80 = .ok (.aload_n 0, 1) := by decide +kernel
theorem dX2_find_81 : decode cX2_find 81 = .ok (.iload 5, 2) := by decide +kernel
theorem dX2_find_83 : decode cX2_find 83 = .ok (.putfield 34, 3) := by decide +kernel
theorem dX2_find_86 : decode cX2_find 86 = .ok (.iload 6, 2) := by decide +kernel
theorem dX2_find_88 : decode cX2_find 88 = .ok (.istore_n 3, 1) := by decide +kernel
theorem dX2_find_89 : decode cX2_find 89 = .ok (.aload_n 0, 1) := by decide +kernel
theorem dX2_find_90 : decode cX2_find 90 = .ok (.iload 4, 2) := by decide +kernel
theorem dX2_find_92 : decode cX2_find 92 = .ok (.putfield 37, 3) := by decide +kernel
theorem dX2_find_95 : decode cX2_find 95 = .ok (.iinc 4 1, 3) := by decide +kernel
theorem dX2_find_98 : decode cX2_find 98 = .ok (.goto (-87), 3) := by decide +kernel
theorem dX2_find_101 : decode cX2_find 101 = .ok (.return_, 1) := by decide +kernel
theorem dX2_setUp_0 : decode cX2_setUp 0 = .ok (.aload_n 1, 1) := by decide +kernel
theorem dX2_setUp_1 : decode cX2_setUp 1 = .ok (.invokevirtual 40, 3) := by decide +kernel
theorem dX2_setUp_4 : decode cX2_setUp 4 = .ok (.istore_n 3, 1) := by decide +kernel
theorem dX2_setUp_5 : decode cX2_setUp 5 = .ok (.aload_n 0, 1) := by decide +kernel
theorem dX2_setUp_6 : decode cX2_setUp 6 = .ok (.aload_n 2, 1) := by decide +kernel
theorem dX2_setUp_7 : decode cX2_setUp 7 = .ok (.iconst 0, 1) := by decide +kernel
theorem dX2_setUp_8 : decode cX2_setUp 8 = .ok (.aload_n 1, 1) := by decide +kernel
theorem dX2_setUp_9 : decode cX2_setUp 9 = .ok (.getfield 46, 3) := by decide +kernel
theorem dX2_setUp_12 : decode cX2_setUp 12 = .ok (.invokevirtual 49, 3) := by decide +kernel
theorem dX2_setUp_15 : decode cX2_setUp 15 = .ok (.putfield 55, 3) := by decide +kernel
theorem dX2_setUp_18 : decode cX2_setUp 18 = .ok (.aload_n 0, 1) := by decide +kernel
theorem dX2_setUp_19 : decode cX2_setUp 19 = .ok (.aload_n 0, 1) := by decide +kernel
theorem dX2_setUp_20 : decode cX2_setUp 20 = .ok (.getfield 55, 3) := by decide +kernel
theorem dX2_setUp_23 : decode cX2_setUp 23 = .ok (.aload_n 2, 1) := by decide +kernel
theorem dX2_setUp_24 : decode cX2_setUp 24 = .ok (.iconst 1, 1) := by decide +kernel
theorem dX2_setUp_25 : decode cX2_setUp 25 = .ok (.aload_n 1, 1) := by decide +kernel
theorem dX2_setUp_26 : decode cX2_setUp 26 = .ok (.getfield 46, 3) := by decide +kernel
theorem dX2_setUp_29 : decode cX2_setUp 29 = .ok (.invokevirtual 49, 3) := by decide +kernel
theorem dX2_setUp_32 : decode cX2_setUp 32 = .ok (.iadd, 1) := by decide +kernel
theorem dX2_setUp_33 : decode cX2_setUp 33 = .ok (.putfield 58, 3) := by decide +kernel
theorem dX2_setUp_36 : decode cX2_setUp 36 = .ok (.aload_n 0, 1) := by decide +kernel
theorem dX2_setUp_37 : decode cX2_setUp 37 = .ok (.iconst 0, 1) := by decide +kernel
theorem dX2_setUp_38 : decode cX2_setUp 38 = .ok (.putfield 22, 3) := by decide +kernel
theorem dX2_setUp_41 : decode cX2_setUp 41 = .ok (.iconst 0, 1) := by decide +kernel
theorem dX2_setUp_42 : decode cX2_setUp 42 = .ok (.istore 4, 2) := by decide +kernel
theorem dX2_setUp_44 : decode cX2_setUp 44 = .ok (.iload 4, 2) := by decide +kernel
theorem dX2_setUp_46 : decode cX2_setUp 46 = .ok (.aload_n 0, 1) := by decide +kernel
theorem dX2_setUp_47 : decode cX2_setUp 47 = .ok (.getfield 9, 3) := by decide +kernel
theorem dX2_setUp_50 : decode cX2_setUp 50 = .ok (.arraylength, 1) := by decide +kernel
theorem dX2_setUp_51 : decode cX2_setUp 51 = .ok (.if_icmp .ge 106, 3) := by decide +kernel
theorem dX2_setUp_54 : decode cX2_setUp 54 = .ok (.iload 4, 2) := by decide +kernel
theorem dX2_setUp_56 : decode cX2_setUp 56 = .ok (.aload_n 0, 1) := by decide +kernel
theorem dX2_setUp_57 : decode cX2_setUp 57 = .ok (.getfield 15, 3) := by decide +kernel
theorem dX2_setUp_60 : decode cX2_setUp 60 = .ok (.arraylength, 1) := by decide +kernel
theorem dX2_setUp_61 : decode cX2_setUp 61 = .ok (.if_icmp .ge 96, 3) := by decide +kernel
theorem dX2_setUp_64 : decode cX2_setUp 64 = .ok (.aload_n 2, 1) := by decide +kernel
theorem dX2_setUp_65 : decode cX2_setUp 65 = .ok (.iload 4, 2) := by decide +kernel
theorem dX2_setUp_67 : decode cX2_setUp 67 = .ok (.invokevirtual 61, 3) := by decide +kernel
theorem dX2_setUp_70 : decode cX2_setUp 70 = .ok (.astore 5, 2) := by decide +kernel
theorem dX2_setUp_72 : decode cX2_setUp 72 = .ok (.aload 5, 2) := by decide +kernel
theorem dX2_setUp_74 : decode cX2_setUp 74 = .ok (.ifnull 12, 3) := by decide +kernel
theorem dX2_setUp_77 : decode cX2_setUp 77 = .ok (.aload 5, 2) := by decide +kernel
theorem dX2_setUp_79 : decode cX2_setUp 79 = .ok (.iload_n 3, 1) := by decide +kernel
theorem dX2_setUp_80 : decode cX2_setUp 80 = .ok (.invokevirtual 65, 3) := by decide +kernel
theorem dX2_setUp_83 : decode cX2_setUp 83 = .ok (.ifCond .ne 19, 3) := by decide +kernel
theorem dX2_setUp_86 : decode cX2_setUp 86 = .ok (.aload_n 0, 1) := by decide +kernel
theorem dX2_setUp_87 : decode cX2_setUp 87 = .ok (.dup, 1) := by decide +kernel
theorem dX2_setUp_88 : decode cX2_setUp 88 = .ok (.getfield 22, 3) := by decide +kernel
theorem dX2_setUp_91 : decode cX2_setUp 91 = .ok (.iconst 1, 1) := by decide +kernel
theorem dX2_setUp_92 : decode cX2_setUp 92 = .ok (.iload 4, 2) := by decide +kernel
theorem dX2_setUp_94 : decode cX2_setUp 94 = .ok (.ishl, 1) := by decide +kernel
theorem dX2_setUp_95 : decode cX2_setUp 95 = .ok (.ior, 1) := by decide +kernel
theorem dX2_setUp_96 : decode cX2_setUp 96 = .ok (.putfield 22, 3) := by decide +kernel
theorem dX2_setUp_99 : decode cX2_setUp 99 = .ok (.goto 52, 3) := by decide +kernel
theorem dX2_setUp_102 : decode cX2_setUp 102 = .ok (.aload_n 0, 1) := by decide +kernel
theorem dX2_setUp_103 : decode cX2_setUp 103 = .ok (.getfield 9, 3) := by decide +kernel
theorem dX2_setUp_106 : decode cX2_setUp 106 = .ok (.iload 4, 2) := by decide +kernel
theorem dX2_setUp_108 : decode cX2_setUp 108 = .ok (.aload 5, 2) := by decide +kernel
theorem dX2_setUp_110 : decode cX2_setUp 110 = .ok (.aload_n 1, 1) := by decide +kernel
theorem dX2_setUp_111 : decode cX2_setUp 111 = .ok (.getfield 46, 3) := by decide +kernel
theorem dX2_setUp_114 : decode cX2_setUp 114 = .ok (.invokevirtual 71, 3) := by decide +kernel
theorem dX2_setUp_117 : decode cX2_setUp 117 = .ok (.iastore, 1) := by decide +kernel
theorem dX2_setUp_118 : decode cX2_setUp 118 = .ok (.aload_n 0, 1) := by decide +kernel
theorem dX2_setUp_119 : decode cX2_setUp 119 = .ok (.getfield 15, 3) := by decide +kernel
theorem dX2_setUp_122 : decode cX2_setUp 122 = .ok (.iload 4, 2) := by decide +kernel
theorem dX2_setUp_124 : decode cX2_setUp 124 = .ok (.aload 5, 2) := by decide +kernel
theorem dX2_setUp_126 : decode cX2_setUp 126 = .ok (.getfield 74, 3) := by decide +kernel
theorem dX2_setUp_129 : decode cX2_setUp 129 = .ok (.ifCond .ne 14, 3) := by decide +kernel
theorem dX2_setUp_132 : decode cX2_setUp 132 = .ok (.aload_n 0, 1) := by decide +kernel
theorem dX2_setUp_133 : decode cX2_setUp 133 = .ok (.getfield 9, 3) := by decide +kernel
theorem dX2_setUp_136 : decode cX2_setUp 136 = .ok (.iload 4, 2) := by decide +kernel
theorem dX2_setUp_138 : decode cX2_setUp 138 = .ok (.iaload, 1) := by decide +kernel
theorem dX2_setUp_139 : decode cX2_setUp 139 = .ok (.ineg, 1) := by decide +kernel
theorem dX2_setUp_140 : decode cX2_setUp 140 = .ok (.goto 10, 3) := by decide +kernel
theorem dX2_setUp_143 : decode cX2_setUp 143 = .ok (.aload_n 0, 1) := by decide +kernel
theorem dX2_setUp_144 : decode cX2_setUp 144 = .ok (.getfield 9, 3) := by decide +kernel
theorem dX2_setUp_147 : decode cX2_setUp 147 = .ok (.iload 4, 2) := by decide +kernel
theorem dX2_setUp_149 : decode cX2_setUp 149 = .ok (.iaload, 1) := by decide +kernel
theorem dX2_setUp_150 : decode cX2_setUp 150 = .ok (.iastore, 1) := by decide +kernel
theorem dX2_setUp_151 : decode cX2_setUp 151 = .ok (.iinc 4 1, 3) := by decide +kernel
theorem dX2_setUp_154 : decode cX2_setUp 154 = .ok (.goto (-110), 3) := by decide +kernel
theorem dX2_setUp_157 : decode cX2_setUp 157 = .ok (.return_, 1) := by decide +kernel
theorem dX2_gapWith_0 : decode cX2_gapWith 0 = .ok (.aload_n 0, 1) := by decide +kernel
theorem dX2_gapWith_1 : decode cX2_gapWith 1 = .ok (.getfield 55, 3) := by decide +kernel
theorem dX2_gapWith_4 : decode cX2_gapWith 4 = .ok (.aload_n 0, 1) := by decide +kernel
theorem dX2_gapWith_5 : decode cX2_gapWith 5 = .ok (.getfield 15, 3) := by decide +kernel
theorem dX2_gapWith_8 : decode cX2_gapWith 8 = .ok (.iload_n 1, 1) := by decide +kernel
theorem dX2_gapWith_9 : decode cX2_gapWith 9 = .ok (.invokestatic 30, 3) := by decide +kernel
theorem dX2_gapWith_12 : decode cX2_gapWith 12 = .ok (.iadd, 1) := by decide +kernel
theorem dX2_gapWith_13 : decode cX2_gapWith 13 = .ok (.istore_n 3, 1) := by decide +kernel
theorem dX2_gapWith_14 : decode cX2_gapWith 14 = .ok (.aload_n 0, 1) := by decide +kernel
theorem dX2_gapWith_15 : decode cX2_gapWith 15 = .ok (.getfield 58, 3) := by decide +kernel
theorem dX2_gapWith_18 : decode cX2_gapWith 18 = .ok (.iload_n 3, 1) := by decide +kernel
theorem dX2_gapWith_19 : decode cX2_gapWith 19 = .ok (.isub, 1) := by decide +kernel
theorem dX2_gapWith_20 : decode cX2_gapWith 20 = .ok (.istore 4, 2) := by decide +kernel
theorem dX2_gapWith_22 : decode cX2_gapWith 22 = .ok (.aload_n 2, 1) := by decide +kernel
theorem dX2_gapWith_23 : decode cX2_gapWith 23 = .ok (.iconst 0, 1) := by decide +kernel
theorem dX2_gapWith_24 : decode cX2_gapWith 24 = .ok (.aload_n 2, 1) := by decide +kernel
theorem dX2_gapWith_25 : decode cX2_gapWith 25 = .ok (.getfield 77, 3) := by decide +kernel
theorem dX2_gapWith_28 : decode cX2_gapWith 28 = .ok (.iload_n 3, 1) := by decide +kernel
theorem dX2_gapWith_29 : decode cX2_gapWith 29 = .ok (.iload 4, 2) := by decide +kernel
theorem dX2_gapWith_31 : decode cX2_gapWith 31 = .ok (.invokevirtual 80, 3) := by decide +kernel
theorem dX2_gapWith_34 : decode cX2_gapWith 34 = .ok (.aload_n 2, 1) := by decide +kernel
theorem dX2_gapWith_35 : decode cX2_gapWith 35 = .ok (.iconst 1, 1) := by decide +kernel
theorem dX2_gapWith_36 : decode cX2_gapWith 36 = .ok (.aload_n 2, 1) := by decide +kernel
theorem dX2_gapWith_37 : decode cX2_gapWith 37 = .ok (.getfield 77, 3) := by decide +kernel
theorem dX2_gapWith_40 : decode cX2_gapWith 40 = .ok (.iload_n 3, 1) := by decide +kernel
theorem dX2_gapWith_41 : decode cX2_gapWith 41 = .ok (.iload 4, 2) := by decide +kernel
theorem dX2_gapWith_43 : decode cX2_gapWith 43 = .ok (.invokevirtual 80, 3) := by decide +kernel
theorem dX2_gapWith_46 : decode cX2_gapWith 46 = .ok (.isub, 1) := by decide +kernel
theorem dX2_gapWith_47 : decode cX2_gapWith 47 = .ok (.invokestatic 84, 3) := by decide +kernel
theorem dX2_gapWith_50 : decode cX2_gapWith 50 = .ok (.ireturn, 1) := by decide +kernel
theorem dX2_summed_0 : decode cX2_summed 0 = .ok (.iconst 0, 1) := by decide +kernel
theorem dX2_summed_1 : decode cX2_summed 1 = .ok (.istore_n 2, 1) := by decide +kernel
theorem dX2_summed_2 : decode cX2_summed 2 = .ok (.iconst 0, 1) := by decide +kernel
theorem dX2_summed_3 : decode cX2_summed 3 = .ok (.istore_n 3, 1) := by decide +kernel
theorem dX2_summed_4 : decode cX2_summed 4 = .ok (.iload_n 3, 1) := by decide +kernel
theorem dX2_summed_5 : decode cX2_summed 5 = .ok (.aload_n 0, 1) := by decide +kernel
theorem dX2_summed_6 : decode cX2_summed 6 = .ok (.arraylength, 1) := by decide +kernel
theorem dX2_summed_7 : decode cX2_summed 7 = .ok (.if_icmp .ge 23, 3) := by decide +kernel
theorem dX2_summed_10 : decode cX2_summed 10 = .ok (.iload_n 1, 1) := by decide +kernel
theorem dX2_summed_11 : decode cX2_summed 11 = .ok (.iload_n 3, 1) := by decide +kernel
theorem dX2_summed_12 : decode cX2_summed 12 = .ok (.ishr, 1) := by decide +kernel
theorem dX2_summed_13 : decode cX2_summed 13 = .ok (.iconst 1, 1) := by decide +kernel
theorem dX2_summed_14 : decode cX2_summed 14 = .ok (.iand, 1) := by decide +kernel
theorem dX2_summed_15 : decode cX2_summed 15 = .ok (.ifCond .eq 9, 3) := by decide +kernel
theorem dX2_summed_18 : decode cX2_summed 18 = .ok (.iload_n 2, 1) := by decide +kernel
theorem dX2_summed_19 : decode cX2_summed 19 = .ok (.aload_n 0, 1) := by decide +kernel
theorem dX2_summed_20 : decode cX2_summed 20 = .ok (.iload_n 3, 1) := by decide +kernel
theorem dX2_summed_21 : decode cX2_summed 21 = .ok (.iaload, 1) := by decide +kernel
theorem dX2_summed_22 : decode cX2_summed 22 = .ok (.iadd, 1) := by decide +kernel
theorem dX2_summed_23 : decode cX2_summed 23 = .ok (.istore_n 2, 1) := by decide +kernel
theorem dX2_summed_24 : decode cX2_summed 24 = .ok (.iinc 3 1, 3) := by decide +kernel
theorem dX2_summed_27 : decode cX2_summed 27 = .ok (.goto (-23), 3) := by decide +kernel
theorem dX2_summed_30 : decode cX2_summed 30 = .ok (.iload_n 2, 1) := by decide +kernel
theorem dX2_summed_31 : decode cX2_summed 31 = .ok (.ireturn, 1) := by decide +kernel
theorem dX3_init_0 : decode cX3_init 0 = .ok (.aload_n 0, 1) := by decide +kernel
theorem dX3_init_1 : decode cX3_init 1 = .ok (.iload_n 1, 1) := by decide +kernel
theorem dX3_init_2 : decode cX3_init 2 = .ok (.iload_n 2, 1) := by decide +kernel
theorem dX3_init_3 : decode cX3_init 3 = .ok (.iload_n 3, 1) := by decide +kernel
theorem dX3_init_4 : decode cX3_init 4 = .ok (.invokespecial 3, 3) := by decide +kernel
theorem dX3_init_7 : decode cX3_init 7 = .ok (.return_, 1) := by decide +kernel
theorem dX3_kind_0 : decode cX3_kind 0 = .ok (.iconst 2, 1) := by decide +kernel
theorem dX3_kind_1 : decode cX3_kind 1 = .ok (.ireturn, 1) := by decide +kernel
theorem dX3_goesAcross_0 : decode cX3_goesAcross 0 = .ok (.iload_n 1, 1) := by decide +kernel
theorem dX3_goesAcross_1 : decode cX3_goesAcross 1 = .ok (.iconst 2, 1) := by decide +kernel
theorem dX3_goesAcross_2 : decode cX3_goesAcross 2 = .ok (.if_icmp .gt 7, 3) := by decide +kernel
theorem dX3_goesAcross_5 : decode cX3_goesAcross 5 = .ok (.iconst 1, 1) := by decide +kernel
theorem dX3_goesAcross_6 : decode cX3_goesAcross 6 = .ok (.goto 4, 3) := by decide +kernel
theorem dX3_goesAcross_9 : decode cX3_goesAcross 9 = .ok (.iconst 0, 1) := by decide +kernel
theorem dX3_goesAcross_10 : decode cX3_goesAcross 10 = .ok (.ireturn, 1) := by decide +kernel
theorem dX4_init_0 : decode cX4_init 0 = .ok (.aload_n 0, 1) := by decide +kernel
theorem dX4_init_1 : decode cX4_init 1 = .ok (.iload_n 1, 1) := by decide +kernel
theorem dX4_init_2 : decode cX4_init 2 = .ok (.iload_n 2, 1) := by decide +kernel
theorem dX4_init_3 : decode cX4_init 3 = .ok (.iload_n 3, 1) := by decide +kernel
theorem dX4_init_4 : decode cX4_init 4 = .ok (.invokespecial 3, 3) := by decide +kernel
theorem dX4_init_7 : decode cX4_init 7 = .ok (.return_, 1) := by decide +kernel
theorem dX4_kind_0 : decode cX4_kind 0 = .ok (.iconst 4, 1) := by decide +kernel
theorem dX4_kind_1 : decode cX4_kind 1 = .ok (.ireturn, 1) := by decide +kernel
theorem dX4_weighs_0 : decode cX4_weighs 0 = .ok (.aload_n 0, 1) := by decide +kernel
theorem dX4_weighs_1 : decode cX4_weighs 1 = .ok (.getfield 9, 3) := by decide +kernel
theorem dX4_weighs_4 : decode cX4_weighs 4 = .ok (.iconst 2, 1) := by decide +kernel
theorem dX4_weighs_5 : decode cX4_weighs 5 = .ok (.aload_n 0, 1) := by decide +kernel
theorem dX4_weighs_6 : decode cX4_weighs 6 = .ok (.iload_n 1, 1) := by decide +kernel
theorem dX4_weighs_7 : decode cX4_weighs 7 = .ok (.invokevirtual 15, 3) := by decide +kernel
theorem dX4_weighs_10 : decode cX4_weighs 10 = .ok (.imul, 1) := by decide +kernel
theorem dX4_weighs_11 : decode cX4_weighs 11 = .ok (.iadd, 1) := by decide +kernel
theorem dX4_weighs_12 : decode cX4_weighs 12 = .ok (.ireturn, 1) := by decide +kernel
theorem dX5_init_0 : decode cX5_init 0 = .ok (.aload_n 0, 1) := by decide +kernel
theorem dX5_init_1 : decode cX5_init 1 = .ok (.iload_n 1, 1) := by decide +kernel
theorem dX5_init_2 : decode cX5_init 2 = .ok (.iload_n 2, 1) := by decide +kernel
theorem dX5_init_3 : decode cX5_init 3 = .ok (.iload_n 3, 1) := by decide +kernel
theorem dX5_init_4 : decode cX5_init 4 = .ok (.invokespecial 3, 3) := by decide +kernel
theorem dX5_init_7 : decode cX5_init 7 = .ok (.return_, 1) := by decide +kernel
theorem dX5_kind_0 : decode cX5_kind 0 = .ok (.iconst 3, 1) := by decide +kernel
theorem dX5_kind_1 : decode cX5_kind 1 = .ok (.ireturn, 1) := by decide +kernel
theorem dX5_weighs_0 : decode cX5_weighs 0 = .ok (.aload_n 0, 1) := by decide +kernel
theorem dX5_weighs_1 : decode cX5_weighs 1 = .ok (.getfield 9, 3) := by decide +kernel
theorem dX5_weighs_4 : decode cX5_weighs 4 = .ok (.aload_n 0, 1) := by decide +kernel
theorem dX5_weighs_5 : decode cX5_weighs 5 = .ok (.iload_n 1, 1) := by decide +kernel
theorem dX5_weighs_6 : decode cX5_weighs 6 = .ok (.invokevirtual 15, 3) := by decide +kernel
theorem dX5_weighs_9 : decode cX5_weighs 9 = .ok (.iadd, 1) := by decide +kernel
theorem dX5_weighs_10 : decode cX5_weighs 10 = .ok (.ireturn, 1) := by decide +kernel
theorem dX5_grown_0 : decode cX5_grown 0 = .ok (.aload_n 0, 1) := by decide +kernel
theorem dX5_grown_1 : decode cX5_grown 1 = .ok (.iload_n 1, 1) := by decide +kernel
theorem dX5_grown_2 : decode cX5_grown 2 = .ok (.invokevirtual 19, 3) := by decide +kernel
theorem dX5_grown_5 : decode cX5_grown 5 = .ok (.bipush 6, 2) := by decide +kernel
theorem dX5_grown_7 : decode cX5_grown 7 = .ok (.idiv, 1) := by decide +kernel
theorem dX5_grown_8 : decode cX5_grown 8 = .ok (.ireturn, 1) := by decide +kernel
theorem dX6_init_0 : decode cX6_init 0 = .ok (.aload_n 0, 1) := by decide +kernel
theorem dX6_init_1 : decode cX6_init 1 = .ok (.invokespecial 3, 3) := by decide +kernel
theorem dX6_init_4 : decode cX6_init 4 = .ok (.aload_n 0, 1) := by decide +kernel
theorem dX6_init_5 : decode cX6_init 5 = .ok (.bipush 6, 2) := by decide +kernel
theorem dX6_init_7 : decode cX6_init 7 = .ok (.anewarray 9, 3) := by decide +kernel
theorem dX6_init_10 : decode cX6_init 10 = .ok (.putfield 11, 3) := by decide +kernel
theorem dX6_init_13 : decode cX6_init 13 = .ok (.aload_n 0, 1) := by decide +kernel
theorem dX6_init_14 : decode cX6_init 14 = .ok (.bipush 6, 2) := by decide +kernel
theorem dX6_init_16 : decode cX6_init 16 = .ok (.newarray .int, 2) := by decide +kernel
theorem dX6_init_18 : decode cX6_init 18 = .ok (.putfield 17, 3) := by decide +kernel
theorem dX6_init_21 : decode cX6_init 21 = .ok (.return_, 1) := by decide +kernel
theorem dX6_isFull_0 : decode cX6_isFull 0 = .ok (.aload_n 0, 1) := by decide +kernel
theorem dX6_isFull_1 : decode cX6_isFull 1 = .ok (.getfield 21, 3) := by decide +kernel
theorem dX6_isFull_4 : decode cX6_isFull 4 = .ok (.aload_n 0, 1) := by decide +kernel
theorem dX6_isFull_5 : decode cX6_isFull 5 = .ok (.getfield 11, 3) := by decide +kernel
theorem dX6_isFull_8 : decode cX6_isFull 8 = .ok (.arraylength, 1) := by decide +kernel
theorem dX6_isFull_9 : decode cX6_isFull 9 = .ok (.if_icmp .lt 7, 3) := by decide +kernel
theorem dX6_isFull_12 : decode cX6_isFull 12 = .ok (.iconst 1, 1) := by decide +kernel
theorem dX6_isFull_13 : decode cX6_isFull 13 = .ok (.goto 4, 3) := by decide +kernel
theorem dX6_isFull_16 : decode cX6_isFull 16 = .ok (.iconst 0, 1) := by decide +kernel
theorem dX6_isFull_17 : decode cX6_isFull 17 = .ok (.ireturn, 1) := by decide +kernel
theorem dX6_put_0 : decode cX6_put 0 = .ok (.aload_n 0, 1) := by decide +kernel
theorem dX6_put_1 : decode cX6_put 1 = .ok (.getfield 21, 3) := by decide +kernel
theorem dX6_put_4 : decode cX6_put 4 = .ok (.ifCond .lt 15, 3) := by decide +kernel
theorem dX6_put_7 : decode cX6_put 7 = .ok (.aload_n 0, 1) := by decide +kernel
theorem dX6_put_8 : decode cX6_put 8 = .ok (.getfield 21, 3) := by decide +kernel
theorem dX6_put_11 : decode cX6_put 11 = .ok (.aload_n 0, 1) := by decide +kernel
theorem dX6_put_12 : decode cX6_put 12 = .ok (.getfield 11, 3) := by decide +kernel
theorem dX6_put_15 : decode cX6_put 15 = .ok (.arraylength, 1) := by decide +kernel
theorem dX6_put_16 : decode cX6_put 16 = .ok (.if_icmp .lt 6, 3) := by decide +kernel
theorem dX6_put_19 : decode cX6_put 19 = .ok (.bipush (-104), 2) := by decide +kernel
theorem dX6_put_21 : decode cX6_put 21 = .ok (.ireturn, 1) := by decide +kernel
theorem dX6_put_22 : decode cX6_put 22 = .ok (.aload_n 0, 1) := by decide +kernel
theorem dX6_put_23 : decode cX6_put 23 = .ok (.getfield 11, 3) := by decide +kernel
theorem dX6_put_26 : decode cX6_put 26 = .ok (.aload_n 0, 1) := by decide +kernel
theorem dX6_put_27 : decode cX6_put 27 = .ok (.getfield 21, 3) := by decide +kernel
theorem dX6_put_30 : decode cX6_put 30 = .ok (.aload_n 1, 1) := by decide +kernel
theorem dX6_put_31 : decode cX6_put 31 = .ok (.aastore, 1) := by decide +kernel
theorem dX6_put_32 : decode cX6_put 32 = .ok (.aload_n 0, 1) := by decide +kernel
theorem dX6_put_33 : decode cX6_put 33 = .ok (.dup, 1) := by decide +kernel
theorem dX6_put_34 : decode cX6_put 34 = .ok (.getfield 21, 3) := by decide +kernel
theorem dX6_put_37 : decode cX6_put 37 = .ok (.iconst 1, 1) := by decide +kernel
theorem dX6_put_38 : decode cX6_put 38 = .ok (.iadd, 1) := by decide +kernel
theorem dX6_put_39 : decode cX6_put 39 = .ok (.putfield 21, 3) := by decide +kernel
theorem dX6_put_42 : decode cX6_put 42 = .ok (.aload_n 0, 1) := by decide +kernel
theorem dX6_put_43 : decode cX6_put 43 = .ok (.getfield 21, 3) := by decide +kernel
theorem dX6_put_46 : decode cX6_put 46 = .ok (.iconst 1, 1) := by decide +kernel
theorem dX6_put_47 : decode cX6_put 47 = .ok (.isub, 1) := by decide +kernel
theorem dX6_put_48 : decode cX6_put 48 = .ok (.ireturn, 1) := by decide +kernel
theorem dX6_at_0 : decode cX6_at 0 = .ok (.iload_n 1, 1) := by decide +kernel
theorem dX6_at_1 : decode cX6_at 1 = .ok (.ifCond .lt 29, 3) := by decide +kernel
theorem dX6_at_4 : decode cX6_at 4 = .ok (.iload_n 1, 1) := by decide +kernel
theorem dX6_at_5 : decode cX6_at 5 = .ok (.aload_n 0, 1) := by decide +kernel
theorem dX6_at_6 : decode cX6_at 6 = .ok (.getfield 21, 3) := by decide +kernel
theorem dX6_at_9 : decode cX6_at 9 = .ok (.if_icmp .ge 21, 3) := by decide +kernel
theorem dX6_at_12 : decode cX6_at 12 = .ok (.iload_n 1, 1) := by decide +kernel
theorem dX6_at_13 : decode cX6_at 13 = .ok (.aload_n 0, 1) := by decide +kernel
theorem dX6_at_14 : decode cX6_at 14 = .ok (.getfield 11, 3) := by decide +kernel
theorem dX6_at_17 : decode cX6_at 17 = .ok (.arraylength, 1) := by decide +kernel
theorem dX6_at_18 : decode cX6_at 18 = .ok (.if_icmp .ge 12, 3) := by decide +kernel
theorem dX6_at_21 : decode cX6_at 21 = .ok (.aload_n 0, 1) := by decide +kernel
theorem dX6_at_22 : decode cX6_at 22 = .ok (.getfield 11, 3) := by decide +kernel
theorem dX6_at_25 : decode cX6_at 25 = .ok (.iload_n 1, 1) := by decide +kernel
theorem dX6_at_26 : decode cX6_at 26 = .ok (.aaload, 1) := by decide +kernel
theorem dX6_at_27 : decode cX6_at 27 = .ok (.goto 4, 3) := by decide +kernel
theorem dX6_at_30 : decode cX6_at 30 = .ok (.aconst_null, 1) := by decide +kernel
theorem dX6_at_31 : decode cX6_at 31 = .ok (.areturn, 1) := by decide +kernel
theorem dX6_cutTo_0 : decode cX6_cutTo 0 = .ok (.iconst 0, 1) := by decide +kernel
theorem dX6_cutTo_1 : decode cX6_cutTo 1 = .ok (.istore_n 2, 1) := by decide +kernel
theorem dX6_cutTo_2 : decode cX6_cutTo 2 = .ok (.iload_n 2, 1) := by decide +kernel
theorem dX6_cutTo_3 : decode cX6_cutTo 3 = .ok (.aload_n 0, 1) := by decide +kernel
theorem dX6_cutTo_4 : decode cX6_cutTo 4 = .ok (.getfield 11, 3) := by decide +kernel
theorem dX6_cutTo_7 : decode cX6_cutTo 7 = .ok (.arraylength, 1) := by decide +kernel
theorem dX6_cutTo_8 : decode cX6_cutTo 8 = .ok (.if_icmp .ge 21, 3) := by decide +kernel
theorem dX6_cutTo_11 : decode cX6_cutTo 11 = .ok (.iload_n 2, 1) := by decide +kernel
theorem dX6_cutTo_12 : decode cX6_cutTo 12 = .ok (.iload_n 1, 1) := by decide +kernel
theorem dX6_cutTo_13 : decode cX6_cutTo 13 = .ok (.if_icmp .lt 10, 3) := by decide +kernel
theorem dX6_cutTo_16 : decode cX6_cutTo 16 = .ok (.aload_n 0, 1) := by decide +kernel
theorem dX6_cutTo_17 : decode cX6_cutTo 17 = .ok (.getfield 11, 3) := by decide +kernel
theorem dX6_cutTo_20 : decode cX6_cutTo 20 = .ok (.iload_n 2, 1) := by decide +kernel
theorem dX6_cutTo_21 : decode cX6_cutTo 21 = .ok (.aconst_null, 1) := by decide +kernel
theorem dX6_cutTo_22 : decode cX6_cutTo 22 = .ok (.aastore, 1) := by decide +kernel
theorem dX6_cutTo_23 : decode cX6_cutTo 23 = .ok (.iinc 2 1, 3) := by decide +kernel
theorem dX6_cutTo_26 : decode cX6_cutTo 26 = .ok (.goto (-24), 3) := by decide +kernel
theorem dX6_cutTo_29 : decode cX6_cutTo 29 = .ok (.aload_n 0, 1) := by decide +kernel
theorem dX6_cutTo_30 : decode cX6_cutTo 30 = .ok (.aload_n 0, 1) := by decide +kernel
theorem dX6_cutTo_31 : decode cX6_cutTo 31 = .ok (.getfield 21, 3) := by decide +kernel
theorem dX6_cutTo_34 : decode cX6_cutTo 34 = .ok (.iload_n 1, 1) := by decide +kernel
theorem dX6_cutTo_35 : decode cX6_cutTo 35 = .ok (.invokestatic 25, 3) := by decide +kernel
theorem dX6_cutTo_38 : decode cX6_cutTo 38 = .ok (.putfield 21, 3) := by decide +kernel
theorem dX6_cutTo_41 : decode cX6_cutTo 41 = .ok (.return_, 1) := by decide +kernel
theorem dX6_keepPlaces_0 : decode cX6_keepPlaces 0 = .ok (.aload_n 0, 1) := by decide +kernel
theorem dX6_keepPlaces_1 : decode cX6_keepPlaces 1 = .ok (.aload_n 0, 1) := by decide +kernel
theorem dX6_keepPlaces_2 : decode cX6_keepPlaces 2 = .ok (.getfield 21, 3) := by decide +kernel
theorem dX6_keepPlaces_5 : decode cX6_keepPlaces 5 = .ok (.putfield 31, 3) := by decide +kernel
theorem dX6_keepPlaces_8 : decode cX6_keepPlaces 8 = .ok (.iconst 0, 1) := by decide +kernel
theorem dX6_keepPlaces_9 : decode cX6_keepPlaces 9 = .ok (.istore_n 1, 1) := by decide +kernel
theorem dX6_keepPlaces_10 : decode cX6_keepPlaces 10 = .ok (.iload_n 1, 1) := by decide +kernel
theorem dX6_keepPlaces_11 : decode cX6_keepPlaces 11 = .ok (.aload_n 0, 1) := by decide +kernel
theorem dX6_keepPlaces_12 : decode cX6_keepPlaces 12 = .ok (.getfield 17, 3) := by decide +kernel
theorem dX6_keepPlaces_15 : decode cX6_keepPlaces 15 = .ok (.arraylength, 1) := by decide +kernel
theorem dX6_keepPlaces_16 : decode cX6_keepPlaces 16 = .ok (.if_icmp .ge 33, 3) := by decide +kernel
theorem dX6_keepPlaces_19 : decode cX6_keepPlaces 19 = .ok (.aload_n 0, 1) := by decide +kernel
theorem dX6_keepPlaces_20 : decode cX6_keepPlaces 20 = .ok (.iload_n 1, 1) := by decide +kernel
theorem dX6_keepPlaces_21 : decode cX6_keepPlaces 21 = .ok (.invokevirtual 34, 3) := by decide +kernel
theorem dX6_keepPlaces_24 : decode cX6_keepPlaces 24 = .ok (.astore_n 2, 1) := by decide +kernel
theorem dX6_keepPlaces_25 : decode cX6_keepPlaces 25 = .ok (.aload_n 0, 1) := by decide +kernel
theorem dX6_keepPlaces_26 : decode cX6_keepPlaces 26 = .ok (.getfield 17, 3) := by decide +kernel
theorem dX6_keepPlaces_29 : decode cX6_keepPlaces 29 = .ok (.iload_n 1, 1) := by decide +kernel
theorem dX6_keepPlaces_30 : decode cX6_keepPlaces 30 = .ok (.aload_n 2, 1) := by decide +kernel
theorem dX6_keepPlaces_31 : decode cX6_keepPlaces 31 = .ok (.ifnonnull 7, 3) := by decide +kernel
theorem dX6_keepPlaces_34 : decode cX6_keepPlaces 34 = .ok (.iconst 0, 1) := by decide +kernel
theorem dX6_keepPlaces_35 : decode cX6_keepPlaces 35 = .ok (.goto 7, 3) := by decide +kernel
theorem dX6_keepPlaces_38 : decode cX6_keepPlaces 38 = .ok (.aload_n 2, 1) := by decide +kernel
theorem dX6_keepPlaces_39 : decode cX6_keepPlaces 39 = .ok (.getfield 38, 3) := by decide +kernel
theorem dX6_keepPlaces_42 : decode cX6_keepPlaces 42 = .ok (.iastore, 1) := by decide +kernel
theorem dX6_keepPlaces_43 : decode cX6_keepPlaces 43 = .ok (.iinc 1 1, 3) := by decide +kernel
theorem dX6_keepPlaces_46 : decode cX6_keepPlaces 46 = .ok (.goto (-36), 3) := by decide +kernel
theorem dX6_keepPlaces_49 : decode cX6_keepPlaces 49 = .ok (.return_, 1) := by decide +kernel
theorem dX6_goBack_0 : decode cX6_goBack 0 = .ok (.aload_n 0, 1) := by decide +kernel
theorem dX6_goBack_1 : decode cX6_goBack 1 = .ok (.aload_n 0, 1) := by decide +kernel
theorem dX6_goBack_2 : decode cX6_goBack 2 = .ok (.getfield 31, 3) := by decide +kernel
theorem dX6_goBack_5 : decode cX6_goBack 5 = .ok (.invokevirtual 41, 3) := by decide +kernel
theorem dX6_goBack_8 : decode cX6_goBack 8 = .ok (.iconst 0, 1) := by decide +kernel
theorem dX6_goBack_9 : decode cX6_goBack 9 = .ok (.istore_n 1, 1) := by decide +kernel
theorem dX6_goBack_10 : decode cX6_goBack 10 = .ok (.iload_n 1, 1) := by decide +kernel
theorem dX6_goBack_11 : decode cX6_goBack 11 = .ok (.aload_n 0, 1) := by decide +kernel
theorem dX6_goBack_12 : decode cX6_goBack 12 = .ok (.getfield 17, 3) := by decide +kernel
theorem dX6_goBack_15 : decode cX6_goBack 15 = .ok (.arraylength, 1) := by decide +kernel
theorem dX6_goBack_16 : decode cX6_goBack 16 = .ok (.if_icmp .ge 29, 3) := by decide +kernel
theorem dX6_goBack_19 : decode cX6_goBack 19 = .ok (.aload_n 0, 1) := by decide +kernel
theorem dX6_goBack_20 : decode cX6_goBack 20 = .ok (.iload_n 1, 1) := by decide +kernel
theorem dX6_goBack_21 : decode cX6_goBack 21 = .ok (.invokevirtual 34, 3) := by decide +kernel
theorem dX6_goBack_24 : decode cX6_goBack 24 = .ok (.astore_n 2, 1) := by decide +kernel
theorem dX6_goBack_25 : decode cX6_goBack 25 = .ok (.aload_n 2, 1) := by decide +kernel
theorem dX6_goBack_26 : decode cX6_goBack 26 = .ok (.ifnull 13, 3) := by decide +kernel
theorem dX6_goBack_29 : decode cX6_goBack 29 = .ok (.aload_n 2, 1) := by decide +kernel
theorem dX6_goBack_30 : decode cX6_goBack 30 = .ok (.aload_n 0, 1) := by decide +kernel
theorem dX6_goBack_31 : decode cX6_goBack 31 = .ok (.getfield 17, 3) := by decide +kernel
theorem dX6_goBack_34 : decode cX6_goBack 34 = .ok (.iload_n 1, 1) := by decide +kernel
theorem dX6_goBack_35 : decode cX6_goBack 35 = .ok (.iaload, 1) := by decide +kernel
theorem dX6_goBack_36 : decode cX6_goBack 36 = .ok (.putfield 38, 3) := by decide +kernel
theorem dX6_goBack_39 : decode cX6_goBack 39 = .ok (.iinc 1 1, 3) := by decide +kernel
theorem dX6_goBack_42 : decode cX6_goBack 42 = .ok (.goto (-32), 3) := by decide +kernel
theorem dX6_goBack_45 : decode cX6_goBack 45 = .ok (.return_, 1) := by decide +kernel
theorem dX6_weighsIn_0 : decode cX6_weighsIn 0 = .ok (.bipush 10, 2) := by decide +kernel
theorem dX6_weighsIn_2 : decode cX6_weighsIn 2 = .ok (.istore_n 3, 1) := by decide +kernel
theorem dX6_weighsIn_3 : decode cX6_weighsIn 3 = .ok (.iconst 0, 1) := by decide +kernel
theorem dX6_weighsIn_4 : decode cX6_weighsIn 4 = .ok (.istore 4, 2) := by decide +kernel
theorem dX6_weighsIn_6 : decode cX6_weighsIn 6 = .ok (.iload 4, 2) := by decide +kernel
theorem dX6_weighsIn_8 : decode cX6_weighsIn 8 = .ok (.aload_n 0, 1) := by decide +kernel
theorem dX6_weighsIn_9 : decode cX6_weighsIn 9 = .ok (.getfield 21, 3) := by decide +kernel
theorem dX6_weighsIn_12 : decode cX6_weighsIn 12 = .ok (.if_icmp .ge 40, 3) := by decide +kernel
theorem dX6_weighsIn_15 : decode cX6_weighsIn 15 = .ok (.aload_n 0, 1) := by decide +kernel
theorem dX6_weighsIn_16 : decode cX6_weighsIn 16 = .ok (.iload 4, 2) := by decide +kernel
theorem dX6_weighsIn_18 : decode cX6_weighsIn 18 = .ok (.invokevirtual 34, 3) := by decide +kernel
theorem dX6_weighsIn_21 : decode cX6_weighsIn 21 = .ok (.astore 5, 2) := by decide +kernel
theorem dX6_weighsIn_23 : decode cX6_weighsIn 23 = .ok (.aload 5, 2) := by decide +kernel
theorem dX6_weighsIn_25 : decode cX6_weighsIn 25 = .ok (.ifnull 21, 3) := by decide +kernel
theorem dX6_weighsIn_28 : decode cX6_weighsIn 28 = .ok (.aload 5, 2) := by decide +kernel
theorem dX6_weighsIn_30 : decode cX6_weighsIn 30 = .ok (.getfield 38, 3) := by decide +kernel
theorem dX6_weighsIn_33 : decode cX6_weighsIn 33 = .ok (.iload_n 1, 1) := by decide +kernel
theorem dX6_weighsIn_34 : decode cX6_weighsIn 34 = .ok (.if_icmp .ne 12, 3) := by decide +kernel
theorem dX6_weighsIn_37 : decode cX6_weighsIn 37 = .ok (.iload_n 3, 1) := by decide +kernel
theorem dX6_weighsIn_38 : decode cX6_weighsIn 38 = .ok (.aload 5, 2) := by decide +kernel
theorem dX6_weighsIn_40 : decode cX6_weighsIn 40 = .ok (.iload_n 2, 1) := by decide +kernel
theorem dX6_weighsIn_41 : decode cX6_weighsIn 41 = .ok (.invokevirtual 45, 3) := by decide +kernel
theorem dX6_weighsIn_44 : decode cX6_weighsIn 44 = .ok (.iadd, 1) := by decide +kernel
theorem dX6_weighsIn_45 : decode cX6_weighsIn 45 = .ok (.istore_n 3, 1) := by decide +kernel
theorem dX6_weighsIn_46 : decode cX6_weighsIn 46 = .ok (.iinc 4 1, 3) := by decide +kernel
theorem dX6_weighsIn_49 : decode cX6_weighsIn 49 = .ok (.goto (-43), 3) := by decide +kernel
theorem dX6_weighsIn_52 : decode cX6_weighsIn 52 = .ok (.iload_n 3, 1) := by decide +kernel
theorem dX6_weighsIn_53 : decode cX6_weighsIn 53 = .ok (.ireturn, 1) := by decide +kernel
theorem dX6_sizeIn_0 : decode cX6_sizeIn 0 = .ok (.iconst 0, 1) := by decide +kernel
theorem dX6_sizeIn_1 : decode cX6_sizeIn 1 = .ok (.istore_n 2, 1) := by decide +kernel
theorem dX6_sizeIn_2 : decode cX6_sizeIn 2 = .ok (.iconst 0, 1) := by decide +kernel
theorem dX6_sizeIn_3 : decode cX6_sizeIn 3 = .ok (.istore_n 3, 1) := by decide +kernel
theorem dX6_sizeIn_4 : decode cX6_sizeIn 4 = .ok (.iload_n 3, 1) := by decide +kernel
theorem dX6_sizeIn_5 : decode cX6_sizeIn 5 = .ok (.aload_n 0, 1) := by decide +kernel
theorem dX6_sizeIn_6 : decode cX6_sizeIn 6 = .ok (.getfield 21, 3) := by decide +kernel
theorem dX6_sizeIn_9 : decode cX6_sizeIn 9 = .ok (.if_icmp .ge 33, 3) := by decide +kernel
theorem dX6_sizeIn_12 : decode cX6_sizeIn 12 = .ok (.aload_n 0, 1) := by decide +kernel
theorem dX6_sizeIn_13 : decode cX6_sizeIn 13 = .ok (.iload_n 3, 1) := by decide +kernel
theorem dX6_sizeIn_14 : decode cX6_sizeIn 14 = .ok (.invokevirtual 34, 3) := by decide +kernel
theorem dX6_sizeIn_17 : decode cX6_sizeIn 17 = .ok (.astore 4, 2) := by decide +kernel
theorem dX6_sizeIn_19 : decode cX6_sizeIn 19 = .ok (.aload 4, 2) := by decide +kernel
theorem dX6_sizeIn_21 : decode cX6_sizeIn 21 = .ok (.ifnull 15, 3) := by decide +kernel
theorem dX6_sizeIn_24 : decode cX6_sizeIn 24 = .ok (.aload 4, 2) := by decide +kernel
theorem dX6_sizeIn_26 : decode cX6_sizeIn 26 = .ok (.getfield 38, 3) := by decide +kernel
theorem dX6_sizeIn_29 : decode cX6_sizeIn 29 = .ok (.iload_n 1, 1) := by decide +kernel
theorem dX6_sizeIn_30 : decode cX6_sizeIn 30 = .ok (.if_icmp .ne 6, 3) := by decide +kernel
theorem dX6_sizeIn_33 : decode cX6_sizeIn 33 = .ok (.iinc 2 1, 3) := by decide +kernel
theorem dX6_sizeIn_36 : decode cX6_sizeIn 36 = .ok (.iinc 3 1, 3) := by decide +kernel
theorem dX6_sizeIn_39 : decode cX6_sizeIn 39 = .ok (.goto (-35), 3) := by decide +kernel
theorem dX6_sizeIn_42 : decode cX6_sizeIn 42 = .ok (.iload_n 2, 1) := by decide +kernel
theorem dX6_sizeIn_43 : decode cX6_sizeIn 43 = .ok (.ireturn, 1) := by decide +kernel
theorem dX7_init_0 : decode cX7_init 0 = .ok (.aload_n 0, 1) := by decide +kernel
theorem dX7_init_1 : decode cX7_init 1 = .ok (.invokespecial 3, 3) := by decide +kernel
theorem dX7_init_4 : decode cX7_init 4 = .ok (.aload_n 0, 1) := by decide +kernel
theorem dX7_init_5 : decode cX7_init 5 = .ok (.bipush 12, 2) := by decide +kernel
theorem dX7_init_7 : decode cX7_init 7 = .ok (.newarray .char, 2) := by decide +kernel
theorem dX7_init_9 : decode cX7_init 9 = .ok (.putfield 9, 3) := by decide +kernel
theorem dX7_init_12 : decode cX7_init 12 = .ok (.return_, 1) := by decide +kernel
theorem dX7_hasRoomFor_0 : decode cX7_hasRoomFor 0 = .ok (.aload_n 0, 1) := by decide +kernel
theorem dX7_hasRoomFor_1 : decode cX7_hasRoomFor 1 = .ok (.getfield 15, 3) := by decide +kernel
theorem dX7_hasRoomFor_4 : decode cX7_hasRoomFor 4 = .ok (.iload_n 1, 1) := by decide +kernel
theorem dX7_hasRoomFor_5 : decode cX7_hasRoomFor 5 = .ok (.iadd, 1) := by decide +kernel
theorem dX7_hasRoomFor_6 : decode cX7_hasRoomFor 6 = .ok (.aload_n 0, 1) := by decide +kernel
theorem dX7_hasRoomFor_7 : decode cX7_hasRoomFor 7 = .ok (.getfield 9, 3) := by decide +kernel
theorem dX7_hasRoomFor_10 : decode cX7_hasRoomFor 10 = .ok (.arraylength, 1) := by decide +kernel
theorem dX7_hasRoomFor_11 : decode cX7_hasRoomFor 11 = .ok (.if_icmp .gt 7, 3) := by decide +kernel
theorem dX7_hasRoomFor_14 : decode cX7_hasRoomFor 14 = .ok (.iconst 1, 1) := by decide +kernel
theorem dX7_hasRoomFor_15 : decode cX7_hasRoomFor 15 = .ok (.goto 4, 3) := by decide +kernel
theorem dX7_hasRoomFor_18 : decode cX7_hasRoomFor 18 = .ok (.iconst 0, 1) := by decide +kernel
theorem dX7_hasRoomFor_19 : decode cX7_hasRoomFor 19 = .ok (.ireturn, 1) := by decide +kernel
theorem dX7_put_0 : decode cX7_put 0 = .ok (.aload_n 0, 1) := by decide +kernel
theorem dX7_put_1 : decode cX7_put 1 = .ok (.getfield 15, 3) := by decide +kernel
theorem dX7_put_4 : decode cX7_put 4 = .ok (.ifCond .lt 35, 3) := by decide +kernel
theorem dX7_put_7 : decode cX7_put 7 = .ok (.aload_n 0, 1) := by decide +kernel
theorem dX7_put_8 : decode cX7_put 8 = .ok (.getfield 15, 3) := by decide +kernel
theorem dX7_put_11 : decode cX7_put 11 = .ok (.aload_n 0, 1) := by decide +kernel
theorem dX7_put_12 : decode cX7_put 12 = .ok (.getfield 9, 3) := by decide +kernel
theorem dX7_put_15 : decode cX7_put 15 = .ok (.arraylength, 1) := by decide +kernel
theorem dX7_put_16 : decode cX7_put 16 = .ok (.if_icmp .ge 23, 3) := by decide +kernel
theorem dX7_put_19 : decode cX7_put 19 = .ok (.aload_n 0, 1) := by decide +kernel
theorem dX7_put_20 : decode cX7_put 20 = .ok (.getfield 9, 3) := by decide +kernel
theorem dX7_put_23 : decode cX7_put 23 = .ok (.aload_n 0, 1) := by decide +kernel
theorem dX7_put_24 : decode cX7_put 24 = .ok (.getfield 15, 3) := by decide +kernel
theorem dX7_put_27 : decode cX7_put 27 = .ok (.iload_n 1, 1) := by decide +kernel
theorem dX7_put_28 : decode cX7_put 28 = .ok (.castore, 1) := by decide +kernel
theorem dX7_put_29 : decode cX7_put 29 = .ok (.aload_n 0, 1) := by decide +kernel
theorem dX7_put_30 : decode cX7_put 30 = .ok (.dup, 1) := by decide +kernel
theorem dX7_put_31 : decode cX7_put 31 = .ok (.getfield 15, 3) := by decide +kernel
theorem dX7_put_34 : decode cX7_put 34 = .ok (.iconst 1, 1) := by decide +kernel
theorem dX7_put_35 : decode cX7_put 35 = .ok (.iadd, 1) := by decide +kernel
theorem dX7_put_36 : decode cX7_put 36 = .ok (.putfield 15, 3) := by decide +kernel
theorem dX7_put_39 : decode cX7_put 39 = .ok (.return_, 1) := by decide +kernel
theorem dX7_at_0 : decode cX7_at 0 = .ok (.iload_n 1, 1) := by decide +kernel
theorem dX7_at_1 : decode cX7_at 1 = .ok (.ifCond .lt 29, 3) := by decide +kernel
theorem dX7_at_4 : decode cX7_at 4 = .ok (.iload_n 1, 1) := by decide +kernel
theorem dX7_at_5 : decode cX7_at 5 = .ok (.aload_n 0, 1) := by decide +kernel
theorem dX7_at_6 : decode cX7_at 6 = .ok (.getfield 15, 3) := by decide +kernel
theorem dX7_at_9 : decode cX7_at 9 = .ok (.if_icmp .ge 21, 3) := by decide +kernel
theorem dX7_at_12 : decode cX7_at 12 = .ok (.iload_n 1, 1) := by decide +kernel
theorem dX7_at_13 : decode cX7_at 13 = .ok (.aload_n 0, 1) := by decide +kernel
theorem dX7_at_14 : decode cX7_at 14 = .ok (.getfield 9, 3) := by decide +kernel
theorem dX7_at_17 : decode cX7_at 17 = .ok (.arraylength, 1) := by decide +kernel
theorem dX7_at_18 : decode cX7_at 18 = .ok (.if_icmp .ge 12, 3) := by decide +kernel
theorem dX7_at_21 : decode cX7_at 21 = .ok (.aload_n 0, 1) := by decide +kernel
theorem dX7_at_22 : decode cX7_at 22 = .ok (.getfield 9, 3) := by decide +kernel
theorem dX7_at_25 : decode cX7_at 25 = .ok (.iload_n 1, 1) := by decide +kernel
theorem dX7_at_26 : decode cX7_at 26 = .ok (.caload, 1) := by decide +kernel
theorem dX7_at_27 : decode cX7_at 27 = .ok (.goto 4, 3) := by decide +kernel
theorem dX7_at_30 : decode cX7_at 30 = .ok (.iconst 0, 1) := by decide +kernel
theorem dX7_at_31 : decode cX7_at 31 = .ok (.ireturn, 1) := by decide +kernel
theorem dX7_emptied_0 : decode cX7_emptied 0 = .ok (.aload_n 0, 1) := by decide +kernel
theorem dX7_emptied_1 : decode cX7_emptied 1 = .ok (.getfield 15, 3) := by decide +kernel
theorem dX7_emptied_4 : decode cX7_emptied 4 = .ok (.istore_n 1, 1) := by decide +kernel
theorem dX7_emptied_5 : decode cX7_emptied 5 = .ok (.aload_n 0, 1) := by decide +kernel
theorem dX7_emptied_6 : decode cX7_emptied 6 = .ok (.iconst 0, 1) := by decide +kernel
theorem dX7_emptied_7 : decode cX7_emptied 7 = .ok (.putfield 15, 3) := by decide +kernel
theorem dX7_emptied_10 : decode cX7_emptied 10 = .ok (.iload_n 1, 1) := by decide +kernel
theorem dX7_emptied_11 : decode cX7_emptied 11 = .ok (.ireturn, 1) := by decide +kernel
theorem dX7_firstWrong_0 : decode cX7_firstWrong 0 = .ok (.iconst 0, 1) := by decide +kernel
theorem dX7_firstWrong_1 : decode cX7_firstWrong 1 = .ok (.istore_n 1, 1) := by decide +kernel
theorem dX7_firstWrong_2 : decode cX7_firstWrong 2 = .ok (.iload_n 1, 1) := by decide +kernel
theorem dX7_firstWrong_3 : decode cX7_firstWrong 3 = .ok (.aload_n 0, 1) := by decide +kernel
theorem dX7_firstWrong_4 : decode cX7_firstWrong 4 = .ok (.getfield 15, 3) := by decide +kernel
theorem dX7_firstWrong_7 : decode cX7_firstWrong 7 = .ok (.if_icmp .ge 19, 3) := by decide +kernel
theorem dX7_firstWrong_10 : decode cX7_firstWrong 10 = .ok (.aload_n 0, 1) := by decide +kernel
theorem dX7_firstWrong_11 : decode cX7_firstWrong 11 = .ok (.iload_n 1, 1) := by decide +kernel
theorem dX7_firstWrong_12 : decode cX7_firstWrong 12 = .ok (.invokevirtual 19, 3) := by decide +kernel
theorem dX7_firstWrong_15 : decode cX7_firstWrong 15 = .ok (.ifCond .ne 5, 3) := by decide +kernel
theorem dX7_firstWrong_18 : decode cX7_firstWrong 18 = .ok (.iload_n 1, 1) := by decide +kernel
theorem dX7_firstWrong_19 : decode cX7_firstWrong 19 = .ok (.ireturn, 1) := by decide +kernel
theorem dX7_firstWrong_20 : decode cX7_firstWrong 20 = .ok (.iinc 1 1, 3) := by decide +kernel
theorem dX7_firstWrong_23 : decode cX7_firstWrong 23 = .ok (.goto (-21), 3) := by decide +kernel
theorem dX7_firstWrong_26 : decode cX7_firstWrong 26 = .ok (.aload_n 0, 1) := by decide +kernel
theorem dX7_firstWrong_27 : decode cX7_firstWrong 27 = .ok (.getfield 15, 3) := by decide +kernel
theorem dX7_firstWrong_30 : decode cX7_firstWrong 30 = .ok (.ireturn, 1) := by decide +kernel
theorem dX7_isWire_0 : decode cX7_isWire 0 = .ok (.aload_n 0, 1) := by decide +kernel
theorem dX7_isWire_1 : decode cX7_isWire 1 = .ok (.getfield 15, 3) := by decide +kernel
theorem dX7_isWire_4 : decode cX7_isWire 4 = .ok (.bipush 8, 2) := by decide +kernel
theorem dX7_isWire_6 : decode cX7_isWire 6 = .ok (.if_icmp .lt 18, 3) := by decide +kernel
theorem dX7_isWire_9 : decode cX7_isWire 9 = .ok (.aload_n 0, 1) := by decide +kernel
theorem dX7_isWire_10 : decode cX7_isWire 10 = .ok (.invokevirtual 23, 3) := by decide +kernel
theorem dX7_isWire_13 : decode cX7_isWire 13 = .ok (.aload_n 0, 1) := by decide +kernel
theorem dX7_isWire_14 : decode cX7_isWire 14 = .ok (.getfield 15, 3) := by decide +kernel
theorem dX7_isWire_17 : decode cX7_isWire 17 = .ok (.if_icmp .ne 7, 3) := by decide +kernel
theorem dX7_isWire_20 : decode cX7_isWire 20 = .ok (.iconst 1, 1) := by decide +kernel
theorem dX7_isWire_21 : decode cX7_isWire 21 = .ok (.goto 4, 3) := by decide +kernel
theorem dX7_isWire_24 : decode cX7_isWire 24 = .ok (.iconst 0, 1) := by decide +kernel
theorem dX7_isWire_25 : decode cX7_isWire 25 = .ok (.ireturn, 1) := by decide +kernel
theorem dX7_digitAt_0 : decode cX7_digitAt 0 = .ok (.aload_n 0, 1) := by decide +kernel
theorem dX7_digitAt_1 : decode cX7_digitAt 1 = .ok (.iload_n 1, 1) := by decide +kernel
theorem dX7_digitAt_2 : decode cX7_digitAt 2 = .ok (.invokevirtual 27, 3) := by decide +kernel
theorem dX7_digitAt_5 : decode cX7_digitAt 5 = .ok (.bipush 48, 2) := by decide +kernel
theorem dX7_digitAt_7 : decode cX7_digitAt 7 = .ok (.isub, 1) := by decide +kernel
theorem dX7_digitAt_8 : decode cX7_digitAt 8 = .ok (.ireturn, 1) := by decide +kernel
theorem dX7_isWireLetter_0 : decode cX7_isWireLetter 0 = .ok (.iload_n 1, 1) := by decide +kernel
theorem dX7_isWireLetter_1 : decode cX7_isWireLetter 1 = .ok (.tableswitch 138 0 8 #[51, 61, 86, 102, 86, 102, 112, 112, 122], 51) := by decide +kernel
theorem dX7_isWireLetter_52 : decode cX7_isWireLetter 52 = .ok (.aload_n 0, 1) := by decide +kernel
theorem dX7_isWireLetter_53 : decode cX7_isWireLetter 53 = .ok (.iload_n 1, 1) := by decide +kernel
theorem dX7_isWireLetter_54 : decode cX7_isWireLetter 54 = .ok (.bipush 49, 2) := by decide +kernel
theorem dX7_isWireLetter_56 : decode cX7_isWireLetter 56 = .ok (.bipush 52, 2) := by decide +kernel
theorem dX7_isWireLetter_58 : decode cX7_isWireLetter 58 = .ok (.invokevirtual 31, 3) := by decide +kernel
theorem dX7_isWireLetter_61 : decode cX7_isWireLetter 61 = .ok (.ireturn, 1) := by decide +kernel
theorem dX7_isWireLetter_62 : decode cX7_isWireLetter 62 = .ok (.aload_n 0, 1) := by decide +kernel
theorem dX7_isWireLetter_63 : decode cX7_isWireLetter 63 = .ok (.iload_n 1, 1) := by decide +kernel
theorem dX7_isWireLetter_64 : decode cX7_isWireLetter 64 = .ok (.bipush 48, 2) := by decide +kernel
theorem dX7_isWireLetter_66 : decode cX7_isWireLetter 66 = .ok (.aload_n 0, 1) := by decide +kernel
theorem dX7_isWireLetter_67 : decode cX7_isWireLetter 67 = .ok (.iconst 0, 1) := by decide +kernel
theorem dX7_isWireLetter_68 : decode cX7_isWireLetter 68 = .ok (.invokevirtual 27, 3) := by decide +kernel
theorem dX7_isWireLetter_71 : decode cX7_isWireLetter 71 = .ok (.bipush 52, 2) := by decide +kernel
theorem dX7_isWireLetter_73 : decode cX7_isWireLetter 73 = .ok (.if_icmp .ne 8, 3) := by decide +kernel
theorem dX7_isWireLetter_76 : decode cX7_isWireLetter 76 = .ok (.bipush 48, 2) := by decide +kernel
theorem dX7_isWireLetter_78 : decode cX7_isWireLetter 78 = .ok (.goto 5, 3) := by decide +kernel
theorem dX7_isWireLetter_81 : decode cX7_isWireLetter 81 = .ok (.bipush 57, 2) := by decide +kernel
theorem dX7_isWireLetter_83 : decode cX7_isWireLetter 83 = .ok (.invokevirtual 31, 3) := by decide +kernel
theorem dX7_isWireLetter_86 : decode cX7_isWireLetter 86 = .ok (.ireturn, 1) := by decide +kernel
theorem dX7_isWireLetter_87 : decode cX7_isWireLetter 87 = .ok (.aload_n 0, 1) := by decide +kernel
theorem dX7_isWireLetter_88 : decode cX7_isWireLetter 88 = .ok (.iload_n 1, 1) := by decide +kernel
theorem dX7_isWireLetter_89 : decode cX7_isWireLetter 89 = .ok (.invokevirtual 27, 3) := by decide +kernel
theorem dX7_isWireLetter_92 : decode cX7_isWireLetter 92 = .ok (.bipush 58, 2) := by decide +kernel
theorem dX7_isWireLetter_94 : decode cX7_isWireLetter 94 = .ok (.if_icmp .ne 7, 3) := by decide +kernel
theorem dX7_isWireLetter_97 : decode cX7_isWireLetter 97 = .ok (.iconst 1, 1) := by decide +kernel
theorem dX7_isWireLetter_98 : decode cX7_isWireLetter 98 = .ok (.goto 4, 3) := by decide +kernel
theorem dX7_isWireLetter_101 : decode cX7_isWireLetter 101 = .ok (.iconst 0, 1) := by decide +kernel
theorem dX7_isWireLetter_102 : decode cX7_isWireLetter 102 = .ok (.ireturn, 1) := by decide +kernel
theorem dX7_isWireLetter_103 : decode cX7_isWireLetter 103 = .ok (.aload_n 0, 1) := by decide +kernel
theorem dX7_isWireLetter_104 : decode cX7_isWireLetter 104 = .ok (.iload_n 1, 1) := by decide +kernel
theorem dX7_isWireLetter_105 : decode cX7_isWireLetter 105 = .ok (.bipush 49, 2) := by decide +kernel
theorem dX7_isWireLetter_107 : decode cX7_isWireLetter 107 = .ok (.bipush 57, 2) := by decide +kernel
theorem dX7_isWireLetter_109 : decode cX7_isWireLetter 109 = .ok (.invokevirtual 31, 3) := by decide +kernel
theorem dX7_isWireLetter_112 : decode cX7_isWireLetter 112 = .ok (.ireturn, 1) := by decide +kernel
theorem dX7_isWireLetter_113 : decode cX7_isWireLetter 113 = .ok (.aload_n 0, 1) := by decide +kernel
theorem dX7_isWireLetter_114 : decode cX7_isWireLetter 114 = .ok (.iload_n 1, 1) := by decide +kernel
theorem dX7_isWireLetter_115 : decode cX7_isWireLetter 115 = .ok (.bipush 48, 2) := by decide +kernel
theorem dX7_isWireLetter_117 : decode cX7_isWireLetter 117 = .ok (.bipush 57, 2) := by decide +kernel
theorem dX7_isWireLetter_119 : decode cX7_isWireLetter 119 = .ok (.invokevirtual 31, 3) := by decide +kernel
theorem dX7_isWireLetter_122 : decode cX7_isWireLetter 122 = .ok (.ireturn, 1) := by decide +kernel
theorem dX7_isWireLetter_123 : decode cX7_isWireLetter 123 = .ok (.aload_n 0, 1) := by decide +kernel
theorem dX7_isWireLetter_124 : decode cX7_isWireLetter 124 = .ok (.iload_n 1, 1) := by decide +kernel
theorem dX7_isWireLetter_125 : decode cX7_isWireLetter 125 = .ok (.invokevirtual 27, 3) := by decide +kernel
theorem dX7_isWireLetter_128 : decode cX7_isWireLetter 128 = .ok (.bipush 111, 2) := by decide +kernel
theorem dX7_isWireLetter_130 : decode cX7_isWireLetter 130 = .ok (.if_icmp .ne 7, 3) := by decide +kernel
theorem dX7_isWireLetter_133 : decode cX7_isWireLetter 133 = .ok (.iconst 1, 1) := by decide +kernel
theorem dX7_isWireLetter_134 : decode cX7_isWireLetter 134 = .ok (.goto 4, 3) := by decide +kernel
theorem dX7_isWireLetter_137 : decode cX7_isWireLetter 137 = .ok (.iconst 0, 1) := by decide +kernel
theorem dX7_isWireLetter_138 : decode cX7_isWireLetter 138 = .ok (.ireturn, 1) := by decide +kernel
theorem dX7_isWireLetter_139 : decode cX7_isWireLetter 139 = .ok (.iconst 0, 1) := by decide +kernel
theorem dX7_isWireLetter_140 : decode cX7_isWireLetter 140 = .ok (.ireturn, 1) := by decide +kernel
theorem dX7_isBetween_0 : decode cX7_isBetween 0 = .ok (.aload_n 0, 1) := by decide +kernel
theorem dX7_isBetween_1 : decode cX7_isBetween 1 = .ok (.iload_n 1, 1) := by decide +kernel
theorem dX7_isBetween_2 : decode cX7_isBetween 2 = .ok (.invokevirtual 27, 3) := by decide +kernel
theorem dX7_isBetween_5 : decode cX7_isBetween 5 = .ok (.iload_n 2, 1) := by decide +kernel
theorem dX7_isBetween_6 : decode cX7_isBetween 6 = .ok (.if_icmp .lt 16, 3) := by decide +kernel
theorem dX7_isBetween_9 : decode cX7_isBetween 9 = .ok (.aload_n 0, 1) := by decide +kernel
theorem dX7_isBetween_10 : decode cX7_isBetween 10 = .ok (.iload_n 1, 1) := by decide +kernel
theorem dX7_isBetween_11 : decode cX7_isBetween 11 = .ok (.invokevirtual 27, 3) := by decide +kernel
theorem dX7_isBetween_14 : decode cX7_isBetween 14 = .ok (.iload_n 3, 1) := by decide +kernel
theorem dX7_isBetween_15 : decode cX7_isBetween 15 = .ok (.if_icmp .gt 7, 3) := by decide +kernel
theorem dX7_isBetween_18 : decode cX7_isBetween 18 = .ok (.iconst 1, 1) := by decide +kernel
theorem dX7_isBetween_19 : decode cX7_isBetween 19 = .ok (.goto 4, 3) := by decide +kernel
theorem dX7_isBetween_22 : decode cX7_isBetween 22 = .ok (.iconst 0, 1) := by decide +kernel
theorem dX7_isBetween_23 : decode cX7_isBetween 23 = .ok (.ireturn, 1) := by decide +kernel
theorem dX8_init_0 : decode cX8_init 0 = .ok (.aload_n 0, 1) := by decide +kernel
theorem dX8_init_1 : decode cX8_init 1 = .ok (.invokespecial 3, 3) := by decide +kernel
theorem dX8_init_4 : decode cX8_init 4 = .ok (.aload_n 0, 1) := by decide +kernel
theorem dX8_init_5 : decode cX8_init 5 = .ok (.bipush 41, 2) := by decide +kernel
theorem dX8_init_7 : decode cX8_init 7 = .ok (.newarray .int, 2) := by decide +kernel
theorem dX8_init_9 : decode cX8_init 9 = .ok (.putfield 9, 3) := by decide +kernel
theorem dX8_init_12 : decode cX8_init 12 = .ok (.aload_n 0, 1) := by decide +kernel
theorem dX8_init_13 : decode cX8_init 13 = .ok (.bipush 41, 2) := by decide +kernel
theorem dX8_init_15 : decode cX8_init 15 = .ok (.newarray .int, 2) := by decide +kernel
theorem dX8_init_17 : decode cX8_init 17 = .ok (.putfield 15, 3) := by decide +kernel
theorem dX8_init_20 : decode cX8_init 20 = .ok (.return_, 1) := by decide +kernel
theorem dX8_find_0 : decode cX8_find 0 = .ok (.aload_n 0, 1) := by decide +kernel
theorem dX8_find_1 : decode cX8_find 1 = .ok (.aload_n 1, 1) := by decide +kernel
theorem dX8_find_2 : decode cX8_find 2 = .ok (.getfield 18, 3) := by decide +kernel
theorem dX8_find_5 : decode cX8_find 5 = .ok (.invokevirtual 24, 3) := by decide +kernel
theorem dX8_find_8 : decode cX8_find 8 = .ok (.aload_n 0, 1) := by decide +kernel
theorem dX8_find_9 : decode cX8_find 9 = .ok (.iconst (-1), 1) := by decide +kernel
theorem dX8_find_10 : decode cX8_find 10 = .ok (.putfield 28, 3) := by decide +kernel
theorem dX8_find_13 : decode cX8_find 13 = .ok (.aload_n 0, 1) := by decide +kernel
theorem dX8_find_14 : decode cX8_find 14 = .ok (.iconst (-1), 1) := by decide +kernel
theorem dX8_find_15 : decode cX8_find 15 = .ok (.putfield 31, 3) := by decide +kernel
theorem dX8_find_18 : decode cX8_find 18 = .ok (.iconst 0, 1) := by decide +kernel
theorem dX8_find_19 : decode cX8_find 19 = .ok (.istore 4, 2) := by decide +kernel
theorem dX8_find_21 : decode cX8_find 21 = .ok (.iload 4, 2) := by decide +kernel
theorem dX8_find_23 : decode cX8_find 23 = .ok (.bipush 12, 2) := by decide +kernel
theorem dX8_find_25 : decode cX8_find 25 = .ok (.if_icmp .gt 107, 3) := by decide +kernel
theorem dX8_find_28 : decode cX8_find 28 = .ok (.aload_n 2, 1) := by decide +kernel
theorem dX8_find_29 : decode cX8_find 29 = .ok (.iconst 0, 1) := by decide +kernel
theorem dX8_find_30 : decode cX8_find 30 = .ok (.aload_n 1, 1) := by decide +kernel
theorem dX8_find_31 : decode cX8_find 31 = .ok (.getfield 34, 3) := by decide +kernel
theorem dX8_find_34 : decode cX8_find 34 = .ok (.iload 4, 2) := by decide +kernel
theorem dX8_find_36 : decode cX8_find 36 = .ok (.iadd, 1) := by decide +kernel
theorem dX8_find_37 : decode cX8_find 37 = .ok (.invokevirtual 35, 3) := by decide +kernel
theorem dX8_find_40 : decode cX8_find 40 = .ok (.istore 5, 2) := by decide +kernel
theorem dX8_find_42 : decode cX8_find 42 = .ok (.aload_n 2, 1) := by decide +kernel
theorem dX8_find_43 : decode cX8_find 43 = .ok (.iconst 1, 1) := by decide +kernel
theorem dX8_find_44 : decode cX8_find 44 = .ok (.aload_n 1, 1) := by decide +kernel
theorem dX8_find_45 : decode cX8_find 45 = .ok (.getfield 34, 3) := by decide +kernel
theorem dX8_find_48 : decode cX8_find 48 = .ok (.iload 4, 2) := by decide +kernel
theorem dX8_find_50 : decode cX8_find 50 = .ok (.iadd, 1) := by decide +kernel
theorem dX8_find_51 : decode cX8_find 51 = .ok (.invokevirtual 35, 3) := by decide +kernel
theorem dX8_find_54 : decode cX8_find 54 = .ok (.istore 6, 2) := by decide +kernel
theorem dX8_find_56 : decode cX8_find 56 = .ok (.iload 4, 2) := by decide +kernel
theorem dX8_find_58 : decode cX8_find 58 = .ok (.ifCond .le 27, 3) := by decide +kernel
theorem dX8_find_61 : decode cX8_find 61 = .ok (.aload_n 0, 1) := by decide +kernel
theorem dX8_find_62 : decode cX8_find 62 = .ok (.iload 4, 2) := by decide +kernel
theorem dX8_find_64 : decode cX8_find 64 = .ok (.iconst 1, 1) := by decide +kernel
theorem dX8_find_65 : decode cX8_find 65 = .ok (.if_icmp .ne 7, 3) := by decide +kernel
theorem dX8_find_68 : decode cX8_find 68 = .ok (.iconst 1, 1) := by decide +kernel
theorem dX8_find_69 : decode cX8_find 69 = .ok (.goto 4, 3) := by decide +kernel
theorem dX8_find_72 : decode cX8_find 72 = .ok (.iconst 0, 1) := by decide +kernel
theorem dX8_find_73 : decode cX8_find 73 = .ok (.invokevirtual 41, 3) := by decide +kernel
theorem dX8_find_76 : decode cX8_find 76 = .ok (.aload_n 0, 1) := by decide +kernel
theorem dX8_find_77 : decode cX8_find 77 = .ok (.aload_n 1, 1) := by decide +kernel
theorem dX8_find_78 : decode cX8_find 78 = .ok (.iload 5, 2) := by decide +kernel
theorem dX8_find_80 : decode cX8_find 80 = .ok (.iload 6, 2) := by decide +kernel
theorem dX8_find_82 : decode cX8_find 82 = .ok (.invokevirtual 45, 3) := by decide +kernel
theorem dX8_find_85 : decode cX8_find 85 = .ok (.aload_n 0, 1) := by decide +kernel
theorem dX8_find_86 : decode cX8_find 86 = .ok (.aload_n 1, 1) := by decide +kernel
theorem dX8_find_87 : decode cX8_find 87 = .ok (.iload_n 3, 1) := by decide +kernel
theorem dX8_find_88 : decode cX8_find 88 = .ok (.iload 5, 2) := by decide +kernel
theorem dX8_find_90 : decode cX8_find 90 = .ok (.iload 6, 2) := by decide +kernel
theorem dX8_find_92 : decode cX8_find 92 = .ok (.invokevirtual 49, 3) := by decide +kernel
theorem dX8_find_95 : decode cX8_find 95 = .ok (.istore 7, 2) := by decide +kernel
theorem dX8_find_97 : decode cX8_find 97 = .ok (.iload 7, 2) := by decide +kernel
theorem dX8_find_99 : decode cX8_find 99 = .ok (.bipush 7, 2) := by decide +kernel
theorem dX8_find_101 : decode cX8_find 101 = .ok (.if_icmp .ge 25, 3) := by decide +kernel
theorem dX8_find_104 : decode cX8_find 104 = .ok (.aload_n 0, 1) := by decide +kernel
theorem dX8_find_105 : decode cX8_find 105 = .ok (.iload 4, 2) := by decide +kernel
theorem dX8_find_107 : decode cX8_find 107 = .ok (.putfield 28, 3) := by decide +kernel
theorem dX8_find_110 : decode cX8_find 110 = .ok (.aload_n 0, 1) := by decide +kernel
theorem dX8_find_111 : decode cX8_find 111 = .ok (.iload 4, 2) := by decide +kernel
theorem dX8_find_113 : decode cX8_find 113 = .ok (.ifCond .ne 7, 3) := by decide +kernel
theorem dX8_find_116 : decode cX8_find 116 = .ok (.iconst (-1), 1) := by decide +kernel
theorem dX8_find_117 : decode cX8_find 117 = .ok (.goto 5, 3) := by decide +kernel
theorem dX8_find_120 : decode cX8_find 120 = .ok (.iload 7, 2) := by decide +kernel
theorem dX8_find_122 : decode cX8_find 122 = .ok (.putfield 31, 3) := by decide +kernel
theorem dX8_find_125 : decode cX8_find 125 = .ok (.return_, 1) := by decide +kernel
theorem dX8_find_126 : decode cX8_find 126 = .ok (.iinc 4 1, 3) := by decide +kernel
theorem dX8_find_129 : decode cX8_find 129 = .ok (.goto (-108), 3) := by decide +kernel
theorem dX8_find_132 : decode cX8_find 132 = .ok (.return_, 1) := by decide +kernel
theorem dX8_begin_0 : decode cX8_begin 0 = .ok (.iconst 0, 1) := by decide +kernel
theorem dX8_begin_1 : decode cX8_begin 1 = .ok (.istore_n 2, 1) := by decide +kernel
theorem dX8_begin_2 : decode cX8_begin 2 = .ok (.iload_n 2, 1) := by decide +kernel
theorem dX8_begin_3 : decode cX8_begin 3 = .ok (.aload_n 0, 1) := by decide +kernel
theorem dX8_begin_4 : decode cX8_begin 4 = .ok (.getfield 9, 3) := by decide +kernel
theorem dX8_begin_7 : decode cX8_begin 7 = .ok (.arraylength, 1) := by decide +kernel
theorem dX8_begin_8 : decode cX8_begin 8 = .ok (.if_icmp .ge 26, 3) := by decide +kernel
theorem dX8_begin_11 : decode cX8_begin 11 = .ok (.aload_n 0, 1) := by decide +kernel
theorem dX8_begin_12 : decode cX8_begin 12 = .ok (.getfield 9, 3) := by decide +kernel
theorem dX8_begin_15 : decode cX8_begin 15 = .ok (.iload_n 2, 1) := by decide +kernel
theorem dX8_begin_16 : decode cX8_begin 16 = .ok (.iload_n 2, 1) := by decide +kernel
theorem dX8_begin_17 : decode cX8_begin 17 = .ok (.iload_n 1, 1) := by decide +kernel
theorem dX8_begin_18 : decode cX8_begin 18 = .ok (.if_icmp .ne 7, 3) := by decide +kernel
theorem dX8_begin_21 : decode cX8_begin 21 = .ok (.iconst 0, 1) := by decide +kernel
theorem dX8_begin_22 : decode cX8_begin 22 = .ok (.goto 5, 3) := by decide +kernel
theorem dX8_begin_25 : decode cX8_begin 25 = .ok (.bipush 7, 2) := by decide +kernel
theorem dX8_begin_27 : decode cX8_begin 27 = .ok (.iastore, 1) := by decide +kernel
theorem dX8_begin_28 : decode cX8_begin 28 = .ok (.iinc 2 1, 3) := by decide +kernel
theorem dX8_begin_31 : decode cX8_begin 31 = .ok (.goto (-29), 3) := by decide +kernel
theorem dX8_begin_34 : decode cX8_begin 34 = .ok (.return_, 1) := by decide +kernel
theorem dX8_step_0 : decode cX8_step 0 = .ok (.iconst 0, 1) := by decide +kernel
theorem dX8_step_1 : decode cX8_step 1 = .ok (.istore_n 2, 1) := by decide +kernel
theorem dX8_step_2 : decode cX8_step 2 = .ok (.iload_n 2, 1) := by decide +kernel
theorem dX8_step_3 : decode cX8_step 3 = .ok (.aload_n 0, 1) := by decide +kernel
theorem dX8_step_4 : decode cX8_step 4 = .ok (.getfield 15, 3) := by decide +kernel
theorem dX8_step_7 : decode cX8_step 7 = .ok (.arraylength, 1) := by decide +kernel
theorem dX8_step_8 : decode cX8_step 8 = .ok (.if_icmp .ge 17, 3) := by decide +kernel
theorem dX8_step_11 : decode cX8_step 11 = .ok (.aload_n 0, 1) := by decide +kernel
theorem dX8_step_12 : decode cX8_step 12 = .ok (.getfield 15, 3) := by decide +kernel
theorem dX8_step_15 : decode cX8_step 15 = .ok (.iload_n 2, 1) := by decide +kernel
theorem dX8_step_16 : decode cX8_step 16 = .ok (.bipush 7, 2) := by decide +kernel
theorem dX8_step_18 : decode cX8_step 18 = .ok (.iastore, 1) := by decide +kernel
theorem dX8_step_19 : decode cX8_step 19 = .ok (.iinc 2 1, 3) := by decide +kernel
theorem dX8_step_22 : decode cX8_step 22 = .ok (.goto (-20), 3) := by decide +kernel
theorem dX8_step_25 : decode cX8_step 25 = .ok (.iconst 0, 1) := by decide +kernel
theorem dX8_step_26 : decode cX8_step 26 = .ok (.istore_n 2, 1) := by decide +kernel
theorem dX8_step_27 : decode cX8_step 27 = .ok (.iload_n 2, 1) := by decide +kernel
theorem dX8_step_28 : decode cX8_step 28 = .ok (.aload_n 0, 1) := by decide +kernel
theorem dX8_step_29 : decode cX8_step 29 = .ok (.getfield 9, 3) := by decide +kernel
theorem dX8_step_32 : decode cX8_step 32 = .ok (.arraylength, 1) := by decide +kernel
theorem dX8_step_33 : decode cX8_step 33 = .ok (.if_icmp .ge 32, 3) := by decide +kernel
theorem dX8_step_36 : decode cX8_step 36 = .ok (.aload_n 0, 1) := by decide +kernel
theorem dX8_step_37 : decode cX8_step 37 = .ok (.getfield 9, 3) := by decide +kernel
theorem dX8_step_40 : decode cX8_step 40 = .ok (.iload_n 2, 1) := by decide +kernel
theorem dX8_step_41 : decode cX8_step 41 = .ok (.iaload, 1) := by decide +kernel
theorem dX8_step_42 : decode cX8_step 42 = .ok (.bipush 7, 2) := by decide +kernel
theorem dX8_step_44 : decode cX8_step 44 = .ok (.if_icmp .ge 15, 3) := by decide +kernel
theorem dX8_step_47 : decode cX8_step 47 = .ok (.aload_n 0, 1) := by decide +kernel
theorem dX8_step_48 : decode cX8_step 48 = .ok (.iload_n 2, 1) := by decide +kernel
theorem dX8_step_49 : decode cX8_step 49 = .ok (.iload_n 1, 1) := by decide +kernel
theorem dX8_step_50 : decode cX8_step 50 = .ok (.aload_n 0, 1) := by decide +kernel
theorem dX8_step_51 : decode cX8_step 51 = .ok (.getfield 9, 3) := by decide +kernel
theorem dX8_step_54 : decode cX8_step 54 = .ok (.iload_n 2, 1) := by decide +kernel
theorem dX8_step_55 : decode cX8_step 55 = .ok (.iaload, 1) := by decide +kernel
theorem dX8_step_56 : decode cX8_step 56 = .ok (.invokevirtual 53, 3) := by decide +kernel
theorem dX8_step_59 : decode cX8_step 59 = .ok (.iinc 2 1, 3) := by decide +kernel
theorem dX8_step_62 : decode cX8_step 62 = .ok (.goto (-35), 3) := by decide +kernel
theorem dX8_step_65 : decode cX8_step 65 = .ok (.iconst 0, 1) := by decide +kernel
theorem dX8_step_66 : decode cX8_step 66 = .ok (.istore_n 2, 1) := by decide +kernel
theorem dX8_step_67 : decode cX8_step 67 = .ok (.iload_n 2, 1) := by decide +kernel
theorem dX8_step_68 : decode cX8_step 68 = .ok (.aload_n 0, 1) := by decide +kernel
theorem dX8_step_69 : decode cX8_step 69 = .ok (.getfield 9, 3) := by decide +kernel
theorem dX8_step_72 : decode cX8_step 72 = .ok (.arraylength, 1) := by decide +kernel
theorem dX8_step_73 : decode cX8_step 73 = .ok (.if_icmp .ge 30, 3) := by decide +kernel
theorem dX8_step_76 : decode cX8_step 76 = .ok (.iload_n 2, 1) := by decide +kernel
theorem dX8_step_77 : decode cX8_step 77 = .ok (.aload_n 0, 1) := by decide +kernel
theorem dX8_step_78 : decode cX8_step 78 = .ok (.getfield 15, 3) := by decide +kernel
theorem dX8_step_81 : decode cX8_step 81 = .ok (.arraylength, 1) := by decide +kernel
theorem dX8_step_82 : decode cX8_step 82 = .ok (.if_icmp .ge 21, 3) := by decide +kernel
theorem dX8_step_85 : decode cX8_step 85 = .ok (.aload_n 0, 1) := by decide +kernel
theorem dX8_step_86 : decode cX8_step 86 = .ok (.getfield 9, 3) := by decide +kernel
theorem dX8_step_89 : decode cX8_step 89 = .ok (.iload_n 2, 1) := by decide +kernel
theorem dX8_step_90 : decode cX8_step 90 = .ok (.aload_n 0, 1) := by decide +kernel
theorem dX8_step_91 : decode cX8_step 91 = .ok (.getfield 15, 3) := by decide +kernel
theorem dX8_step_94 : decode cX8_step 94 = .ok (.iload_n 2, 1) := by decide +kernel
theorem dX8_step_95 : decode cX8_step 95 = .ok (.iaload, 1) := by decide +kernel
theorem dX8_step_96 : decode cX8_step 96 = .ok (.iastore, 1) := by decide +kernel
theorem dX8_step_97 : decode cX8_step 97 = .ok (.iinc 2 1, 3) := by decide +kernel
theorem dX8_step_100 : decode cX8_step 100 = .ok (.goto (-33), 3) := by decide +kernel
theorem dX8_step_103 : decode cX8_step 103 = .ok (.return_, 1) := by decide +kernel
theorem dX8_stepFrom_0 : decode cX8_stepFrom 0 = .ok (.iconst 0, 1) := by decide +kernel
theorem dX8_stepFrom_1 : decode cX8_stepFrom 1 = .ok (.istore 4, 2) := by decide +kernel
theorem dX8_stepFrom_3 : decode cX8_stepFrom 3 = .ok (.iload 4, 2) := by decide +kernel
theorem dX8_stepFrom_5 : decode cX8_stepFrom 5 = .ok (.bipush 7, 2) := by decide +kernel
theorem dX8_stepFrom_7 : decode cX8_stepFrom 7 = .ok (.if_icmp .ge 63, 3) := by decide +kernel
theorem dX8_stepFrom_10 : decode cX8_stepFrom 10 = .ok (.iload_n 1, 1) := by decide +kernel
theorem dX8_stepFrom_11 : decode cX8_stepFrom 11 = .ok (.iload 4, 2) := by decide +kernel
theorem dX8_stepFrom_13 : decode cX8_stepFrom 13 = .ok (.invokestatic 57, 3) := by decide +kernel
theorem dX8_stepFrom_16 : decode cX8_stepFrom 16 = .ok (.isub, 1) := by decide +kernel
theorem dX8_stepFrom_17 : decode cX8_stepFrom 17 = .ok (.istore 5, 2) := by decide +kernel
theorem dX8_stepFrom_19 : decode cX8_stepFrom 19 = .ok (.iload 5, 2) := by decide +kernel
theorem dX8_stepFrom_21 : decode cX8_stepFrom 21 = .ok (.invokestatic 61, 3) := by decide +kernel
theorem dX8_stepFrom_24 : decode cX8_stepFrom 24 = .ok (.ifCond .eq 40, 3) := by decide +kernel
theorem dX8_stepFrom_27 : decode cX8_stepFrom 27 = .ok (.iload 5, 2) := by decide +kernel
theorem dX8_stepFrom_29 : decode cX8_stepFrom 29 = .ok (.aload_n 0, 1) := by decide +kernel
theorem dX8_stepFrom_30 : decode cX8_stepFrom 30 = .ok (.getfield 15, 3) := by decide +kernel
theorem dX8_stepFrom_33 : decode cX8_stepFrom 33 = .ok (.arraylength, 1) := by decide +kernel
theorem dX8_stepFrom_34 : decode cX8_stepFrom 34 = .ok (.if_icmp .ge 30, 3) := by decide +kernel
theorem dX8_stepFrom_37 : decode cX8_stepFrom 37 = .ok (.aload_n 0, 1) := by decide +kernel
theorem dX8_stepFrom_38 : decode cX8_stepFrom 38 = .ok (.getfield 15, 3) := by decide +kernel
theorem dX8_stepFrom_41 : decode cX8_stepFrom 41 = .ok (.iload 5, 2) := by decide +kernel
theorem dX8_stepFrom_43 : decode cX8_stepFrom 43 = .ok (.aload_n 0, 1) := by decide +kernel
theorem dX8_stepFrom_44 : decode cX8_stepFrom 44 = .ok (.getfield 15, 3) := by decide +kernel
theorem dX8_stepFrom_47 : decode cX8_stepFrom 47 = .ok (.iload 5, 2) := by decide +kernel
theorem dX8_stepFrom_49 : decode cX8_stepFrom 49 = .ok (.iaload, 1) := by decide +kernel
theorem dX8_stepFrom_50 : decode cX8_stepFrom 50 = .ok (.iload_n 2, 1) := by decide +kernel
theorem dX8_stepFrom_51 : decode cX8_stepFrom 51 = .ok (.ifCond .eq 8, 3) := by decide +kernel
theorem dX8_stepFrom_54 : decode cX8_stepFrom 54 = .ok (.iload 4, 2) := by decide +kernel
theorem dX8_stepFrom_56 : decode cX8_stepFrom 56 = .ok (.goto 4, 3) := by decide +kernel
theorem dX8_stepFrom_59 : decode cX8_stepFrom 59 = .ok (.iload_n 3, 1) := by decide +kernel
theorem dX8_stepFrom_60 : decode cX8_stepFrom 60 = .ok (.invokestatic 65, 3) := by decide +kernel
theorem dX8_stepFrom_63 : decode cX8_stepFrom 63 = .ok (.iastore, 1) := by decide +kernel
theorem dX8_stepFrom_64 : decode cX8_stepFrom 64 = .ok (.iinc 4 1, 3) := by decide +kernel
theorem dX8_stepFrom_67 : decode cX8_stepFrom 67 = .ok (.goto (-64), 3) := by decide +kernel
theorem dX8_stepFrom_70 : decode cX8_stepFrom 70 = .ok (.return_, 1) := by decide +kernel
theorem dX8_dropBroken_0 : decode cX8_dropBroken 0 = .ok (.iconst 0, 1) := by decide +kernel
theorem dX8_dropBroken_1 : decode cX8_dropBroken 1 = .ok (.istore 4, 2) := by decide +kernel
theorem dX8_dropBroken_3 : decode cX8_dropBroken 3 = .ok (.iload 4, 2) := by decide +kernel
theorem dX8_dropBroken_5 : decode cX8_dropBroken 5 = .ok (.aload_n 0, 1) := by decide +kernel
theorem dX8_dropBroken_6 : decode cX8_dropBroken 6 = .ok (.getfield 9, 3) := by decide +kernel
theorem dX8_dropBroken_9 : decode cX8_dropBroken 9 = .ok (.arraylength, 1) := by decide +kernel
theorem dX8_dropBroken_10 : decode cX8_dropBroken 10 = .ok (.if_icmp .ge 45, 3) := by decide +kernel
theorem dX8_dropBroken_13 : decode cX8_dropBroken 13 = .ok (.aload_n 0, 1) := by decide +kernel
theorem dX8_dropBroken_14 : decode cX8_dropBroken 14 = .ok (.getfield 9, 3) := by decide +kernel
theorem dX8_dropBroken_17 : decode cX8_dropBroken 17 = .ok (.iload 4, 2) := by decide +kernel
theorem dX8_dropBroken_19 : decode cX8_dropBroken 19 = .ok (.iaload, 1) := by decide +kernel
theorem dX8_dropBroken_20 : decode cX8_dropBroken 20 = .ok (.bipush 7, 2) := by decide +kernel
theorem dX8_dropBroken_22 : decode cX8_dropBroken 22 = .ok (.if_icmp .ge 27, 3) := by decide +kernel
theorem dX8_dropBroken_25 : decode cX8_dropBroken 25 = .ok (.aload_n 1, 1) := by decide +kernel
theorem dX8_dropBroken_26 : decode cX8_dropBroken 26 = .ok (.iload 4, 2) := by decide +kernel
theorem dX8_dropBroken_28 : decode cX8_dropBroken 28 = .ok (.iload_n 2, 1) := by decide +kernel
theorem dX8_dropBroken_29 : decode cX8_dropBroken 29 = .ok (.iload_n 3, 1) := by decide +kernel
theorem dX8_dropBroken_30 : decode cX8_dropBroken 30 = .ok (.invokevirtual 70, 3) := by decide +kernel
theorem dX8_dropBroken_33 : decode cX8_dropBroken 33 = .ok (.aload_n 1, 1) := by decide +kernel
theorem dX8_dropBroken_34 : decode cX8_dropBroken 34 = .ok (.getfield 74, 3) := by decide +kernel
theorem dX8_dropBroken_37 : decode cX8_dropBroken 37 = .ok (.if_icmp .le 12, 3) := by decide +kernel
theorem dX8_dropBroken_40 : decode cX8_dropBroken 40 = .ok (.aload_n 0, 1) := by decide +kernel
theorem dX8_dropBroken_41 : decode cX8_dropBroken 41 = .ok (.getfield 9, 3) := by decide +kernel
theorem dX8_dropBroken_44 : decode cX8_dropBroken 44 = .ok (.iload 4, 2) := by decide +kernel
theorem dX8_dropBroken_46 : decode cX8_dropBroken 46 = .ok (.bipush 7, 2) := by decide +kernel
theorem dX8_dropBroken_48 : decode cX8_dropBroken 48 = .ok (.iastore, 1) := by decide +kernel
theorem dX8_dropBroken_49 : decode cX8_dropBroken 49 = .ok (.iinc 4 1, 3) := by decide +kernel
theorem dX8_dropBroken_52 : decode cX8_dropBroken 52 = .ok (.goto (-49), 3) := by decide +kernel
theorem dX8_dropBroken_55 : decode cX8_dropBroken 55 = .ok (.return_, 1) := by decide +kernel
theorem dX8_leastWay_0 : decode cX8_leastWay 0 = .ok (.bipush 7, 2) := by decide +kernel
theorem dX8_leastWay_2 : decode cX8_leastWay 2 = .ok (.istore 5, 2) := by decide +kernel
theorem dX8_leastWay_4 : decode cX8_leastWay 4 = .ok (.iconst 0, 1) := by decide +kernel
theorem dX8_leastWay_5 : decode cX8_leastWay 5 = .ok (.istore 6, 2) := by decide +kernel
theorem dX8_leastWay_7 : decode cX8_leastWay 7 = .ok (.iload 6, 2) := by decide +kernel
theorem dX8_leastWay_9 : decode cX8_leastWay 9 = .ok (.aload_n 0, 1) := by decide +kernel
theorem dX8_leastWay_10 : decode cX8_leastWay 10 = .ok (.getfield 9, 3) := by decide +kernel
theorem dX8_leastWay_13 : decode cX8_leastWay 13 = .ok (.arraylength, 1) := by decide +kernel
theorem dX8_leastWay_14 : decode cX8_leastWay 14 = .ok (.if_icmp .ge 58, 3) := by decide +kernel
theorem dX8_leastWay_17 : decode cX8_leastWay 17 = .ok (.aload_n 0, 1) := by decide +kernel
theorem dX8_leastWay_18 : decode cX8_leastWay 18 = .ok (.getfield 9, 3) := by decide +kernel
theorem dX8_leastWay_21 : decode cX8_leastWay 21 = .ok (.iload 6, 2) := by decide +kernel
theorem dX8_leastWay_23 : decode cX8_leastWay 23 = .ok (.iaload, 1) := by decide +kernel
theorem dX8_leastWay_24 : decode cX8_leastWay 24 = .ok (.iload 5, 2) := by decide +kernel
theorem dX8_leastWay_26 : decode cX8_leastWay 26 = .ok (.if_icmp .ge 40, 3) := by decide +kernel
theorem dX8_leastWay_29 : decode cX8_leastWay 29 = .ok (.aload_n 1, 1) := by decide +kernel
theorem dX8_leastWay_30 : decode cX8_leastWay 30 = .ok (.iconst 0, 1) := by decide +kernel
theorem dX8_leastWay_31 : decode cX8_leastWay 31 = .ok (.iload 6, 2) := by decide +kernel
theorem dX8_leastWay_33 : decode cX8_leastWay 33 = .ok (.iload_n 3, 1) := by decide +kernel
theorem dX8_leastWay_34 : decode cX8_leastWay 34 = .ok (.iload 4, 2) := by decide +kernel
theorem dX8_leastWay_36 : decode cX8_leastWay 36 = .ok (.invokevirtual 77, 3) := by decide +kernel
theorem dX8_leastWay_39 : decode cX8_leastWay 39 = .ok (.istore 7, 2) := by decide +kernel
theorem dX8_leastWay_41 : decode cX8_leastWay 41 = .ok (.iload 7, 2) := by decide +kernel
theorem dX8_leastWay_43 : decode cX8_leastWay 43 = .ok (.iload_n 2, 1) := by decide +kernel
theorem dX8_leastWay_44 : decode cX8_leastWay 44 = .ok (.if_icmp .lt 22, 3) := by decide +kernel
theorem dX8_leastWay_47 : decode cX8_leastWay 47 = .ok (.iload 7, 2) := by decide +kernel
theorem dX8_leastWay_49 : decode cX8_leastWay 49 = .ok (.iload_n 2, 1) := by decide +kernel
theorem dX8_leastWay_50 : decode cX8_leastWay 50 = .ok (.iload_n 2, 1) := by decide +kernel
theorem dX8_leastWay_51 : decode cX8_leastWay 51 = .ok (.iconst 2, 1) := by decide +kernel
theorem dX8_leastWay_52 : decode cX8_leastWay 52 = .ok (.idiv, 1) := by decide +kernel
theorem dX8_leastWay_53 : decode cX8_leastWay 53 = .ok (.iadd, 1) := by decide +kernel
theorem dX8_leastWay_54 : decode cX8_leastWay 54 = .ok (.if_icmp .gt 12, 3) := by decide +kernel
theorem dX8_leastWay_57 : decode cX8_leastWay 57 = .ok (.aload_n 0, 1) := by decide +kernel
theorem dX8_leastWay_58 : decode cX8_leastWay 58 = .ok (.getfield 9, 3) := by decide +kernel
theorem dX8_leastWay_61 : decode cX8_leastWay 61 = .ok (.iload 6, 2) := by decide +kernel
theorem dX8_leastWay_63 : decode cX8_leastWay 63 = .ok (.iaload, 1) := by decide +kernel
theorem dX8_leastWay_64 : decode cX8_leastWay 64 = .ok (.istore 5, 2) := by decide +kernel
theorem dX8_leastWay_66 : decode cX8_leastWay 66 = .ok (.iinc 6 1, 3) := by decide +kernel
theorem dX8_leastWay_69 : decode cX8_leastWay 69 = .ok (.goto (-62), 3) := by decide +kernel
theorem dX8_leastWay_72 : decode cX8_leastWay 72 = .ok (.iload 5, 2) := by decide +kernel
theorem dX8_leastWay_74 : decode cX8_leastWay 74 = .ok (.ireturn, 1) := by decide +kernel
theorem dX9_init_0 : decode cX9_init 0 = .ok (.aload_n 0, 1) := by decide +kernel
theorem dX9_init_1 : decode cX9_init 1 = .ok (.invokespecial 3, 3) := by decide +kernel
theorem dX9_init_4 : decode cX9_init 4 = .ok (.aload_n 0, 1) := by decide +kernel
theorem dX9_init_5 : decode cX9_init 5 = .ok (.iload_n 1, 1) := by decide +kernel
theorem dX9_init_6 : decode cX9_init 6 = .ok (.putfield 9, 3) := by decide +kernel
theorem dX9_init_9 : decode cX9_init 9 = .ok (.aload_n 0, 1) := by decide +kernel
theorem dX9_init_10 : decode cX9_init 10 = .ok (.iload_n 2, 1) := by decide +kernel
theorem dX9_init_11 : decode cX9_init 11 = .ok (.putfield 15, 3) := by decide +kernel
theorem dX9_init_14 : decode cX9_init 14 = .ok (.aload_n 0, 1) := by decide +kernel
theorem dX9_init_15 : decode cX9_init 15 = .ok (.iload_n 3, 1) := by decide +kernel
theorem dX9_init_16 : decode cX9_init 16 = .ok (.putfield 18, 3) := by decide +kernel
theorem dX9_init_19 : decode cX9_init 19 = .ok (.return_, 1) := by decide +kernel
theorem dX9_kind_0 : decode cX9_kind 0 = .ok (.iconst 0, 1) := by decide +kernel
theorem dX9_kind_1 : decode cX9_kind 1 = .ok (.ireturn, 1) := by decide +kernel
theorem dX9_weighs_0 : decode cX9_weighs 0 = .ok (.aload_n 0, 1) := by decide +kernel
theorem dX9_weighs_1 : decode cX9_weighs 1 = .ok (.getfield 9, 3) := by decide +kernel
theorem dX9_weighs_4 : decode cX9_weighs 4 = .ok (.ireturn, 1) := by decide +kernel
theorem dX9_goesAcross_0 : decode cX9_goesAcross 0 = .ok (.iconst 1, 1) := by decide +kernel
theorem dX9_goesAcross_1 : decode cX9_goesAcross 1 = .ok (.ireturn, 1) := by decide +kernel
theorem dX9_hoursHere_0 : decode cX9_hoursHere 0 = .ok (.iload_n 1, 1) := by decide +kernel
theorem dX9_hoursHere_1 : decode cX9_hoursHere 1 = .ok (.aload_n 0, 1) := by decide +kernel
theorem dX9_hoursHere_2 : decode cX9_hoursHere 2 = .ok (.getfield 18, 3) := by decide +kernel
theorem dX9_hoursHere_5 : decode cX9_hoursHere 5 = .ok (.isub, 1) := by decide +kernel
theorem dX9_hoursHere_6 : decode cX9_hoursHere 6 = .ok (.ireturn, 1) := by decide +kernel
theorem dX10_init_0 : decode cX10_init 0 = .ok (.aload_n 0, 1) := by decide +kernel
theorem dX10_init_1 : decode cX10_init 1 = .ok (.invokespecial 3, 3) := by decide +kernel
theorem dX10_init_4 : decode cX10_init 4 = .ok (.aload_n 0, 1) := by decide +kernel
theorem dX10_init_5 : decode cX10_init 5 = .ok (.bipush 6, 2) := by decide +kernel
theorem dX10_init_7 : decode cX10_init 7 = .ok (.newarray .int, 2) := by decide +kernel
theorem dX10_init_9 : decode cX10_init 9 = .ok (.putfield 9, 3) := by decide +kernel
theorem dX10_init_12 : decode cX10_init 12 = .ok (.aload_n 0, 1) := by decide +kernel
theorem dX10_init_13 : decode cX10_init 13 = .ok (.bipush 6, 2) := by decide +kernel
theorem dX10_init_15 : decode cX10_init 15 = .ok (.newarray .int, 2) := by decide +kernel
theorem dX10_init_17 : decode cX10_init 17 = .ok (.putfield 15, 3) := by decide +kernel
theorem dX10_init_20 : decode cX10_init 20 = .ok (.return_, 1) := by decide +kernel
theorem dX10_isFull_0 : decode cX10_isFull 0 = .ok (.aload_n 0, 1) := by decide +kernel
theorem dX10_isFull_1 : decode cX10_isFull 1 = .ok (.getfield 18, 3) := by decide +kernel
theorem dX10_isFull_4 : decode cX10_isFull 4 = .ok (.bipush 6, 2) := by decide +kernel
theorem dX10_isFull_6 : decode cX10_isFull 6 = .ok (.if_icmp .lt 7, 3) := by decide +kernel
theorem dX10_isFull_9 : decode cX10_isFull 9 = .ok (.iconst 1, 1) := by decide +kernel
theorem dX10_isFull_10 : decode cX10_isFull 10 = .ok (.goto 4, 3) := by decide +kernel
theorem dX10_isFull_13 : decode cX10_isFull 13 = .ok (.iconst 0, 1) := by decide +kernel
theorem dX10_isFull_14 : decode cX10_isFull 14 = .ok (.ireturn, 1) := by decide +kernel
theorem dX10_put_0 : decode cX10_put 0 = .ok (.aload_n 0, 1) := by decide +kernel
theorem dX10_put_1 : decode cX10_put 1 = .ok (.getfield 18, 3) := by decide +kernel
theorem dX10_put_4 : decode cX10_put 4 = .ok (.ifCond .lt 57, 3) := by decide +kernel
theorem dX10_put_7 : decode cX10_put 7 = .ok (.aload_n 0, 1) := by decide +kernel
theorem dX10_put_8 : decode cX10_put 8 = .ok (.getfield 18, 3) := by decide +kernel
theorem dX10_put_11 : decode cX10_put 11 = .ok (.aload_n 0, 1) := by decide +kernel
theorem dX10_put_12 : decode cX10_put 12 = .ok (.getfield 9, 3) := by decide +kernel
theorem dX10_put_15 : decode cX10_put 15 = .ok (.arraylength, 1) := by decide +kernel
theorem dX10_put_16 : decode cX10_put 16 = .ok (.if_icmp .ge 45, 3) := by decide +kernel
theorem dX10_put_19 : decode cX10_put 19 = .ok (.aload_n 0, 1) := by decide +kernel
theorem dX10_put_20 : decode cX10_put 20 = .ok (.getfield 18, 3) := by decide +kernel
theorem dX10_put_23 : decode cX10_put 23 = .ok (.aload_n 0, 1) := by decide +kernel
theorem dX10_put_24 : decode cX10_put 24 = .ok (.getfield 15, 3) := by decide +kernel
theorem dX10_put_27 : decode cX10_put 27 = .ok (.arraylength, 1) := by decide +kernel
theorem dX10_put_28 : decode cX10_put 28 = .ok (.if_icmp .ge 33, 3) := by decide +kernel
theorem dX10_put_31 : decode cX10_put 31 = .ok (.aload_n 0, 1) := by decide +kernel
theorem dX10_put_32 : decode cX10_put 32 = .ok (.getfield 9, 3) := by decide +kernel
theorem dX10_put_35 : decode cX10_put 35 = .ok (.aload_n 0, 1) := by decide +kernel
theorem dX10_put_36 : decode cX10_put 36 = .ok (.getfield 18, 3) := by decide +kernel
theorem dX10_put_39 : decode cX10_put 39 = .ok (.iload_n 1, 1) := by decide +kernel
theorem dX10_put_40 : decode cX10_put 40 = .ok (.iastore, 1) := by decide +kernel
theorem dX10_put_41 : decode cX10_put 41 = .ok (.aload_n 0, 1) := by decide +kernel
theorem dX10_put_42 : decode cX10_put 42 = .ok (.getfield 15, 3) := by decide +kernel
theorem dX10_put_45 : decode cX10_put 45 = .ok (.aload_n 0, 1) := by decide +kernel
theorem dX10_put_46 : decode cX10_put 46 = .ok (.getfield 18, 3) := by decide +kernel
theorem dX10_put_49 : decode cX10_put 49 = .ok (.iload_n 2, 1) := by decide +kernel
theorem dX10_put_50 : decode cX10_put 50 = .ok (.iastore, 1) := by decide +kernel
theorem dX10_put_51 : decode cX10_put 51 = .ok (.aload_n 0, 1) := by decide +kernel
theorem dX10_put_52 : decode cX10_put 52 = .ok (.dup, 1) := by decide +kernel
theorem dX10_put_53 : decode cX10_put 53 = .ok (.getfield 18, 3) := by decide +kernel
theorem dX10_put_56 : decode cX10_put 56 = .ok (.iconst 1, 1) := by decide +kernel
theorem dX10_put_57 : decode cX10_put 57 = .ok (.iadd, 1) := by decide +kernel
theorem dX10_put_58 : decode cX10_put 58 = .ok (.putfield 18, 3) := by decide +kernel
theorem dX10_put_61 : decode cX10_put 61 = .ok (.aload_n 0, 1) := by decide +kernel
theorem dX10_put_62 : decode cX10_put 62 = .ok (.getfield 18, 3) := by decide +kernel
theorem dX10_put_65 : decode cX10_put 65 = .ok (.ireturn, 1) := by decide +kernel
theorem dX10_emptied_0 : decode cX10_emptied 0 = .ok (.aload_n 0, 1) := by decide +kernel
theorem dX10_emptied_1 : decode cX10_emptied 1 = .ok (.getfield 18, 3) := by decide +kernel
theorem dX10_emptied_4 : decode cX10_emptied 4 = .ok (.istore_n 1, 1) := by decide +kernel
theorem dX10_emptied_5 : decode cX10_emptied 5 = .ok (.aload_n 0, 1) := by decide +kernel
theorem dX10_emptied_6 : decode cX10_emptied 6 = .ok (.iconst 0, 1) := by decide +kernel
theorem dX10_emptied_7 : decode cX10_emptied 7 = .ok (.putfield 18, 3) := by decide +kernel
theorem dX10_emptied_10 : decode cX10_emptied 10 = .ok (.iload_n 1, 1) := by decide +kernel
theorem dX10_emptied_11 : decode cX10_emptied 11 = .ok (.ireturn, 1) := by decide +kernel
theorem dX10_leastSpin_0 : decode cX10_leastSpin 0 = .ok (.iconst 1, 1) := by decide +kernel
theorem dX10_leastSpin_1 : decode cX10_leastSpin 1 = .ok (.istore_n 1, 1) := by decide +kernel
theorem dX10_leastSpin_2 : decode cX10_leastSpin 2 = .ok (.iconst 0, 1) := by decide +kernel
theorem dX10_leastSpin_3 : decode cX10_leastSpin 3 = .ok (.istore_n 2, 1) := by decide +kernel
theorem dX10_leastSpin_4 : decode cX10_leastSpin 4 = .ok (.iload_n 2, 1) := by decide +kernel
theorem dX10_leastSpin_5 : decode cX10_leastSpin 5 = .ok (.aload_n 0, 1) := by decide +kernel
theorem dX10_leastSpin_6 : decode cX10_leastSpin 6 = .ok (.getfield 18, 3) := by decide +kernel
theorem dX10_leastSpin_9 : decode cX10_leastSpin 9 = .ok (.if_icmp .ge 52, 3) := by decide +kernel
theorem dX10_leastSpin_12 : decode cX10_leastSpin 12 = .ok (.iload_n 2, 1) := by decide +kernel
theorem dX10_leastSpin_13 : decode cX10_leastSpin 13 = .ok (.aload_n 0, 1) := by decide +kernel
theorem dX10_leastSpin_14 : decode cX10_leastSpin 14 = .ok (.getfield 9, 3) := by decide +kernel
theorem dX10_leastSpin_17 : decode cX10_leastSpin 17 = .ok (.arraylength, 1) := by decide +kernel
theorem dX10_leastSpin_18 : decode cX10_leastSpin 18 = .ok (.if_icmp .ge 43, 3) := by decide +kernel
theorem dX10_leastSpin_21 : decode cX10_leastSpin 21 = .ok (.iload_n 2, 1) := by decide +kernel
theorem dX10_leastSpin_22 : decode cX10_leastSpin 22 = .ok (.aload_n 0, 1) := by decide +kernel
theorem dX10_leastSpin_23 : decode cX10_leastSpin 23 = .ok (.getfield 15, 3) := by decide +kernel
theorem dX10_leastSpin_26 : decode cX10_leastSpin 26 = .ok (.arraylength, 1) := by decide +kernel
theorem dX10_leastSpin_27 : decode cX10_leastSpin 27 = .ok (.if_icmp .ge 34, 3) := by decide +kernel
theorem dX10_leastSpin_30 : decode cX10_leastSpin 30 = .ok (.iload_n 1, 1) := by decide +kernel
theorem dX10_leastSpin_31 : decode cX10_leastSpin 31 = .ok (.aload_n 0, 1) := by decide +kernel
theorem dX10_leastSpin_32 : decode cX10_leastSpin 32 = .ok (.getfield 15, 3) := by decide +kernel
theorem dX10_leastSpin_35 : decode cX10_leastSpin 35 = .ok (.iload_n 2, 1) := by decide +kernel
theorem dX10_leastSpin_36 : decode cX10_leastSpin 36 = .ok (.iaload, 1) := by decide +kernel
theorem dX10_leastSpin_37 : decode cX10_leastSpin 37 = .ok (.aload_n 0, 1) := by decide +kernel
theorem dX10_leastSpin_38 : decode cX10_leastSpin 38 = .ok (.getfield 9, 3) := by decide +kernel
theorem dX10_leastSpin_41 : decode cX10_leastSpin 41 = .ok (.iload_n 2, 1) := by decide +kernel
theorem dX10_leastSpin_42 : decode cX10_leastSpin 42 = .ok (.iaload, 1) := by decide +kernel
theorem dX10_leastSpin_43 : decode cX10_leastSpin 43 = .ok (.imul, 1) := by decide +kernel
theorem dX10_leastSpin_44 : decode cX10_leastSpin 44 = .ok (.aload_n 0, 1) := by decide +kernel
theorem dX10_leastSpin_45 : decode cX10_leastSpin 45 = .ok (.getfield 9, 3) := by decide +kernel
theorem dX10_leastSpin_48 : decode cX10_leastSpin 48 = .ok (.iload_n 2, 1) := by decide +kernel
theorem dX10_leastSpin_49 : decode cX10_leastSpin 49 = .ok (.iaload, 1) := by decide +kernel
theorem dX10_leastSpin_50 : decode cX10_leastSpin 50 = .ok (.imul, 1) := by decide +kernel
theorem dX10_leastSpin_51 : decode cX10_leastSpin 51 = .ok (.invokestatic 22, 3) := by decide +kernel
theorem dX10_leastSpin_54 : decode cX10_leastSpin 54 = .ok (.istore_n 1, 1) := by decide +kernel
theorem dX10_leastSpin_55 : decode cX10_leastSpin 55 = .ok (.iinc 2 1, 3) := by decide +kernel
theorem dX10_leastSpin_58 : decode cX10_leastSpin 58 = .ok (.goto (-54), 3) := by decide +kernel
theorem dX10_leastSpin_61 : decode cX10_leastSpin 61 = .ok (.iload_n 1, 1) := by decide +kernel
theorem dX10_leastSpin_62 : decode cX10_leastSpin 62 = .ok (.ireturn, 1) := by decide +kernel
theorem dX10_greatestSpin_0 : decode cX10_greatestSpin 0 = .ok (.sipush 14400, 3) := by decide +kernel
theorem dX10_greatestSpin_3 : decode cX10_greatestSpin 3 = .ok (.istore_n 1, 1) := by decide +kernel
theorem dX10_greatestSpin_4 : decode cX10_greatestSpin 4 = .ok (.iconst 0, 1) := by decide +kernel
theorem dX10_greatestSpin_5 : decode cX10_greatestSpin 5 = .ok (.istore_n 2, 1) := by decide +kernel
theorem dX10_greatestSpin_6 : decode cX10_greatestSpin 6 = .ok (.iload_n 2, 1) := by decide +kernel
theorem dX10_greatestSpin_7 : decode cX10_greatestSpin 7 = .ok (.aload_n 0, 1) := by decide +kernel
theorem dX10_greatestSpin_8 : decode cX10_greatestSpin 8 = .ok (.getfield 18, 3) := by decide +kernel
theorem dX10_greatestSpin_11 : decode cX10_greatestSpin 11 = .ok (.if_icmp .ge 56, 3) := by decide +kernel
theorem dX10_greatestSpin_14 : decode cX10_greatestSpin 14 = .ok (.iload_n 2, 1) := by decide +kernel
theorem dX10_greatestSpin_15 : decode cX10_greatestSpin 15 = .ok (.aload_n 0, 1) := by decide +kernel
theorem dX10_greatestSpin_16 : decode cX10_greatestSpin 16 = .ok (.getfield 9, 3) := by decide +kernel
theorem dX10_greatestSpin_19 : decode cX10_greatestSpin 19 = .ok (.arraylength, 1) := by decide +kernel
theorem dX10_greatestSpin_20 : decode cX10_greatestSpin 20 = .ok (.if_icmp .ge 47, 3) := by decide +kernel
theorem dX10_greatestSpin_23 : decode cX10_greatestSpin 23 = .ok (.iload_n 2, 1) := by decide +kernel
theorem dX10_greatestSpin_24 : decode cX10_greatestSpin 24 = .ok (.aload_n 0, 1) := by decide +kernel
theorem dX10_greatestSpin_25 : decode cX10_greatestSpin 25 = .ok (.getfield 15, 3) := by decide +kernel
theorem dX10_greatestSpin_28 : decode cX10_greatestSpin 28 = .ok (.arraylength, 1) := by decide +kernel
theorem dX10_greatestSpin_29 : decode cX10_greatestSpin 29 = .ok (.if_icmp .ge 38, 3) := by decide +kernel
theorem dX10_greatestSpin_32 : decode cX10_greatestSpin 32 = .ok (.iload_n 1, 1) := by decide +kernel
theorem dX10_greatestSpin_33 : decode cX10_greatestSpin 33 = .ok (.aload_n 0, 1) := by decide +kernel
theorem dX10_greatestSpin_34 : decode cX10_greatestSpin 34 = .ok (.getfield 15, 3) := by decide +kernel
theorem dX10_greatestSpin_37 : decode cX10_greatestSpin 37 = .ok (.iload_n 2, 1) := by decide +kernel
theorem dX10_greatestSpin_38 : decode cX10_greatestSpin 38 = .ok (.iaload, 1) := by decide +kernel
theorem dX10_greatestSpin_39 : decode cX10_greatestSpin 39 = .ok (.iconst 1, 1) := by decide +kernel
theorem dX10_greatestSpin_40 : decode cX10_greatestSpin 40 = .ok (.iadd, 1) := by decide +kernel
theorem dX10_greatestSpin_41 : decode cX10_greatestSpin 41 = .ok (.aload_n 0, 1) := by decide +kernel
theorem dX10_greatestSpin_42 : decode cX10_greatestSpin 42 = .ok (.getfield 9, 3) := by decide +kernel
theorem dX10_greatestSpin_45 : decode cX10_greatestSpin 45 = .ok (.iload_n 2, 1) := by decide +kernel
theorem dX10_greatestSpin_46 : decode cX10_greatestSpin 46 = .ok (.iaload, 1) := by decide +kernel
theorem dX10_greatestSpin_47 : decode cX10_greatestSpin 47 = .ok (.imul, 1) := by decide +kernel
theorem dX10_greatestSpin_48 : decode cX10_greatestSpin 48 = .ok (.aload_n 0, 1) := by decide +kernel
theorem dX10_greatestSpin_49 : decode cX10_greatestSpin 49 = .ok (.getfield 9, 3) := by decide +kernel
theorem dX10_greatestSpin_52 : decode cX10_greatestSpin 52 = .ok (.iload_n 2, 1) := by decide +kernel
theorem dX10_greatestSpin_53 : decode cX10_greatestSpin 53 = .ok (.iaload, 1) := by decide +kernel
theorem dX10_greatestSpin_54 : decode cX10_greatestSpin 54 = .ok (.imul, 1) := by decide +kernel
theorem dX10_greatestSpin_55 : decode cX10_greatestSpin 55 = .ok (.iconst 1, 1) := by decide +kernel
theorem dX10_greatestSpin_56 : decode cX10_greatestSpin 56 = .ok (.isub, 1) := by decide +kernel
theorem dX10_greatestSpin_57 : decode cX10_greatestSpin 57 = .ok (.invokestatic 28, 3) := by decide +kernel
theorem dX10_greatestSpin_60 : decode cX10_greatestSpin 60 = .ok (.istore_n 1, 1) := by decide +kernel
theorem dX10_greatestSpin_61 : decode cX10_greatestSpin 61 = .ok (.iinc 2 1, 3) := by decide +kernel
theorem dX10_greatestSpin_64 : decode cX10_greatestSpin 64 = .ok (.goto (-58), 3) := by decide +kernel
theorem dX10_greatestSpin_67 : decode cX10_greatestSpin 67 = .ok (.iload_n 1, 1) := by decide +kernel
theorem dX10_greatestSpin_68 : decode cX10_greatestSpin 68 = .ok (.ireturn, 1) := by decide +kernel
theorem dJ9_floorMod_7cf53_0 : decode cJ9_floorMod_7cf53 0 = .ok (.iload_n 0, 1) := by decide +kernel
theorem dJ9_floorMod_7cf53_1 : decode cJ9_floorMod_7cf53 1 = .ok (.iload_n 1, 1) := by decide +kernel
theorem dJ9_floorMod_7cf53_2 : decode cJ9_floorMod_7cf53 2 = .ok (.irem, 1) := by decide +kernel
theorem dJ9_floorMod_7cf53_3 : decode cJ9_floorMod_7cf53 3 = .ok (.istore_n 2, 1) := by decide +kernel
theorem dJ9_floorMod_7cf53_4 : decode cJ9_floorMod_7cf53 4 = .ok (.iload_n 0, 1) := by decide +kernel
theorem dJ9_floorMod_7cf53_5 : decode cJ9_floorMod_7cf53 5 = .ok (.iload_n 1, 1) := by decide +kernel
theorem dJ9_floorMod_7cf53_6 : decode cJ9_floorMod_7cf53 6 = .ok (.ixor, 1) := by decide +kernel
theorem dJ9_floorMod_7cf53_7 : decode cJ9_floorMod_7cf53 7 = .ok (.ifCond .ge 11, 3) := by decide +kernel
theorem dJ9_floorMod_7cf53_10 : decode cJ9_floorMod_7cf53 10 = .ok (.iload_n 2, 1) := by decide +kernel
theorem dJ9_floorMod_7cf53_11 : decode cJ9_floorMod_7cf53 11 = .ok (.ifCond .eq 7, 3) := by decide +kernel
theorem dJ9_floorMod_7cf53_14 : decode cJ9_floorMod_7cf53 14 = .ok (.iload_n 2, 1) := by decide +kernel
theorem dJ9_floorMod_7cf53_15 : decode cJ9_floorMod_7cf53 15 = .ok (.iload_n 1, 1) := by decide +kernel
theorem dJ9_floorMod_7cf53_16 : decode cJ9_floorMod_7cf53 16 = .ok (.iadd, 1) := by decide +kernel
theorem dJ9_floorMod_7cf53_17 : decode cJ9_floorMod_7cf53 17 = .ok (.ireturn, 1) := by decide +kernel
theorem dJ9_floorMod_7cf53_18 : decode cJ9_floorMod_7cf53 18 = .ok (.iload_n 2, 1) := by decide +kernel
theorem dJ9_floorMod_7cf53_19 : decode cJ9_floorMod_7cf53 19 = .ok (.ireturn, 1) := by decide +kernel
theorem dJ9_abs_0f7a4_0 : decode cJ9_abs_0f7a4 0 = .ok (.iload_n 0, 1) := by decide +kernel
theorem dJ9_abs_0f7a4_1 : decode cJ9_abs_0f7a4 1 = .ok (.ifCond .ge 8, 3) := by decide +kernel
theorem dJ9_abs_0f7a4_4 : decode cJ9_abs_0f7a4 4 = .ok (.iload_n 0, 1) := by decide +kernel
theorem dJ9_abs_0f7a4_5 : decode cJ9_abs_0f7a4 5 = .ok (.ineg, 1) := by decide +kernel
theorem dJ9_abs_0f7a4_6 : decode cJ9_abs_0f7a4 6 = .ok (.goto 4, 3) := by decide +kernel
theorem dJ9_abs_0f7a4_9 : decode cJ9_abs_0f7a4 9 = .ok (.iload_n 0, 1) := by decide +kernel
theorem dJ9_abs_0f7a4_10 : decode cJ9_abs_0f7a4 10 = .ok (.ireturn, 1) := by decide +kernel
theorem dJ9_max_7cf53_0 : decode cJ9_max_7cf53 0 = .ok (.iload_n 0, 1) := by decide +kernel
theorem dJ9_max_7cf53_1 : decode cJ9_max_7cf53 1 = .ok (.iload_n 1, 1) := by decide +kernel
theorem dJ9_max_7cf53_2 : decode cJ9_max_7cf53 2 = .ok (.if_icmp .lt 7, 3) := by decide +kernel
theorem dJ9_max_7cf53_5 : decode cJ9_max_7cf53 5 = .ok (.iload_n 0, 1) := by decide +kernel
theorem dJ9_max_7cf53_6 : decode cJ9_max_7cf53 6 = .ok (.goto 4, 3) := by decide +kernel
theorem dJ9_max_7cf53_9 : decode cJ9_max_7cf53 9 = .ok (.iload_n 1, 1) := by decide +kernel
theorem dJ9_max_7cf53_10 : decode cJ9_max_7cf53 10 = .ok (.ireturn, 1) := by decide +kernel
theorem dJ9_min_7cf53_0 : decode cJ9_min_7cf53 0 = .ok (.iload_n 0, 1) := by decide +kernel
theorem dJ9_min_7cf53_1 : decode cJ9_min_7cf53 1 = .ok (.iload_n 1, 1) := by decide +kernel
theorem dJ9_min_7cf53_2 : decode cJ9_min_7cf53 2 = .ok (.if_icmp .gt 7, 3) := by decide +kernel
theorem dJ9_min_7cf53_5 : decode cJ9_min_7cf53 5 = .ok (.iload_n 0, 1) := by decide +kernel
theorem dJ9_min_7cf53_6 : decode cJ9_min_7cf53 6 = .ok (.goto 4, 3) := by decide +kernel
theorem dJ9_min_7cf53_9 : decode cJ9_min_7cf53 9 = .ok (.iload_n 1, 1) := by decide +kernel
theorem dJ9_min_7cf53_10 : decode cJ9_min_7cf53 10 = .ok (.ireturn, 1) := by decide +kernel
end
section
theorem dX12_init_0 : decode cX12_init 0 = .ok (.aload_n 0, 1) := by decide +kernel
theorem dX12_init_1 : decode cX12_init 1 = .ok (.invokespecial 1, 3) := by decide +kernel
theorem dX12_init_4 : decode cX12_init 4 = .ok (.aload_n 0, 1) := by decide +kernel
theorem dX12_init_5 : decode cX12_init 5 = .ok (.bipush 6, 2) := by decide +kernel
theorem dX12_init_7 : decode cX12_init 7 = .ok (.newarray .int, 2) := by decide +kernel
theorem dX12_init_9 : decode cX12_init 9 = .ok (.putfield 7, 3) := by decide +kernel
theorem dX12_init_12 : decode cX12_init 12 = .ok (.aload_n 0, 1) := by decide +kernel
theorem dX12_init_13 : decode cX12_init 13 = .ok (.bipush 6, 2) := by decide +kernel
theorem dX12_init_15 : decode cX12_init 15 = .ok (.newarray .int, 2) := by decide +kernel
theorem dX12_init_17 : decode cX12_init 17 = .ok (.putfield 13, 3) := by decide +kernel
theorem dX12_init_20 : decode cX12_init 20 = .ok (.aload_n 0, 1) := by decide +kernel
theorem dX12_init_21 : decode cX12_init 21 = .ok (.bipush 6, 2) := by decide +kernel
theorem dX12_init_23 : decode cX12_init 23 = .ok (.newarray .int, 2) := by decide +kernel
theorem dX12_init_25 : decode cX12_init 25 = .ok (.putfield 16, 3) := by decide +kernel
theorem dX12_init_28 : decode cX12_init 28 = .ok (.aload_n 0, 1) := by decide +kernel
theorem dX12_init_29 : decode cX12_init 29 = .ok (.bipush 6, 2) := by decide +kernel
theorem dX12_init_31 : decode cX12_init 31 = .ok (.newarray .int, 2) := by decide +kernel
theorem dX12_init_33 : decode cX12_init 33 = .ok (.putfield 19, 3) := by decide +kernel
theorem dX12_init_36 : decode cX12_init 36 = .ok (.aload_n 0, 1) := by decide +kernel
theorem dX12_init_37 : decode cX12_init 37 = .ok (.bipush 6, 2) := by decide +kernel
theorem dX12_init_39 : decode cX12_init 39 = .ok (.newarray .int, 2) := by decide +kernel
theorem dX12_init_41 : decode cX12_init 41 = .ok (.putfield 22, 3) := by decide +kernel
theorem dX12_init_44 : decode cX12_init 44 = .ok (.aload_n 0, 1) := by decide +kernel
theorem dX12_init_45 : decode cX12_init 45 = .ok (.bipush 6, 2) := by decide +kernel
theorem dX12_init_47 : decode cX12_init 47 = .ok (.newarray .int, 2) := by decide +kernel
theorem dX12_init_49 : decode cX12_init 49 = .ok (.putfield 25, 3) := by decide +kernel
theorem dX12_init_52 : decode cX12_init 52 = .ok (.aload_n 0, 1) := by decide +kernel
theorem dX12_init_53 : decode cX12_init 53 = .ok (.bipush 12, 2) := by decide +kernel
theorem dX12_init_55 : decode cX12_init 55 = .ok (.newarray .byte, 2) := by decide +kernel
theorem dX12_init_57 : decode cX12_init 57 = .ok (.putfield 28, 3) := by decide +kernel
theorem dX12_init_60 : decode cX12_init 60 = .ok (.aload_n 0, 1) := by decide +kernel
theorem dX12_init_61 : decode cX12_init 61 = .ok (.bipush 41, 2) := by decide +kernel
theorem dX12_init_63 : decode cX12_init 63 = .ok (.newarray .int, 2) := by decide +kernel
theorem dX12_init_65 : decode cX12_init 65 = .ok (.putfield 32, 3) := by decide +kernel
theorem dX12_init_68 : decode cX12_init 68 = .ok (.aload_n 0, 1) := by decide +kernel
theorem dX12_init_69 : decode cX12_init 69 = .ok (.bipush 41, 2) := by decide +kernel
theorem dX12_init_71 : decode cX12_init 71 = .ok (.newarray .int, 2) := by decide +kernel
theorem dX12_init_73 : decode cX12_init 73 = .ok (.putfield 35, 3) := by decide +kernel
theorem dX12_init_76 : decode cX12_init 76 = .ok (.aload_n 0, 1) := by decide +kernel
theorem dX12_init_77 : decode cX12_init 77 = .ok (.bipush 6, 2) := by decide +kernel
theorem dX12_init_79 : decode cX12_init 79 = .ok (.newarray .int, 2) := by decide +kernel
theorem dX12_init_81 : decode cX12_init 81 = .ok (.putfield 38, 3) := by decide +kernel
theorem dX12_init_84 : decode cX12_init 84 = .ok (.aload_n 0, 1) := by decide +kernel
theorem dX12_init_85 : decode cX12_init 85 = .ok (.bipush 6, 2) := by decide +kernel
theorem dX12_init_87 : decode cX12_init 87 = .ok (.newarray .int, 2) := by decide +kernel
theorem dX12_init_89 : decode cX12_init 89 = .ok (.putfield 41, 3) := by decide +kernel
theorem dX12_init_92 : decode cX12_init 92 = .ok (.return_, 1) := by decide +kernel
theorem dX12_within_0 : decode cX12_within 0 = .ok (.iload_n 0, 1) := by decide +kernel
theorem dX12_within_1 : decode cX12_within 1 = .ok (.iload_n 1, 1) := by decide +kernel
theorem dX12_within_2 : decode cX12_within 2 = .ok (.if_icmp .lt 12, 3) := by decide +kernel
theorem dX12_within_5 : decode cX12_within 5 = .ok (.iload_n 0, 1) := by decide +kernel
theorem dX12_within_6 : decode cX12_within 6 = .ok (.iload_n 2, 1) := by decide +kernel
theorem dX12_within_7 : decode cX12_within 7 = .ok (.if_icmp .gt 7, 3) := by decide +kernel
theorem dX12_within_10 : decode cX12_within 10 = .ok (.iconst 1, 1) := by decide +kernel
theorem dX12_within_11 : decode cX12_within 11 = .ok (.goto 4, 3) := by decide +kernel
theorem dX12_within_14 : decode cX12_within 14 = .ok (.iconst 0, 1) := by decide +kernel
theorem dX12_within_15 : decode cX12_within 15 = .ok (.ireturn, 1) := by decide +kernel
theorem dX12_has_0 : decode cX12_has 0 = .ok (.iload_n 0, 1) := by decide +kernel
theorem dX12_has_1 : decode cX12_has 1 = .ok (.iload_n 1, 1) := by decide +kernel
theorem dX12_has_2 : decode cX12_has 2 = .ok (.ishr, 1) := by decide +kernel
theorem dX12_has_3 : decode cX12_has 3 = .ok (.iconst 1, 1) := by decide +kernel
theorem dX12_has_4 : decode cX12_has 4 = .ok (.iand, 1) := by decide +kernel
theorem dX12_has_5 : decode cX12_has 5 = .ok (.iconst 1, 1) := by decide +kernel
theorem dX12_has_6 : decode cX12_has 6 = .ok (.if_icmp .ne 7, 3) := by decide +kernel
theorem dX12_has_9 : decode cX12_has 9 = .ok (.iconst 1, 1) := by decide +kernel
theorem dX12_has_10 : decode cX12_has 10 = .ok (.goto 4, 3) := by decide +kernel
theorem dX12_has_13 : decode cX12_has 13 = .ok (.iconst 0, 1) := by decide +kernel
theorem dX12_has_14 : decode cX12_has 14 = .ok (.ireturn, 1) := by decide +kernel
theorem dX12_letters_0 : decode cX12_letters 0 = .ok (.iconst 0, 1) := by decide +kernel
theorem dX12_letters_1 : decode cX12_letters 1 = .ok (.istore_n 3, 1) := by decide +kernel
theorem dX12_letters_2 : decode cX12_letters 2 = .ok (.iconst 0, 1) := by decide +kernel
theorem dX12_letters_3 : decode cX12_letters 3 = .ok (.istore 4, 2) := by decide +kernel
theorem dX12_letters_5 : decode cX12_letters 5 = .ok (.iconst 0, 1) := by decide +kernel
theorem dX12_letters_6 : decode cX12_letters 6 = .ok (.istore 5, 2) := by decide +kernel
theorem dX12_letters_8 : decode cX12_letters 8 = .ok (.iload 5, 2) := by decide +kernel
theorem dX12_letters_10 : decode cX12_letters 10 = .ok (.bipush 8, 2) := by decide +kernel
theorem dX12_letters_12 : decode cX12_letters 12 = .ok (.if_icmp .ge 73, 3) := by decide +kernel
theorem dX12_letters_15 : decode cX12_letters 15 = .ok (.lload_n 1, 1) := by decide +kernel
theorem dX12_letters_16 : decode cX12_letters 16 = .ok (.bipush 8, 2) := by decide +kernel
theorem dX12_letters_18 : decode cX12_letters 18 = .ok (.iload 5, 2) := by decide +kernel
theorem dX12_letters_20 : decode cX12_letters 20 = .ok (.imul, 1) := by decide +kernel
theorem dX12_letters_21 : decode cX12_letters 21 = .ok (.lshr, 1) := by decide +kernel
theorem dX12_letters_22 : decode cX12_letters 22 = .ok (.ldc2_w 44, 3) := by decide +kernel
theorem dX12_letters_25 : decode cX12_letters 25 = .ok (.land, 1) := by decide +kernel
theorem dX12_letters_26 : decode cX12_letters 26 = .ok (.l2i, 1) := by decide +kernel
theorem dX12_letters_27 : decode cX12_letters 27 = .ok (.istore 6, 2) := by decide +kernel
theorem dX12_letters_29 : decode cX12_letters 29 = .ok (.iload 6, 2) := by decide +kernel
theorem dX12_letters_31 : decode cX12_letters 31 = .ok (.bipush 126, 2) := by decide +kernel
theorem dX12_letters_33 : decode cX12_letters 33 = .ok (.if_icmp .gt 13, 3) := by decide +kernel
theorem dX12_letters_36 : decode cX12_letters 36 = .ok (.iload 4, 2) := by decide +kernel
theorem dX12_letters_38 : decode cX12_letters 38 = .ok (.ifCond .eq 11, 3) := by decide +kernel
theorem dX12_letters_41 : decode cX12_letters 41 = .ok (.iload 6, 2) := by decide +kernel
theorem dX12_letters_43 : decode cX12_letters 43 = .ok (.ifCond .eq 6, 3) := by decide +kernel
theorem dX12_letters_46 : decode cX12_letters 46 = .ok (.bipush (-102), 2) := by decide +kernel
theorem dX12_letters_48 : decode cX12_letters 48 = .ok (.ireturn, 1) := by decide +kernel
theorem dX12_letters_49 : decode cX12_letters 49 = .ok (.iload 4, 2) := by decide +kernel
theorem dX12_letters_51 : decode cX12_letters 51 = .ok (.ifCond .ne 8, 3) := by decide +kernel
theorem dX12_letters_54 : decode cX12_letters 54 = .ok (.iload 6, 2) := by decide +kernel
theorem dX12_letters_56 : decode cX12_letters 56 = .ok (.ifCond .ne 7, 3) := by decide +kernel
theorem dX12_letters_59 : decode cX12_letters 59 = .ok (.iconst 1, 1) := by decide +kernel
theorem dX12_letters_60 : decode cX12_letters 60 = .ok (.goto 4, 3) := by decide +kernel
theorem dX12_letters_63 : decode cX12_letters 63 = .ok (.iconst 0, 1) := by decide +kernel
theorem dX12_letters_64 : decode cX12_letters 64 = .ok (.istore 4, 2) := by decide +kernel
theorem dX12_letters_66 : decode cX12_letters 66 = .ok (.iload_n 3, 1) := by decide +kernel
theorem dX12_letters_67 : decode cX12_letters 67 = .ok (.iload 6, 2) := by decide +kernel
theorem dX12_letters_69 : decode cX12_letters 69 = .ok (.ifCond .ne 7, 3) := by decide +kernel
theorem dX12_letters_72 : decode cX12_letters 72 = .ok (.iconst 0, 1) := by decide +kernel
theorem dX12_letters_73 : decode cX12_letters 73 = .ok (.goto 4, 3) := by decide +kernel
theorem dX12_letters_76 : decode cX12_letters 76 = .ok (.iconst 1, 1) := by decide +kernel
theorem dX12_letters_77 : decode cX12_letters 77 = .ok (.iadd, 1) := by decide +kernel
theorem dX12_letters_78 : decode cX12_letters 78 = .ok (.istore_n 3, 1) := by decide +kernel
theorem dX12_letters_79 : decode cX12_letters 79 = .ok (.iinc 5 1, 3) := by decide +kernel
theorem dX12_letters_82 : decode cX12_letters 82 = .ok (.goto (-74), 3) := by decide +kernel
theorem dX12_letters_85 : decode cX12_letters 85 = .ok (.aload_n 0, 1) := by decide +kernel
theorem dX12_letters_86 : decode cX12_letters 86 = .ok (.getfield 46, 3) := by decide +kernel
theorem dX12_letters_89 : decode cX12_letters 89 = .ok (.iload_n 3, 1) := by decide +kernel
theorem dX12_letters_90 : decode cX12_letters 90 = .ok (.iadd, 1) := by decide +kernel
theorem dX12_letters_91 : decode cX12_letters 91 = .ok (.bipush 12, 2) := by decide +kernel
theorem dX12_letters_93 : decode cX12_letters 93 = .ok (.if_icmp .le 6, 3) := by decide +kernel
theorem dX12_letters_96 : decode cX12_letters 96 = .ok (.bipush (-104), 2) := by decide +kernel
theorem dX12_letters_98 : decode cX12_letters 98 = .ok (.ireturn, 1) := by decide +kernel
theorem dX12_letters_99 : decode cX12_letters 99 = .ok (.iconst 0, 1) := by decide +kernel
theorem dX12_letters_100 : decode cX12_letters 100 = .ok (.istore 5, 2) := by decide +kernel
theorem dX12_letters_102 : decode cX12_letters 102 = .ok (.iload 5, 2) := by decide +kernel
theorem dX12_letters_104 : decode cX12_letters 104 = .ok (.iload_n 3, 1) := by decide +kernel
theorem dX12_letters_105 : decode cX12_letters 105 = .ok (.if_icmp .ge 30, 3) := by decide +kernel
theorem dX12_letters_108 : decode cX12_letters 108 = .ok (.aload_n 0, 1) := by decide +kernel
theorem dX12_letters_109 : decode cX12_letters 109 = .ok (.getfield 28, 3) := by decide +kernel
theorem dX12_letters_112 : decode cX12_letters 112 = .ok (.aload_n 0, 1) := by decide +kernel
theorem dX12_letters_113 : decode cX12_letters 113 = .ok (.getfield 46, 3) := by decide +kernel
theorem dX12_letters_116 : decode cX12_letters 116 = .ok (.iload 5, 2) := by decide +kernel
theorem dX12_letters_118 : decode cX12_letters 118 = .ok (.iadd, 1) := by decide +kernel
theorem dX12_letters_119 : decode cX12_letters 119 = .ok (.lload_n 1, 1) := by decide +kernel
theorem dX12_letters_120 : decode cX12_letters 120 = .ok (.bipush 8, 2) := by decide +kernel
theorem dX12_letters_122 : decode cX12_letters 122 = .ok (.iload 5, 2) := by decide +kernel
theorem dX12_letters_124 : decode cX12_letters 124 = .ok (.imul, 1) := by decide +kernel
theorem dX12_letters_125 : decode cX12_letters 125 = .ok (.lshr, 1) := by decide +kernel
theorem dX12_letters_126 : decode cX12_letters 126 = .ok (.l2i, 1) := by decide +kernel
theorem dX12_letters_127 : decode cX12_letters 127 = .ok (.i2b, 1) := by decide +kernel
theorem dX12_letters_128 : decode cX12_letters 128 = .ok (.bastore, 1) := by decide +kernel
theorem dX12_letters_129 : decode cX12_letters 129 = .ok (.iinc 5 1, 3) := by decide +kernel
theorem dX12_letters_132 : decode cX12_letters 132 = .ok (.goto (-30), 3) := by decide +kernel
theorem dX12_letters_135 : decode cX12_letters 135 = .ok (.aload_n 0, 1) := by decide +kernel
theorem dX12_letters_136 : decode cX12_letters 136 = .ok (.dup, 1) := by decide +kernel
theorem dX12_letters_137 : decode cX12_letters 137 = .ok (.getfield 46, 3) := by decide +kernel
theorem dX12_letters_140 : decode cX12_letters 140 = .ok (.iload_n 3, 1) := by decide +kernel
theorem dX12_letters_141 : decode cX12_letters 141 = .ok (.iadd, 1) := by decide +kernel
theorem dX12_letters_142 : decode cX12_letters 142 = .ok (.putfield 46, 3) := by decide +kernel
theorem dX12_letters_145 : decode cX12_letters 145 = .ok (.aload_n 0, 1) := by decide +kernel
theorem dX12_letters_146 : decode cX12_letters 146 = .ok (.getfield 46, 3) := by decide +kernel
theorem dX12_letters_149 : decode cX12_letters 149 = .ok (.ireturn, 1) := by decide +kernel
theorem dX12_blank_0 : decode cX12_blank 0 = .ok (.aload_n 0, 1) := by decide +kernel
theorem dX12_blank_1 : decode cX12_blank 1 = .ok (.getfield 46, 3) := by decide +kernel
theorem dX12_blank_4 : decode cX12_blank 4 = .ok (.istore_n 1, 1) := by decide +kernel
theorem dX12_blank_5 : decode cX12_blank 5 = .ok (.aload_n 0, 1) := by decide +kernel
theorem dX12_blank_6 : decode cX12_blank 6 = .ok (.iconst 0, 1) := by decide +kernel
theorem dX12_blank_7 : decode cX12_blank 7 = .ok (.putfield 46, 3) := by decide +kernel
theorem dX12_blank_10 : decode cX12_blank 10 = .ok (.iload_n 1, 1) := by decide +kernel
theorem dX12_blank_11 : decode cX12_blank 11 = .ok (.ireturn, 1) := by decide +kernel
theorem dX12_takes_0 : decode cX12_takes 0 = .ok (.iload_n 2, 1) := by decide +kernel
theorem dX12_takes_1 : decode cX12_takes 1 = .ok (.bipush 48, 2) := by decide +kernel
theorem dX12_takes_3 : decode cX12_takes 3 = .ok (.isub, 1) := by decide +kernel
theorem dX12_takes_4 : decode cX12_takes 4 = .ok (.istore_n 3, 1) := by decide +kernel
theorem dX12_takes_5 : decode cX12_takes 5 = .ok (.iload_n 1, 1) := by decide +kernel
theorem dX12_takes_6 : decode cX12_takes 6 = .ok (.tableswitch 155 0 7 #[46, 58, 96, 108, 96, 121, 134, 134], 46) := by decide +kernel
theorem dX12_takes_52 : decode cX12_takes 52 = .ok (.aload_n 0, 1) := by decide +kernel
theorem dX12_takes_53 : decode cX12_takes 53 = .ok (.iload_n 3, 1) := by decide +kernel
theorem dX12_takes_54 : decode cX12_takes 54 = .ok (.putfield 50, 3) := by decide +kernel
theorem dX12_takes_57 : decode cX12_takes 57 = .ok (.iload_n 3, 1) := by decide +kernel
theorem dX12_takes_58 : decode cX12_takes 58 = .ok (.iconst 1, 1) := by decide +kernel
theorem dX12_takes_59 : decode cX12_takes 59 = .ok (.iconst 4, 1) := by decide +kernel
theorem dX12_takes_60 : decode cX12_takes 60 = .ok (.invokestatic 53, 3) := by decide +kernel
theorem dX12_takes_63 : decode cX12_takes 63 = .ok (.ireturn, 1) := by decide +kernel
theorem dX12_takes_64 : decode cX12_takes 64 = .ok (.aload_n 0, 1) := by decide +kernel
theorem dX12_takes_65 : decode cX12_takes 65 = .ok (.bipush 10, 2) := by decide +kernel
theorem dX12_takes_67 : decode cX12_takes 67 = .ok (.aload_n 0, 1) := by decide +kernel
theorem dX12_takes_68 : decode cX12_takes 68 = .ok (.getfield 50, 3) := by decide +kernel
theorem dX12_takes_71 : decode cX12_takes 71 = .ok (.imul, 1) := by decide +kernel
theorem dX12_takes_72 : decode cX12_takes 72 = .ok (.iload_n 3, 1) := by decide +kernel
theorem dX12_takes_73 : decode cX12_takes 73 = .ok (.iadd, 1) := by decide +kernel
theorem dX12_takes_74 : decode cX12_takes 74 = .ok (.putfield 50, 3) := by decide +kernel
theorem dX12_takes_77 : decode cX12_takes 77 = .ok (.iload_n 3, 1) := by decide +kernel
theorem dX12_takes_78 : decode cX12_takes 78 = .ok (.iconst 0, 1) := by decide +kernel
theorem dX12_takes_79 : decode cX12_takes 79 = .ok (.bipush 9, 2) := by decide +kernel
theorem dX12_takes_81 : decode cX12_takes 81 = .ok (.invokestatic 53, 3) := by decide +kernel
theorem dX12_takes_84 : decode cX12_takes 84 = .ok (.ifCond .eq 16, 3) := by decide +kernel
theorem dX12_takes_87 : decode cX12_takes 87 = .ok (.aload_n 0, 1) := by decide +kernel
theorem dX12_takes_88 : decode cX12_takes 88 = .ok (.getfield 50, 3) := by decide +kernel
theorem dX12_takes_91 : decode cX12_takes 91 = .ok (.bipush 40, 2) := by decide +kernel
theorem dX12_takes_93 : decode cX12_takes 93 = .ok (.if_icmp .gt 7, 3) := by decide +kernel
theorem dX12_takes_96 : decode cX12_takes 96 = .ok (.iconst 1, 1) := by decide +kernel
theorem dX12_takes_97 : decode cX12_takes 97 = .ok (.goto 4, 3) := by decide +kernel
theorem dX12_takes_100 : decode cX12_takes 100 = .ok (.iconst 0, 1) := by decide +kernel
theorem dX12_takes_101 : decode cX12_takes 101 = .ok (.ireturn, 1) := by decide +kernel
theorem dX12_takes_102 : decode cX12_takes 102 = .ok (.iload_n 2, 1) := by decide +kernel
theorem dX12_takes_103 : decode cX12_takes 103 = .ok (.bipush 58, 2) := by decide +kernel
theorem dX12_takes_105 : decode cX12_takes 105 = .ok (.if_icmp .ne 7, 3) := by decide +kernel
theorem dX12_takes_108 : decode cX12_takes 108 = .ok (.iconst 1, 1) := by decide +kernel
theorem dX12_takes_109 : decode cX12_takes 109 = .ok (.goto 4, 3) := by decide +kernel
theorem dX12_takes_112 : decode cX12_takes 112 = .ok (.iconst 0, 1) := by decide +kernel
theorem dX12_takes_113 : decode cX12_takes 113 = .ok (.ireturn, 1) := by decide +kernel
theorem dX12_takes_114 : decode cX12_takes 114 = .ok (.aload_n 0, 1) := by decide +kernel
theorem dX12_takes_115 : decode cX12_takes 115 = .ok (.iload_n 3, 1) := by decide +kernel
theorem dX12_takes_116 : decode cX12_takes 116 = .ok (.putfield 57, 3) := by decide +kernel
theorem dX12_takes_119 : decode cX12_takes 119 = .ok (.iload_n 3, 1) := by decide +kernel
theorem dX12_takes_120 : decode cX12_takes 120 = .ok (.iconst 1, 1) := by decide +kernel
theorem dX12_takes_121 : decode cX12_takes 121 = .ok (.bipush 9, 2) := by decide +kernel
theorem dX12_takes_123 : decode cX12_takes 123 = .ok (.invokestatic 53, 3) := by decide +kernel
theorem dX12_takes_126 : decode cX12_takes 126 = .ok (.ireturn, 1) := by decide +kernel
theorem dX12_takes_127 : decode cX12_takes 127 = .ok (.aload_n 0, 1) := by decide +kernel
theorem dX12_takes_128 : decode cX12_takes 128 = .ok (.iload_n 3, 1) := by decide +kernel
theorem dX12_takes_129 : decode cX12_takes 129 = .ok (.putfield 60, 3) := by decide +kernel
theorem dX12_takes_132 : decode cX12_takes 132 = .ok (.iload_n 3, 1) := by decide +kernel
theorem dX12_takes_133 : decode cX12_takes 133 = .ok (.iconst 1, 1) := by decide +kernel
theorem dX12_takes_134 : decode cX12_takes 134 = .ok (.bipush 9, 2) := by decide +kernel
theorem dX12_takes_136 : decode cX12_takes 136 = .ok (.invokestatic 53, 3) := by decide +kernel
theorem dX12_takes_139 : decode cX12_takes 139 = .ok (.ireturn, 1) := by decide +kernel
theorem dX12_takes_140 : decode cX12_takes 140 = .ok (.aload_n 0, 1) := by decide +kernel
theorem dX12_takes_141 : decode cX12_takes 141 = .ok (.bipush 10, 2) := by decide +kernel
theorem dX12_takes_143 : decode cX12_takes 143 = .ok (.aload_n 0, 1) := by decide +kernel
theorem dX12_takes_144 : decode cX12_takes 144 = .ok (.getfield 60, 3) := by decide +kernel
theorem dX12_takes_147 : decode cX12_takes 147 = .ok (.imul, 1) := by decide +kernel
theorem dX12_takes_148 : decode cX12_takes 148 = .ok (.iload_n 3, 1) := by decide +kernel
theorem dX12_takes_149 : decode cX12_takes 149 = .ok (.iadd, 1) := by decide +kernel
theorem dX12_takes_150 : decode cX12_takes 150 = .ok (.putfield 60, 3) := by decide +kernel
theorem dX12_takes_153 : decode cX12_takes 153 = .ok (.iload_n 3, 1) := by decide +kernel
theorem dX12_takes_154 : decode cX12_takes 154 = .ok (.iconst 0, 1) := by decide +kernel
theorem dX12_takes_155 : decode cX12_takes 155 = .ok (.bipush 9, 2) := by decide +kernel
theorem dX12_takes_157 : decode cX12_takes 157 = .ok (.invokestatic 53, 3) := by decide +kernel
theorem dX12_takes_160 : decode cX12_takes 160 = .ok (.ireturn, 1) := by decide +kernel
theorem dX12_takes_161 : decode cX12_takes 161 = .ok (.aload_n 0, 1) := by decide +kernel
theorem dX12_takes_162 : decode cX12_takes 162 = .ok (.iload_n 1, 1) := by decide +kernel
theorem dX12_takes_163 : decode cX12_takes 163 = .ok (.bipush 8, 2) := by decide +kernel
theorem dX12_takes_165 : decode cX12_takes 165 = .ok (.if_icmp .ne 13, 3) := by decide +kernel
theorem dX12_takes_168 : decode cX12_takes 168 = .ok (.iload_n 2, 1) := by decide +kernel
theorem dX12_takes_169 : decode cX12_takes 169 = .ok (.bipush 111, 2) := by decide +kernel
theorem dX12_takes_171 : decode cX12_takes 171 = .ok (.if_icmp .ne 7, 3) := by decide +kernel
theorem dX12_takes_174 : decode cX12_takes 174 = .ok (.iconst 1, 1) := by decide +kernel
theorem dX12_takes_175 : decode cX12_takes 175 = .ok (.goto 4, 3) := by decide +kernel
theorem dX12_takes_178 : decode cX12_takes 178 = .ok (.iconst 0, 1) := by decide +kernel
theorem dX12_takes_179 : decode cX12_takes 179 = .ok (.putfield 63, 3) := by decide +kernel
theorem dX12_takes_182 : decode cX12_takes 182 = .ok (.aload_n 0, 1) := by decide +kernel
theorem dX12_takes_183 : decode cX12_takes 183 = .ok (.getfield 63, 3) := by decide +kernel
theorem dX12_takes_186 : decode cX12_takes 186 = .ok (.ireturn, 1) := by decide +kernel
theorem dX12_readWire_0 : decode cX12_readWire 0 = .ok (.aload_n 0, 1) := by decide +kernel
theorem dX12_readWire_1 : decode cX12_readWire 1 = .ok (.iconst 0, 1) := by decide +kernel
theorem dX12_readWire_2 : decode cX12_readWire 2 = .ok (.putfield 63, 3) := by decide +kernel
theorem dX12_readWire_5 : decode cX12_readWire 5 = .ok (.iconst 0, 1) := by decide +kernel
theorem dX12_readWire_6 : decode cX12_readWire 6 = .ok (.istore_n 1, 1) := by decide +kernel
theorem dX12_readWire_7 : decode cX12_readWire 7 = .ok (.iload_n 1, 1) := by decide +kernel
theorem dX12_readWire_8 : decode cX12_readWire 8 = .ok (.aload_n 0, 1) := by decide +kernel
theorem dX12_readWire_9 : decode cX12_readWire 9 = .ok (.getfield 46, 3) := by decide +kernel
theorem dX12_readWire_12 : decode cX12_readWire 12 = .ok (.if_icmp .ge 23, 3) := by decide +kernel
theorem dX12_readWire_15 : decode cX12_readWire 15 = .ok (.aload_n 0, 1) := by decide +kernel
theorem dX12_readWire_16 : decode cX12_readWire 16 = .ok (.iload_n 1, 1) := by decide +kernel
theorem dX12_readWire_17 : decode cX12_readWire 17 = .ok (.aload_n 0, 1) := by decide +kernel
theorem dX12_readWire_18 : decode cX12_readWire 18 = .ok (.getfield 28, 3) := by decide +kernel
theorem dX12_readWire_21 : decode cX12_readWire 21 = .ok (.iload_n 1, 1) := by decide +kernel
theorem dX12_readWire_22 : decode cX12_readWire 22 = .ok (.baload, 1) := by decide +kernel
theorem dX12_readWire_23 : decode cX12_readWire 23 = .ok (.invokevirtual 67, 3) := by decide +kernel
theorem dX12_readWire_26 : decode cX12_readWire 26 = .ok (.ifCond .eq 9, 3) := by decide +kernel
theorem dX12_readWire_29 : decode cX12_readWire 29 = .ok (.iinc 1 1, 3) := by decide +kernel
theorem dX12_readWire_32 : decode cX12_readWire 32 = .ok (.goto (-25), 3) := by decide +kernel
theorem dX12_readWire_35 : decode cX12_readWire 35 = .ok (.aload_n 0, 1) := by decide +kernel
theorem dX12_readWire_36 : decode cX12_readWire 36 = .ok (.iload_n 1, 1) := by decide +kernel
theorem dX12_readWire_37 : decode cX12_readWire 37 = .ok (.putfield 71, 3) := by decide +kernel
theorem dX12_readWire_40 : decode cX12_readWire 40 = .ok (.aload_n 0, 1) := by decide +kernel
theorem dX12_readWire_41 : decode cX12_readWire 41 = .ok (.iload_n 1, 1) := by decide +kernel
theorem dX12_readWire_42 : decode cX12_readWire 42 = .ok (.aload_n 0, 1) := by decide +kernel
theorem dX12_readWire_43 : decode cX12_readWire 43 = .ok (.getfield 46, 3) := by decide +kernel
theorem dX12_readWire_46 : decode cX12_readWire 46 = .ok (.if_icmp .ne 13, 3) := by decide +kernel
theorem dX12_readWire_49 : decode cX12_readWire 49 = .ok (.iload_n 1, 1) := by decide +kernel
theorem dX12_readWire_50 : decode cX12_readWire 50 = .ok (.bipush 7, 2) := by decide +kernel
theorem dX12_readWire_52 : decode cX12_readWire 52 = .ok (.if_icmp .le 7, 3) := by decide +kernel
theorem dX12_readWire_55 : decode cX12_readWire 55 = .ok (.iconst 1, 1) := by decide +kernel
theorem dX12_readWire_56 : decode cX12_readWire 56 = .ok (.goto 4, 3) := by decide +kernel
theorem dX12_readWire_59 : decode cX12_readWire 59 = .ok (.iconst 0, 1) := by decide +kernel
theorem dX12_readWire_60 : decode cX12_readWire 60 = .ok (.putfield 74, 3) := by decide +kernel
theorem dX12_readWire_63 : decode cX12_readWire 63 = .ok (.return_, 1) := by decide +kernel
theorem dX12_fault_0 : decode cX12_fault 0 = .ok (.aload_n 0, 1) := by decide +kernel
theorem dX12_fault_1 : decode cX12_fault 1 = .ok (.invokevirtual 77, 3) := by decide +kernel
theorem dX12_fault_4 : decode cX12_fault 4 = .ok (.aload_n 0, 1) := by decide +kernel
theorem dX12_fault_5 : decode cX12_fault 5 = .ok (.getfield 71, 3) := by decide +kernel
theorem dX12_fault_8 : decode cX12_fault 8 = .ok (.ireturn, 1) := by decide +kernel
theorem dX12_wire_0 : decode cX12_wire 0 = .ok (.aload_n 0, 1) := by decide +kernel
theorem dX12_wire_1 : decode cX12_wire 1 = .ok (.invokevirtual 77, 3) := by decide +kernel
theorem dX12_wire_4 : decode cX12_wire 4 = .ok (.aload_n 0, 1) := by decide +kernel
theorem dX12_wire_5 : decode cX12_wire 5 = .ok (.getfield 74, 3) := by decide +kernel
theorem dX12_wire_8 : decode cX12_wire 8 = .ok (.ifCond .ne 6, 3) := by decide +kernel
theorem dX12_wire_11 : decode cX12_wire 11 = .ok (.bipush (-103), 2) := by decide +kernel
theorem dX12_wire_13 : decode cX12_wire 13 = .ok (.ireturn, 1) := by decide +kernel
theorem dX12_wire_14 : decode cX12_wire 14 = .ok (.aload_n 0, 1) := by decide +kernel
theorem dX12_wire_15 : decode cX12_wire 15 = .ok (.aload_n 0, 1) := by decide +kernel
theorem dX12_wire_16 : decode cX12_wire 16 = .ok (.getfield 50, 3) := by decide +kernel
theorem dX12_wire_19 : decode cX12_wire 19 = .ok (.putfield 80, 3) := by decide +kernel
theorem dX12_wire_22 : decode cX12_wire 22 = .ok (.aload_n 0, 1) := by decide +kernel
theorem dX12_wire_23 : decode cX12_wire 23 = .ok (.aload_n 0, 1) := by decide +kernel
theorem dX12_wire_24 : decode cX12_wire 24 = .ok (.getfield 50, 3) := by decide +kernel
theorem dX12_wire_27 : decode cX12_wire 27 = .ok (.aload_n 0, 1) := by decide +kernel
theorem dX12_wire_28 : decode cX12_wire 28 = .ok (.getfield 50, 3) := by decide +kernel
theorem dX12_wire_31 : decode cX12_wire 31 = .ok (.imul, 1) := by decide +kernel
theorem dX12_wire_32 : decode cX12_wire 32 = .ok (.aload_n 0, 1) := by decide +kernel
theorem dX12_wire_33 : decode cX12_wire 33 = .ok (.getfield 57, 3) := by decide +kernel
theorem dX12_wire_36 : decode cX12_wire 36 = .ok (.imul, 1) := by decide +kernel
theorem dX12_wire_37 : decode cX12_wire 37 = .ok (.putfield 83, 3) := by decide +kernel
theorem dX12_wire_40 : decode cX12_wire 40 = .ok (.aload_n 0, 1) := by decide +kernel
theorem dX12_wire_41 : decode cX12_wire 41 = .ok (.aload_n 0, 1) := by decide +kernel
theorem dX12_wire_42 : decode cX12_wire 42 = .ok (.getfield 60, 3) := by decide +kernel
theorem dX12_wire_45 : decode cX12_wire 45 = .ok (.putfield 86, 3) := by decide +kernel
theorem dX12_wire_48 : decode cX12_wire 48 = .ok (.aload_n 0, 1) := by decide +kernel
theorem dX12_wire_49 : decode cX12_wire 49 = .ok (.aload_n 0, 1) := by decide +kernel
theorem dX12_wire_50 : decode cX12_wire 50 = .ok (.getfield 63, 3) := by decide +kernel
theorem dX12_wire_53 : decode cX12_wire 53 = .ok (.putfield 89, 3) := by decide +kernel
theorem dX12_wire_56 : decode cX12_wire 56 = .ok (.aload_n 0, 1) := by decide +kernel
theorem dX12_wire_57 : decode cX12_wire 57 = .ok (.iconst 0, 1) := by decide +kernel
theorem dX12_wire_58 : decode cX12_wire 58 = .ok (.putfield 92, 3) := by decide +kernel
theorem dX12_wire_61 : decode cX12_wire 61 = .ok (.aload_n 0, 1) := by decide +kernel
theorem dX12_wire_62 : decode cX12_wire 62 = .ok (.iconst 1, 1) := by decide +kernel
theorem dX12_wire_63 : decode cX12_wire 63 = .ok (.putfield 95, 3) := by decide +kernel
theorem dX12_wire_66 : decode cX12_wire 66 = .ok (.aload_n 0, 1) := by decide +kernel
theorem dX12_wire_67 : decode cX12_wire 67 = .ok (.dup, 1) := by decide +kernel
theorem dX12_wire_68 : decode cX12_wire 68 = .ok (.getfield 98, 3) := by decide +kernel
theorem dX12_wire_71 : decode cX12_wire 71 = .ok (.iconst 1, 1) := by decide +kernel
theorem dX12_wire_72 : decode cX12_wire 72 = .ok (.iadd, 1) := by decide +kernel
theorem dX12_wire_73 : decode cX12_wire 73 = .ok (.putfield 98, 3) := by decide +kernel
theorem dX12_wire_76 : decode cX12_wire 76 = .ok (.aload_n 0, 1) := by decide +kernel
theorem dX12_wire_77 : decode cX12_wire 77 = .ok (.iconst 0, 1) := by decide +kernel
theorem dX12_wire_78 : decode cX12_wire 78 = .ok (.putfield 101, 3) := by decide +kernel
theorem dX12_wire_81 : decode cX12_wire 81 = .ok (.aload_n 0, 1) := by decide +kernel
theorem dX12_wire_82 : decode cX12_wire 82 = .ok (.iconst 0, 1) := by decide +kernel
theorem dX12_wire_83 : decode cX12_wire 83 = .ok (.putfield 104, 3) := by decide +kernel
theorem dX12_wire_86 : decode cX12_wire 86 = .ok (.aload_n 0, 1) := by decide +kernel
theorem dX12_wire_87 : decode cX12_wire 87 = .ok (.iconst 0, 1) := by decide +kernel
theorem dX12_wire_88 : decode cX12_wire 88 = .ok (.putfield 107, 3) := by decide +kernel
theorem dX12_wire_91 : decode cX12_wire 91 = .ok (.aload_n 0, 1) := by decide +kernel
theorem dX12_wire_92 : decode cX12_wire 92 = .ok (.iconst 0, 1) := by decide +kernel
theorem dX12_wire_93 : decode cX12_wire 93 = .ok (.putfield 110, 3) := by decide +kernel
theorem dX12_wire_96 : decode cX12_wire 96 = .ok (.aload_n 0, 1) := by decide +kernel
theorem dX12_wire_97 : decode cX12_wire 97 = .ok (.iconst 0, 1) := by decide +kernel
theorem dX12_wire_98 : decode cX12_wire 98 = .ok (.putfield 46, 3) := by decide +kernel
theorem dX12_wire_101 : decode cX12_wire 101 = .ok (.aload_n 0, 1) := by decide +kernel
theorem dX12_wire_102 : decode cX12_wire 102 = .ok (.getfield 83, 3) := by decide +kernel
theorem dX12_wire_105 : decode cX12_wire 105 = .ok (.ireturn, 1) := by decide +kernel
theorem dX12_weighs_0 : decode cX12_weighs 0 = .ok (.iload_n 2, 1) := by decide +kernel
theorem dX12_weighs_1 : decode cX12_weighs 1 = .ok (.aload_n 0, 1) := by decide +kernel
theorem dX12_weighs_2 : decode cX12_weighs 2 = .ok (.getfield 19, 3) := by decide +kernel
theorem dX12_weighs_5 : decode cX12_weighs 5 = .ok (.iload_n 1, 1) := by decide +kernel
theorem dX12_weighs_6 : decode cX12_weighs 6 = .ok (.iaload, 1) := by decide +kernel
theorem dX12_weighs_7 : decode cX12_weighs 7 = .ok (.isub, 1) := by decide +kernel
theorem dX12_weighs_8 : decode cX12_weighs 8 = .ok (.bipush 6, 2) := by decide +kernel
theorem dX12_weighs_10 : decode cX12_weighs 10 = .ok (.idiv, 1) := by decide +kernel
theorem dX12_weighs_11 : decode cX12_weighs 11 = .ok (.istore_n 3, 1) := by decide +kernel
theorem dX12_weighs_12 : decode cX12_weighs 12 = .ok (.aload_n 0, 1) := by decide +kernel
theorem dX12_weighs_13 : decode cX12_weighs 13 = .ok (.getfield 13, 3) := by decide +kernel
theorem dX12_weighs_16 : decode cX12_weighs 16 = .ok (.iload_n 1, 1) := by decide +kernel
theorem dX12_weighs_17 : decode cX12_weighs 17 = .ok (.iaload, 1) := by decide +kernel
theorem dX12_weighs_18 : decode cX12_weighs 18 = .ok (.aload_n 0, 1) := by decide +kernel
theorem dX12_weighs_19 : decode cX12_weighs 19 = .ok (.getfield 7, 3) := by decide +kernel
theorem dX12_weighs_22 : decode cX12_weighs 22 = .ok (.iload_n 1, 1) := by decide +kernel
theorem dX12_weighs_23 : decode cX12_weighs 23 = .ok (.iaload, 1) := by decide +kernel
theorem dX12_weighs_24 : decode cX12_weighs 24 = .ok (.iconst 1, 1) := by decide +kernel
theorem dX12_weighs_25 : decode cX12_weighs 25 = .ok (.if_icmp .ne 7, 3) := by decide +kernel
theorem dX12_weighs_28 : decode cX12_weighs 28 = .ok (.iconst 2, 1) := by decide +kernel
theorem dX12_weighs_29 : decode cX12_weighs 29 = .ok (.goto 34, 3) := by decide +kernel
theorem dX12_weighs_32 : decode cX12_weighs 32 = .ok (.aload_n 0, 1) := by decide +kernel
theorem dX12_weighs_33 : decode cX12_weighs 33 = .ok (.getfield 7, 3) := by decide +kernel
theorem dX12_weighs_36 : decode cX12_weighs 36 = .ok (.iload_n 1, 1) := by decide +kernel
theorem dX12_weighs_37 : decode cX12_weighs 37 = .ok (.iaload, 1) := by decide +kernel
theorem dX12_weighs_38 : decode cX12_weighs 38 = .ok (.iconst 3, 1) := by decide +kernel
theorem dX12_weighs_39 : decode cX12_weighs 39 = .ok (.if_icmp .ne 7, 3) := by decide +kernel
theorem dX12_weighs_42 : decode cX12_weighs 42 = .ok (.iload_n 3, 1) := by decide +kernel
theorem dX12_weighs_43 : decode cX12_weighs 43 = .ok (.goto 20, 3) := by decide +kernel
theorem dX12_weighs_46 : decode cX12_weighs 46 = .ok (.aload_n 0, 1) := by decide +kernel
theorem dX12_weighs_47 : decode cX12_weighs 47 = .ok (.getfield 7, 3) := by decide +kernel
theorem dX12_weighs_50 : decode cX12_weighs 50 = .ok (.iload_n 1, 1) := by decide +kernel
theorem dX12_weighs_51 : decode cX12_weighs 51 = .ok (.iaload, 1) := by decide +kernel
theorem dX12_weighs_52 : decode cX12_weighs 52 = .ok (.iconst 4, 1) := by decide +kernel
theorem dX12_weighs_53 : decode cX12_weighs 53 = .ok (.if_icmp .ne 9, 3) := by decide +kernel
theorem dX12_weighs_56 : decode cX12_weighs 56 = .ok (.iconst 2, 1) := by decide +kernel
theorem dX12_weighs_57 : decode cX12_weighs 57 = .ok (.iload_n 3, 1) := by decide +kernel
theorem dX12_weighs_58 : decode cX12_weighs 58 = .ok (.imul, 1) := by decide +kernel
theorem dX12_weighs_59 : decode cX12_weighs 59 = .ok (.goto 4, 3) := by decide +kernel
theorem dX12_weighs_62 : decode cX12_weighs 62 = .ok (.iconst 0, 1) := by decide +kernel
theorem dX12_weighs_63 : decode cX12_weighs 63 = .ok (.iadd, 1) := by decide +kernel
theorem dX12_weighs_64 : decode cX12_weighs 64 = .ok (.ireturn, 1) := by decide +kernel
theorem dX12_cabinWeighs_0 : decode cX12_cabinWeighs 0 = .ok (.bipush 10, 2) := by decide +kernel
theorem dX12_cabinWeighs_2 : decode cX12_cabinWeighs 2 = .ok (.istore 4, 2) := by decide +kernel
theorem dX12_cabinWeighs_4 : decode cX12_cabinWeighs 4 = .ok (.iconst 0, 1) := by decide +kernel
theorem dX12_cabinWeighs_5 : decode cX12_cabinWeighs 5 = .ok (.istore 5, 2) := by decide +kernel
theorem dX12_cabinWeighs_7 : decode cX12_cabinWeighs 7 = .ok (.iload 5, 2) := by decide +kernel
theorem dX12_cabinWeighs_9 : decode cX12_cabinWeighs 9 = .ok (.aload_n 0, 1) := by decide +kernel
theorem dX12_cabinWeighs_10 : decode cX12_cabinWeighs 10 = .ok (.getfield 107, 3) := by decide +kernel
theorem dX12_cabinWeighs_13 : decode cX12_cabinWeighs 13 = .ok (.if_icmp .ge 62, 3) := by decide +kernel
theorem dX12_cabinWeighs_16 : decode cX12_cabinWeighs 16 = .ok (.aload_n 0, 1) := by decide +kernel
theorem dX12_cabinWeighs_17 : decode cX12_cabinWeighs 17 = .ok (.getfield 16, 3) := by decide +kernel
theorem dX12_cabinWeighs_20 : decode cX12_cabinWeighs 20 = .ok (.iload 5, 2) := by decide +kernel
theorem dX12_cabinWeighs_22 : decode cX12_cabinWeighs 22 = .ok (.iaload, 1) := by decide +kernel
theorem dX12_cabinWeighs_23 : decode cX12_cabinWeighs 23 = .ok (.iload_n 1, 1) := by decide +kernel
theorem dX12_cabinWeighs_24 : decode cX12_cabinWeighs 24 = .ok (.if_icmp .ne 7, 3) := by decide +kernel
theorem dX12_cabinWeighs_27 : decode cX12_cabinWeighs 27 = .ok (.iconst 1, 1) := by decide +kernel
theorem dX12_cabinWeighs_28 : decode cX12_cabinWeighs 28 = .ok (.goto 4, 3) := by decide +kernel
theorem dX12_cabinWeighs_31 : decode cX12_cabinWeighs 31 = .ok (.iconst 0, 1) := by decide +kernel
theorem dX12_cabinWeighs_32 : decode cX12_cabinWeighs 32 = .ok (.iload_n 3, 1) := by decide +kernel
theorem dX12_cabinWeighs_33 : decode cX12_cabinWeighs 33 = .ok (.iload 5, 2) := by decide +kernel
theorem dX12_cabinWeighs_35 : decode cX12_cabinWeighs 35 = .ok (.invokestatic 113, 3) := by decide +kernel
theorem dX12_cabinWeighs_38 : decode cX12_cabinWeighs 38 = .ok (.if_icmp .eq 7, 3) := by decide +kernel
theorem dX12_cabinWeighs_41 : decode cX12_cabinWeighs 41 = .ok (.iconst 1, 1) := by decide +kernel
theorem dX12_cabinWeighs_42 : decode cX12_cabinWeighs 42 = .ok (.goto 4, 3) := by decide +kernel
theorem dX12_cabinWeighs_45 : decode cX12_cabinWeighs 45 = .ok (.iconst 0, 1) := by decide +kernel
theorem dX12_cabinWeighs_46 : decode cX12_cabinWeighs 46 = .ok (.istore 6, 2) := by decide +kernel
theorem dX12_cabinWeighs_48 : decode cX12_cabinWeighs 48 = .ok (.iload 4, 2) := by decide +kernel
theorem dX12_cabinWeighs_50 : decode cX12_cabinWeighs 50 = .ok (.iload 6, 2) := by decide +kernel
theorem dX12_cabinWeighs_52 : decode cX12_cabinWeighs 52 = .ok (.ifCond .eq 13, 3) := by decide +kernel
theorem dX12_cabinWeighs_55 : decode cX12_cabinWeighs 55 = .ok (.aload_n 0, 1) := by decide +kernel
theorem dX12_cabinWeighs_56 : decode cX12_cabinWeighs 56 = .ok (.iload 5, 2) := by decide +kernel
theorem dX12_cabinWeighs_58 : decode cX12_cabinWeighs 58 = .ok (.iload_n 2, 1) := by decide +kernel
theorem dX12_cabinWeighs_59 : decode cX12_cabinWeighs 59 = .ok (.invokevirtual 116, 3) := by decide +kernel
theorem dX12_cabinWeighs_62 : decode cX12_cabinWeighs 62 = .ok (.goto 4, 3) := by decide +kernel
theorem dX12_cabinWeighs_65 : decode cX12_cabinWeighs 65 = .ok (.iconst 0, 1) := by decide +kernel
theorem dX12_cabinWeighs_66 : decode cX12_cabinWeighs 66 = .ok (.iadd, 1) := by decide +kernel
theorem dX12_cabinWeighs_67 : decode cX12_cabinWeighs 67 = .ok (.istore 4, 2) := by decide +kernel
theorem dX12_cabinWeighs_69 : decode cX12_cabinWeighs 69 = .ok (.iinc 5 1, 3) := by decide +kernel
theorem dX12_cabinWeighs_72 : decode cX12_cabinWeighs 72 = .ok (.goto (-65), 3) := by decide +kernel
theorem dX12_cabinWeighs_75 : decode cX12_cabinWeighs 75 = .ok (.iload 4, 2) := by decide +kernel
theorem dX12_cabinWeighs_77 : decode cX12_cabinWeighs 77 = .ok (.ireturn, 1) := by decide +kernel
theorem dX12_turnsAt_0 : decode cX12_turnsAt 0 = .ok (.iload_n 1, 1) := by decide +kernel
theorem dX12_turnsAt_1 : decode cX12_turnsAt 1 = .ok (.ifCond .ne 7, 3) := by decide +kernel
theorem dX12_turnsAt_4 : decode cX12_turnsAt 4 = .ok (.iconst 0, 1) := by decide +kernel
theorem dX12_turnsAt_5 : decode cX12_turnsAt 5 = .ok (.goto 11, 3) := by decide +kernel
theorem dX12_turnsAt_8 : decode cX12_turnsAt 8 = .ok (.aload_n 0, 1) := by decide +kernel
theorem dX12_turnsAt_9 : decode cX12_turnsAt 9 = .ok (.getfield 83, 3) := by decide +kernel
theorem dX12_turnsAt_12 : decode cX12_turnsAt 12 = .ok (.iload_n 1, 1) := by decide +kernel
theorem dX12_turnsAt_13 : decode cX12_turnsAt 13 = .ok (.iload_n 1, 1) := by decide +kernel
theorem dX12_turnsAt_14 : decode cX12_turnsAt 14 = .ok (.imul, 1) := by decide +kernel
theorem dX12_turnsAt_15 : decode cX12_turnsAt 15 = .ok (.idiv, 1) := by decide +kernel
theorem dX12_turnsAt_16 : decode cX12_turnsAt 16 = .ok (.ireturn, 1) := by decide +kernel
theorem dX12_armBy_0 : decode cX12_armBy 0 = .ok (.aload_n 0, 1) := by decide +kernel
theorem dX12_armBy_1 : decode cX12_armBy 1 = .ok (.iconst 0, 1) := by decide +kernel
theorem dX12_armBy_2 : decode cX12_armBy 2 = .ok (.iload_n 3, 1) := by decide +kernel
theorem dX12_armBy_3 : decode cX12_armBy 3 = .ok (.iload 4, 2) := by decide +kernel
theorem dX12_armBy_5 : decode cX12_armBy 5 = .ok (.invokevirtual 120, 3) := by decide +kernel
theorem dX12_armBy_8 : decode cX12_armBy 8 = .ok (.istore 5, 2) := by decide +kernel
theorem dX12_armBy_10 : decode cX12_armBy 10 = .ok (.aload_n 0, 1) := by decide +kernel
theorem dX12_armBy_11 : decode cX12_armBy 11 = .ok (.iconst 1, 1) := by decide +kernel
theorem dX12_armBy_12 : decode cX12_armBy 12 = .ok (.iload_n 3, 1) := by decide +kernel
theorem dX12_armBy_13 : decode cX12_armBy 13 = .ok (.iload 4, 2) := by decide +kernel
theorem dX12_armBy_15 : decode cX12_armBy 15 = .ok (.invokevirtual 120, 3) := by decide +kernel
theorem dX12_armBy_18 : decode cX12_armBy 18 = .ok (.istore 6, 2) := by decide +kernel
theorem dX12_armBy_20 : decode cX12_armBy 20 = .ok (.iload_n 2, 1) := by decide +kernel
theorem dX12_armBy_21 : decode cX12_armBy 21 = .ok (.iload 6, 2) := by decide +kernel
theorem dX12_armBy_23 : decode cX12_armBy 23 = .ok (.imul, 1) := by decide +kernel
theorem dX12_armBy_24 : decode cX12_armBy 24 = .ok (.iload 5, 2) := by decide +kernel
theorem dX12_armBy_26 : decode cX12_armBy 26 = .ok (.iload 6, 2) := by decide +kernel
theorem dX12_armBy_28 : decode cX12_armBy 28 = .ok (.iadd, 1) := by decide +kernel
theorem dX12_armBy_29 : decode cX12_armBy 29 = .ok (.idiv, 1) := by decide +kernel
theorem dX12_armBy_30 : decode cX12_armBy 30 = .ok (.istore 7, 2) := by decide +kernel
theorem dX12_armBy_32 : decode cX12_armBy 32 = .ok (.iload_n 1, 1) := by decide +kernel
theorem dX12_armBy_33 : decode cX12_armBy 33 = .ok (.ifCond .ne 8, 3) := by decide +kernel
theorem dX12_armBy_36 : decode cX12_armBy 36 = .ok (.iload 7, 2) := by decide +kernel
theorem dX12_armBy_38 : decode cX12_armBy 38 = .ok (.goto 7, 3) := by decide +kernel
theorem dX12_armBy_41 : decode cX12_armBy 41 = .ok (.iload_n 2, 1) := by decide +kernel
theorem dX12_armBy_42 : decode cX12_armBy 42 = .ok (.iload 7, 2) := by decide +kernel
theorem dX12_armBy_44 : decode cX12_armBy 44 = .ok (.isub, 1) := by decide +kernel
theorem dX12_armBy_45 : decode cX12_armBy 45 = .ok (.ireturn, 1) := by decide +kernel
theorem dX12_floorBy_0 : decode cX12_floorBy 0 = .ok (.aload_n 0, 1) := by decide +kernel
theorem dX12_floorBy_1 : decode cX12_floorBy 1 = .ok (.iload_n 1, 1) := by decide +kernel
theorem dX12_floorBy_2 : decode cX12_floorBy 2 = .ok (.iload_n 2, 1) := by decide +kernel
theorem dX12_floorBy_3 : decode cX12_floorBy 3 = .ok (.iload_n 3, 1) := by decide +kernel
theorem dX12_floorBy_4 : decode cX12_floorBy 4 = .ok (.iload 4, 2) := by decide +kernel
theorem dX12_floorBy_6 : decode cX12_floorBy 6 = .ok (.invokevirtual 124, 3) := by decide +kernel
theorem dX12_floorBy_9 : decode cX12_floorBy 9 = .ok (.aload_n 0, 1) := by decide +kernel
theorem dX12_floorBy_10 : decode cX12_floorBy 10 = .ok (.iload_n 2, 1) := by decide +kernel
theorem dX12_floorBy_11 : decode cX12_floorBy 11 = .ok (.invokevirtual 128, 3) := by decide +kernel
theorem dX12_floorBy_14 : decode cX12_floorBy 14 = .ok (.imul, 1) := by decide +kernel
theorem dX12_floorBy_15 : decode cX12_floorBy 15 = .ok (.aload_n 0, 1) := by decide +kernel
theorem dX12_floorBy_16 : decode cX12_floorBy 16 = .ok (.iload_n 2, 1) := by decide +kernel
theorem dX12_floorBy_17 : decode cX12_floorBy 17 = .ok (.invokevirtual 128, 3) := by decide +kernel
theorem dX12_floorBy_20 : decode cX12_floorBy 20 = .ok (.imul, 1) := by decide +kernel
theorem dX12_floorBy_21 : decode cX12_floorBy 21 = .ok (.ireturn, 1) := by decide +kernel
theorem dX12_strainAt_0 : decode cX12_strainAt 0 = .ok (.aload_n 0, 1) := by decide +kernel
theorem dX12_strainAt_1 : decode cX12_strainAt 1 = .ok (.iconst 0, 1) := by decide +kernel
theorem dX12_strainAt_2 : decode cX12_strainAt 2 = .ok (.iload_n 2, 1) := by decide +kernel
theorem dX12_strainAt_3 : decode cX12_strainAt 3 = .ok (.iconst 0, 1) := by decide +kernel
theorem dX12_strainAt_4 : decode cX12_strainAt 4 = .ok (.invokevirtual 120, 3) := by decide +kernel
theorem dX12_strainAt_7 : decode cX12_strainAt 7 = .ok (.aload_n 0, 1) := by decide +kernel
theorem dX12_strainAt_8 : decode cX12_strainAt 8 = .ok (.iconst 0, 1) := by decide +kernel
theorem dX12_strainAt_9 : decode cX12_strainAt 9 = .ok (.iload_n 1, 1) := by decide +kernel
theorem dX12_strainAt_10 : decode cX12_strainAt 10 = .ok (.iload_n 2, 1) := by decide +kernel
theorem dX12_strainAt_11 : decode cX12_strainAt 11 = .ok (.iconst 0, 1) := by decide +kernel
theorem dX12_strainAt_12 : decode cX12_strainAt 12 = .ok (.invokevirtual 132, 3) := by decide +kernel
theorem dX12_strainAt_15 : decode cX12_strainAt 15 = .ok (.imul, 1) := by decide +kernel
theorem dX12_strainAt_16 : decode cX12_strainAt 16 = .ok (.bipush 100, 2) := by decide +kernel
theorem dX12_strainAt_18 : decode cX12_strainAt 18 = .ok (.idiv, 1) := by decide +kernel
theorem dX12_strainAt_19 : decode cX12_strainAt 19 = .ok (.ireturn, 1) := by decide +kernel
theorem dX12_inCabin_0 : decode cX12_inCabin 0 = .ok (.iconst 0, 1) := by decide +kernel
theorem dX12_inCabin_1 : decode cX12_inCabin 1 = .ok (.istore_n 2, 1) := by decide +kernel
theorem dX12_inCabin_2 : decode cX12_inCabin 2 = .ok (.iconst 0, 1) := by decide +kernel
theorem dX12_inCabin_3 : decode cX12_inCabin 3 = .ok (.istore_n 3, 1) := by decide +kernel
theorem dX12_inCabin_4 : decode cX12_inCabin 4 = .ok (.iload_n 3, 1) := by decide +kernel
theorem dX12_inCabin_5 : decode cX12_inCabin 5 = .ok (.aload_n 0, 1) := by decide +kernel
theorem dX12_inCabin_6 : decode cX12_inCabin 6 = .ok (.getfield 107, 3) := by decide +kernel
theorem dX12_inCabin_9 : decode cX12_inCabin 9 = .ok (.if_icmp .ge 27, 3) := by decide +kernel
theorem dX12_inCabin_12 : decode cX12_inCabin 12 = .ok (.iload_n 2, 1) := by decide +kernel
theorem dX12_inCabin_13 : decode cX12_inCabin 13 = .ok (.aload_n 0, 1) := by decide +kernel
theorem dX12_inCabin_14 : decode cX12_inCabin 14 = .ok (.getfield 16, 3) := by decide +kernel
theorem dX12_inCabin_17 : decode cX12_inCabin 17 = .ok (.iload_n 3, 1) := by decide +kernel
theorem dX12_inCabin_18 : decode cX12_inCabin 18 = .ok (.iaload, 1) := by decide +kernel
theorem dX12_inCabin_19 : decode cX12_inCabin 19 = .ok (.iload_n 1, 1) := by decide +kernel
theorem dX12_inCabin_20 : decode cX12_inCabin 20 = .ok (.if_icmp .ne 7, 3) := by decide +kernel
theorem dX12_inCabin_23 : decode cX12_inCabin 23 = .ok (.iconst 1, 1) := by decide +kernel
theorem dX12_inCabin_24 : decode cX12_inCabin 24 = .ok (.goto 4, 3) := by decide +kernel
theorem dX12_inCabin_27 : decode cX12_inCabin 27 = .ok (.iconst 0, 1) := by decide +kernel
theorem dX12_inCabin_28 : decode cX12_inCabin 28 = .ok (.iadd, 1) := by decide +kernel
theorem dX12_inCabin_29 : decode cX12_inCabin 29 = .ok (.istore_n 2, 1) := by decide +kernel
theorem dX12_inCabin_30 : decode cX12_inCabin 30 = .ok (.iinc 3 1, 3) := by decide +kernel
theorem dX12_inCabin_33 : decode cX12_inCabin 33 = .ok (.goto (-29), 3) := by decide +kernel
theorem dX12_inCabin_36 : decode cX12_inCabin 36 = .ok (.iload_n 2, 1) := by decide +kernel
theorem dX12_inCabin_37 : decode cX12_inCabin 37 = .ok (.ireturn, 1) := by decide +kernel
theorem dX12_cabinNow_0 : decode cX12_cabinNow 0 = .ok (.iload_n 2, 1) := by decide +kernel
theorem dX12_cabinNow_1 : decode cX12_cabinNow 1 = .ok (.tableswitch 68 0 2 #[27, 38, 53], 27) := by decide +kernel
theorem dX12_cabinNow_28 : decode cX12_cabinNow 28 = .ok (.aload_n 0, 1) := by decide +kernel
theorem dX12_cabinNow_29 : decode cX12_cabinNow 29 = .ok (.iload_n 1, 1) := by decide +kernel
theorem dX12_cabinNow_30 : decode cX12_cabinNow 30 = .ok (.aload_n 0, 1) := by decide +kernel
theorem dX12_cabinNow_31 : decode cX12_cabinNow 31 = .ok (.getfield 104, 3) := by decide +kernel
theorem dX12_cabinNow_34 : decode cX12_cabinNow 34 = .ok (.iconst 0, 1) := by decide +kernel
theorem dX12_cabinNow_35 : decode cX12_cabinNow 35 = .ok (.invokevirtual 120, 3) := by decide +kernel
theorem dX12_cabinNow_38 : decode cX12_cabinNow 38 = .ok (.ireturn, 1) := by decide +kernel
theorem dX12_cabinNow_39 : decode cX12_cabinNow 39 = .ok (.aload_n 0, 1) := by decide +kernel
theorem dX12_cabinNow_40 : decode cX12_cabinNow 40 = .ok (.iload_n 1, 1) := by decide +kernel
theorem dX12_cabinNow_41 : decode cX12_cabinNow 41 = .ok (.aload_n 0, 1) := by decide +kernel
theorem dX12_cabinNow_42 : decode cX12_cabinNow 42 = .ok (.getfield 80, 3) := by decide +kernel
theorem dX12_cabinNow_45 : decode cX12_cabinNow 45 = .ok (.aload_n 0, 1) := by decide +kernel
theorem dX12_cabinNow_46 : decode cX12_cabinNow 46 = .ok (.getfield 104, 3) := by decide +kernel
theorem dX12_cabinNow_49 : decode cX12_cabinNow 49 = .ok (.iconst 0, 1) := by decide +kernel
theorem dX12_cabinNow_50 : decode cX12_cabinNow 50 = .ok (.invokevirtual 124, 3) := by decide +kernel
theorem dX12_cabinNow_53 : decode cX12_cabinNow 53 = .ok (.ireturn, 1) := by decide +kernel
theorem dX12_cabinNow_54 : decode cX12_cabinNow 54 = .ok (.aload_n 0, 1) := by decide +kernel
theorem dX12_cabinNow_55 : decode cX12_cabinNow 55 = .ok (.iload_n 1, 1) := by decide +kernel
theorem dX12_cabinNow_56 : decode cX12_cabinNow 56 = .ok (.aload_n 0, 1) := by decide +kernel
theorem dX12_cabinNow_57 : decode cX12_cabinNow 57 = .ok (.getfield 80, 3) := by decide +kernel
theorem dX12_cabinNow_60 : decode cX12_cabinNow 60 = .ok (.aload_n 0, 1) := by decide +kernel
theorem dX12_cabinNow_61 : decode cX12_cabinNow 61 = .ok (.getfield 104, 3) := by decide +kernel
theorem dX12_cabinNow_64 : decode cX12_cabinNow 64 = .ok (.iconst 0, 1) := by decide +kernel
theorem dX12_cabinNow_65 : decode cX12_cabinNow 65 = .ok (.invokevirtual 132, 3) := by decide +kernel
theorem dX12_cabinNow_68 : decode cX12_cabinNow 68 = .ok (.ireturn, 1) := by decide +kernel
theorem dX12_cabinNow_69 : decode cX12_cabinNow 69 = .ok (.aload_n 0, 1) := by decide +kernel
theorem dX12_cabinNow_70 : decode cX12_cabinNow 70 = .ok (.iload_n 1, 1) := by decide +kernel
theorem dX12_cabinNow_71 : decode cX12_cabinNow 71 = .ok (.invokevirtual 135, 3) := by decide +kernel
theorem dX12_cabinNow_74 : decode cX12_cabinNow 74 = .ok (.ireturn, 1) := by decide +kernel
theorem dX12_cabin_0 : decode cX12_cabin 0 = .ok (.iload_n 1, 1) := by decide +kernel
theorem dX12_cabin_1 : decode cX12_cabin 1 = .ok (.iconst 0, 1) := by decide +kernel
theorem dX12_cabin_2 : decode cX12_cabin 2 = .ok (.iconst 1, 1) := by decide +kernel
theorem dX12_cabin_3 : decode cX12_cabin 3 = .ok (.invokestatic 53, 3) := by decide +kernel
theorem dX12_cabin_6 : decode cX12_cabin 6 = .ok (.ifCond .ne 6, 3) := by decide +kernel
theorem dX12_cabin_9 : decode cX12_cabin 9 = .ok (.bipush (-101), 2) := by decide +kernel
theorem dX12_cabin_11 : decode cX12_cabin 11 = .ok (.ireturn, 1) := by decide +kernel
theorem dX12_cabin_12 : decode cX12_cabin 12 = .ok (.iload_n 2, 1) := by decide +kernel
theorem dX12_cabin_13 : decode cX12_cabin 13 = .ok (.iconst 0, 1) := by decide +kernel
theorem dX12_cabin_14 : decode cX12_cabin 14 = .ok (.iconst 3, 1) := by decide +kernel
theorem dX12_cabin_15 : decode cX12_cabin 15 = .ok (.invokestatic 53, 3) := by decide +kernel
theorem dX12_cabin_18 : decode cX12_cabin 18 = .ok (.ifCond .ne 6, 3) := by decide +kernel
theorem dX12_cabin_21 : decode cX12_cabin 21 = .ok (.bipush (-102), 2) := by decide +kernel
theorem dX12_cabin_23 : decode cX12_cabin 23 = .ok (.ireturn, 1) := by decide +kernel
theorem dX12_cabin_24 : decode cX12_cabin 24 = .ok (.aload_n 0, 1) := by decide +kernel
theorem dX12_cabin_25 : decode cX12_cabin 25 = .ok (.getfield 95, 3) := by decide +kernel
theorem dX12_cabin_28 : decode cX12_cabin 28 = .ok (.ifCond .eq 12, 3) := by decide +kernel
theorem dX12_cabin_31 : decode cX12_cabin 31 = .ok (.aload_n 0, 1) := by decide +kernel
theorem dX12_cabin_32 : decode cX12_cabin 32 = .ok (.iload_n 1, 1) := by decide +kernel
theorem dX12_cabin_33 : decode cX12_cabin 33 = .ok (.iload_n 2, 1) := by decide +kernel
theorem dX12_cabin_34 : decode cX12_cabin 34 = .ok (.invokevirtual 138, 3) := by decide +kernel
theorem dX12_cabin_37 : decode cX12_cabin 37 = .ok (.goto 5, 3) := by decide +kernel
theorem dX12_cabin_40 : decode cX12_cabin 40 = .ok (.bipush (-103), 2) := by decide +kernel
theorem dX12_cabin_42 : decode cX12_cabin 42 = .ok (.ireturn, 1) := by decide +kernel
theorem dX12_isThing_0 : decode cX12_isThing 0 = .ok (.iload_n 1, 1) := by decide +kernel
theorem dX12_isThing_1 : decode cX12_isThing 1 = .ok (.iconst 0, 1) := by decide +kernel
theorem dX12_isThing_2 : decode cX12_isThing 2 = .ok (.aload_n 0, 1) := by decide +kernel
theorem dX12_isThing_3 : decode cX12_isThing 3 = .ok (.getfield 107, 3) := by decide +kernel
theorem dX12_isThing_6 : decode cX12_isThing 6 = .ok (.iconst 1, 1) := by decide +kernel
theorem dX12_isThing_7 : decode cX12_isThing 7 = .ok (.isub, 1) := by decide +kernel
theorem dX12_isThing_8 : decode cX12_isThing 8 = .ok (.invokestatic 53, 3) := by decide +kernel
theorem dX12_isThing_11 : decode cX12_isThing 11 = .ok (.ireturn, 1) := by decide +kernel
theorem dX12_thing_0 : decode cX12_thing 0 = .ok (.iload_n 3, 1) := by decide +kernel
theorem dX12_thing_1 : decode cX12_thing 1 = .ok (.iconst 0, 1) := by decide +kernel
theorem dX12_thing_2 : decode cX12_thing 2 = .ok (.iconst 1, 1) := by decide +kernel
theorem dX12_thing_3 : decode cX12_thing 3 = .ok (.invokestatic 53, 3) := by decide +kernel
theorem dX12_thing_6 : decode cX12_thing 6 = .ok (.ifCond .ne 6, 3) := by decide +kernel
theorem dX12_thing_9 : decode cX12_thing 9 = .ok (.bipush (-101), 2) := by decide +kernel
theorem dX12_thing_11 : decode cX12_thing 11 = .ok (.ireturn, 1) := by decide +kernel
theorem dX12_thing_12 : decode cX12_thing 12 = .ok (.iload_n 1, 1) := by decide +kernel
theorem dX12_thing_13 : decode cX12_thing 13 = .ok (.iconst 0, 1) := by decide +kernel
theorem dX12_thing_14 : decode cX12_thing 14 = .ok (.iconst 4, 1) := by decide +kernel
theorem dX12_thing_15 : decode cX12_thing 15 = .ok (.invokestatic 53, 3) := by decide +kernel
theorem dX12_thing_18 : decode cX12_thing 18 = .ok (.ifCond .eq 13, 3) := by decide +kernel
theorem dX12_thing_21 : decode cX12_thing 21 = .ok (.iload_n 2, 1) := by decide +kernel
theorem dX12_thing_22 : decode cX12_thing 22 = .ok (.iconst 1, 1) := by decide +kernel
theorem dX12_thing_23 : decode cX12_thing 23 = .ok (.bipush 20, 2) := by decide +kernel
theorem dX12_thing_25 : decode cX12_thing 25 = .ok (.invokestatic 53, 3) := by decide +kernel
theorem dX12_thing_28 : decode cX12_thing 28 = .ok (.ifCond .ne 6, 3) := by decide +kernel
theorem dX12_thing_31 : decode cX12_thing 31 = .ok (.bipush (-102), 2) := by decide +kernel
theorem dX12_thing_33 : decode cX12_thing 33 = .ok (.ireturn, 1) := by decide +kernel
theorem dX12_thing_34 : decode cX12_thing 34 = .ok (.aload_n 0, 1) := by decide +kernel
theorem dX12_thing_35 : decode cX12_thing 35 = .ok (.getfield 95, 3) := by decide +kernel
theorem dX12_thing_38 : decode cX12_thing 38 = .ok (.ifCond .ne 6, 3) := by decide +kernel
theorem dX12_thing_41 : decode cX12_thing 41 = .ok (.bipush (-103), 2) := by decide +kernel
theorem dX12_thing_43 : decode cX12_thing 43 = .ok (.ireturn, 1) := by decide +kernel
theorem dX12_thing_44 : decode cX12_thing 44 = .ok (.aload_n 0, 1) := by decide +kernel
theorem dX12_thing_45 : decode cX12_thing 45 = .ok (.getfield 107, 3) := by decide +kernel
theorem dX12_thing_48 : decode cX12_thing 48 = .ok (.bipush 6, 2) := by decide +kernel
theorem dX12_thing_50 : decode cX12_thing 50 = .ok (.if_icmp .ne 6, 3) := by decide +kernel
theorem dX12_thing_53 : decode cX12_thing 53 = .ok (.bipush (-104), 2) := by decide +kernel
theorem dX12_thing_55 : decode cX12_thing 55 = .ok (.ireturn, 1) := by decide +kernel
theorem dX12_thing_56 : decode cX12_thing 56 = .ok (.aload_n 0, 1) := by decide +kernel
theorem dX12_thing_57 : decode cX12_thing 57 = .ok (.getfield 7, 3) := by decide +kernel
theorem dX12_thing_60 : decode cX12_thing 60 = .ok (.aload_n 0, 1) := by decide +kernel
theorem dX12_thing_61 : decode cX12_thing 61 = .ok (.getfield 107, 3) := by decide +kernel
theorem dX12_thing_64 : decode cX12_thing 64 = .ok (.iload_n 1, 1) := by decide +kernel
theorem dX12_thing_65 : decode cX12_thing 65 = .ok (.iastore, 1) := by decide +kernel
theorem dX12_thing_66 : decode cX12_thing 66 = .ok (.aload_n 0, 1) := by decide +kernel
theorem dX12_thing_67 : decode cX12_thing 67 = .ok (.getfield 13, 3) := by decide +kernel
theorem dX12_thing_70 : decode cX12_thing 70 = .ok (.aload_n 0, 1) := by decide +kernel
theorem dX12_thing_71 : decode cX12_thing 71 = .ok (.getfield 107, 3) := by decide +kernel
theorem dX12_thing_74 : decode cX12_thing 74 = .ok (.iload_n 2, 1) := by decide +kernel
theorem dX12_thing_75 : decode cX12_thing 75 = .ok (.iastore, 1) := by decide +kernel
theorem dX12_thing_76 : decode cX12_thing 76 = .ok (.aload_n 0, 1) := by decide +kernel
theorem dX12_thing_77 : decode cX12_thing 77 = .ok (.getfield 16, 3) := by decide +kernel
theorem dX12_thing_80 : decode cX12_thing 80 = .ok (.aload_n 0, 1) := by decide +kernel
theorem dX12_thing_81 : decode cX12_thing 81 = .ok (.getfield 107, 3) := by decide +kernel
theorem dX12_thing_84 : decode cX12_thing 84 = .ok (.iload_n 3, 1) := by decide +kernel
theorem dX12_thing_85 : decode cX12_thing 85 = .ok (.iastore, 1) := by decide +kernel
theorem dX12_thing_86 : decode cX12_thing 86 = .ok (.aload_n 0, 1) := by decide +kernel
theorem dX12_thing_87 : decode cX12_thing 87 = .ok (.getfield 19, 3) := by decide +kernel
theorem dX12_thing_90 : decode cX12_thing 90 = .ok (.aload_n 0, 1) := by decide +kernel
theorem dX12_thing_91 : decode cX12_thing 91 = .ok (.getfield 107, 3) := by decide +kernel
theorem dX12_thing_94 : decode cX12_thing 94 = .ok (.aload_n 0, 1) := by decide +kernel
theorem dX12_thing_95 : decode cX12_thing 95 = .ok (.getfield 104, 3) := by decide +kernel
theorem dX12_thing_98 : decode cX12_thing 98 = .ok (.iastore, 1) := by decide +kernel
theorem dX12_thing_99 : decode cX12_thing 99 = .ok (.aload_n 0, 1) := by decide +kernel
theorem dX12_thing_100 : decode cX12_thing 100 = .ok (.dup, 1) := by decide +kernel
theorem dX12_thing_101 : decode cX12_thing 101 = .ok (.getfield 107, 3) := by decide +kernel
theorem dX12_thing_104 : decode cX12_thing 104 = .ok (.iconst 1, 1) := by decide +kernel
theorem dX12_thing_105 : decode cX12_thing 105 = .ok (.iadd, 1) := by decide +kernel
theorem dX12_thing_106 : decode cX12_thing 106 = .ok (.putfield 107, 3) := by decide +kernel
theorem dX12_thing_109 : decode cX12_thing 109 = .ok (.aload_n 0, 1) := by decide +kernel
theorem dX12_thing_110 : decode cX12_thing 110 = .ok (.getfield 107, 3) := by decide +kernel
theorem dX12_thing_113 : decode cX12_thing 113 = .ok (.iconst 1, 1) := by decide +kernel
theorem dX12_thing_114 : decode cX12_thing 114 = .ok (.isub, 1) := by decide +kernel
theorem dX12_thing_115 : decode cX12_thing 115 = .ok (.ireturn, 1) := by decide +kernel
theorem dX12_thingNow_0 : decode cX12_thingNow 0 = .ok (.iload_n 2, 1) := by decide +kernel
theorem dX12_thingNow_1 : decode cX12_thingNow 1 = .ok (.tableswitch 62 0 3 #[31, 38, 45, 52], 31) := by decide +kernel
theorem dX12_thingNow_32 : decode cX12_thingNow 32 = .ok (.aload_n 0, 1) := by decide +kernel
theorem dX12_thingNow_33 : decode cX12_thingNow 33 = .ok (.getfield 7, 3) := by decide +kernel
theorem dX12_thingNow_36 : decode cX12_thingNow 36 = .ok (.iload_n 1, 1) := by decide +kernel
theorem dX12_thingNow_37 : decode cX12_thingNow 37 = .ok (.iaload, 1) := by decide +kernel
theorem dX12_thingNow_38 : decode cX12_thingNow 38 = .ok (.ireturn, 1) := by decide +kernel
theorem dX12_thingNow_39 : decode cX12_thingNow 39 = .ok (.aload_n 0, 1) := by decide +kernel
theorem dX12_thingNow_40 : decode cX12_thingNow 40 = .ok (.getfield 13, 3) := by decide +kernel
theorem dX12_thingNow_43 : decode cX12_thingNow 43 = .ok (.iload_n 1, 1) := by decide +kernel
theorem dX12_thingNow_44 : decode cX12_thingNow 44 = .ok (.iaload, 1) := by decide +kernel
theorem dX12_thingNow_45 : decode cX12_thingNow 45 = .ok (.ireturn, 1) := by decide +kernel
theorem dX12_thingNow_46 : decode cX12_thingNow 46 = .ok (.aload_n 0, 1) := by decide +kernel
theorem dX12_thingNow_47 : decode cX12_thingNow 47 = .ok (.getfield 16, 3) := by decide +kernel
theorem dX12_thingNow_50 : decode cX12_thingNow 50 = .ok (.iload_n 1, 1) := by decide +kernel
theorem dX12_thingNow_51 : decode cX12_thingNow 51 = .ok (.iaload, 1) := by decide +kernel
theorem dX12_thingNow_52 : decode cX12_thingNow 52 = .ok (.ireturn, 1) := by decide +kernel
theorem dX12_thingNow_53 : decode cX12_thingNow 53 = .ok (.aload_n 0, 1) := by decide +kernel
theorem dX12_thingNow_54 : decode cX12_thingNow 54 = .ok (.iload_n 1, 1) := by decide +kernel
theorem dX12_thingNow_55 : decode cX12_thingNow 55 = .ok (.aload_n 0, 1) := by decide +kernel
theorem dX12_thingNow_56 : decode cX12_thingNow 56 = .ok (.getfield 104, 3) := by decide +kernel
theorem dX12_thingNow_59 : decode cX12_thingNow 59 = .ok (.invokevirtual 116, 3) := by decide +kernel
theorem dX12_thingNow_62 : decode cX12_thingNow 62 = .ok (.ireturn, 1) := by decide +kernel
theorem dX12_thingNow_63 : decode cX12_thingNow 63 = .ok (.aload_n 0, 1) := by decide +kernel
theorem dX12_thingNow_64 : decode cX12_thingNow 64 = .ok (.getfield 104, 3) := by decide +kernel
theorem dX12_thingNow_67 : decode cX12_thingNow 67 = .ok (.aload_n 0, 1) := by decide +kernel
theorem dX12_thingNow_68 : decode cX12_thingNow 68 = .ok (.getfield 19, 3) := by decide +kernel
theorem dX12_thingNow_71 : decode cX12_thingNow 71 = .ok (.iload_n 1, 1) := by decide +kernel
theorem dX12_thingNow_72 : decode cX12_thingNow 72 = .ok (.iaload, 1) := by decide +kernel
theorem dX12_thingNow_73 : decode cX12_thingNow 73 = .ok (.isub, 1) := by decide +kernel
theorem dX12_thingNow_74 : decode cX12_thingNow 74 = .ok (.ireturn, 1) := by decide +kernel
theorem dX12_about_0 : decode cX12_about 0 = .ok (.aload_n 0, 1) := by decide +kernel
theorem dX12_about_1 : decode cX12_about 1 = .ok (.iload_n 1, 1) := by decide +kernel
theorem dX12_about_2 : decode cX12_about 2 = .ok (.invokevirtual 141, 3) := by decide +kernel
theorem dX12_about_5 : decode cX12_about 5 = .ok (.ifCond .ne 8, 3) := by decide +kernel
theorem dX12_about_8 : decode cX12_about 8 = .ok (.bipush (-101), 2) := by decide +kernel
theorem dX12_about_10 : decode cX12_about 10 = .ok (.goto 23, 3) := by decide +kernel
theorem dX12_about_13 : decode cX12_about 13 = .ok (.iload_n 2, 1) := by decide +kernel
theorem dX12_about_14 : decode cX12_about 14 = .ok (.iconst 0, 1) := by decide +kernel
theorem dX12_about_15 : decode cX12_about 15 = .ok (.iconst 4, 1) := by decide +kernel
theorem dX12_about_16 : decode cX12_about 16 = .ok (.invokestatic 53, 3) := by decide +kernel
theorem dX12_about_19 : decode cX12_about 19 = .ok (.ifCond .eq 12, 3) := by decide +kernel
theorem dX12_about_22 : decode cX12_about 22 = .ok (.aload_n 0, 1) := by decide +kernel
theorem dX12_about_23 : decode cX12_about 23 = .ok (.iload_n 1, 1) := by decide +kernel
theorem dX12_about_24 : decode cX12_about 24 = .ok (.iload_n 2, 1) := by decide +kernel
theorem dX12_about_25 : decode cX12_about 25 = .ok (.invokevirtual 145, 3) := by decide +kernel
theorem dX12_about_28 : decode cX12_about 28 = .ok (.goto 5, 3) := by decide +kernel
theorem dX12_about_31 : decode cX12_about 31 = .ok (.bipush (-102), 2) := by decide +kernel
theorem dX12_about_33 : decode cX12_about 33 = .ok (.ireturn, 1) := by decide +kernel
theorem dX12_as_0 : decode cX12_as 0 = .ok (.aload_n 0, 1) := by decide +kernel
theorem dX12_as_1 : decode cX12_as 1 = .ok (.iload_n 1, 1) := by decide +kernel
theorem dX12_as_2 : decode cX12_as 2 = .ok (.invokevirtual 141, 3) := by decide +kernel
theorem dX12_as_5 : decode cX12_as 5 = .ok (.ifCond .ne 6, 3) := by decide +kernel
theorem dX12_as_8 : decode cX12_as 8 = .ok (.bipush (-101), 2) := by decide +kernel
theorem dX12_as_10 : decode cX12_as 10 = .ok (.ireturn, 1) := by decide +kernel
theorem dX12_as_11 : decode cX12_as 11 = .ok (.iload_n 2, 1) := by decide +kernel
theorem dX12_as_12 : decode cX12_as 12 = .ok (.iconst 0, 1) := by decide +kernel
theorem dX12_as_13 : decode cX12_as 13 = .ok (.iconst 4, 1) := by decide +kernel
theorem dX12_as_14 : decode cX12_as 14 = .ok (.invokestatic 53, 3) := by decide +kernel
theorem dX12_as_17 : decode cX12_as 17 = .ok (.ifCond .ne 6, 3) := by decide +kernel
theorem dX12_as_20 : decode cX12_as 20 = .ok (.bipush (-102), 2) := by decide +kernel
theorem dX12_as_22 : decode cX12_as 22 = .ok (.ireturn, 1) := by decide +kernel
theorem dX12_as_23 : decode cX12_as 23 = .ok (.aload_n 0, 1) := by decide +kernel
theorem dX12_as_24 : decode cX12_as 24 = .ok (.getfield 7, 3) := by decide +kernel
theorem dX12_as_27 : decode cX12_as 27 = .ok (.iload_n 1, 1) := by decide +kernel
theorem dX12_as_28 : decode cX12_as 28 = .ok (.iaload, 1) := by decide +kernel
theorem dX12_as_29 : decode cX12_as 29 = .ok (.istore_n 3, 1) := by decide +kernel
theorem dX12_as_30 : decode cX12_as 30 = .ok (.iload_n 2, 1) := by decide +kernel
theorem dX12_as_31 : decode cX12_as 31 = .ok (.ifCond .eq 18, 3) := by decide +kernel
theorem dX12_as_34 : decode cX12_as 34 = .ok (.iload_n 3, 1) := by decide +kernel
theorem dX12_as_35 : decode cX12_as 35 = .ok (.iload_n 2, 1) := by decide +kernel
theorem dX12_as_36 : decode cX12_as 36 = .ok (.if_icmp .eq 13, 3) := by decide +kernel
theorem dX12_as_39 : decode cX12_as 39 = .ok (.iload_n 2, 1) := by decide +kernel
theorem dX12_as_40 : decode cX12_as 40 = .ok (.iconst 3, 1) := by decide +kernel
theorem dX12_as_41 : decode cX12_as 41 = .ok (.if_icmp .ne 12, 3) := by decide +kernel
theorem dX12_as_44 : decode cX12_as 44 = .ok (.iload_n 3, 1) := by decide +kernel
theorem dX12_as_45 : decode cX12_as 45 = .ok (.iconst 4, 1) := by decide +kernel
theorem dX12_as_46 : decode cX12_as 46 = .ok (.if_icmp .ne 7, 3) := by decide +kernel
theorem dX12_as_49 : decode cX12_as 49 = .ok (.iload_n 1, 1) := by decide +kernel
theorem dX12_as_50 : decode cX12_as 50 = .ok (.goto 4, 3) := by decide +kernel
theorem dX12_as_53 : decode cX12_as 53 = .ok (.iconst (-1), 1) := by decide +kernel
theorem dX12_as_54 : decode cX12_as 54 = .ok (.ireturn, 1) := by decide +kernel
theorem dX12_mayCarry_0 : decode cX12_mayCarry 0 = .ok (.aload_n 0, 1) := by decide +kernel
theorem dX12_mayCarry_1 : decode cX12_mayCarry 1 = .ok (.getfield 7, 3) := by decide +kernel
theorem dX12_mayCarry_4 : decode cX12_mayCarry 4 = .ok (.iload_n 1, 1) := by decide +kernel
theorem dX12_mayCarry_5 : decode cX12_mayCarry 5 = .ok (.iaload, 1) := by decide +kernel
theorem dX12_mayCarry_6 : decode cX12_mayCarry 6 = .ok (.iconst 2, 1) := by decide +kernel
theorem dX12_mayCarry_7 : decode cX12_mayCarry 7 = .ok (.if_icmp .ne 15, 3) := by decide +kernel
theorem dX12_mayCarry_10 : decode cX12_mayCarry 10 = .ok (.aload_n 0, 1) := by decide +kernel
theorem dX12_mayCarry_11 : decode cX12_mayCarry 11 = .ok (.aload_n 0, 1) := by decide +kernel
theorem dX12_mayCarry_12 : decode cX12_mayCarry 12 = .ok (.getfield 80, 3) := by decide +kernel
theorem dX12_mayCarry_15 : decode cX12_mayCarry 15 = .ok (.invokevirtual 128, 3) := by decide +kernel
theorem dX12_mayCarry_18 : decode cX12_mayCarry 18 = .ok (.iconst 2, 1) := by decide +kernel
theorem dX12_mayCarry_19 : decode cX12_mayCarry 19 = .ok (.if_icmp .gt 7, 3) := by decide +kernel
theorem dX12_mayCarry_22 : decode cX12_mayCarry 22 = .ok (.iconst 1, 1) := by decide +kernel
theorem dX12_mayCarry_23 : decode cX12_mayCarry 23 = .ok (.goto 4, 3) := by decide +kernel
theorem dX12_mayCarry_26 : decode cX12_mayCarry 26 = .ok (.iconst 0, 1) := by decide +kernel
theorem dX12_mayCarry_27 : decode cX12_mayCarry 27 = .ok (.ireturn, 1) := by decide +kernel
theorem dX12_carry_0 : decode cX12_carry 0 = .ok (.aload_n 0, 1) := by decide +kernel
theorem dX12_carry_1 : decode cX12_carry 1 = .ok (.iload_n 1, 1) := by decide +kernel
theorem dX12_carry_2 : decode cX12_carry 2 = .ok (.invokevirtual 141, 3) := by decide +kernel
theorem dX12_carry_5 : decode cX12_carry 5 = .ok (.ifCond .ne 6, 3) := by decide +kernel
theorem dX12_carry_8 : decode cX12_carry 8 = .ok (.bipush (-101), 2) := by decide +kernel
theorem dX12_carry_10 : decode cX12_carry 10 = .ok (.ireturn, 1) := by decide +kernel
theorem dX12_carry_11 : decode cX12_carry 11 = .ok (.aload_n 0, 1) := by decide +kernel
theorem dX12_carry_12 : decode cX12_carry 12 = .ok (.getfield 92, 3) := by decide +kernel
theorem dX12_carry_15 : decode cX12_carry 15 = .ok (.ifCond .ne 11, 3) := by decide +kernel
theorem dX12_carry_18 : decode cX12_carry 18 = .ok (.aload_n 0, 1) := by decide +kernel
theorem dX12_carry_19 : decode cX12_carry 19 = .ok (.iload_n 1, 1) := by decide +kernel
theorem dX12_carry_20 : decode cX12_carry 20 = .ok (.invokevirtual 148, 3) := by decide +kernel
theorem dX12_carry_23 : decode cX12_carry 23 = .ok (.ifCond .ne 6, 3) := by decide +kernel
theorem dX12_carry_26 : decode cX12_carry 26 = .ok (.bipush (-103), 2) := by decide +kernel
theorem dX12_carry_28 : decode cX12_carry 28 = .ok (.ireturn, 1) := by decide +kernel
theorem dX12_carry_29 : decode cX12_carry 29 = .ok (.aload_n 0, 1) := by decide +kernel
theorem dX12_carry_30 : decode cX12_carry 30 = .ok (.getfield 16, 3) := by decide +kernel
theorem dX12_carry_33 : decode cX12_carry 33 = .ok (.iload_n 1, 1) := by decide +kernel
theorem dX12_carry_34 : decode cX12_carry 34 = .ok (.iconst 1, 1) := by decide +kernel
theorem dX12_carry_35 : decode cX12_carry 35 = .ok (.aload_n 0, 1) := by decide +kernel
theorem dX12_carry_36 : decode cX12_carry 36 = .ok (.getfield 16, 3) := by decide +kernel
theorem dX12_carry_39 : decode cX12_carry 39 = .ok (.iload_n 1, 1) := by decide +kernel
theorem dX12_carry_40 : decode cX12_carry 40 = .ok (.iaload, 1) := by decide +kernel
theorem dX12_carry_41 : decode cX12_carry 41 = .ok (.isub, 1) := by decide +kernel
theorem dX12_carry_42 : decode cX12_carry 42 = .ok (.iastore, 1) := by decide +kernel
theorem dX12_carry_43 : decode cX12_carry 43 = .ok (.aload_n 0, 1) := by decide +kernel
theorem dX12_carry_44 : decode cX12_carry 44 = .ok (.getfield 16, 3) := by decide +kernel
theorem dX12_carry_47 : decode cX12_carry 47 = .ok (.iload_n 1, 1) := by decide +kernel
theorem dX12_carry_48 : decode cX12_carry 48 = .ok (.iaload, 1) := by decide +kernel
theorem dX12_carry_49 : decode cX12_carry 49 = .ok (.ireturn, 1) := by decide +kernel
theorem dX12_isLength_0 : decode cX12_isLength 0 = .ok (.iload_n 0, 1) := by decide +kernel
theorem dX12_isLength_1 : decode cX12_isLength 1 = .ok (.bipush 10, 2) := by decide +kernel
theorem dX12_isLength_3 : decode cX12_isLength 3 = .ok (.bipush 40, 2) := by decide +kernel
theorem dX12_isLength_5 : decode cX12_isLength 5 = .ok (.invokestatic 53, 3) := by decide +kernel
theorem dX12_isLength_8 : decode cX12_isLength 8 = .ok (.ireturn, 1) := by decide +kernel
theorem dX12_mayBe_0 : decode cX12_mayBe 0 = .ok (.iload_n 0, 1) := by decide +kernel
theorem dX12_mayBe_1 : decode cX12_mayBe 1 = .ok (.bipush 10, 2) := by decide +kernel
theorem dX12_mayBe_3 : decode cX12_mayBe 3 = .ok (.bipush 40, 2) := by decide +kernel
theorem dX12_mayBe_5 : decode cX12_mayBe 5 = .ok (.invokestatic 53, 3) := by decide +kernel
theorem dX12_mayBe_8 : decode cX12_mayBe 8 = .ok (.ireturn, 1) := by decide +kernel
theorem dX12_goHour_0 : decode cX12_goHour 0 = .ok (.aload_n 0, 1) := by decide +kernel
theorem dX12_goHour_1 : decode cX12_goHour 1 = .ok (.iload_n 1, 1) := by decide +kernel
theorem dX12_goHour_2 : decode cX12_goHour 2 = .ok (.putfield 80, 3) := by decide +kernel
theorem dX12_goHour_5 : decode cX12_goHour 5 = .ok (.aload_n 0, 1) := by decide +kernel
theorem dX12_goHour_6 : decode cX12_goHour 6 = .ok (.dup, 1) := by decide +kernel
theorem dX12_goHour_7 : decode cX12_goHour 7 = .ok (.getfield 104, 3) := by decide +kernel
theorem dX12_goHour_10 : decode cX12_goHour 10 = .ok (.iconst 1, 1) := by decide +kernel
theorem dX12_goHour_11 : decode cX12_goHour 11 = .ok (.iadd, 1) := by decide +kernel
theorem dX12_goHour_12 : decode cX12_goHour 12 = .ok (.putfield 104, 3) := by decide +kernel
theorem dX12_goHour_15 : decode cX12_goHour 15 = .ok (.aload_n 0, 1) := by decide +kernel
theorem dX12_goHour_16 : decode cX12_goHour 16 = .ok (.aload_n 0, 1) := by decide +kernel
theorem dX12_goHour_17 : decode cX12_goHour 17 = .ok (.getfield 101, 3) := by decide +kernel
theorem dX12_goHour_20 : decode cX12_goHour 20 = .ok (.bipush 10, 2) := by decide +kernel
theorem dX12_goHour_22 : decode cX12_goHour 22 = .ok (.aload_n 0, 1) := by decide +kernel
theorem dX12_goHour_23 : decode cX12_goHour 23 = .ok (.iload_n 1, 1) := by decide +kernel
theorem dX12_goHour_24 : decode cX12_goHour 24 = .ok (.invokevirtual 128, 3) := by decide +kernel
theorem dX12_goHour_27 : decode cX12_goHour 27 = .ok (.imul, 1) := by decide +kernel
theorem dX12_goHour_28 : decode cX12_goHour 28 = .ok (.iadd, 1) := by decide +kernel
theorem dX12_goHour_29 : decode cX12_goHour 29 = .ok (.sipush 360, 3) := by decide +kernel
theorem dX12_goHour_32 : decode cX12_goHour 32 = .ok (.irem, 1) := by decide +kernel
theorem dX12_goHour_33 : decode cX12_goHour 33 = .ok (.putfield 101, 3) := by decide +kernel
theorem dX12_goHour_36 : decode cX12_goHour 36 = .ok (.aload_n 0, 1) := by decide +kernel
theorem dX12_goHour_37 : decode cX12_goHour 37 = .ok (.aload_n 0, 1) := by decide +kernel
theorem dX12_goHour_38 : decode cX12_goHour 38 = .ok (.iload_n 1, 1) := by decide +kernel
theorem dX12_goHour_39 : decode cX12_goHour 39 = .ok (.aload_n 0, 1) := by decide +kernel
theorem dX12_goHour_40 : decode cX12_goHour 40 = .ok (.getfield 104, 3) := by decide +kernel
theorem dX12_goHour_43 : decode cX12_goHour 43 = .ok (.invokevirtual 151, 3) := by decide +kernel
theorem dX12_goHour_46 : decode cX12_goHour 46 = .ok (.aload_n 0, 1) := by decide +kernel
theorem dX12_goHour_47 : decode cX12_goHour 47 = .ok (.getfield 86, 3) := by decide +kernel
theorem dX12_goHour_50 : decode cX12_goHour 50 = .ok (.if_icmp .le 7, 3) := by decide +kernel
theorem dX12_goHour_53 : decode cX12_goHour 53 = .ok (.iconst 1, 1) := by decide +kernel
theorem dX12_goHour_54 : decode cX12_goHour 54 = .ok (.goto 4, 3) := by decide +kernel
theorem dX12_goHour_57 : decode cX12_goHour 57 = .ok (.iconst 0, 1) := by decide +kernel
theorem dX12_goHour_58 : decode cX12_goHour 58 = .ok (.putfield 92, 3) := by decide +kernel
theorem dX12_goHour_61 : decode cX12_goHour 61 = .ok (.aload_n 0, 1) := by decide +kernel
theorem dX12_goHour_62 : decode cX12_goHour 62 = .ok (.getfield 92, 3) := by decide +kernel
theorem dX12_goHour_65 : decode cX12_goHour 65 = .ok (.ifCond .ne 7, 3) := by decide +kernel
theorem dX12_goHour_68 : decode cX12_goHour 68 = .ok (.iconst 1, 1) := by decide +kernel
theorem dX12_goHour_69 : decode cX12_goHour 69 = .ok (.goto 4, 3) := by decide +kernel
theorem dX12_goHour_72 : decode cX12_goHour 72 = .ok (.iconst 0, 1) := by decide +kernel
theorem dX12_goHour_73 : decode cX12_goHour 73 = .ok (.ireturn, 1) := by decide +kernel
theorem dX12_hour_0 : decode cX12_hour 0 = .ok (.iload_n 1, 1) := by decide +kernel
theorem dX12_hour_1 : decode cX12_hour 1 = .ok (.bipush (-3), 2) := by decide +kernel
theorem dX12_hour_3 : decode cX12_hour 3 = .ok (.iconst 3, 1) := by decide +kernel
theorem dX12_hour_4 : decode cX12_hour 4 = .ok (.invokestatic 53, 3) := by decide +kernel
theorem dX12_hour_7 : decode cX12_hour 7 = .ok (.ifCond .ne 6, 3) := by decide +kernel
theorem dX12_hour_10 : decode cX12_hour 10 = .ok (.bipush (-102), 2) := by decide +kernel
theorem dX12_hour_12 : decode cX12_hour 12 = .ok (.ireturn, 1) := by decide +kernel
theorem dX12_hour_13 : decode cX12_hour 13 = .ok (.aload_n 0, 1) := by decide +kernel
theorem dX12_hour_14 : decode cX12_hour 14 = .ok (.getfield 95, 3) := by decide +kernel
theorem dX12_hour_17 : decode cX12_hour 17 = .ok (.ifCond .eq 22, 3) := by decide +kernel
theorem dX12_hour_20 : decode cX12_hour 20 = .ok (.aload_n 0, 1) := by decide +kernel
theorem dX12_hour_21 : decode cX12_hour 21 = .ok (.getfield 92, 3) := by decide +kernel
theorem dX12_hour_24 : decode cX12_hour 24 = .ok (.ifCond .ne 15, 3) := by decide +kernel
theorem dX12_hour_27 : decode cX12_hour 27 = .ok (.aload_n 0, 1) := by decide +kernel
theorem dX12_hour_28 : decode cX12_hour 28 = .ok (.getfield 80, 3) := by decide +kernel
theorem dX12_hour_31 : decode cX12_hour 31 = .ok (.iload_n 1, 1) := by decide +kernel
theorem dX12_hour_32 : decode cX12_hour 32 = .ok (.isub, 1) := by decide +kernel
theorem dX12_hour_33 : decode cX12_hour 33 = .ok (.invokestatic 154, 3) := by decide +kernel
theorem dX12_hour_36 : decode cX12_hour 36 = .ok (.ifCond .ne 6, 3) := by decide +kernel
theorem dX12_hour_39 : decode cX12_hour 39 = .ok (.bipush (-103), 2) := by decide +kernel
theorem dX12_hour_41 : decode cX12_hour 41 = .ok (.ireturn, 1) := by decide +kernel
theorem dX12_hour_42 : decode cX12_hour 42 = .ok (.aload_n 0, 1) := by decide +kernel
theorem dX12_hour_43 : decode cX12_hour 43 = .ok (.aload_n 0, 1) := by decide +kernel
theorem dX12_hour_44 : decode cX12_hour 44 = .ok (.getfield 80, 3) := by decide +kernel
theorem dX12_hour_47 : decode cX12_hour 47 = .ok (.iload_n 1, 1) := by decide +kernel
theorem dX12_hour_48 : decode cX12_hour 48 = .ok (.isub, 1) := by decide +kernel
theorem dX12_hour_49 : decode cX12_hour 49 = .ok (.invokevirtual 157, 3) := by decide +kernel
theorem dX12_hour_52 : decode cX12_hour 52 = .ok (.ifCond .eq 10, 3) := by decide +kernel
theorem dX12_hour_55 : decode cX12_hour 55 = .ok (.aload_n 0, 1) := by decide +kernel
theorem dX12_hour_56 : decode cX12_hour 56 = .ok (.getfield 80, 3) := by decide +kernel
theorem dX12_hour_59 : decode cX12_hour 59 = .ok (.goto 4, 3) := by decide +kernel
theorem dX12_hour_62 : decode cX12_hour 62 = .ok (.iconst (-1), 1) := by decide +kernel
theorem dX12_hour_63 : decode cX12_hour 63 = .ok (.ireturn, 1) := by decide +kernel
theorem dX12_sized_0 : decode cX12_sized 0 = .ok (.iload_n 0, 1) := by decide +kernel
theorem dX12_sized_1 : decode cX12_sized 1 = .ok (.ifCond .ge 8, 3) := by decide +kernel
theorem dX12_sized_4 : decode cX12_sized 4 = .ok (.iload_n 0, 1) := by decide +kernel
theorem dX12_sized_5 : decode cX12_sized 5 = .ok (.ineg, 1) := by decide +kernel
theorem dX12_sized_6 : decode cX12_sized 6 = .ok (.goto 4, 3) := by decide +kernel
theorem dX12_sized_9 : decode cX12_sized 9 = .ok (.iload_n 0, 1) := by decide +kernel
theorem dX12_sized_10 : decode cX12_sized 10 = .ok (.ireturn, 1) := by decide +kernel
theorem dX12_layEven_0 : decode cX12_layEven 0 = .ok (.iconst 0, 1) := by decide +kernel
theorem dX12_layEven_1 : decode cX12_layEven 1 = .ok (.istore_n 1, 1) := by decide +kernel
theorem dX12_layEven_2 : decode cX12_layEven 2 = .ok (.iconst 0, 1) := by decide +kernel
theorem dX12_layEven_3 : decode cX12_layEven 3 = .ok (.istore_n 2, 1) := by decide +kernel
theorem dX12_layEven_4 : decode cX12_layEven 4 = .ok (.iload_n 2, 1) := by decide +kernel
theorem dX12_layEven_5 : decode cX12_layEven 5 = .ok (.aload_n 0, 1) := by decide +kernel
theorem dX12_layEven_6 : decode cX12_layEven 6 = .ok (.getfield 107, 3) := by decide +kernel
theorem dX12_layEven_9 : decode cX12_layEven 9 = .ok (.if_icmp .ge 27, 3) := by decide +kernel
theorem dX12_layEven_12 : decode cX12_layEven 12 = .ok (.iload_n 1, 1) := by decide +kernel
theorem dX12_layEven_13 : decode cX12_layEven 13 = .ok (.aload_n 0, 1) := by decide +kernel
theorem dX12_layEven_14 : decode cX12_layEven 14 = .ok (.iload_n 2, 1) := by decide +kernel
theorem dX12_layEven_15 : decode cX12_layEven 15 = .ok (.invokevirtual 148, 3) := by decide +kernel
theorem dX12_layEven_18 : decode cX12_layEven 18 = .ok (.ifCond .eq 9, 3) := by decide +kernel
theorem dX12_layEven_21 : decode cX12_layEven 21 = .ok (.iconst 1, 1) := by decide +kernel
theorem dX12_layEven_22 : decode cX12_layEven 22 = .ok (.iload_n 2, 1) := by decide +kernel
theorem dX12_layEven_23 : decode cX12_layEven 23 = .ok (.ishl, 1) := by decide +kernel
theorem dX12_layEven_24 : decode cX12_layEven 24 = .ok (.goto 4, 3) := by decide +kernel
theorem dX12_layEven_27 : decode cX12_layEven 27 = .ok (.iconst 0, 1) := by decide +kernel
theorem dX12_layEven_28 : decode cX12_layEven 28 = .ok (.ior, 1) := by decide +kernel
theorem dX12_layEven_29 : decode cX12_layEven 29 = .ok (.istore_n 1, 1) := by decide +kernel
theorem dX12_layEven_30 : decode cX12_layEven 30 = .ok (.iinc 2 1, 3) := by decide +kernel
theorem dX12_layEven_33 : decode cX12_layEven 33 = .ok (.goto (-29), 3) := by decide +kernel
theorem dX12_layEven_36 : decode cX12_layEven 36 = .ok (.aload_n 0, 1) := by decide +kernel
theorem dX12_layEven_37 : decode cX12_layEven 37 = .ok (.ldc 160, 2) := by decide +kernel
theorem dX12_layEven_39 : decode cX12_layEven 39 = .ok (.putfield 161, 3) := by decide +kernel
theorem dX12_layEven_42 : decode cX12_layEven 42 = .ok (.aload_n 0, 1) := by decide +kernel
theorem dX12_layEven_43 : decode cX12_layEven 43 = .ok (.iconst 0, 1) := by decide +kernel
theorem dX12_layEven_44 : decode cX12_layEven 44 = .ok (.putfield 164, 3) := by decide +kernel
theorem dX12_layEven_47 : decode cX12_layEven 47 = .ok (.iconst 0, 1) := by decide +kernel
theorem dX12_layEven_48 : decode cX12_layEven 48 = .ok (.istore_n 2, 1) := by decide +kernel
theorem dX12_layEven_49 : decode cX12_layEven 49 = .ok (.iconst 0, 1) := by decide +kernel
theorem dX12_layEven_50 : decode cX12_layEven 50 = .ok (.istore_n 3, 1) := by decide +kernel
theorem dX12_layEven_51 : decode cX12_layEven 51 = .ok (.iload_n 3, 1) := by decide +kernel
theorem dX12_layEven_52 : decode cX12_layEven 52 = .ok (.iconst 1, 1) := by decide +kernel
theorem dX12_layEven_53 : decode cX12_layEven 53 = .ok (.aload_n 0, 1) := by decide +kernel
theorem dX12_layEven_54 : decode cX12_layEven 54 = .ok (.getfield 107, 3) := by decide +kernel
theorem dX12_layEven_57 : decode cX12_layEven 57 = .ok (.ishl, 1) := by decide +kernel
theorem dX12_layEven_58 : decode cX12_layEven 58 = .ok (.if_icmp .ge 138, 3) := by decide +kernel
theorem dX12_layEven_61 : decode cX12_layEven 61 = .ok (.aload_n 0, 1) := by decide +kernel
theorem dX12_layEven_62 : decode cX12_layEven 62 = .ok (.iconst 0, 1) := by decide +kernel
theorem dX12_layEven_63 : decode cX12_layEven 63 = .ok (.aload_n 0, 1) := by decide +kernel
theorem dX12_layEven_64 : decode cX12_layEven 64 = .ok (.getfield 80, 3) := by decide +kernel
theorem dX12_layEven_67 : decode cX12_layEven 67 = .ok (.aload_n 0, 1) := by decide +kernel
theorem dX12_layEven_68 : decode cX12_layEven 68 = .ok (.getfield 104, 3) := by decide +kernel
theorem dX12_layEven_71 : decode cX12_layEven 71 = .ok (.iload_n 3, 1) := by decide +kernel
theorem dX12_layEven_72 : decode cX12_layEven 72 = .ok (.invokevirtual 132, 3) := by decide +kernel
theorem dX12_layEven_75 : decode cX12_layEven 75 = .ok (.aload_n 0, 1) := by decide +kernel
theorem dX12_layEven_76 : decode cX12_layEven 76 = .ok (.iconst 1, 1) := by decide +kernel
theorem dX12_layEven_77 : decode cX12_layEven 77 = .ok (.aload_n 0, 1) := by decide +kernel
theorem dX12_layEven_78 : decode cX12_layEven 78 = .ok (.getfield 80, 3) := by decide +kernel
theorem dX12_layEven_81 : decode cX12_layEven 81 = .ok (.aload_n 0, 1) := by decide +kernel
theorem dX12_layEven_82 : decode cX12_layEven 82 = .ok (.getfield 104, 3) := by decide +kernel
theorem dX12_layEven_85 : decode cX12_layEven 85 = .ok (.iload_n 3, 1) := by decide +kernel
theorem dX12_layEven_86 : decode cX12_layEven 86 = .ok (.invokevirtual 132, 3) := by decide +kernel
theorem dX12_layEven_89 : decode cX12_layEven 89 = .ok (.isub, 1) := by decide +kernel
theorem dX12_layEven_90 : decode cX12_layEven 90 = .ok (.invokestatic 167, 3) := by decide +kernel
theorem dX12_layEven_93 : decode cX12_layEven 93 = .ok (.istore 4, 2) := by decide +kernel
theorem dX12_layEven_95 : decode cX12_layEven 95 = .ok (.iconst 0, 1) := by decide +kernel
theorem dX12_layEven_96 : decode cX12_layEven 96 = .ok (.istore 5, 2) := by decide +kernel
theorem dX12_layEven_98 : decode cX12_layEven 98 = .ok (.iconst 0, 1) := by decide +kernel
theorem dX12_layEven_99 : decode cX12_layEven 99 = .ok (.istore 6, 2) := by decide +kernel
theorem dX12_layEven_101 : decode cX12_layEven 101 = .ok (.iload 6, 2) := by decide +kernel
theorem dX12_layEven_103 : decode cX12_layEven 103 = .ok (.aload_n 0, 1) := by decide +kernel
theorem dX12_layEven_104 : decode cX12_layEven 104 = .ok (.getfield 107, 3) := by decide +kernel
theorem dX12_layEven_107 : decode cX12_layEven 107 = .ok (.if_icmp .ge 37, 3) := by decide +kernel
theorem dX12_layEven_110 : decode cX12_layEven 110 = .ok (.iload 5, 2) := by decide +kernel
theorem dX12_layEven_112 : decode cX12_layEven 112 = .ok (.iload_n 3, 1) := by decide +kernel
theorem dX12_layEven_113 : decode cX12_layEven 113 = .ok (.iload 6, 2) := by decide +kernel
theorem dX12_layEven_115 : decode cX12_layEven 115 = .ok (.invokestatic 113, 3) := by decide +kernel
theorem dX12_layEven_118 : decode cX12_layEven 118 = .ok (.ifCond .eq 16, 3) := by decide +kernel
theorem dX12_layEven_121 : decode cX12_layEven 121 = .ok (.aload_n 0, 1) := by decide +kernel
theorem dX12_layEven_122 : decode cX12_layEven 122 = .ok (.iload 6, 2) := by decide +kernel
theorem dX12_layEven_124 : decode cX12_layEven 124 = .ok (.aload_n 0, 1) := by decide +kernel
theorem dX12_layEven_125 : decode cX12_layEven 125 = .ok (.getfield 104, 3) := by decide +kernel
theorem dX12_layEven_128 : decode cX12_layEven 128 = .ok (.invokevirtual 116, 3) := by decide +kernel
theorem dX12_layEven_131 : decode cX12_layEven 131 = .ok (.goto 4, 3) := by decide +kernel
theorem dX12_layEven_134 : decode cX12_layEven 134 = .ok (.iconst 0, 1) := by decide +kernel
theorem dX12_layEven_135 : decode cX12_layEven 135 = .ok (.iadd, 1) := by decide +kernel
theorem dX12_layEven_136 : decode cX12_layEven 136 = .ok (.istore 5, 2) := by decide +kernel
theorem dX12_layEven_138 : decode cX12_layEven 138 = .ok (.iinc 6 1, 3) := by decide +kernel
theorem dX12_layEven_141 : decode cX12_layEven 141 = .ok (.goto (-40), 3) := by decide +kernel
theorem dX12_layEven_144 : decode cX12_layEven 144 = .ok (.iload_n 3, 1) := by decide +kernel
theorem dX12_layEven_145 : decode cX12_layEven 145 = .ok (.iload_n 1, 1) := by decide +kernel
theorem dX12_layEven_146 : decode cX12_layEven 146 = .ok (.iconst (-1), 1) := by decide +kernel
theorem dX12_layEven_147 : decode cX12_layEven 147 = .ok (.ixor, 1) := by decide +kernel
theorem dX12_layEven_148 : decode cX12_layEven 148 = .ok (.iand, 1) := by decide +kernel
theorem dX12_layEven_149 : decode cX12_layEven 149 = .ok (.ifCond .ne 41, 3) := by decide +kernel
theorem dX12_layEven_152 : decode cX12_layEven 152 = .ok (.iload 4, 2) := by decide +kernel
theorem dX12_layEven_154 : decode cX12_layEven 154 = .ok (.aload_n 0, 1) := by decide +kernel
theorem dX12_layEven_155 : decode cX12_layEven 155 = .ok (.getfield 161, 3) := by decide +kernel
theorem dX12_layEven_158 : decode cX12_layEven 158 = .ok (.if_icmp .lt 18, 3) := by decide +kernel
theorem dX12_layEven_161 : decode cX12_layEven 161 = .ok (.iload 4, 2) := by decide +kernel
theorem dX12_layEven_163 : decode cX12_layEven 163 = .ok (.aload_n 0, 1) := by decide +kernel
theorem dX12_layEven_164 : decode cX12_layEven 164 = .ok (.getfield 161, 3) := by decide +kernel
theorem dX12_layEven_167 : decode cX12_layEven 167 = .ok (.if_icmp .ne 23, 3) := by decide +kernel
theorem dX12_layEven_170 : decode cX12_layEven 170 = .ok (.iload 5, 2) := by decide +kernel
theorem dX12_layEven_172 : decode cX12_layEven 172 = .ok (.iload_n 2, 1) := by decide +kernel
theorem dX12_layEven_173 : decode cX12_layEven 173 = .ok (.if_icmp .ge 17, 3) := by decide +kernel
theorem dX12_layEven_176 : decode cX12_layEven 176 = .ok (.aload_n 0, 1) := by decide +kernel
theorem dX12_layEven_177 : decode cX12_layEven 177 = .ok (.iload 4, 2) := by decide +kernel
theorem dX12_layEven_179 : decode cX12_layEven 179 = .ok (.putfield 161, 3) := by decide +kernel
theorem dX12_layEven_182 : decode cX12_layEven 182 = .ok (.aload_n 0, 1) := by decide +kernel
theorem dX12_layEven_183 : decode cX12_layEven 183 = .ok (.iload_n 3, 1) := by decide +kernel
theorem dX12_layEven_184 : decode cX12_layEven 184 = .ok (.putfield 164, 3) := by decide +kernel
theorem dX12_layEven_187 : decode cX12_layEven 187 = .ok (.iload 5, 2) := by decide +kernel
theorem dX12_layEven_189 : decode cX12_layEven 189 = .ok (.istore_n 2, 1) := by decide +kernel
theorem dX12_layEven_190 : decode cX12_layEven 190 = .ok (.iinc 3 1, 3) := by decide +kernel
theorem dX12_layEven_193 : decode cX12_layEven 193 = .ok (.goto (-142), 3) := by decide +kernel
theorem dX12_layEven_196 : decode cX12_layEven 196 = .ok (.return_, 1) := by decide +kernel
theorem dX12_evenNow_0 : decode cX12_evenNow 0 = .ok (.aload_n 0, 1) := by decide +kernel
theorem dX12_evenNow_1 : decode cX12_evenNow 1 = .ok (.invokevirtual 170, 3) := by decide +kernel
theorem dX12_evenNow_4 : decode cX12_evenNow 4 = .ok (.iload_n 1, 1) := by decide +kernel
theorem dX12_evenNow_5 : decode cX12_evenNow 5 = .ok (.ifCond .ne 10, 3) := by decide +kernel
theorem dX12_evenNow_8 : decode cX12_evenNow 8 = .ok (.aload_n 0, 1) := by decide +kernel
theorem dX12_evenNow_9 : decode cX12_evenNow 9 = .ok (.getfield 161, 3) := by decide +kernel
theorem dX12_evenNow_12 : decode cX12_evenNow 12 = .ok (.goto 7, 3) := by decide +kernel
theorem dX12_evenNow_15 : decode cX12_evenNow 15 = .ok (.aload_n 0, 1) := by decide +kernel
theorem dX12_evenNow_16 : decode cX12_evenNow 16 = .ok (.getfield 164, 3) := by decide +kernel
theorem dX12_evenNow_19 : decode cX12_evenNow 19 = .ok (.ireturn, 1) := by decide +kernel
theorem dX12_even_0 : decode cX12_even 0 = .ok (.iload_n 1, 1) := by decide +kernel
theorem dX12_even_1 : decode cX12_even 1 = .ok (.iconst 0, 1) := by decide +kernel
theorem dX12_even_2 : decode cX12_even 2 = .ok (.iconst 1, 1) := by decide +kernel
theorem dX12_even_3 : decode cX12_even 3 = .ok (.invokestatic 53, 3) := by decide +kernel
theorem dX12_even_6 : decode cX12_even 6 = .ok (.ifCond .ne 6, 3) := by decide +kernel
theorem dX12_even_9 : decode cX12_even 9 = .ok (.bipush (-102), 2) := by decide +kernel
theorem dX12_even_11 : decode cX12_even 11 = .ok (.ireturn, 1) := by decide +kernel
theorem dX12_even_12 : decode cX12_even 12 = .ok (.aload_n 0, 1) := by decide +kernel
theorem dX12_even_13 : decode cX12_even 13 = .ok (.getfield 95, 3) := by decide +kernel
theorem dX12_even_16 : decode cX12_even 16 = .ok (.ifCond .eq 18, 3) := by decide +kernel
theorem dX12_even_19 : decode cX12_even 19 = .ok (.aload_n 0, 1) := by decide +kernel
theorem dX12_even_20 : decode cX12_even 20 = .ok (.getfield 92, 3) := by decide +kernel
theorem dX12_even_23 : decode cX12_even 23 = .ok (.ifCond .ne 11, 3) := by decide +kernel
theorem dX12_even_26 : decode cX12_even 26 = .ok (.aload_n 0, 1) := by decide +kernel
theorem dX12_even_27 : decode cX12_even 27 = .ok (.iload_n 1, 1) := by decide +kernel
theorem dX12_even_28 : decode cX12_even 28 = .ok (.invokevirtual 173, 3) := by decide +kernel
theorem dX12_even_31 : decode cX12_even 31 = .ok (.goto 5, 3) := by decide +kernel
theorem dX12_even_34 : decode cX12_even 34 = .ok (.bipush (-103), 2) := by decide +kernel
theorem dX12_even_36 : decode cX12_even 36 = .ok (.ireturn, 1) := by decide +kernel
theorem dX12_by_0 : decode cX12_by 0 = .ok (.iload_n 0, 1) := by decide +kernel
theorem dX12_by_1 : decode cX12_by 1 = .ok (.iconst 4, 1) := by decide +kernel
theorem dX12_by_2 : decode cX12_by 2 = .ok (.if_icmp .ge 7, 3) := by decide +kernel
theorem dX12_by_5 : decode cX12_by 5 = .ok (.iload_n 0, 1) := by decide +kernel
theorem dX12_by_6 : decode cX12_by 6 = .ok (.goto 6, 3) := by decide +kernel
theorem dX12_by_9 : decode cX12_by 9 = .ok (.iconst 3, 1) := by decide +kernel
theorem dX12_by_10 : decode cX12_by 10 = .ok (.iload_n 0, 1) := by decide +kernel
theorem dX12_by_11 : decode cX12_by 11 = .ok (.isub, 1) := by decide +kernel
theorem dX12_by_12 : decode cX12_by 12 = .ok (.ireturn, 1) := by decide +kernel
theorem dX12_goLengths_0 : decode cX12_goLengths 0 = .ok (.iconst 0, 1) := by decide +kernel
theorem dX12_goLengths_1 : decode cX12_goLengths 1 = .ok (.istore_n 2, 1) := by decide +kernel
theorem dX12_goLengths_2 : decode cX12_goLengths 2 = .ok (.iload_n 2, 1) := by decide +kernel
theorem dX12_goLengths_3 : decode cX12_goLengths 3 = .ok (.bipush 40, 2) := by decide +kernel
theorem dX12_goLengths_5 : decode cX12_goLengths 5 = .ok (.if_icmp .gt 16, 3) := by decide +kernel
theorem dX12_goLengths_8 : decode cX12_goLengths 8 = .ok (.aload_n 0, 1) := by decide +kernel
theorem dX12_goLengths_9 : decode cX12_goLengths 9 = .ok (.getfield 35, 3) := by decide +kernel
theorem dX12_goLengths_12 : decode cX12_goLengths 12 = .ok (.iload_n 2, 1) := by decide +kernel
theorem dX12_goLengths_13 : decode cX12_goLengths 13 = .ok (.iconst (-1), 1) := by decide +kernel
theorem dX12_goLengths_14 : decode cX12_goLengths 14 = .ok (.iastore, 1) := by decide +kernel
theorem dX12_goLengths_15 : decode cX12_goLengths 15 = .ok (.iinc 2 1, 3) := by decide +kernel
theorem dX12_goLengths_18 : decode cX12_goLengths 18 = .ok (.goto (-16), 3) := by decide +kernel
theorem dX12_goLengths_21 : decode cX12_goLengths 21 = .ok (.bipush 10, 2) := by decide +kernel
theorem dX12_goLengths_23 : decode cX12_goLengths 23 = .ok (.istore_n 2, 1) := by decide +kernel
theorem dX12_goLengths_24 : decode cX12_goLengths 24 = .ok (.iload_n 2, 1) := by decide +kernel
theorem dX12_goLengths_25 : decode cX12_goLengths 25 = .ok (.bipush 40, 2) := by decide +kernel
theorem dX12_goLengths_27 : decode cX12_goLengths 27 = .ok (.if_icmp .gt 128, 3) := by decide +kernel
theorem dX12_goLengths_30 : decode cX12_goLengths 30 = .ok (.iconst 0, 1) := by decide +kernel
theorem dX12_goLengths_31 : decode cX12_goLengths 31 = .ok (.istore_n 3, 1) := by decide +kernel
theorem dX12_goLengths_32 : decode cX12_goLengths 32 = .ok (.iload_n 3, 1) := by decide +kernel
theorem dX12_goLengths_33 : decode cX12_goLengths 33 = .ok (.bipush 7, 2) := by decide +kernel
theorem dX12_goLengths_35 : decode cX12_goLengths 35 = .ok (.if_icmp .ge 114, 3) := by decide +kernel
theorem dX12_goLengths_38 : decode cX12_goLengths 38 = .ok (.aload_n 0, 1) := by decide +kernel
theorem dX12_goLengths_39 : decode cX12_goLengths 39 = .ok (.getfield 32, 3) := by decide +kernel
theorem dX12_goLengths_42 : decode cX12_goLengths 42 = .ok (.iload_n 2, 1) := by decide +kernel
theorem dX12_goLengths_43 : decode cX12_goLengths 43 = .ok (.iaload, 1) := by decide +kernel
theorem dX12_goLengths_44 : decode cX12_goLengths 44 = .ok (.iconst (-1), 1) := by decide +kernel
theorem dX12_goLengths_45 : decode cX12_goLengths 45 = .ok (.if_icmp .eq 104, 3) := by decide +kernel
theorem dX12_goLengths_48 : decode cX12_goLengths 48 = .ok (.iload_n 2, 1) := by decide +kernel
theorem dX12_goLengths_49 : decode cX12_goLengths 49 = .ok (.iload_n 3, 1) := by decide +kernel
theorem dX12_goLengths_50 : decode cX12_goLengths 50 = .ok (.invokestatic 176, 3) := by decide +kernel
theorem dX12_goLengths_53 : decode cX12_goLengths 53 = .ok (.isub, 1) := by decide +kernel
theorem dX12_goLengths_54 : decode cX12_goLengths 54 = .ok (.istore 4, 2) := by decide +kernel
theorem dX12_goLengths_56 : decode cX12_goLengths 56 = .ok (.iload 4, 2) := by decide +kernel
theorem dX12_goLengths_58 : decode cX12_goLengths 58 = .ok (.invokestatic 154, 3) := by decide +kernel
theorem dX12_goLengths_61 : decode cX12_goLengths 61 = .ok (.ifCond .eq 82, 3) := by decide +kernel
theorem dX12_goLengths_64 : decode cX12_goLengths 64 = .ok (.aload_n 0, 1) := by decide +kernel
theorem dX12_goLengths_65 : decode cX12_goLengths 65 = .ok (.iload 4, 2) := by decide +kernel
theorem dX12_goLengths_67 : decode cX12_goLengths 67 = .ok (.iload_n 1, 1) := by decide +kernel
theorem dX12_goLengths_68 : decode cX12_goLengths 68 = .ok (.invokevirtual 151, 3) := by decide +kernel
theorem dX12_goLengths_71 : decode cX12_goLengths 71 = .ok (.aload_n 0, 1) := by decide +kernel
theorem dX12_goLengths_72 : decode cX12_goLengths 72 = .ok (.getfield 86, 3) := by decide +kernel
theorem dX12_goLengths_75 : decode cX12_goLengths 75 = .ok (.if_icmp .gt 68, 3) := by decide +kernel
theorem dX12_goLengths_78 : decode cX12_goLengths 78 = .ok (.aload_n 0, 1) := by decide +kernel
theorem dX12_goLengths_79 : decode cX12_goLengths 79 = .ok (.getfield 32, 3) := by decide +kernel
theorem dX12_goLengths_82 : decode cX12_goLengths 82 = .ok (.iload_n 2, 1) := by decide +kernel
theorem dX12_goLengths_83 : decode cX12_goLengths 83 = .ok (.iaload, 1) := by decide +kernel
theorem dX12_goLengths_84 : decode cX12_goLengths 84 = .ok (.bipush 9, 2) := by decide +kernel
theorem dX12_goLengths_86 : decode cX12_goLengths 86 = .ok (.if_icmp .ne 7, 3) := by decide +kernel
theorem dX12_goLengths_89 : decode cX12_goLengths 89 = .ok (.iload_n 3, 1) := by decide +kernel
theorem dX12_goLengths_90 : decode cX12_goLengths 90 = .ok (.goto 9, 3) := by decide +kernel
theorem dX12_goLengths_93 : decode cX12_goLengths 93 = .ok (.aload_n 0, 1) := by decide +kernel
theorem dX12_goLengths_94 : decode cX12_goLengths 94 = .ok (.getfield 32, 3) := by decide +kernel
theorem dX12_goLengths_97 : decode cX12_goLengths 97 = .ok (.iload_n 2, 1) := by decide +kernel
theorem dX12_goLengths_98 : decode cX12_goLengths 98 = .ok (.iaload, 1) := by decide +kernel
theorem dX12_goLengths_99 : decode cX12_goLengths 99 = .ok (.istore 5, 2) := by decide +kernel
theorem dX12_goLengths_101 : decode cX12_goLengths 101 = .ok (.aload_n 0, 1) := by decide +kernel
theorem dX12_goLengths_102 : decode cX12_goLengths 102 = .ok (.getfield 35, 3) := by decide +kernel
theorem dX12_goLengths_105 : decode cX12_goLengths 105 = .ok (.iload 4, 2) := by decide +kernel
theorem dX12_goLengths_107 : decode cX12_goLengths 107 = .ok (.aload_n 0, 1) := by decide +kernel
theorem dX12_goLengths_108 : decode cX12_goLengths 108 = .ok (.getfield 35, 3) := by decide +kernel
theorem dX12_goLengths_111 : decode cX12_goLengths 111 = .ok (.iload 4, 2) := by decide +kernel
theorem dX12_goLengths_113 : decode cX12_goLengths 113 = .ok (.iaload, 1) := by decide +kernel
theorem dX12_goLengths_114 : decode cX12_goLengths 114 = .ok (.iconst (-1), 1) := by decide +kernel
theorem dX12_goLengths_115 : decode cX12_goLengths 115 = .ok (.if_icmp .eq 15, 3) := by decide +kernel
theorem dX12_goLengths_118 : decode cX12_goLengths 118 = .ok (.iload 5, 2) := by decide +kernel
theorem dX12_goLengths_120 : decode cX12_goLengths 120 = .ok (.aload_n 0, 1) := by decide +kernel
theorem dX12_goLengths_121 : decode cX12_goLengths 121 = .ok (.getfield 35, 3) := by decide +kernel
theorem dX12_goLengths_124 : decode cX12_goLengths 124 = .ok (.iload 4, 2) := by decide +kernel
theorem dX12_goLengths_126 : decode cX12_goLengths 126 = .ok (.iaload, 1) := by decide +kernel
theorem dX12_goLengths_127 : decode cX12_goLengths 127 = .ok (.if_icmp .ge 8, 3) := by decide +kernel
theorem dX12_goLengths_130 : decode cX12_goLengths 130 = .ok (.iload 5, 2) := by decide +kernel
theorem dX12_goLengths_132 : decode cX12_goLengths 132 = .ok (.goto 10, 3) := by decide +kernel
theorem dX12_goLengths_135 : decode cX12_goLengths 135 = .ok (.aload_n 0, 1) := by decide +kernel
theorem dX12_goLengths_136 : decode cX12_goLengths 136 = .ok (.getfield 35, 3) := by decide +kernel
theorem dX12_goLengths_139 : decode cX12_goLengths 139 = .ok (.iload 4, 2) := by decide +kernel
theorem dX12_goLengths_141 : decode cX12_goLengths 141 = .ok (.iaload, 1) := by decide +kernel
theorem dX12_goLengths_142 : decode cX12_goLengths 142 = .ok (.iastore, 1) := by decide +kernel
theorem dX12_goLengths_143 : decode cX12_goLengths 143 = .ok (.iinc 3 1, 3) := by decide +kernel
theorem dX12_goLengths_146 : decode cX12_goLengths 146 = .ok (.goto (-114), 3) := by decide +kernel
theorem dX12_goLengths_149 : decode cX12_goLengths 149 = .ok (.iinc 2 1, 3) := by decide +kernel
theorem dX12_goLengths_152 : decode cX12_goLengths 152 = .ok (.goto (-128), 3) := by decide +kernel
theorem dX12_goLengths_155 : decode cX12_goLengths 155 = .ok (.iconst 0, 1) := by decide +kernel
theorem dX12_goLengths_156 : decode cX12_goLengths 156 = .ok (.istore_n 2, 1) := by decide +kernel
theorem dX12_goLengths_157 : decode cX12_goLengths 157 = .ok (.iload_n 2, 1) := by decide +kernel
theorem dX12_goLengths_158 : decode cX12_goLengths 158 = .ok (.bipush 40, 2) := by decide +kernel
theorem dX12_goLengths_160 : decode cX12_goLengths 160 = .ok (.if_icmp .gt 21, 3) := by decide +kernel
theorem dX12_goLengths_163 : decode cX12_goLengths 163 = .ok (.aload_n 0, 1) := by decide +kernel
theorem dX12_goLengths_164 : decode cX12_goLengths 164 = .ok (.getfield 32, 3) := by decide +kernel
theorem dX12_goLengths_167 : decode cX12_goLengths 167 = .ok (.iload_n 2, 1) := by decide +kernel
theorem dX12_goLengths_168 : decode cX12_goLengths 168 = .ok (.aload_n 0, 1) := by decide +kernel
theorem dX12_goLengths_169 : decode cX12_goLengths 169 = .ok (.getfield 35, 3) := by decide +kernel
theorem dX12_goLengths_172 : decode cX12_goLengths 172 = .ok (.iload_n 2, 1) := by decide +kernel
theorem dX12_goLengths_173 : decode cX12_goLengths 173 = .ok (.iaload, 1) := by decide +kernel
theorem dX12_goLengths_174 : decode cX12_goLengths 174 = .ok (.iastore, 1) := by decide +kernel
theorem dX12_goLengths_175 : decode cX12_goLengths 175 = .ok (.iinc 2 1, 3) := by decide +kernel
theorem dX12_goLengths_178 : decode cX12_goLengths 178 = .ok (.goto (-21), 3) := by decide +kernel
theorem dX12_goLengths_181 : decode cX12_goLengths 181 = .ok (.return_, 1) := by decide +kernel
theorem dX12_firstBy_0 : decode cX12_firstBy 0 = .ok (.iconst (-1), 1) := by decide +kernel
theorem dX12_firstBy_1 : decode cX12_firstBy 1 = .ok (.istore_n 3, 1) := by decide +kernel
theorem dX12_firstBy_2 : decode cX12_firstBy 2 = .ok (.bipush 10, 2) := by decide +kernel
theorem dX12_firstBy_4 : decode cX12_firstBy 4 = .ok (.istore 4, 2) := by decide +kernel
theorem dX12_firstBy_6 : decode cX12_firstBy 6 = .ok (.iload 4, 2) := by decide +kernel
theorem dX12_firstBy_8 : decode cX12_firstBy 8 = .ok (.bipush 40, 2) := by decide +kernel
theorem dX12_firstBy_10 : decode cX12_firstBy 10 = .ok (.if_icmp .gt 81, 3) := by decide +kernel
theorem dX12_firstBy_13 : decode cX12_firstBy 13 = .ok (.aload_n 0, 1) := by decide +kernel
theorem dX12_firstBy_14 : decode cX12_firstBy 14 = .ok (.getfield 32, 3) := by decide +kernel
theorem dX12_firstBy_17 : decode cX12_firstBy 17 = .ok (.iload 4, 2) := by decide +kernel
theorem dX12_firstBy_19 : decode cX12_firstBy 19 = .ok (.iaload, 1) := by decide +kernel
theorem dX12_firstBy_20 : decode cX12_firstBy 20 = .ok (.iconst (-1), 1) := by decide +kernel
theorem dX12_firstBy_21 : decode cX12_firstBy 21 = .ok (.if_icmp .eq 28, 3) := by decide +kernel
theorem dX12_firstBy_24 : decode cX12_firstBy 24 = .ok (.aload_n 0, 1) := by decide +kernel
theorem dX12_firstBy_25 : decode cX12_firstBy 25 = .ok (.iconst 0, 1) := by decide +kernel
theorem dX12_firstBy_26 : decode cX12_firstBy 26 = .ok (.iload 4, 2) := by decide +kernel
theorem dX12_firstBy_28 : decode cX12_firstBy 28 = .ok (.iload_n 2, 1) := by decide +kernel
theorem dX12_firstBy_29 : decode cX12_firstBy 29 = .ok (.iconst 0, 1) := by decide +kernel
theorem dX12_firstBy_30 : decode cX12_firstBy 30 = .ok (.invokevirtual 132, 3) := by decide +kernel
theorem dX12_firstBy_33 : decode cX12_firstBy 33 = .ok (.iload_n 1, 1) := by decide +kernel
theorem dX12_firstBy_34 : decode cX12_firstBy 34 = .ok (.iload_n 1, 1) := by decide +kernel
theorem dX12_firstBy_35 : decode cX12_firstBy 35 = .ok (.iload_n 1, 1) := by decide +kernel
theorem dX12_firstBy_36 : decode cX12_firstBy 36 = .ok (.iconst 2, 1) := by decide +kernel
theorem dX12_firstBy_37 : decode cX12_firstBy 37 = .ok (.idiv, 1) := by decide +kernel
theorem dX12_firstBy_38 : decode cX12_firstBy 38 = .ok (.iadd, 1) := by decide +kernel
theorem dX12_firstBy_39 : decode cX12_firstBy 39 = .ok (.invokestatic 53, 3) := by decide +kernel
theorem dX12_firstBy_42 : decode cX12_firstBy 42 = .ok (.ifCond .eq 7, 3) := by decide +kernel
theorem dX12_firstBy_45 : decode cX12_firstBy 45 = .ok (.iconst 1, 1) := by decide +kernel
theorem dX12_firstBy_46 : decode cX12_firstBy 46 = .ok (.goto 4, 3) := by decide +kernel
theorem dX12_firstBy_49 : decode cX12_firstBy 49 = .ok (.iconst 0, 1) := by decide +kernel
theorem dX12_firstBy_50 : decode cX12_firstBy 50 = .ok (.istore 5, 2) := by decide +kernel
theorem dX12_firstBy_52 : decode cX12_firstBy 52 = .ok (.iload 5, 2) := by decide +kernel
theorem dX12_firstBy_54 : decode cX12_firstBy 54 = .ok (.ifCond .eq 29, 3) := by decide +kernel
theorem dX12_firstBy_57 : decode cX12_firstBy 57 = .ok (.iload_n 3, 1) := by decide +kernel
theorem dX12_firstBy_58 : decode cX12_firstBy 58 = .ok (.iconst (-1), 1) := by decide +kernel
theorem dX12_firstBy_59 : decode cX12_firstBy 59 = .ok (.if_icmp .eq 14, 3) := by decide +kernel
theorem dX12_firstBy_62 : decode cX12_firstBy 62 = .ok (.aload_n 0, 1) := by decide +kernel
theorem dX12_firstBy_63 : decode cX12_firstBy 63 = .ok (.getfield 32, 3) := by decide +kernel
theorem dX12_firstBy_66 : decode cX12_firstBy 66 = .ok (.iload 4, 2) := by decide +kernel
theorem dX12_firstBy_68 : decode cX12_firstBy 68 = .ok (.iaload, 1) := by decide +kernel
theorem dX12_firstBy_69 : decode cX12_firstBy 69 = .ok (.iload_n 3, 1) := by decide +kernel
theorem dX12_firstBy_70 : decode cX12_firstBy 70 = .ok (.if_icmp .ge 13, 3) := by decide +kernel
theorem dX12_firstBy_73 : decode cX12_firstBy 73 = .ok (.aload_n 0, 1) := by decide +kernel
theorem dX12_firstBy_74 : decode cX12_firstBy 74 = .ok (.getfield 32, 3) := by decide +kernel
theorem dX12_firstBy_77 : decode cX12_firstBy 77 = .ok (.iload 4, 2) := by decide +kernel
theorem dX12_firstBy_79 : decode cX12_firstBy 79 = .ok (.iaload, 1) := by decide +kernel
theorem dX12_firstBy_80 : decode cX12_firstBy 80 = .ok (.goto 4, 3) := by decide +kernel
theorem dX12_firstBy_83 : decode cX12_firstBy 83 = .ok (.iload_n 3, 1) := by decide +kernel
theorem dX12_firstBy_84 : decode cX12_firstBy 84 = .ok (.istore_n 3, 1) := by decide +kernel
theorem dX12_firstBy_85 : decode cX12_firstBy 85 = .ok (.iinc 4 1, 3) := by decide +kernel
theorem dX12_firstBy_88 : decode cX12_firstBy 88 = .ok (.goto (-82), 3) := by decide +kernel
theorem dX12_firstBy_91 : decode cX12_firstBy 91 = .ok (.iload_n 3, 1) := by decide +kernel
theorem dX12_firstBy_92 : decode cX12_firstBy 92 = .ok (.ireturn, 1) := by decide +kernel
theorem dX12_soonestNow_0 : decode cX12_soonestNow 0 = .ok (.iconst 0, 1) := by decide +kernel
theorem dX12_soonestNow_1 : decode cX12_soonestNow 1 = .ok (.istore_n 3, 1) := by decide +kernel
theorem dX12_soonestNow_2 : decode cX12_soonestNow 2 = .ok (.iload_n 3, 1) := by decide +kernel
theorem dX12_soonestNow_3 : decode cX12_soonestNow 3 = .ok (.bipush 40, 2) := by decide +kernel
theorem dX12_soonestNow_5 : decode cX12_soonestNow 5 = .ok (.if_icmp .gt 29, 3) := by decide +kernel
theorem dX12_soonestNow_8 : decode cX12_soonestNow 8 = .ok (.aload_n 0, 1) := by decide +kernel
theorem dX12_soonestNow_9 : decode cX12_soonestNow 9 = .ok (.getfield 32, 3) := by decide +kernel
theorem dX12_soonestNow_12 : decode cX12_soonestNow 12 = .ok (.iload_n 3, 1) := by decide +kernel
theorem dX12_soonestNow_13 : decode cX12_soonestNow 13 = .ok (.iload_n 3, 1) := by decide +kernel
theorem dX12_soonestNow_14 : decode cX12_soonestNow 14 = .ok (.aload_n 0, 1) := by decide +kernel
theorem dX12_soonestNow_15 : decode cX12_soonestNow 15 = .ok (.getfield 80, 3) := by decide +kernel
theorem dX12_soonestNow_18 : decode cX12_soonestNow 18 = .ok (.if_icmp .ne 8, 3) := by decide +kernel
theorem dX12_soonestNow_21 : decode cX12_soonestNow 21 = .ok (.bipush 9, 2) := by decide +kernel
theorem dX12_soonestNow_23 : decode cX12_soonestNow 23 = .ok (.goto 4, 3) := by decide +kernel
theorem dX12_soonestNow_26 : decode cX12_soonestNow 26 = .ok (.iconst (-1), 1) := by decide +kernel
theorem dX12_soonestNow_27 : decode cX12_soonestNow 27 = .ok (.iastore, 1) := by decide +kernel
theorem dX12_soonestNow_28 : decode cX12_soonestNow 28 = .ok (.iinc 3 1, 3) := by decide +kernel
theorem dX12_soonestNow_31 : decode cX12_soonestNow 31 = .ok (.goto (-29), 3) := by decide +kernel
theorem dX12_soonestNow_34 : decode cX12_soonestNow 34 = .ok (.iconst 0, 1) := by decide +kernel
theorem dX12_soonestNow_35 : decode cX12_soonestNow 35 = .ok (.istore_n 3, 1) := by decide +kernel
theorem dX12_soonestNow_36 : decode cX12_soonestNow 36 = .ok (.iload_n 3, 1) := by decide +kernel
theorem dX12_soonestNow_37 : decode cX12_soonestNow 37 = .ok (.bipush 12, 2) := by decide +kernel
theorem dX12_soonestNow_39 : decode cX12_soonestNow 39 = .ok (.if_icmp .gt 59, 3) := by decide +kernel
theorem dX12_soonestNow_42 : decode cX12_soonestNow 42 = .ok (.aload_n 0, 1) := by decide +kernel
theorem dX12_soonestNow_43 : decode cX12_soonestNow 43 = .ok (.iload_n 1, 1) := by decide +kernel
theorem dX12_soonestNow_44 : decode cX12_soonestNow 44 = .ok (.aload_n 0, 1) := by decide +kernel
theorem dX12_soonestNow_45 : decode cX12_soonestNow 45 = .ok (.getfield 104, 3) := by decide +kernel
theorem dX12_soonestNow_48 : decode cX12_soonestNow 48 = .ok (.iload_n 3, 1) := by decide +kernel
theorem dX12_soonestNow_49 : decode cX12_soonestNow 49 = .ok (.iadd, 1) := by decide +kernel
theorem dX12_soonestNow_50 : decode cX12_soonestNow 50 = .ok (.invokevirtual 179, 3) := by decide +kernel
theorem dX12_soonestNow_53 : decode cX12_soonestNow 53 = .ok (.istore 4, 2) := by decide +kernel
theorem dX12_soonestNow_55 : decode cX12_soonestNow 55 = .ok (.iload 4, 2) := by decide +kernel
theorem dX12_soonestNow_57 : decode cX12_soonestNow 57 = .ok (.iconst (-1), 1) := by decide +kernel
theorem dX12_soonestNow_58 : decode cX12_soonestNow 58 = .ok (.if_icmp .eq 22, 3) := by decide +kernel
theorem dX12_soonestNow_61 : decode cX12_soonestNow 61 = .ok (.iload_n 2, 1) := by decide +kernel
theorem dX12_soonestNow_62 : decode cX12_soonestNow 62 = .ok (.ifCond .ne 7, 3) := by decide +kernel
theorem dX12_soonestNow_65 : decode cX12_soonestNow 65 = .ok (.iload_n 3, 1) := by decide +kernel
theorem dX12_soonestNow_66 : decode cX12_soonestNow 66 = .ok (.goto 13, 3) := by decide +kernel
theorem dX12_soonestNow_69 : decode cX12_soonestNow 69 = .ok (.iload_n 3, 1) := by decide +kernel
theorem dX12_soonestNow_70 : decode cX12_soonestNow 70 = .ok (.ifCond .ne 7, 3) := by decide +kernel
theorem dX12_soonestNow_73 : decode cX12_soonestNow 73 = .ok (.iconst (-1), 1) := by decide +kernel
theorem dX12_soonestNow_74 : decode cX12_soonestNow 74 = .ok (.goto 5, 3) := by decide +kernel
theorem dX12_soonestNow_77 : decode cX12_soonestNow 77 = .ok (.iload 4, 2) := by decide +kernel
theorem dX12_soonestNow_79 : decode cX12_soonestNow 79 = .ok (.ireturn, 1) := by decide +kernel
theorem dX12_soonestNow_80 : decode cX12_soonestNow 80 = .ok (.aload_n 0, 1) := by decide +kernel
theorem dX12_soonestNow_81 : decode cX12_soonestNow 81 = .ok (.aload_n 0, 1) := by decide +kernel
theorem dX12_soonestNow_82 : decode cX12_soonestNow 82 = .ok (.getfield 104, 3) := by decide +kernel
theorem dX12_soonestNow_85 : decode cX12_soonestNow 85 = .ok (.iload_n 3, 1) := by decide +kernel
theorem dX12_soonestNow_86 : decode cX12_soonestNow 86 = .ok (.iadd, 1) := by decide +kernel
theorem dX12_soonestNow_87 : decode cX12_soonestNow 87 = .ok (.iconst 1, 1) := by decide +kernel
theorem dX12_soonestNow_88 : decode cX12_soonestNow 88 = .ok (.iadd, 1) := by decide +kernel
theorem dX12_soonestNow_89 : decode cX12_soonestNow 89 = .ok (.invokevirtual 182, 3) := by decide +kernel
theorem dX12_soonestNow_92 : decode cX12_soonestNow 92 = .ok (.iinc 3 1, 3) := by decide +kernel
theorem dX12_soonestNow_95 : decode cX12_soonestNow 95 = .ok (.goto (-59), 3) := by decide +kernel
theorem dX12_soonestNow_98 : decode cX12_soonestNow 98 = .ok (.iconst (-1), 1) := by decide +kernel
theorem dX12_soonestNow_99 : decode cX12_soonestNow 99 = .ok (.ireturn, 1) := by decide +kernel
theorem dX12_soonest_0 : decode cX12_soonest 0 = .ok (.iload_n 1, 1) := by decide +kernel
theorem dX12_soonest_1 : decode cX12_soonest 1 = .ok (.iconst 1, 1) := by decide +kernel
theorem dX12_soonest_2 : decode cX12_soonest 2 = .ok (.sipush 9999, 3) := by decide +kernel
theorem dX12_soonest_5 : decode cX12_soonest 5 = .ok (.invokestatic 53, 3) := by decide +kernel
theorem dX12_soonest_8 : decode cX12_soonest 8 = .ok (.ifCond .eq 12, 3) := by decide +kernel
theorem dX12_soonest_11 : decode cX12_soonest 11 = .ok (.iload_n 2, 1) := by decide +kernel
theorem dX12_soonest_12 : decode cX12_soonest 12 = .ok (.iconst 0, 1) := by decide +kernel
theorem dX12_soonest_13 : decode cX12_soonest 13 = .ok (.iconst 1, 1) := by decide +kernel
theorem dX12_soonest_14 : decode cX12_soonest 14 = .ok (.invokestatic 53, 3) := by decide +kernel
theorem dX12_soonest_17 : decode cX12_soonest 17 = .ok (.ifCond .ne 6, 3) := by decide +kernel
theorem dX12_soonest_20 : decode cX12_soonest 20 = .ok (.bipush (-102), 2) := by decide +kernel
theorem dX12_soonest_22 : decode cX12_soonest 22 = .ok (.ireturn, 1) := by decide +kernel
theorem dX12_soonest_23 : decode cX12_soonest 23 = .ok (.aload_n 0, 1) := by decide +kernel
theorem dX12_soonest_24 : decode cX12_soonest 24 = .ok (.getfield 95, 3) := by decide +kernel
theorem dX12_soonest_27 : decode cX12_soonest 27 = .ok (.ifCond .eq 19, 3) := by decide +kernel
theorem dX12_soonest_30 : decode cX12_soonest 30 = .ok (.aload_n 0, 1) := by decide +kernel
theorem dX12_soonest_31 : decode cX12_soonest 31 = .ok (.getfield 92, 3) := by decide +kernel
theorem dX12_soonest_34 : decode cX12_soonest 34 = .ok (.ifCond .ne 12, 3) := by decide +kernel
theorem dX12_soonest_37 : decode cX12_soonest 37 = .ok (.aload_n 0, 1) := by decide +kernel
theorem dX12_soonest_38 : decode cX12_soonest 38 = .ok (.iload_n 1, 1) := by decide +kernel
theorem dX12_soonest_39 : decode cX12_soonest 39 = .ok (.iload_n 2, 1) := by decide +kernel
theorem dX12_soonest_40 : decode cX12_soonest 40 = .ok (.invokevirtual 186, 3) := by decide +kernel
theorem dX12_soonest_43 : decode cX12_soonest 43 = .ok (.goto 5, 3) := by decide +kernel
theorem dX12_soonest_46 : decode cX12_soonest 46 = .ok (.bipush (-103), 2) := by decide +kernel
theorem dX12_soonest_48 : decode cX12_soonest 48 = .ok (.ireturn, 1) := by decide +kernel
theorem dX12_caughtNow_0 : decode cX12_caughtNow 0 = .ok (.aload_n 0, 1) := by decide +kernel
theorem dX12_caughtNow_1 : decode cX12_caughtNow 1 = .ok (.aload_n 0, 1) := by decide +kernel
theorem dX12_caughtNow_2 : decode cX12_caughtNow 2 = .ok (.getfield 80, 3) := by decide +kernel
theorem dX12_caughtNow_5 : decode cX12_caughtNow 5 = .ok (.invokevirtual 128, 3) := by decide +kernel
theorem dX12_caughtNow_8 : decode cX12_caughtNow 8 = .ok (.istore_n 2, 1) := by decide +kernel
theorem dX12_caughtNow_9 : decode cX12_caughtNow 9 = .ok (.bipush 90, 2) := by decide +kernel
theorem dX12_caughtNow_11 : decode cX12_caughtNow 11 = .ok (.iload_n 1, 1) := by decide +kernel
theorem dX12_caughtNow_12 : decode cX12_caughtNow 12 = .ok (.iload_n 2, 1) := by decide +kernel
theorem dX12_caughtNow_13 : decode cX12_caughtNow 13 = .ok (.imul, 1) := by decide +kernel
theorem dX12_caughtNow_14 : decode cX12_caughtNow 14 = .ok (.isub, 1) := by decide +kernel
theorem dX12_caughtNow_15 : decode cX12_caughtNow 15 = .ok (.sipush 360, 3) := by decide +kernel
theorem dX12_caughtNow_18 : decode cX12_caughtNow 18 = .ok (.irem, 1) := by decide +kernel
theorem dX12_caughtNow_19 : decode cX12_caughtNow 19 = .ok (.sipush 360, 3) := by decide +kernel
theorem dX12_caughtNow_22 : decode cX12_caughtNow 22 = .ok (.iadd, 1) := by decide +kernel
theorem dX12_caughtNow_23 : decode cX12_caughtNow 23 = .ok (.sipush 360, 3) := by decide +kernel
theorem dX12_caughtNow_26 : decode cX12_caughtNow 26 = .ok (.irem, 1) := by decide +kernel
theorem dX12_caughtNow_27 : decode cX12_caughtNow 27 = .ok (.istore_n 3, 1) := by decide +kernel
theorem dX12_caughtNow_28 : decode cX12_caughtNow 28 = .ok (.iconst 0, 1) := by decide +kernel
theorem dX12_caughtNow_29 : decode cX12_caughtNow 29 = .ok (.istore 4, 2) := by decide +kernel
theorem dX12_caughtNow_31 : decode cX12_caughtNow 31 = .ok (.iload 4, 2) := by decide +kernel
theorem dX12_caughtNow_33 : decode cX12_caughtNow 33 = .ok (.bipush 99, 2) := by decide +kernel
theorem dX12_caughtNow_35 : decode cX12_caughtNow 35 = .ok (.if_icmp .ge 69, 3) := by decide +kernel
theorem dX12_caughtNow_38 : decode cX12_caughtNow 38 = .ok (.aload_n 0, 1) := by decide +kernel
theorem dX12_caughtNow_39 : decode cX12_caughtNow 39 = .ok (.getfield 101, 3) := by decide +kernel
theorem dX12_caughtNow_42 : decode cX12_caughtNow 42 = .ok (.bipush 10, 2) := by decide +kernel
theorem dX12_caughtNow_44 : decode cX12_caughtNow 44 = .ok (.iload_n 2, 1) := by decide +kernel
theorem dX12_caughtNow_45 : decode cX12_caughtNow 45 = .ok (.imul, 1) := by decide +kernel
theorem dX12_caughtNow_46 : decode cX12_caughtNow 46 = .ok (.iload 4, 2) := by decide +kernel
theorem dX12_caughtNow_48 : decode cX12_caughtNow 48 = .ok (.imul, 1) := by decide +kernel
theorem dX12_caughtNow_49 : decode cX12_caughtNow 49 = .ok (.iadd, 1) := by decide +kernel
theorem dX12_caughtNow_50 : decode cX12_caughtNow 50 = .ok (.sipush 360, 3) := by decide +kernel
theorem dX12_caughtNow_53 : decode cX12_caughtNow 53 = .ok (.irem, 1) := by decide +kernel
theorem dX12_caughtNow_54 : decode cX12_caughtNow 54 = .ok (.istore 5, 2) := by decide +kernel
theorem dX12_caughtNow_56 : decode cX12_caughtNow 56 = .ok (.iload 5, 2) := by decide +kernel
theorem dX12_caughtNow_58 : decode cX12_caughtNow 58 = .ok (.iload_n 3, 1) := by decide +kernel
theorem dX12_caughtNow_59 : decode cX12_caughtNow 59 = .ok (.isub, 1) := by decide +kernel
theorem dX12_caughtNow_60 : decode cX12_caughtNow 60 = .ok (.invokestatic 167, 3) := by decide +kernel
theorem dX12_caughtNow_63 : decode cX12_caughtNow 63 = .ok (.istore 6, 2) := by decide +kernel
theorem dX12_caughtNow_65 : decode cX12_caughtNow 65 = .ok (.iload 6, 2) := by decide +kernel
theorem dX12_caughtNow_67 : decode cX12_caughtNow 67 = .ok (.sipush 360, 3) := by decide +kernel
theorem dX12_caughtNow_70 : decode cX12_caughtNow 70 = .ok (.iload 6, 2) := by decide +kernel
theorem dX12_caughtNow_72 : decode cX12_caughtNow 72 = .ok (.isub, 1) := by decide +kernel
theorem dX12_caughtNow_73 : decode cX12_caughtNow 73 = .ok (.if_icmp .le 12, 3) := by decide +kernel
theorem dX12_caughtNow_76 : decode cX12_caughtNow 76 = .ok (.sipush 360, 3) := by decide +kernel
theorem dX12_caughtNow_79 : decode cX12_caughtNow 79 = .ok (.iload 6, 2) := by decide +kernel
theorem dX12_caughtNow_81 : decode cX12_caughtNow 81 = .ok (.isub, 1) := by decide +kernel
theorem dX12_caughtNow_82 : decode cX12_caughtNow 82 = .ok (.goto 5, 3) := by decide +kernel
theorem dX12_caughtNow_85 : decode cX12_caughtNow 85 = .ok (.iload 6, 2) := by decide +kernel
theorem dX12_caughtNow_87 : decode cX12_caughtNow 87 = .ok (.istore 6, 2) := by decide +kernel
theorem dX12_caughtNow_89 : decode cX12_caughtNow 89 = .ok (.iload 6, 2) := by decide +kernel
theorem dX12_caughtNow_91 : decode cX12_caughtNow 91 = .ok (.iconst 5, 1) := by decide +kernel
theorem dX12_caughtNow_92 : decode cX12_caughtNow 92 = .ok (.if_icmp .gt 6, 3) := by decide +kernel
theorem dX12_caughtNow_95 : decode cX12_caughtNow 95 = .ok (.iload 4, 2) := by decide +kernel
theorem dX12_caughtNow_97 : decode cX12_caughtNow 97 = .ok (.ireturn, 1) := by decide +kernel
theorem dX12_caughtNow_98 : decode cX12_caughtNow 98 = .ok (.iinc 4 1, 3) := by decide +kernel
theorem dX12_caughtNow_101 : decode cX12_caughtNow 101 = .ok (.goto (-70), 3) := by decide +kernel
theorem dX12_caughtNow_104 : decode cX12_caughtNow 104 = .ok (.iconst (-1), 1) := by decide +kernel
theorem dX12_caughtNow_105 : decode cX12_caughtNow 105 = .ok (.ireturn, 1) := by decide +kernel
theorem dX12_caught_0 : decode cX12_caught 0 = .ok (.iload_n 1, 1) := by decide +kernel
theorem dX12_caught_1 : decode cX12_caught 1 = .ok (.iconst 1, 1) := by decide +kernel
theorem dX12_caught_2 : decode cX12_caught 2 = .ok (.bipush 99, 2) := by decide +kernel
theorem dX12_caught_4 : decode cX12_caught 4 = .ok (.invokestatic 53, 3) := by decide +kernel
theorem dX12_caught_7 : decode cX12_caught 7 = .ok (.ifCond .ne 6, 3) := by decide +kernel
theorem dX12_caught_10 : decode cX12_caught 10 = .ok (.bipush (-102), 2) := by decide +kernel
theorem dX12_caught_12 : decode cX12_caught 12 = .ok (.ireturn, 1) := by decide +kernel
theorem dX12_caught_13 : decode cX12_caught 13 = .ok (.aload_n 0, 1) := by decide +kernel
theorem dX12_caught_14 : decode cX12_caught 14 = .ok (.getfield 95, 3) := by decide +kernel
theorem dX12_caught_17 : decode cX12_caught 17 = .ok (.ifCond .eq 18, 3) := by decide +kernel
theorem dX12_caught_20 : decode cX12_caught 20 = .ok (.aload_n 0, 1) := by decide +kernel
theorem dX12_caught_21 : decode cX12_caught 21 = .ok (.getfield 92, 3) := by decide +kernel
theorem dX12_caught_24 : decode cX12_caught 24 = .ok (.ifCond .ne 11, 3) := by decide +kernel
theorem dX12_caught_27 : decode cX12_caught 27 = .ok (.aload_n 0, 1) := by decide +kernel
theorem dX12_caught_28 : decode cX12_caught 28 = .ok (.iload_n 1, 1) := by decide +kernel
theorem dX12_caught_29 : decode cX12_caught 29 = .ok (.invokevirtual 189, 3) := by decide +kernel
theorem dX12_caught_32 : decode cX12_caught 32 = .ok (.goto 5, 3) := by decide +kernel
theorem dX12_caught_35 : decode cX12_caught 35 = .ok (.bipush (-103), 2) := by decide +kernel
theorem dX12_caught_37 : decode cX12_caught 37 = .ok (.ireturn, 1) := by decide +kernel
theorem dX12_weighed_0 : decode cX12_weighed 0 = .ok (.iload_n 1, 1) := by decide +kernel
theorem dX12_weighed_1 : decode cX12_weighed 1 = .ok (.invokestatic 192, 3) := by decide +kernel
theorem dX12_weighed_4 : decode cX12_weighed 4 = .ok (.ifCond .eq 13, 3) := by decide +kernel
theorem dX12_weighed_7 : decode cX12_weighed 7 = .ok (.iload_n 2, 1) := by decide +kernel
theorem dX12_weighed_8 : decode cX12_weighed 8 = .ok (.iconst 0, 1) := by decide +kernel
theorem dX12_weighed_9 : decode cX12_weighed 9 = .ok (.bipush 99, 2) := by decide +kernel
theorem dX12_weighed_11 : decode cX12_weighed 11 = .ok (.invokestatic 53, 3) := by decide +kernel
theorem dX12_weighed_14 : decode cX12_weighed 14 = .ok (.ifCond .ne 6, 3) := by decide +kernel
theorem dX12_weighed_17 : decode cX12_weighed 17 = .ok (.bipush (-102), 2) := by decide +kernel
theorem dX12_weighed_19 : decode cX12_weighed 19 = .ok (.ireturn, 1) := by decide +kernel
theorem dX12_weighed_20 : decode cX12_weighed 20 = .ok (.aload_n 0, 1) := by decide +kernel
theorem dX12_weighed_21 : decode cX12_weighed 21 = .ok (.getfield 95, 3) := by decide +kernel
theorem dX12_weighed_24 : decode cX12_weighed 24 = .ok (.ifCond .ne 6, 3) := by decide +kernel
theorem dX12_weighed_27 : decode cX12_weighed 27 = .ok (.bipush (-103), 2) := by decide +kernel
theorem dX12_weighed_29 : decode cX12_weighed 29 = .ok (.ireturn, 1) := by decide +kernel
theorem dX12_weighed_30 : decode cX12_weighed 30 = .ok (.aload_n 0, 1) := by decide +kernel
theorem dX12_weighed_31 : decode cX12_weighed 31 = .ok (.getfield 110, 3) := by decide +kernel
theorem dX12_weighed_34 : decode cX12_weighed 34 = .ok (.bipush 6, 2) := by decide +kernel
theorem dX12_weighed_36 : decode cX12_weighed 36 = .ok (.if_icmp .ne 6, 3) := by decide +kernel
theorem dX12_weighed_39 : decode cX12_weighed 39 = .ok (.bipush (-104), 2) := by decide +kernel
theorem dX12_weighed_41 : decode cX12_weighed 41 = .ok (.ireturn, 1) := by decide +kernel
theorem dX12_weighed_42 : decode cX12_weighed 42 = .ok (.aload_n 0, 1) := by decide +kernel
theorem dX12_weighed_43 : decode cX12_weighed 43 = .ok (.getfield 22, 3) := by decide +kernel
theorem dX12_weighed_46 : decode cX12_weighed 46 = .ok (.aload_n 0, 1) := by decide +kernel
theorem dX12_weighed_47 : decode cX12_weighed 47 = .ok (.getfield 110, 3) := by decide +kernel
theorem dX12_weighed_50 : decode cX12_weighed 50 = .ok (.iload_n 1, 1) := by decide +kernel
theorem dX12_weighed_51 : decode cX12_weighed 51 = .ok (.iastore, 1) := by decide +kernel
theorem dX12_weighed_52 : decode cX12_weighed 52 = .ok (.aload_n 0, 1) := by decide +kernel
theorem dX12_weighed_53 : decode cX12_weighed 53 = .ok (.getfield 25, 3) := by decide +kernel
theorem dX12_weighed_56 : decode cX12_weighed 56 = .ok (.aload_n 0, 1) := by decide +kernel
theorem dX12_weighed_57 : decode cX12_weighed 57 = .ok (.getfield 110, 3) := by decide +kernel
theorem dX12_weighed_60 : decode cX12_weighed 60 = .ok (.iload_n 2, 1) := by decide +kernel
theorem dX12_weighed_61 : decode cX12_weighed 61 = .ok (.iastore, 1) := by decide +kernel
theorem dX12_weighed_62 : decode cX12_weighed 62 = .ok (.aload_n 0, 1) := by decide +kernel
theorem dX12_weighed_63 : decode cX12_weighed 63 = .ok (.dup, 1) := by decide +kernel
theorem dX12_weighed_64 : decode cX12_weighed 64 = .ok (.getfield 110, 3) := by decide +kernel
theorem dX12_weighed_67 : decode cX12_weighed 67 = .ok (.iconst 1, 1) := by decide +kernel
theorem dX12_weighed_68 : decode cX12_weighed 68 = .ok (.iadd, 1) := by decide +kernel
theorem dX12_weighed_69 : decode cX12_weighed 69 = .ok (.putfield 110, 3) := by decide +kernel
theorem dX12_weighed_72 : decode cX12_weighed 72 = .ok (.aload_n 0, 1) := by decide +kernel
theorem dX12_weighed_73 : decode cX12_weighed 73 = .ok (.getfield 110, 3) := by decide +kernel
theorem dX12_weighed_76 : decode cX12_weighed 76 = .ok (.ireturn, 1) := by decide +kernel
theorem dX12_forget_0 : decode cX12_forget 0 = .ok (.aload_n 0, 1) := by decide +kernel
theorem dX12_forget_1 : decode cX12_forget 1 = .ok (.getfield 110, 3) := by decide +kernel
theorem dX12_forget_4 : decode cX12_forget 4 = .ok (.istore_n 1, 1) := by decide +kernel
theorem dX12_forget_5 : decode cX12_forget 5 = .ok (.aload_n 0, 1) := by decide +kernel
theorem dX12_forget_6 : decode cX12_forget 6 = .ok (.iconst 0, 1) := by decide +kernel
theorem dX12_forget_7 : decode cX12_forget 7 = .ok (.putfield 110, 3) := by decide +kernel
theorem dX12_forget_10 : decode cX12_forget 10 = .ok (.iload_n 1, 1) := by decide +kernel
theorem dX12_forget_11 : decode cX12_forget 11 = .ok (.ireturn, 1) := by decide +kernel
theorem dX12_fitsNow_0 : decode cX12_fitsNow 0 = .ok (.iconst 0, 1) := by decide +kernel
theorem dX12_fitsNow_1 : decode cX12_fitsNow 1 = .ok (.istore_n 2, 1) := by decide +kernel
theorem dX12_fitsNow_2 : decode cX12_fitsNow 2 = .ok (.iconst (-1), 1) := by decide +kernel
theorem dX12_fitsNow_3 : decode cX12_fitsNow 3 = .ok (.istore_n 3, 1) := by decide +kernel
theorem dX12_fitsNow_4 : decode cX12_fitsNow 4 = .ok (.iconst (-1), 1) := by decide +kernel
theorem dX12_fitsNow_5 : decode cX12_fitsNow 5 = .ok (.istore 4, 2) := by decide +kernel
theorem dX12_fitsNow_7 : decode cX12_fitsNow 7 = .ok (.iconst 1, 1) := by decide +kernel
theorem dX12_fitsNow_8 : decode cX12_fitsNow 8 = .ok (.istore 5, 2) := by decide +kernel
theorem dX12_fitsNow_10 : decode cX12_fitsNow 10 = .ok (.iload 5, 2) := by decide +kernel
theorem dX12_fitsNow_12 : decode cX12_fitsNow 12 = .ok (.sipush 14400, 3) := by decide +kernel
theorem dX12_fitsNow_15 : decode cX12_fitsNow 15 = .ok (.if_icmp .gt 114, 3) := by decide +kernel
theorem dX12_fitsNow_18 : decode cX12_fitsNow 18 = .ok (.iconst 1, 1) := by decide +kernel
theorem dX12_fitsNow_19 : decode cX12_fitsNow 19 = .ok (.istore 6, 2) := by decide +kernel
theorem dX12_fitsNow_21 : decode cX12_fitsNow 21 = .ok (.iconst 0, 1) := by decide +kernel
theorem dX12_fitsNow_22 : decode cX12_fitsNow 22 = .ok (.istore 7, 2) := by decide +kernel
theorem dX12_fitsNow_24 : decode cX12_fitsNow 24 = .ok (.iload 7, 2) := by decide +kernel
theorem dX12_fitsNow_26 : decode cX12_fitsNow 26 = .ok (.aload_n 0, 1) := by decide +kernel
theorem dX12_fitsNow_27 : decode cX12_fitsNow 27 = .ok (.getfield 110, 3) := by decide +kernel
theorem dX12_fitsNow_30 : decode cX12_fitsNow 30 = .ok (.if_icmp .ge 49, 3) := by decide +kernel
theorem dX12_fitsNow_33 : decode cX12_fitsNow 33 = .ok (.iload 6, 2) := by decide +kernel
theorem dX12_fitsNow_35 : decode cX12_fitsNow 35 = .ok (.ifCond .eq 35, 3) := by decide +kernel
theorem dX12_fitsNow_38 : decode cX12_fitsNow 38 = .ok (.iload 5, 2) := by decide +kernel
theorem dX12_fitsNow_40 : decode cX12_fitsNow 40 = .ok (.aload_n 0, 1) := by decide +kernel
theorem dX12_fitsNow_41 : decode cX12_fitsNow 41 = .ok (.getfield 22, 3) := by decide +kernel
theorem dX12_fitsNow_44 : decode cX12_fitsNow 44 = .ok (.iload 7, 2) := by decide +kernel
theorem dX12_fitsNow_46 : decode cX12_fitsNow 46 = .ok (.iaload, 1) := by decide +kernel
theorem dX12_fitsNow_47 : decode cX12_fitsNow 47 = .ok (.aload_n 0, 1) := by decide +kernel
theorem dX12_fitsNow_48 : decode cX12_fitsNow 48 = .ok (.getfield 22, 3) := by decide +kernel
theorem dX12_fitsNow_51 : decode cX12_fitsNow 51 = .ok (.iload 7, 2) := by decide +kernel
theorem dX12_fitsNow_53 : decode cX12_fitsNow 53 = .ok (.iaload, 1) := by decide +kernel
theorem dX12_fitsNow_54 : decode cX12_fitsNow 54 = .ok (.imul, 1) := by decide +kernel
theorem dX12_fitsNow_55 : decode cX12_fitsNow 55 = .ok (.idiv, 1) := by decide +kernel
theorem dX12_fitsNow_56 : decode cX12_fitsNow 56 = .ok (.aload_n 0, 1) := by decide +kernel
theorem dX12_fitsNow_57 : decode cX12_fitsNow 57 = .ok (.getfield 25, 3) := by decide +kernel
theorem dX12_fitsNow_60 : decode cX12_fitsNow 60 = .ok (.iload 7, 2) := by decide +kernel
theorem dX12_fitsNow_62 : decode cX12_fitsNow 62 = .ok (.iaload, 1) := by decide +kernel
theorem dX12_fitsNow_63 : decode cX12_fitsNow 63 = .ok (.if_icmp .ne 7, 3) := by decide +kernel
theorem dX12_fitsNow_66 : decode cX12_fitsNow 66 = .ok (.iconst 1, 1) := by decide +kernel
theorem dX12_fitsNow_67 : decode cX12_fitsNow 67 = .ok (.goto 4, 3) := by decide +kernel
theorem dX12_fitsNow_70 : decode cX12_fitsNow 70 = .ok (.iconst 0, 1) := by decide +kernel
theorem dX12_fitsNow_71 : decode cX12_fitsNow 71 = .ok (.istore 6, 2) := by decide +kernel
theorem dX12_fitsNow_73 : decode cX12_fitsNow 73 = .ok (.iinc 7 1, 3) := by decide +kernel
theorem dX12_fitsNow_76 : decode cX12_fitsNow 76 = .ok (.goto (-52), 3) := by decide +kernel
theorem dX12_fitsNow_79 : decode cX12_fitsNow 79 = .ok (.iload_n 2, 1) := by decide +kernel
theorem dX12_fitsNow_80 : decode cX12_fitsNow 80 = .ok (.iload 6, 2) := by decide +kernel
theorem dX12_fitsNow_82 : decode cX12_fitsNow 82 = .ok (.ifCond .eq 7, 3) := by decide +kernel
theorem dX12_fitsNow_85 : decode cX12_fitsNow 85 = .ok (.iconst 1, 1) := by decide +kernel
theorem dX12_fitsNow_86 : decode cX12_fitsNow 86 = .ok (.goto 4, 3) := by decide +kernel
theorem dX12_fitsNow_89 : decode cX12_fitsNow 89 = .ok (.iconst 0, 1) := by decide +kernel
theorem dX12_fitsNow_90 : decode cX12_fitsNow 90 = .ok (.iadd, 1) := by decide +kernel
theorem dX12_fitsNow_91 : decode cX12_fitsNow 91 = .ok (.istore_n 2, 1) := by decide +kernel
theorem dX12_fitsNow_92 : decode cX12_fitsNow 92 = .ok (.iload 6, 2) := by decide +kernel
theorem dX12_fitsNow_94 : decode cX12_fitsNow 94 = .ok (.ifCond .eq 13, 3) := by decide +kernel
theorem dX12_fitsNow_97 : decode cX12_fitsNow 97 = .ok (.iload_n 3, 1) := by decide +kernel
theorem dX12_fitsNow_98 : decode cX12_fitsNow 98 = .ok (.iconst (-1), 1) := by decide +kernel
theorem dX12_fitsNow_99 : decode cX12_fitsNow 99 = .ok (.if_icmp .ne 8, 3) := by decide +kernel
theorem dX12_fitsNow_102 : decode cX12_fitsNow 102 = .ok (.iload 5, 2) := by decide +kernel
theorem dX12_fitsNow_104 : decode cX12_fitsNow 104 = .ok (.goto 4, 3) := by decide +kernel
theorem dX12_fitsNow_107 : decode cX12_fitsNow 107 = .ok (.iload_n 3, 1) := by decide +kernel
theorem dX12_fitsNow_108 : decode cX12_fitsNow 108 = .ok (.istore_n 3, 1) := by decide +kernel
theorem dX12_fitsNow_109 : decode cX12_fitsNow 109 = .ok (.iload 6, 2) := by decide +kernel
theorem dX12_fitsNow_111 : decode cX12_fitsNow 111 = .ok (.ifCond .eq 8, 3) := by decide +kernel
theorem dX12_fitsNow_114 : decode cX12_fitsNow 114 = .ok (.iload 5, 2) := by decide +kernel
theorem dX12_fitsNow_116 : decode cX12_fitsNow 116 = .ok (.goto 5, 3) := by decide +kernel
theorem dX12_fitsNow_119 : decode cX12_fitsNow 119 = .ok (.iload 4, 2) := by decide +kernel
theorem dX12_fitsNow_121 : decode cX12_fitsNow 121 = .ok (.istore 4, 2) := by decide +kernel
theorem dX12_fitsNow_123 : decode cX12_fitsNow 123 = .ok (.iinc 5 1, 3) := by decide +kernel
theorem dX12_fitsNow_126 : decode cX12_fitsNow 126 = .ok (.goto (-116), 3) := by decide +kernel
theorem dX12_fitsNow_129 : decode cX12_fitsNow 129 = .ok (.iload_n 1, 1) := by decide +kernel
theorem dX12_fitsNow_130 : decode cX12_fitsNow 130 = .ok (.ifCond .ne 7, 3) := by decide +kernel
theorem dX12_fitsNow_133 : decode cX12_fitsNow 133 = .ok (.iload_n 2, 1) := by decide +kernel
theorem dX12_fitsNow_134 : decode cX12_fitsNow 134 = .ok (.goto 14, 3) := by decide +kernel
theorem dX12_fitsNow_137 : decode cX12_fitsNow 137 = .ok (.iload_n 1, 1) := by decide +kernel
theorem dX12_fitsNow_138 : decode cX12_fitsNow 138 = .ok (.iconst 1, 1) := by decide +kernel
theorem dX12_fitsNow_139 : decode cX12_fitsNow 139 = .ok (.if_icmp .ne 7, 3) := by decide +kernel
theorem dX12_fitsNow_142 : decode cX12_fitsNow 142 = .ok (.iload_n 3, 1) := by decide +kernel
theorem dX12_fitsNow_143 : decode cX12_fitsNow 143 = .ok (.goto 5, 3) := by decide +kernel
theorem dX12_fitsNow_146 : decode cX12_fitsNow 146 = .ok (.iload 4, 2) := by decide +kernel
theorem dX12_fitsNow_148 : decode cX12_fitsNow 148 = .ok (.ireturn, 1) := by decide +kernel
theorem dX12_fits_0 : decode cX12_fits 0 = .ok (.iload_n 1, 1) := by decide +kernel
theorem dX12_fits_1 : decode cX12_fits 1 = .ok (.iconst 0, 1) := by decide +kernel
theorem dX12_fits_2 : decode cX12_fits 2 = .ok (.iconst 2, 1) := by decide +kernel
theorem dX12_fits_3 : decode cX12_fits 3 = .ok (.invokestatic 53, 3) := by decide +kernel
theorem dX12_fits_6 : decode cX12_fits 6 = .ok (.ifCond .eq 11, 3) := by decide +kernel
theorem dX12_fits_9 : decode cX12_fits 9 = .ok (.aload_n 0, 1) := by decide +kernel
theorem dX12_fits_10 : decode cX12_fits 10 = .ok (.iload_n 1, 1) := by decide +kernel
theorem dX12_fits_11 : decode cX12_fits 11 = .ok (.invokevirtual 195, 3) := by decide +kernel
theorem dX12_fits_14 : decode cX12_fits 14 = .ok (.goto 5, 3) := by decide +kernel
theorem dX12_fits_17 : decode cX12_fits 17 = .ok (.bipush (-102), 2) := by decide +kernel
theorem dX12_fits_19 : decode cX12_fits 19 = .ok (.ireturn, 1) := by decide +kernel
theorem dX12_lowest_0 : decode cX12_lowest 0 = .ok (.lload_n 0, 1) := by decide +kernel
theorem dX12_lowest_1 : decode cX12_lowest 1 = .ok (.lstore 5, 2) := by decide +kernel
theorem dX12_lowest_3 : decode cX12_lowest 3 = .ok (.lload_n 2, 1) := by decide +kernel
theorem dX12_lowest_4 : decode cX12_lowest 4 = .ok (.lstore 7, 2) := by decide +kernel
theorem dX12_lowest_6 : decode cX12_lowest 6 = .ok (.lload 7, 2) := by decide +kernel
theorem dX12_lowest_8 : decode cX12_lowest 8 = .ok (.lconst 0, 1) := by decide +kernel
theorem dX12_lowest_9 : decode cX12_lowest 9 = .ok (.lcmp, 1) := by decide +kernel
theorem dX12_lowest_10 : decode cX12_lowest 10 = .ok (.ifCond .eq 21, 3) := by decide +kernel
theorem dX12_lowest_13 : decode cX12_lowest 13 = .ok (.lload 5, 2) := by decide +kernel
theorem dX12_lowest_15 : decode cX12_lowest 15 = .ok (.lload 7, 2) := by decide +kernel
theorem dX12_lowest_17 : decode cX12_lowest 17 = .ok (.lrem, 1) := by decide +kernel
theorem dX12_lowest_18 : decode cX12_lowest 18 = .ok (.lstore 9, 2) := by decide +kernel
theorem dX12_lowest_20 : decode cX12_lowest 20 = .ok (.lload 7, 2) := by decide +kernel
theorem dX12_lowest_22 : decode cX12_lowest 22 = .ok (.lstore 5, 2) := by decide +kernel
theorem dX12_lowest_24 : decode cX12_lowest 24 = .ok (.lload 9, 2) := by decide +kernel
theorem dX12_lowest_26 : decode cX12_lowest 26 = .ok (.lstore 7, 2) := by decide +kernel
theorem dX12_lowest_28 : decode cX12_lowest 28 = .ok (.goto (-22), 3) := by decide +kernel
theorem dX12_lowest_31 : decode cX12_lowest 31 = .ok (.iload 4, 2) := by decide +kernel
theorem dX12_lowest_33 : decode cX12_lowest 33 = .ok (.ifCond .ne 10, 3) := by decide +kernel
theorem dX12_lowest_36 : decode cX12_lowest 36 = .ok (.lload_n 0, 1) := by decide +kernel
theorem dX12_lowest_37 : decode cX12_lowest 37 = .ok (.lload 5, 2) := by decide +kernel
theorem dX12_lowest_39 : decode cX12_lowest 39 = .ok (.ldiv, 1) := by decide +kernel
theorem dX12_lowest_40 : decode cX12_lowest 40 = .ok (.goto 7, 3) := by decide +kernel
theorem dX12_lowest_43 : decode cX12_lowest 43 = .ok (.lload_n 2, 1) := by decide +kernel
theorem dX12_lowest_44 : decode cX12_lowest 44 = .ok (.lload 5, 2) := by decide +kernel
theorem dX12_lowest_46 : decode cX12_lowest 46 = .ok (.ldiv, 1) := by decide +kernel
theorem dX12_lowest_47 : decode cX12_lowest 47 = .ok (.lreturn, 1) := by decide +kernel
theorem dX12_breaksBy_0 : decode cX12_breaksBy 0 = .ok (.aload_n 0, 1) := by decide +kernel
theorem dX12_breaksBy_1 : decode cX12_breaksBy 1 = .ok (.aload_n 0, 1) := by decide +kernel
theorem dX12_breaksBy_2 : decode cX12_breaksBy 2 = .ok (.getfield 80, 3) := by decide +kernel
theorem dX12_breaksBy_5 : decode cX12_breaksBy 5 = .ok (.aload_n 0, 1) := by decide +kernel
theorem dX12_breaksBy_6 : decode cX12_breaksBy 6 = .ok (.getfield 104, 3) := by decide +kernel
theorem dX12_breaksBy_9 : decode cX12_breaksBy 9 = .ok (.invokevirtual 151, 3) := by decide +kernel
theorem dX12_breaksBy_12 : decode cX12_breaksBy 12 = .ok (.istore_n 1, 1) := by decide +kernel
theorem dX12_breaksBy_13 : decode cX12_breaksBy 13 = .ok (.aload_n 0, 1) := by decide +kernel
theorem dX12_breaksBy_14 : decode cX12_breaksBy 14 = .ok (.getfield 89, 3) := by decide +kernel
theorem dX12_breaksBy_17 : decode cX12_breaksBy 17 = .ok (.ifCond .ne 18, 3) := by decide +kernel
theorem dX12_breaksBy_20 : decode cX12_breaksBy 20 = .ok (.iload_n 1, 1) := by decide +kernel
theorem dX12_breaksBy_21 : decode cX12_breaksBy 21 = .ok (.aload_n 0, 1) := by decide +kernel
theorem dX12_breaksBy_22 : decode cX12_breaksBy 22 = .ok (.getfield 86, 3) := by decide +kernel
theorem dX12_breaksBy_25 : decode cX12_breaksBy 25 = .ok (.if_icmp .le 8, 3) := by decide +kernel
theorem dX12_breaksBy_28 : decode cX12_breaksBy 28 = .ok (.bipush 100, 2) := by decide +kernel
theorem dX12_breaksBy_30 : decode cX12_breaksBy 30 = .ok (.goto 4, 3) := by decide +kernel
theorem dX12_breaksBy_33 : decode cX12_breaksBy 33 = .ok (.iconst 0, 1) := by decide +kernel
theorem dX12_breaksBy_34 : decode cX12_breaksBy 34 = .ok (.ireturn, 1) := by decide +kernel
theorem dX12_breaksBy_35 : decode cX12_breaksBy 35 = .ok (.ldc2_w 198, 3) := by decide +kernel
theorem dX12_breaksBy_38 : decode cX12_breaksBy 38 = .ok (.iload_n 1, 1) := by decide +kernel
theorem dX12_breaksBy_39 : decode cX12_breaksBy 39 = .ok (.i2l, 1) := by decide +kernel
theorem dX12_breaksBy_40 : decode cX12_breaksBy 40 = .ok (.lmul, 1) := by decide +kernel
theorem dX12_breaksBy_41 : decode cX12_breaksBy 41 = .ok (.aload_n 0, 1) := by decide +kernel
theorem dX12_breaksBy_42 : decode cX12_breaksBy 42 = .ok (.getfield 86, 3) := by decide +kernel
theorem dX12_breaksBy_45 : decode cX12_breaksBy 45 = .ok (.i2l, 1) := by decide +kernel
theorem dX12_breaksBy_46 : decode cX12_breaksBy 46 = .ok (.ldiv, 1) := by decide +kernel
theorem dX12_breaksBy_47 : decode cX12_breaksBy 47 = .ok (.lstore_n 2, 1) := by decide +kernel
theorem dX12_breaksBy_48 : decode cX12_breaksBy 48 = .ok (.lload_n 2, 1) := by decide +kernel
theorem dX12_breaksBy_49 : decode cX12_breaksBy 49 = .ok (.ldc2_w 198, 3) := by decide +kernel
theorem dX12_breaksBy_52 : decode cX12_breaksBy 52 = .ok (.lcmp, 1) := by decide +kernel
theorem dX12_breaksBy_53 : decode cX12_breaksBy 53 = .ok (.ifCond .le 8, 3) := by decide +kernel
theorem dX12_breaksBy_56 : decode cX12_breaksBy 56 = .ok (.bipush 100, 2) := by decide +kernel
theorem dX12_breaksBy_58 : decode cX12_breaksBy 58 = .ok (.goto 5, 3) := by decide +kernel
theorem dX12_breaksBy_61 : decode cX12_breaksBy 61 = .ok (.lload_n 2, 1) := by decide +kernel
theorem dX12_breaksBy_62 : decode cX12_breaksBy 62 = .ok (.l2i, 1) := by decide +kernel
theorem dX12_breaksBy_63 : decode cX12_breaksBy 63 = .ok (.ireturn, 1) := by decide +kernel
theorem dX12_lastsNow_0 : decode cX12_lastsNow 0 = .ok (.lconst 1, 1) := by decide +kernel
theorem dX12_lastsNow_1 : decode cX12_lastsNow 1 = .ok (.lstore_n 3, 1) := by decide +kernel
theorem dX12_lastsNow_2 : decode cX12_lastsNow 2 = .ok (.lconst 1, 1) := by decide +kernel
theorem dX12_lastsNow_3 : decode cX12_lastsNow 3 = .ok (.lstore 5, 2) := by decide +kernel
theorem dX12_lastsNow_5 : decode cX12_lastsNow 5 = .ok (.iconst 0, 1) := by decide +kernel
theorem dX12_lastsNow_6 : decode cX12_lastsNow 6 = .ok (.istore 7, 2) := by decide +kernel
theorem dX12_lastsNow_8 : decode cX12_lastsNow 8 = .ok (.iload 7, 2) := by decide +kernel
theorem dX12_lastsNow_10 : decode cX12_lastsNow 10 = .ok (.iload_n 1, 1) := by decide +kernel
theorem dX12_lastsNow_11 : decode cX12_lastsNow 11 = .ok (.if_icmp .ge 28, 3) := by decide +kernel
theorem dX12_lastsNow_14 : decode cX12_lastsNow 14 = .ok (.lload_n 3, 1) := by decide +kernel
theorem dX12_lastsNow_15 : decode cX12_lastsNow 15 = .ok (.bipush 100, 2) := by decide +kernel
theorem dX12_lastsNow_17 : decode cX12_lastsNow 17 = .ok (.aload_n 0, 1) := by decide +kernel
theorem dX12_lastsNow_18 : decode cX12_lastsNow 18 = .ok (.invokevirtual 200, 3) := by decide +kernel
theorem dX12_lastsNow_21 : decode cX12_lastsNow 21 = .ok (.isub, 1) := by decide +kernel
theorem dX12_lastsNow_22 : decode cX12_lastsNow 22 = .ok (.i2l, 1) := by decide +kernel
theorem dX12_lastsNow_23 : decode cX12_lastsNow 23 = .ok (.lmul, 1) := by decide +kernel
theorem dX12_lastsNow_24 : decode cX12_lastsNow 24 = .ok (.lstore_n 3, 1) := by decide +kernel
theorem dX12_lastsNow_25 : decode cX12_lastsNow 25 = .ok (.lload 5, 2) := by decide +kernel
theorem dX12_lastsNow_27 : decode cX12_lastsNow 27 = .ok (.ldc2_w 198, 3) := by decide +kernel
theorem dX12_lastsNow_30 : decode cX12_lastsNow 30 = .ok (.lmul, 1) := by decide +kernel
theorem dX12_lastsNow_31 : decode cX12_lastsNow 31 = .ok (.lstore 5, 2) := by decide +kernel
theorem dX12_lastsNow_33 : decode cX12_lastsNow 33 = .ok (.iinc 7 1, 3) := by decide +kernel
theorem dX12_lastsNow_36 : decode cX12_lastsNow 36 = .ok (.goto (-28), 3) := by decide +kernel
theorem dX12_lastsNow_39 : decode cX12_lastsNow 39 = .ok (.lload_n 3, 1) := by decide +kernel
theorem dX12_lastsNow_40 : decode cX12_lastsNow 40 = .ok (.lload 5, 2) := by decide +kernel
theorem dX12_lastsNow_42 : decode cX12_lastsNow 42 = .ok (.iload_n 2, 1) := by decide +kernel
theorem dX12_lastsNow_43 : decode cX12_lastsNow 43 = .ok (.invokestatic 204, 3) := by decide +kernel
theorem dX12_lastsNow_46 : decode cX12_lastsNow 46 = .ok (.lreturn, 1) := by decide +kernel
theorem dX12_lasts_0 : decode cX12_lasts 0 = .ok (.iload_n 1, 1) := by decide +kernel
theorem dX12_lasts_1 : decode cX12_lasts 1 = .ok (.iconst 1, 1) := by decide +kernel
theorem dX12_lasts_2 : decode cX12_lasts 2 = .ok (.iconst 4, 1) := by decide +kernel
theorem dX12_lasts_3 : decode cX12_lasts 3 = .ok (.invokestatic 53, 3) := by decide +kernel
theorem dX12_lasts_6 : decode cX12_lasts 6 = .ok (.ifCond .eq 12, 3) := by decide +kernel
theorem dX12_lasts_9 : decode cX12_lasts 9 = .ok (.iload_n 2, 1) := by decide +kernel
theorem dX12_lasts_10 : decode cX12_lasts 10 = .ok (.iconst 0, 1) := by decide +kernel
theorem dX12_lasts_11 : decode cX12_lasts 11 = .ok (.iconst 1, 1) := by decide +kernel
theorem dX12_lasts_12 : decode cX12_lasts 12 = .ok (.invokestatic 53, 3) := by decide +kernel
theorem dX12_lasts_15 : decode cX12_lasts 15 = .ok (.ifCond .ne 7, 3) := by decide +kernel
theorem dX12_lasts_18 : decode cX12_lasts 18 = .ok (.ldc2_w 208, 3) := by decide +kernel
theorem dX12_lasts_21 : decode cX12_lasts 21 = .ok (.lreturn, 1) := by decide +kernel
theorem dX12_lasts_22 : decode cX12_lasts 22 = .ok (.aload_n 0, 1) := by decide +kernel
theorem dX12_lasts_23 : decode cX12_lasts 23 = .ok (.getfield 95, 3) := by decide +kernel
theorem dX12_lasts_26 : decode cX12_lasts 26 = .ok (.ifCond .eq 19, 3) := by decide +kernel
theorem dX12_lasts_29 : decode cX12_lasts 29 = .ok (.aload_n 0, 1) := by decide +kernel
theorem dX12_lasts_30 : decode cX12_lasts 30 = .ok (.getfield 92, 3) := by decide +kernel
theorem dX12_lasts_33 : decode cX12_lasts 33 = .ok (.ifCond .ne 12, 3) := by decide +kernel
theorem dX12_lasts_36 : decode cX12_lasts 36 = .ok (.aload_n 0, 1) := by decide +kernel
theorem dX12_lasts_37 : decode cX12_lasts 37 = .ok (.iload_n 1, 1) := by decide +kernel
theorem dX12_lasts_38 : decode cX12_lasts 38 = .ok (.iload_n 2, 1) := by decide +kernel
theorem dX12_lasts_39 : decode cX12_lasts 39 = .ok (.invokevirtual 210, 3) := by decide +kernel
theorem dX12_lasts_42 : decode cX12_lasts 42 = .ok (.goto 6, 3) := by decide +kernel
theorem dX12_lasts_45 : decode cX12_lasts 45 = .ok (.ldc2_w 214, 3) := by decide +kernel
theorem dX12_lasts_48 : decode cX12_lasts 48 = .ok (.lreturn, 1) := by decide +kernel
theorem dX12_draw_0 : decode cX12_draw 0 = .ok (.aload_n 0, 1) := by decide +kernel
theorem dX12_draw_1 : decode cX12_draw 1 = .ok (.ldc2_w 216, 3) := by decide +kernel
theorem dX12_draw_4 : decode cX12_draw 4 = .ok (.aload_n 0, 1) := by decide +kernel
theorem dX12_draw_5 : decode cX12_draw 5 = .ok (.getfield 218, 3) := by decide +kernel
theorem dX12_draw_8 : decode cX12_draw 8 = .ok (.lmul, 1) := by decide +kernel
theorem dX12_draw_9 : decode cX12_draw 9 = .ok (.ldc2_w 222, 3) := by decide +kernel
theorem dX12_draw_12 : decode cX12_draw 12 = .ok (.ladd, 1) := by decide +kernel
theorem dX12_draw_13 : decode cX12_draw 13 = .ok (.ldc2_w 224, 3) := by decide +kernel
theorem dX12_draw_16 : decode cX12_draw 16 = .ok (.land, 1) := by decide +kernel
theorem dX12_draw_17 : decode cX12_draw 17 = .ok (.putfield 218, 3) := by decide +kernel
theorem dX12_draw_20 : decode cX12_draw 20 = .ok (.aload_n 0, 1) := by decide +kernel
theorem dX12_draw_21 : decode cX12_draw 21 = .ok (.getfield 218, 3) := by decide +kernel
theorem dX12_draw_24 : decode cX12_draw 24 = .ok (.ldc2_w 226, 3) := by decide +kernel
theorem dX12_draw_27 : decode cX12_draw 27 = .ok (.ldiv, 1) := by decide +kernel
theorem dX12_draw_28 : decode cX12_draw 28 = .ok (.iload_n 1, 1) := by decide +kernel
theorem dX12_draw_29 : decode cX12_draw 29 = .ok (.i2l, 1) := by decide +kernel
theorem dX12_draw_30 : decode cX12_draw 30 = .ok (.lrem, 1) := by decide +kernel
theorem dX12_draw_31 : decode cX12_draw 31 = .ok (.l2i, 1) := by decide +kernel
theorem dX12_draw_32 : decode cX12_draw 32 = .ok (.ireturn, 1) := by decide +kernel
theorem dX12_whirlsNow_0 : decode cX12_whirlsNow 0 = .ok (.aload_n 0, 1) := by decide +kernel
theorem dX12_whirlsNow_1 : decode cX12_whirlsNow 1 = .ok (.getfield 80, 3) := by decide +kernel
theorem dX12_whirlsNow_4 : decode cX12_whirlsNow 4 = .ok (.istore 4, 2) := by decide +kernel
theorem dX12_whirlsNow_6 : decode cX12_whirlsNow 6 = .ok (.aload_n 0, 1) := by decide +kernel
theorem dX12_whirlsNow_7 : decode cX12_whirlsNow 7 = .ok (.getfield 101, 3) := by decide +kernel
theorem dX12_whirlsNow_10 : decode cX12_whirlsNow 10 = .ok (.istore 5, 2) := by decide +kernel
theorem dX12_whirlsNow_12 : decode cX12_whirlsNow 12 = .ok (.aload_n 0, 1) := by decide +kernel
theorem dX12_whirlsNow_13 : decode cX12_whirlsNow 13 = .ok (.getfield 104, 3) := by decide +kernel
theorem dX12_whirlsNow_16 : decode cX12_whirlsNow 16 = .ok (.istore 6, 2) := by decide +kernel
theorem dX12_whirlsNow_18 : decode cX12_whirlsNow 18 = .ok (.aload_n 0, 1) := by decide +kernel
theorem dX12_whirlsNow_19 : decode cX12_whirlsNow 19 = .ok (.iload_n 2, 1) := by decide +kernel
theorem dX12_whirlsNow_20 : decode cX12_whirlsNow 20 = .ok (.i2l, 1) := by decide +kernel
theorem dX12_whirlsNow_21 : decode cX12_whirlsNow 21 = .ok (.putfield 218, 3) := by decide +kernel
theorem dX12_whirlsNow_24 : decode cX12_whirlsNow 24 = .ok (.iconst 1, 1) := by decide +kernel
theorem dX12_whirlsNow_25 : decode cX12_whirlsNow 25 = .ok (.istore 7, 2) := by decide +kernel
theorem dX12_whirlsNow_27 : decode cX12_whirlsNow 27 = .ok (.iconst 0, 1) := by decide +kernel
theorem dX12_whirlsNow_28 : decode cX12_whirlsNow 28 = .ok (.istore 8, 2) := by decide +kernel
theorem dX12_whirlsNow_30 : decode cX12_whirlsNow 30 = .ok (.iload 8, 2) := by decide +kernel
theorem dX12_whirlsNow_32 : decode cX12_whirlsNow 32 = .ok (.iload_n 1, 1) := by decide +kernel
theorem dX12_whirlsNow_33 : decode cX12_whirlsNow 33 = .ok (.if_icmp .ge 53, 3) := by decide +kernel
theorem dX12_whirlsNow_36 : decode cX12_whirlsNow 36 = .ok (.iload 7, 2) := by decide +kernel
theorem dX12_whirlsNow_38 : decode cX12_whirlsNow 38 = .ok (.ifCond .eq 48, 3) := by decide +kernel
theorem dX12_whirlsNow_41 : decode cX12_whirlsNow 41 = .ok (.aload_n 0, 1) := by decide +kernel
theorem dX12_whirlsNow_42 : decode cX12_whirlsNow 42 = .ok (.getfield 80, 3) := by decide +kernel
theorem dX12_whirlsNow_45 : decode cX12_whirlsNow 45 = .ok (.aload_n 0, 1) := by decide +kernel
theorem dX12_whirlsNow_46 : decode cX12_whirlsNow 46 = .ok (.bipush 7, 2) := by decide +kernel
theorem dX12_whirlsNow_48 : decode cX12_whirlsNow 48 = .ok (.invokevirtual 228, 3) := by decide +kernel
theorem dX12_whirlsNow_51 : decode cX12_whirlsNow 51 = .ok (.invokestatic 176, 3) := by decide +kernel
theorem dX12_whirlsNow_54 : decode cX12_whirlsNow 54 = .ok (.isub, 1) := by decide +kernel
theorem dX12_whirlsNow_55 : decode cX12_whirlsNow 55 = .ok (.istore 9, 2) := by decide +kernel
theorem dX12_whirlsNow_57 : decode cX12_whirlsNow 57 = .ok (.aload_n 0, 1) := by decide +kernel
theorem dX12_whirlsNow_58 : decode cX12_whirlsNow 58 = .ok (.iload 9, 2) := by decide +kernel
theorem dX12_whirlsNow_60 : decode cX12_whirlsNow 60 = .ok (.invokestatic 154, 3) := by decide +kernel
theorem dX12_whirlsNow_63 : decode cX12_whirlsNow 63 = .ok (.ifCond .eq 8, 3) := by decide +kernel
theorem dX12_whirlsNow_66 : decode cX12_whirlsNow 66 = .ok (.iload 9, 2) := by decide +kernel
theorem dX12_whirlsNow_68 : decode cX12_whirlsNow 68 = .ok (.goto 7, 3) := by decide +kernel
theorem dX12_whirlsNow_71 : decode cX12_whirlsNow 71 = .ok (.aload_n 0, 1) := by decide +kernel
theorem dX12_whirlsNow_72 : decode cX12_whirlsNow 72 = .ok (.getfield 80, 3) := by decide +kernel
theorem dX12_whirlsNow_75 : decode cX12_whirlsNow 75 = .ok (.invokevirtual 157, 3) := by decide +kernel
theorem dX12_whirlsNow_78 : decode cX12_whirlsNow 78 = .ok (.istore 7, 2) := by decide +kernel
theorem dX12_whirlsNow_80 : decode cX12_whirlsNow 80 = .ok (.iinc 8 1, 3) := by decide +kernel
theorem dX12_whirlsNow_83 : decode cX12_whirlsNow 83 = .ok (.goto (-53), 3) := by decide +kernel
theorem dX12_whirlsNow_86 : decode cX12_whirlsNow 86 = .ok (.iload_n 3, 1) := by decide +kernel
theorem dX12_whirlsNow_87 : decode cX12_whirlsNow 87 = .ok (.ifCond .ne 10, 3) := by decide +kernel
theorem dX12_whirlsNow_90 : decode cX12_whirlsNow 90 = .ok (.aload_n 0, 1) := by decide +kernel
theorem dX12_whirlsNow_91 : decode cX12_whirlsNow 91 = .ok (.getfield 80, 3) := by decide +kernel
theorem dX12_whirlsNow_94 : decode cX12_whirlsNow 94 = .ok (.goto 35, 3) := by decide +kernel
theorem dX12_whirlsNow_97 : decode cX12_whirlsNow 97 = .ok (.iload_n 3, 1) := by decide +kernel
theorem dX12_whirlsNow_98 : decode cX12_whirlsNow 98 = .ok (.iconst 1, 1) := by decide +kernel
theorem dX12_whirlsNow_99 : decode cX12_whirlsNow 99 = .ok (.if_icmp .ne 10, 3) := by decide +kernel
theorem dX12_whirlsNow_102 : decode cX12_whirlsNow 102 = .ok (.aload_n 0, 1) := by decide +kernel
theorem dX12_whirlsNow_103 : decode cX12_whirlsNow 103 = .ok (.getfield 101, 3) := by decide +kernel
theorem dX12_whirlsNow_106 : decode cX12_whirlsNow 106 = .ok (.goto 23, 3) := by decide +kernel
theorem dX12_whirlsNow_109 : decode cX12_whirlsNow 109 = .ok (.iload_n 3, 1) := by decide +kernel
theorem dX12_whirlsNow_110 : decode cX12_whirlsNow 110 = .ok (.iconst 2, 1) := by decide +kernel
theorem dX12_whirlsNow_111 : decode cX12_whirlsNow 111 = .ok (.if_icmp .ne 13, 3) := by decide +kernel
theorem dX12_whirlsNow_114 : decode cX12_whirlsNow 114 = .ok (.aload_n 0, 1) := by decide +kernel
theorem dX12_whirlsNow_115 : decode cX12_whirlsNow 115 = .ok (.getfield 104, 3) := by decide +kernel
theorem dX12_whirlsNow_118 : decode cX12_whirlsNow 118 = .ok (.iload 6, 2) := by decide +kernel
theorem dX12_whirlsNow_120 : decode cX12_whirlsNow 120 = .ok (.isub, 1) := by decide +kernel
theorem dX12_whirlsNow_121 : decode cX12_whirlsNow 121 = .ok (.goto 8, 3) := by decide +kernel
theorem dX12_whirlsNow_124 : decode cX12_whirlsNow 124 = .ok (.aload_n 0, 1) := by decide +kernel
theorem dX12_whirlsNow_125 : decode cX12_whirlsNow 125 = .ok (.getfield 218, 3) := by decide +kernel
theorem dX12_whirlsNow_128 : decode cX12_whirlsNow 128 = .ok (.l2i, 1) := by decide +kernel
theorem dX12_whirlsNow_129 : decode cX12_whirlsNow 129 = .ok (.istore 8, 2) := by decide +kernel
theorem dX12_whirlsNow_131 : decode cX12_whirlsNow 131 = .ok (.aload_n 0, 1) := by decide +kernel
theorem dX12_whirlsNow_132 : decode cX12_whirlsNow 132 = .ok (.iload 4, 2) := by decide +kernel
theorem dX12_whirlsNow_134 : decode cX12_whirlsNow 134 = .ok (.putfield 80, 3) := by decide +kernel
theorem dX12_whirlsNow_137 : decode cX12_whirlsNow 137 = .ok (.aload_n 0, 1) := by decide +kernel
theorem dX12_whirlsNow_138 : decode cX12_whirlsNow 138 = .ok (.iload 5, 2) := by decide +kernel
theorem dX12_whirlsNow_140 : decode cX12_whirlsNow 140 = .ok (.putfield 101, 3) := by decide +kernel
theorem dX12_whirlsNow_143 : decode cX12_whirlsNow 143 = .ok (.aload_n 0, 1) := by decide +kernel
theorem dX12_whirlsNow_144 : decode cX12_whirlsNow 144 = .ok (.iload 6, 2) := by decide +kernel
theorem dX12_whirlsNow_146 : decode cX12_whirlsNow 146 = .ok (.putfield 104, 3) := by decide +kernel
theorem dX12_whirlsNow_149 : decode cX12_whirlsNow 149 = .ok (.aload_n 0, 1) := by decide +kernel
theorem dX12_whirlsNow_150 : decode cX12_whirlsNow 150 = .ok (.iconst 0, 1) := by decide +kernel
theorem dX12_whirlsNow_151 : decode cX12_whirlsNow 151 = .ok (.putfield 92, 3) := by decide +kernel
theorem dX12_whirlsNow_154 : decode cX12_whirlsNow 154 = .ok (.iload 8, 2) := by decide +kernel
theorem dX12_whirlsNow_156 : decode cX12_whirlsNow 156 = .ok (.ireturn, 1) := by decide +kernel
theorem dX12_whirls_0 : decode cX12_whirls 0 = .ok (.iload_n 1, 1) := by decide +kernel
theorem dX12_whirls_1 : decode cX12_whirls 1 = .ok (.iconst 1, 1) := by decide +kernel
theorem dX12_whirls_2 : decode cX12_whirls 2 = .ok (.bipush 60, 2) := by decide +kernel
theorem dX12_whirls_4 : decode cX12_whirls 4 = .ok (.invokestatic 53, 3) := by decide +kernel
theorem dX12_whirls_7 : decode cX12_whirls 7 = .ok (.ifCond .eq 16, 3) := by decide +kernel
theorem dX12_whirls_10 : decode cX12_whirls 10 = .ok (.iload_n 2, 1) := by decide +kernel
theorem dX12_whirls_11 : decode cX12_whirls 11 = .ok (.ifCond .lt 12, 3) := by decide +kernel
theorem dX12_whirls_14 : decode cX12_whirls 14 = .ok (.iload_n 3, 1) := by decide +kernel
theorem dX12_whirls_15 : decode cX12_whirls 15 = .ok (.iconst 0, 1) := by decide +kernel
theorem dX12_whirls_16 : decode cX12_whirls 16 = .ok (.iconst 3, 1) := by decide +kernel
theorem dX12_whirls_17 : decode cX12_whirls 17 = .ok (.invokestatic 53, 3) := by decide +kernel
theorem dX12_whirls_20 : decode cX12_whirls 20 = .ok (.ifCond .ne 6, 3) := by decide +kernel
theorem dX12_whirls_23 : decode cX12_whirls 23 = .ok (.bipush (-102), 2) := by decide +kernel
theorem dX12_whirls_25 : decode cX12_whirls 25 = .ok (.ireturn, 1) := by decide +kernel
theorem dX12_whirls_26 : decode cX12_whirls 26 = .ok (.aload_n 0, 1) := by decide +kernel
theorem dX12_whirls_27 : decode cX12_whirls 27 = .ok (.getfield 95, 3) := by decide +kernel
theorem dX12_whirls_30 : decode cX12_whirls 30 = .ok (.ifCond .eq 20, 3) := by decide +kernel
theorem dX12_whirls_33 : decode cX12_whirls 33 = .ok (.aload_n 0, 1) := by decide +kernel
theorem dX12_whirls_34 : decode cX12_whirls 34 = .ok (.getfield 92, 3) := by decide +kernel
theorem dX12_whirls_37 : decode cX12_whirls 37 = .ok (.ifCond .ne 13, 3) := by decide +kernel
theorem dX12_whirls_40 : decode cX12_whirls 40 = .ok (.aload_n 0, 1) := by decide +kernel
theorem dX12_whirls_41 : decode cX12_whirls 41 = .ok (.iload_n 1, 1) := by decide +kernel
theorem dX12_whirls_42 : decode cX12_whirls 42 = .ok (.iload_n 2, 1) := by decide +kernel
theorem dX12_whirls_43 : decode cX12_whirls 43 = .ok (.iload_n 3, 1) := by decide +kernel
theorem dX12_whirls_44 : decode cX12_whirls 44 = .ok (.invokevirtual 231, 3) := by decide +kernel
theorem dX12_whirls_47 : decode cX12_whirls 47 = .ok (.goto 5, 3) := by decide +kernel
theorem dX12_whirls_50 : decode cX12_whirls 50 = .ok (.bipush (-103), 2) := by decide +kernel
theorem dX12_whirls_52 : decode cX12_whirls 52 = .ok (.ireturn, 1) := by decide +kernel
theorem dX12_image_0 : decode cX12_image 0 = .ok (.aload_n 0, 1) := by decide +kernel
theorem dX12_image_1 : decode cX12_image 1 = .ok (.getfield 95, 3) := by decide +kernel
theorem dX12_image_4 : decode cX12_image 4 = .ok (.ifCond .ne 6, 3) := by decide +kernel
theorem dX12_image_7 : decode cX12_image 7 = .ok (.bipush (-103), 2) := by decide +kernel
theorem dX12_image_9 : decode cX12_image 9 = .ok (.ireturn, 1) := by decide +kernel
theorem dX12_image_10 : decode cX12_image 10 = .ok (.aload_n 0, 1) := by decide +kernel
theorem dX12_image_11 : decode cX12_image 11 = .ok (.iconst 1, 1) := by decide +kernel
theorem dX12_image_12 : decode cX12_image 12 = .ok (.putfield 234, 3) := by decide +kernel
theorem dX12_image_15 : decode cX12_image 15 = .ok (.aload_n 0, 1) := by decide +kernel
theorem dX12_image_16 : decode cX12_image 16 = .ok (.aload_n 0, 1) := by decide +kernel
theorem dX12_image_17 : decode cX12_image 17 = .ok (.getfield 98, 3) := by decide +kernel
theorem dX12_image_20 : decode cX12_image 20 = .ok (.putfield 237, 3) := by decide +kernel
theorem dX12_image_23 : decode cX12_image 23 = .ok (.aload_n 0, 1) := by decide +kernel
theorem dX12_image_24 : decode cX12_image 24 = .ok (.aload_n 0, 1) := by decide +kernel
theorem dX12_image_25 : decode cX12_image 25 = .ok (.getfield 80, 3) := by decide +kernel
theorem dX12_image_28 : decode cX12_image 28 = .ok (.putfield 240, 3) := by decide +kernel
theorem dX12_image_31 : decode cX12_image 31 = .ok (.aload_n 0, 1) := by decide +kernel
theorem dX12_image_32 : decode cX12_image 32 = .ok (.aload_n 0, 1) := by decide +kernel
theorem dX12_image_33 : decode cX12_image 33 = .ok (.getfield 101, 3) := by decide +kernel
theorem dX12_image_36 : decode cX12_image 36 = .ok (.putfield 243, 3) := by decide +kernel
theorem dX12_image_39 : decode cX12_image 39 = .ok (.aload_n 0, 1) := by decide +kernel
theorem dX12_image_40 : decode cX12_image 40 = .ok (.aload_n 0, 1) := by decide +kernel
theorem dX12_image_41 : decode cX12_image 41 = .ok (.getfield 104, 3) := by decide +kernel
theorem dX12_image_44 : decode cX12_image 44 = .ok (.putfield 246, 3) := by decide +kernel
theorem dX12_image_47 : decode cX12_image 47 = .ok (.aload_n 0, 1) := by decide +kernel
theorem dX12_image_48 : decode cX12_image 48 = .ok (.aload_n 0, 1) := by decide +kernel
theorem dX12_image_49 : decode cX12_image 49 = .ok (.getfield 92, 3) := by decide +kernel
theorem dX12_image_52 : decode cX12_image 52 = .ok (.putfield 249, 3) := by decide +kernel
theorem dX12_image_55 : decode cX12_image 55 = .ok (.aload_n 0, 1) := by decide +kernel
theorem dX12_image_56 : decode cX12_image 56 = .ok (.aload_n 0, 1) := by decide +kernel
theorem dX12_image_57 : decode cX12_image 57 = .ok (.getfield 107, 3) := by decide +kernel
theorem dX12_image_60 : decode cX12_image 60 = .ok (.putfield 252, 3) := by decide +kernel
theorem dX12_image_63 : decode cX12_image 63 = .ok (.iconst 0, 1) := by decide +kernel
theorem dX12_image_64 : decode cX12_image 64 = .ok (.istore_n 1, 1) := by decide +kernel
theorem dX12_image_65 : decode cX12_image 65 = .ok (.iload_n 1, 1) := by decide +kernel
theorem dX12_image_66 : decode cX12_image 66 = .ok (.bipush 6, 2) := by decide +kernel
theorem dX12_image_68 : decode cX12_image 68 = .ok (.if_icmp .ge 33, 3) := by decide +kernel
theorem dX12_image_71 : decode cX12_image 71 = .ok (.aload_n 0, 1) := by decide +kernel
theorem dX12_image_72 : decode cX12_image 72 = .ok (.getfield 38, 3) := by decide +kernel
theorem dX12_image_75 : decode cX12_image 75 = .ok (.iload_n 1, 1) := by decide +kernel
theorem dX12_image_76 : decode cX12_image 76 = .ok (.aload_n 0, 1) := by decide +kernel
theorem dX12_image_77 : decode cX12_image 77 = .ok (.getfield 16, 3) := by decide +kernel
theorem dX12_image_80 : decode cX12_image 80 = .ok (.iload_n 1, 1) := by decide +kernel
theorem dX12_image_81 : decode cX12_image 81 = .ok (.iaload, 1) := by decide +kernel
theorem dX12_image_82 : decode cX12_image 82 = .ok (.iastore, 1) := by decide +kernel
theorem dX12_image_83 : decode cX12_image 83 = .ok (.aload_n 0, 1) := by decide +kernel
theorem dX12_image_84 : decode cX12_image 84 = .ok (.getfield 41, 3) := by decide +kernel
theorem dX12_image_87 : decode cX12_image 87 = .ok (.iload_n 1, 1) := by decide +kernel
theorem dX12_image_88 : decode cX12_image 88 = .ok (.aload_n 0, 1) := by decide +kernel
theorem dX12_image_89 : decode cX12_image 89 = .ok (.getfield 19, 3) := by decide +kernel
theorem dX12_image_92 : decode cX12_image 92 = .ok (.iload_n 1, 1) := by decide +kernel
theorem dX12_image_93 : decode cX12_image 93 = .ok (.iaload, 1) := by decide +kernel
theorem dX12_image_94 : decode cX12_image 94 = .ok (.iastore, 1) := by decide +kernel
theorem dX12_image_95 : decode cX12_image 95 = .ok (.iinc 1 1, 3) := by decide +kernel
theorem dX12_image_98 : decode cX12_image 98 = .ok (.goto (-33), 3) := by decide +kernel
theorem dX12_image_101 : decode cX12_image 101 = .ok (.aload_n 0, 1) := by decide +kernel
theorem dX12_image_102 : decode cX12_image 102 = .ok (.getfield 104, 3) := by decide +kernel
theorem dX12_image_105 : decode cX12_image 105 = .ok (.ireturn, 1) := by decide +kernel
theorem dX12_restore_0 : decode cX12_restore 0 = .ok (.aload_n 0, 1) := by decide +kernel
theorem dX12_restore_1 : decode cX12_restore 1 = .ok (.getfield 234, 3) := by decide +kernel
theorem dX12_restore_4 : decode cX12_restore 4 = .ok (.ifCond .eq 14, 3) := by decide +kernel
theorem dX12_restore_7 : decode cX12_restore 7 = .ok (.aload_n 0, 1) := by decide +kernel
theorem dX12_restore_8 : decode cX12_restore 8 = .ok (.getfield 237, 3) := by decide +kernel
theorem dX12_restore_11 : decode cX12_restore 11 = .ok (.aload_n 0, 1) := by decide +kernel
theorem dX12_restore_12 : decode cX12_restore 12 = .ok (.getfield 98, 3) := by decide +kernel
theorem dX12_restore_15 : decode cX12_restore 15 = .ok (.if_icmp .eq 6, 3) := by decide +kernel
theorem dX12_restore_18 : decode cX12_restore 18 = .ok (.bipush (-103), 2) := by decide +kernel
theorem dX12_restore_20 : decode cX12_restore 20 = .ok (.ireturn, 1) := by decide +kernel
theorem dX12_restore_21 : decode cX12_restore 21 = .ok (.aload_n 0, 1) := by decide +kernel
theorem dX12_restore_22 : decode cX12_restore 22 = .ok (.aload_n 0, 1) := by decide +kernel
theorem dX12_restore_23 : decode cX12_restore 23 = .ok (.getfield 240, 3) := by decide +kernel
theorem dX12_restore_26 : decode cX12_restore 26 = .ok (.putfield 80, 3) := by decide +kernel
theorem dX12_restore_29 : decode cX12_restore 29 = .ok (.aload_n 0, 1) := by decide +kernel
theorem dX12_restore_30 : decode cX12_restore 30 = .ok (.aload_n 0, 1) := by decide +kernel
theorem dX12_restore_31 : decode cX12_restore 31 = .ok (.getfield 243, 3) := by decide +kernel
theorem dX12_restore_34 : decode cX12_restore 34 = .ok (.putfield 101, 3) := by decide +kernel
theorem dX12_restore_37 : decode cX12_restore 37 = .ok (.aload_n 0, 1) := by decide +kernel
theorem dX12_restore_38 : decode cX12_restore 38 = .ok (.aload_n 0, 1) := by decide +kernel
theorem dX12_restore_39 : decode cX12_restore 39 = .ok (.getfield 246, 3) := by decide +kernel
theorem dX12_restore_42 : decode cX12_restore 42 = .ok (.putfield 104, 3) := by decide +kernel
theorem dX12_restore_45 : decode cX12_restore 45 = .ok (.aload_n 0, 1) := by decide +kernel
theorem dX12_restore_46 : decode cX12_restore 46 = .ok (.aload_n 0, 1) := by decide +kernel
theorem dX12_restore_47 : decode cX12_restore 47 = .ok (.getfield 249, 3) := by decide +kernel
theorem dX12_restore_50 : decode cX12_restore 50 = .ok (.putfield 92, 3) := by decide +kernel
theorem dX12_restore_53 : decode cX12_restore 53 = .ok (.aload_n 0, 1) := by decide +kernel
theorem dX12_restore_54 : decode cX12_restore 54 = .ok (.aload_n 0, 1) := by decide +kernel
theorem dX12_restore_55 : decode cX12_restore 55 = .ok (.getfield 252, 3) := by decide +kernel
theorem dX12_restore_58 : decode cX12_restore 58 = .ok (.putfield 107, 3) := by decide +kernel
theorem dX12_restore_61 : decode cX12_restore 61 = .ok (.iconst 0, 1) := by decide +kernel
theorem dX12_restore_62 : decode cX12_restore 62 = .ok (.istore_n 1, 1) := by decide +kernel
theorem dX12_restore_63 : decode cX12_restore 63 = .ok (.iload_n 1, 1) := by decide +kernel
theorem dX12_restore_64 : decode cX12_restore 64 = .ok (.bipush 6, 2) := by decide +kernel
theorem dX12_restore_66 : decode cX12_restore 66 = .ok (.if_icmp .ge 33, 3) := by decide +kernel
theorem dX12_restore_69 : decode cX12_restore 69 = .ok (.aload_n 0, 1) := by decide +kernel
theorem dX12_restore_70 : decode cX12_restore 70 = .ok (.getfield 16, 3) := by decide +kernel
theorem dX12_restore_73 : decode cX12_restore 73 = .ok (.iload_n 1, 1) := by decide +kernel
theorem dX12_restore_74 : decode cX12_restore 74 = .ok (.aload_n 0, 1) := by decide +kernel
theorem dX12_restore_75 : decode cX12_restore 75 = .ok (.getfield 38, 3) := by decide +kernel
theorem dX12_restore_78 : decode cX12_restore 78 = .ok (.iload_n 1, 1) := by decide +kernel
theorem dX12_restore_79 : decode cX12_restore 79 = .ok (.iaload, 1) := by decide +kernel
theorem dX12_restore_80 : decode cX12_restore 80 = .ok (.iastore, 1) := by decide +kernel
theorem dX12_restore_81 : decode cX12_restore 81 = .ok (.aload_n 0, 1) := by decide +kernel
theorem dX12_restore_82 : decode cX12_restore 82 = .ok (.getfield 19, 3) := by decide +kernel
theorem dX12_restore_85 : decode cX12_restore 85 = .ok (.iload_n 1, 1) := by decide +kernel
theorem dX12_restore_86 : decode cX12_restore 86 = .ok (.aload_n 0, 1) := by decide +kernel
theorem dX12_restore_87 : decode cX12_restore 87 = .ok (.getfield 41, 3) := by decide +kernel
theorem dX12_restore_90 : decode cX12_restore 90 = .ok (.iload_n 1, 1) := by decide +kernel
theorem dX12_restore_91 : decode cX12_restore 91 = .ok (.iaload, 1) := by decide +kernel
theorem dX12_restore_92 : decode cX12_restore 92 = .ok (.iastore, 1) := by decide +kernel
theorem dX12_restore_93 : decode cX12_restore 93 = .ok (.iinc 1 1, 3) := by decide +kernel
theorem dX12_restore_96 : decode cX12_restore 96 = .ok (.goto (-33), 3) := by decide +kernel
theorem dX12_restore_99 : decode cX12_restore 99 = .ok (.aload_n 0, 1) := by decide +kernel
theorem dX12_restore_100 : decode cX12_restore 100 = .ok (.getfield 104, 3) := by decide +kernel
theorem dX12_restore_103 : decode cX12_restore 103 = .ok (.ireturn, 1) := by decide +kernel
theorem dX12_one_0 : decode cX12_one 0 = .ok (.iload_n 0, 1) := by decide +kernel
theorem dX12_one_1 : decode cX12_one 1 = .ok (.ifCond .eq 7, 3) := by decide +kernel
theorem dX12_one_4 : decode cX12_one 4 = .ok (.iconst 1, 1) := by decide +kernel
theorem dX12_one_5 : decode cX12_one 5 = .ok (.goto 4, 3) := by decide +kernel
theorem dX12_one_8 : decode cX12_one 8 = .ok (.iconst 0, 1) := by decide +kernel
theorem dX12_one_9 : decode cX12_one 9 = .ok (.ireturn, 1) := by decide +kernel
theorem dX12_howMany_0 : decode cX12_howMany 0 = .ok (.iload_n 1, 1) := by decide +kernel
theorem dX12_howMany_1 : decode cX12_howMany 1 = .ok (.tableswitch 150 0 12 #[67, 72, 81, 86, 99, 104, 112, 117, 122, 130, 135, 140, 145], 67) := by decide +kernel
theorem dX12_howMany_68 : decode cX12_howMany 68 = .ok (.aload_n 0, 1) := by decide +kernel
theorem dX12_howMany_69 : decode cX12_howMany 69 = .ok (.getfield 80, 3) := by decide +kernel
theorem dX12_howMany_72 : decode cX12_howMany 72 = .ok (.ireturn, 1) := by decide +kernel
theorem dX12_howMany_73 : decode cX12_howMany 73 = .ok (.aload_n 0, 1) := by decide +kernel
theorem dX12_howMany_74 : decode cX12_howMany 74 = .ok (.aload_n 0, 1) := by decide +kernel
theorem dX12_howMany_75 : decode cX12_howMany 75 = .ok (.getfield 80, 3) := by decide +kernel
theorem dX12_howMany_78 : decode cX12_howMany 78 = .ok (.invokevirtual 128, 3) := by decide +kernel
theorem dX12_howMany_81 : decode cX12_howMany 81 = .ok (.ireturn, 1) := by decide +kernel
theorem dX12_howMany_82 : decode cX12_howMany 82 = .ok (.aload_n 0, 1) := by decide +kernel
theorem dX12_howMany_83 : decode cX12_howMany 83 = .ok (.getfield 83, 3) := by decide +kernel
theorem dX12_howMany_86 : decode cX12_howMany 86 = .ok (.ireturn, 1) := by decide +kernel
theorem dX12_howMany_87 : decode cX12_howMany 87 = .ok (.aload_n 0, 1) := by decide +kernel
theorem dX12_howMany_88 : decode cX12_howMany 88 = .ok (.aload_n 0, 1) := by decide +kernel
theorem dX12_howMany_89 : decode cX12_howMany 89 = .ok (.getfield 80, 3) := by decide +kernel
theorem dX12_howMany_92 : decode cX12_howMany 92 = .ok (.aload_n 0, 1) := by decide +kernel
theorem dX12_howMany_93 : decode cX12_howMany 93 = .ok (.getfield 104, 3) := by decide +kernel
theorem dX12_howMany_96 : decode cX12_howMany 96 = .ok (.invokevirtual 151, 3) := by decide +kernel
theorem dX12_howMany_99 : decode cX12_howMany 99 = .ok (.ireturn, 1) := by decide +kernel
theorem dX12_howMany_100 : decode cX12_howMany 100 = .ok (.aload_n 0, 1) := by decide +kernel
theorem dX12_howMany_101 : decode cX12_howMany 101 = .ok (.getfield 86, 3) := by decide +kernel
theorem dX12_howMany_104 : decode cX12_howMany 104 = .ok (.ireturn, 1) := by decide +kernel
theorem dX12_howMany_105 : decode cX12_howMany 105 = .ok (.aload_n 0, 1) := by decide +kernel
theorem dX12_howMany_106 : decode cX12_howMany 106 = .ok (.getfield 89, 3) := by decide +kernel
theorem dX12_howMany_109 : decode cX12_howMany 109 = .ok (.invokestatic 255, 3) := by decide +kernel
theorem dX12_howMany_112 : decode cX12_howMany 112 = .ok (.ireturn, 1) := by decide +kernel
theorem dX12_howMany_113 : decode cX12_howMany 113 = .ok (.aload_n 0, 1) := by decide +kernel
theorem dX12_howMany_114 : decode cX12_howMany 114 = .ok (.getfield 101, 3) := by decide +kernel
theorem dX12_howMany_117 : decode cX12_howMany 117 = .ok (.ireturn, 1) := by decide +kernel
theorem dX12_howMany_118 : decode cX12_howMany 118 = .ok (.aload_n 0, 1) := by decide +kernel
theorem dX12_howMany_119 : decode cX12_howMany 119 = .ok (.getfield 104, 3) := by decide +kernel
theorem dX12_howMany_122 : decode cX12_howMany 122 = .ok (.ireturn, 1) := by decide +kernel
theorem dX12_howMany_123 : decode cX12_howMany 123 = .ok (.aload_n 0, 1) := by decide +kernel
theorem dX12_howMany_124 : decode cX12_howMany 124 = .ok (.getfield 92, 3) := by decide +kernel
theorem dX12_howMany_127 : decode cX12_howMany 127 = .ok (.invokestatic 255, 3) := by decide +kernel
theorem dX12_howMany_130 : decode cX12_howMany 130 = .ok (.ireturn, 1) := by decide +kernel
theorem dX12_howMany_131 : decode cX12_howMany 131 = .ok (.aload_n 0, 1) := by decide +kernel
theorem dX12_howMany_132 : decode cX12_howMany 132 = .ok (.getfield 107, 3) := by decide +kernel
theorem dX12_howMany_135 : decode cX12_howMany 135 = .ok (.ireturn, 1) := by decide +kernel
theorem dX12_howMany_136 : decode cX12_howMany 136 = .ok (.aload_n 0, 1) := by decide +kernel
theorem dX12_howMany_137 : decode cX12_howMany 137 = .ok (.getfield 46, 3) := by decide +kernel
theorem dX12_howMany_140 : decode cX12_howMany 140 = .ok (.ireturn, 1) := by decide +kernel
theorem dX12_howMany_141 : decode cX12_howMany 141 = .ok (.aload_n 0, 1) := by decide +kernel
theorem dX12_howMany_142 : decode cX12_howMany 142 = .ok (.getfield 98, 3) := by decide +kernel
theorem dX12_howMany_145 : decode cX12_howMany 145 = .ok (.ireturn, 1) := by decide +kernel
theorem dX12_howMany_146 : decode cX12_howMany 146 = .ok (.aload_n 0, 1) := by decide +kernel
theorem dX12_howMany_147 : decode cX12_howMany 147 = .ok (.getfield 110, 3) := by decide +kernel
theorem dX12_howMany_150 : decode cX12_howMany 150 = .ok (.ireturn, 1) := by decide +kernel
theorem dX12_howMany_151 : decode cX12_howMany 151 = .ok (.bipush (-102), 2) := by decide +kernel
theorem dX12_howMany_153 : decode cX12_howMany 153 = .ok (.ireturn, 1) := by decide +kernel
theorem dX12_count_0 : decode cX12_count 0 = .ok (.aload_n 0, 1) := by decide +kernel
theorem dX12_count_1 : decode cX12_count 1 = .ok (.iload_n 1, 1) := by decide +kernel
theorem dX12_count_2 : decode cX12_count 2 = .ok (.invokevirtual 259, 3) := by decide +kernel
theorem dX12_count_5 : decode cX12_count 5 = .ok (.ireturn, 1) := by decide +kernel
theorem dX12_mix_0 : decode cX12_mix 0 = .ok (.aload_n 0, 1) := by decide +kernel
theorem dX12_mix_1 : decode cX12_mix 1 = .ok (.ldc2_w 262, 3) := by decide +kernel
theorem dX12_mix_4 : decode cX12_mix 4 = .ok (.aload_n 0, 1) := by decide +kernel
theorem dX12_mix_5 : decode cX12_mix 5 = .ok (.getfield 264, 3) := by decide +kernel
theorem dX12_mix_8 : decode cX12_mix 8 = .ok (.lmul, 1) := by decide +kernel
theorem dX12_mix_9 : decode cX12_mix 9 = .ok (.lload_n 1, 1) := by decide +kernel
theorem dX12_mix_10 : decode cX12_mix 10 = .ok (.ladd, 1) := by decide +kernel
theorem dX12_mix_11 : decode cX12_mix 11 = .ok (.putfield 264, 3) := by decide +kernel
theorem dX12_mix_14 : decode cX12_mix 14 = .ok (.return_, 1) := by decide +kernel
theorem dX12_digest_0 : decode cX12_digest 0 = .ok (.aload_n 0, 1) := by decide +kernel
theorem dX12_digest_1 : decode cX12_digest 1 = .ok (.ldc2_w 267, 3) := by decide +kernel
theorem dX12_digest_4 : decode cX12_digest 4 = .ok (.putfield 264, 3) := by decide +kernel
theorem dX12_digest_7 : decode cX12_digest 7 = .ok (.iconst 0, 1) := by decide +kernel
theorem dX12_digest_8 : decode cX12_digest 8 = .ok (.istore_n 1, 1) := by decide +kernel
theorem dX12_digest_9 : decode cX12_digest 9 = .ok (.iload_n 1, 1) := by decide +kernel
theorem dX12_digest_10 : decode cX12_digest 10 = .ok (.iconst 2, 1) := by decide +kernel
theorem dX12_digest_11 : decode cX12_digest 11 = .ok (.if_icmp .ge 40, 3) := by decide +kernel
theorem dX12_digest_14 : decode cX12_digest 14 = .ok (.aload_n 0, 1) := by decide +kernel
theorem dX12_digest_15 : decode cX12_digest 15 = .ok (.getfield 95, 3) := by decide +kernel
theorem dX12_digest_18 : decode cX12_digest 18 = .ok (.ifCond .eq 33, 3) := by decide +kernel
theorem dX12_digest_21 : decode cX12_digest 21 = .ok (.iconst 0, 1) := by decide +kernel
theorem dX12_digest_22 : decode cX12_digest 22 = .ok (.istore_n 2, 1) := by decide +kernel
theorem dX12_digest_23 : decode cX12_digest 23 = .ok (.iload_n 2, 1) := by decide +kernel
theorem dX12_digest_24 : decode cX12_digest 24 = .ok (.iconst 4, 1) := by decide +kernel
theorem dX12_digest_25 : decode cX12_digest 25 = .ok (.if_icmp .ge 20, 3) := by decide +kernel
theorem dX12_digest_28 : decode cX12_digest 28 = .ok (.aload_n 0, 1) := by decide +kernel
theorem dX12_digest_29 : decode cX12_digest 29 = .ok (.aload_n 0, 1) := by decide +kernel
theorem dX12_digest_30 : decode cX12_digest 30 = .ok (.iload_n 1, 1) := by decide +kernel
theorem dX12_digest_31 : decode cX12_digest 31 = .ok (.iload_n 2, 1) := by decide +kernel
theorem dX12_digest_32 : decode cX12_digest 32 = .ok (.invokevirtual 138, 3) := by decide +kernel
theorem dX12_digest_35 : decode cX12_digest 35 = .ok (.i2l, 1) := by decide +kernel
theorem dX12_digest_36 : decode cX12_digest 36 = .ok (.invokevirtual 269, 3) := by decide +kernel
theorem dX12_digest_39 : decode cX12_digest 39 = .ok (.iinc 2 1, 3) := by decide +kernel
theorem dX12_digest_42 : decode cX12_digest 42 = .ok (.goto (-19), 3) := by decide +kernel
theorem dX12_digest_45 : decode cX12_digest 45 = .ok (.iinc 1 1, 3) := by decide +kernel
theorem dX12_digest_48 : decode cX12_digest 48 = .ok (.goto (-39), 3) := by decide +kernel
theorem dX12_digest_51 : decode cX12_digest 51 = .ok (.iconst 0, 1) := by decide +kernel
theorem dX12_digest_52 : decode cX12_digest 52 = .ok (.istore_n 1, 1) := by decide +kernel
theorem dX12_digest_53 : decode cX12_digest 53 = .ok (.iload_n 1, 1) := by decide +kernel
theorem dX12_digest_54 : decode cX12_digest 54 = .ok (.aload_n 0, 1) := by decide +kernel
theorem dX12_digest_55 : decode cX12_digest 55 = .ok (.getfield 107, 3) := by decide +kernel
theorem dX12_digest_58 : decode cX12_digest 58 = .ok (.if_icmp .ge 33, 3) := by decide +kernel
theorem dX12_digest_61 : decode cX12_digest 61 = .ok (.iconst 0, 1) := by decide +kernel
theorem dX12_digest_62 : decode cX12_digest 62 = .ok (.istore_n 2, 1) := by decide +kernel
theorem dX12_digest_63 : decode cX12_digest 63 = .ok (.iload_n 2, 1) := by decide +kernel
theorem dX12_digest_64 : decode cX12_digest 64 = .ok (.iconst 5, 1) := by decide +kernel
theorem dX12_digest_65 : decode cX12_digest 65 = .ok (.if_icmp .ge 20, 3) := by decide +kernel
theorem dX12_digest_68 : decode cX12_digest 68 = .ok (.aload_n 0, 1) := by decide +kernel
theorem dX12_digest_69 : decode cX12_digest 69 = .ok (.aload_n 0, 1) := by decide +kernel
theorem dX12_digest_70 : decode cX12_digest 70 = .ok (.iload_n 1, 1) := by decide +kernel
theorem dX12_digest_71 : decode cX12_digest 71 = .ok (.iload_n 2, 1) := by decide +kernel
theorem dX12_digest_72 : decode cX12_digest 72 = .ok (.invokevirtual 145, 3) := by decide +kernel
theorem dX12_digest_75 : decode cX12_digest 75 = .ok (.i2l, 1) := by decide +kernel
theorem dX12_digest_76 : decode cX12_digest 76 = .ok (.invokevirtual 269, 3) := by decide +kernel
theorem dX12_digest_79 : decode cX12_digest 79 = .ok (.iinc 2 1, 3) := by decide +kernel
theorem dX12_digest_82 : decode cX12_digest 82 = .ok (.goto (-19), 3) := by decide +kernel
theorem dX12_digest_85 : decode cX12_digest 85 = .ok (.iinc 1 1, 3) := by decide +kernel
theorem dX12_digest_88 : decode cX12_digest 88 = .ok (.goto (-35), 3) := by decide +kernel
theorem dX12_digest_91 : decode cX12_digest 91 = .ok (.aload_n 0, 1) := by decide +kernel
theorem dX12_digest_92 : decode cX12_digest 92 = .ok (.getfield 95, 3) := by decide +kernel
theorem dX12_digest_95 : decode cX12_digest 95 = .ok (.ifCond .eq 74, 3) := by decide +kernel
theorem dX12_digest_98 : decode cX12_digest 98 = .ok (.aload_n 0, 1) := by decide +kernel
theorem dX12_digest_99 : decode cX12_digest 99 = .ok (.getfield 92, 3) := by decide +kernel
theorem dX12_digest_102 : decode cX12_digest 102 = .ok (.ifCond .ne 67, 3) := by decide +kernel
theorem dX12_digest_105 : decode cX12_digest 105 = .ok (.aload_n 0, 1) := by decide +kernel
theorem dX12_digest_106 : decode cX12_digest 106 = .ok (.aload_n 0, 1) := by decide +kernel
theorem dX12_digest_107 : decode cX12_digest 107 = .ok (.iconst 0, 1) := by decide +kernel
theorem dX12_digest_108 : decode cX12_digest 108 = .ok (.invokevirtual 173, 3) := by decide +kernel
theorem dX12_digest_111 : decode cX12_digest 111 = .ok (.i2l, 1) := by decide +kernel
theorem dX12_digest_112 : decode cX12_digest 112 = .ok (.invokevirtual 269, 3) := by decide +kernel
theorem dX12_digest_115 : decode cX12_digest 115 = .ok (.aload_n 0, 1) := by decide +kernel
theorem dX12_digest_116 : decode cX12_digest 116 = .ok (.aload_n 0, 1) := by decide +kernel
theorem dX12_digest_117 : decode cX12_digest 117 = .ok (.iconst 1, 1) := by decide +kernel
theorem dX12_digest_118 : decode cX12_digest 118 = .ok (.invokevirtual 173, 3) := by decide +kernel
theorem dX12_digest_121 : decode cX12_digest 121 = .ok (.i2l, 1) := by decide +kernel
theorem dX12_digest_122 : decode cX12_digest 122 = .ok (.invokevirtual 269, 3) := by decide +kernel
theorem dX12_digest_125 : decode cX12_digest 125 = .ok (.aload_n 0, 1) := by decide +kernel
theorem dX12_digest_126 : decode cX12_digest 126 = .ok (.aload_n 0, 1) := by decide +kernel
theorem dX12_digest_127 : decode cX12_digest 127 = .ok (.bipush 100, 2) := by decide +kernel
theorem dX12_digest_129 : decode cX12_digest 129 = .ok (.iconst 0, 1) := by decide +kernel
theorem dX12_digest_130 : decode cX12_digest 130 = .ok (.invokevirtual 186, 3) := by decide +kernel
theorem dX12_digest_133 : decode cX12_digest 133 = .ok (.i2l, 1) := by decide +kernel
theorem dX12_digest_134 : decode cX12_digest 134 = .ok (.invokevirtual 269, 3) := by decide +kernel
theorem dX12_digest_137 : decode cX12_digest 137 = .ok (.aload_n 0, 1) := by decide +kernel
theorem dX12_digest_138 : decode cX12_digest 138 = .ok (.aload_n 0, 1) := by decide +kernel
theorem dX12_digest_139 : decode cX12_digest 139 = .ok (.bipush 100, 2) := by decide +kernel
theorem dX12_digest_141 : decode cX12_digest 141 = .ok (.iconst 1, 1) := by decide +kernel
theorem dX12_digest_142 : decode cX12_digest 142 = .ok (.invokevirtual 186, 3) := by decide +kernel
theorem dX12_digest_145 : decode cX12_digest 145 = .ok (.i2l, 1) := by decide +kernel
theorem dX12_digest_146 : decode cX12_digest 146 = .ok (.invokevirtual 269, 3) := by decide +kernel
theorem dX12_digest_149 : decode cX12_digest 149 = .ok (.aload_n 0, 1) := by decide +kernel
theorem dX12_digest_150 : decode cX12_digest 150 = .ok (.aload_n 0, 1) := by decide +kernel
theorem dX12_digest_151 : decode cX12_digest 151 = .ok (.iconst 2, 1) := by decide +kernel
theorem dX12_digest_152 : decode cX12_digest 152 = .ok (.iconst 0, 1) := by decide +kernel
theorem dX12_digest_153 : decode cX12_digest 153 = .ok (.invokevirtual 210, 3) := by decide +kernel
theorem dX12_digest_156 : decode cX12_digest 156 = .ok (.invokevirtual 269, 3) := by decide +kernel
theorem dX12_digest_159 : decode cX12_digest 159 = .ok (.aload_n 0, 1) := by decide +kernel
theorem dX12_digest_160 : decode cX12_digest 160 = .ok (.aload_n 0, 1) := by decide +kernel
theorem dX12_digest_161 : decode cX12_digest 161 = .ok (.iconst 2, 1) := by decide +kernel
theorem dX12_digest_162 : decode cX12_digest 162 = .ok (.iconst 1, 1) := by decide +kernel
theorem dX12_digest_163 : decode cX12_digest 163 = .ok (.invokevirtual 210, 3) := by decide +kernel
theorem dX12_digest_166 : decode cX12_digest 166 = .ok (.invokevirtual 269, 3) := by decide +kernel
theorem dX12_digest_169 : decode cX12_digest 169 = .ok (.iconst 0, 1) := by decide +kernel
theorem dX12_digest_170 : decode cX12_digest 170 = .ok (.istore_n 1, 1) := by decide +kernel
theorem dX12_digest_171 : decode cX12_digest 171 = .ok (.iload_n 1, 1) := by decide +kernel
theorem dX12_digest_172 : decode cX12_digest 172 = .ok (.iconst 3, 1) := by decide +kernel
theorem dX12_digest_173 : decode cX12_digest 173 = .ok (.if_icmp .ge 19, 3) := by decide +kernel
theorem dX12_digest_176 : decode cX12_digest 176 = .ok (.aload_n 0, 1) := by decide +kernel
theorem dX12_digest_177 : decode cX12_digest 177 = .ok (.aload_n 0, 1) := by decide +kernel
theorem dX12_digest_178 : decode cX12_digest 178 = .ok (.iload_n 1, 1) := by decide +kernel
theorem dX12_digest_179 : decode cX12_digest 179 = .ok (.invokevirtual 195, 3) := by decide +kernel
theorem dX12_digest_182 : decode cX12_digest 182 = .ok (.i2l, 1) := by decide +kernel
theorem dX12_digest_183 : decode cX12_digest 183 = .ok (.invokevirtual 269, 3) := by decide +kernel
theorem dX12_digest_186 : decode cX12_digest 186 = .ok (.iinc 1 1, 3) := by decide +kernel
theorem dX12_digest_189 : decode cX12_digest 189 = .ok (.goto (-18), 3) := by decide +kernel
theorem dX12_digest_192 : decode cX12_digest 192 = .ok (.iconst 0, 1) := by decide +kernel
theorem dX12_digest_193 : decode cX12_digest 193 = .ok (.istore_n 1, 1) := by decide +kernel
theorem dX12_digest_194 : decode cX12_digest 194 = .ok (.iload_n 1, 1) := by decide +kernel
theorem dX12_digest_195 : decode cX12_digest 195 = .ok (.aload_n 0, 1) := by decide +kernel
theorem dX12_digest_196 : decode cX12_digest 196 = .ok (.getfield 46, 3) := by decide +kernel
theorem dX12_digest_199 : decode cX12_digest 199 = .ok (.if_icmp .ge 20, 3) := by decide +kernel
theorem dX12_digest_202 : decode cX12_digest 202 = .ok (.aload_n 0, 1) := by decide +kernel
theorem dX12_digest_203 : decode cX12_digest 203 = .ok (.aload_n 0, 1) := by decide +kernel
theorem dX12_digest_204 : decode cX12_digest 204 = .ok (.getfield 28, 3) := by decide +kernel
theorem dX12_digest_207 : decode cX12_digest 207 = .ok (.iload_n 1, 1) := by decide +kernel
theorem dX12_digest_208 : decode cX12_digest 208 = .ok (.baload, 1) := by decide +kernel
theorem dX12_digest_209 : decode cX12_digest 209 = .ok (.i2l, 1) := by decide +kernel
theorem dX12_digest_210 : decode cX12_digest 210 = .ok (.invokevirtual 269, 3) := by decide +kernel
theorem dX12_digest_213 : decode cX12_digest 213 = .ok (.iinc 1 1, 3) := by decide +kernel
theorem dX12_digest_216 : decode cX12_digest 216 = .ok (.goto (-22), 3) := by decide +kernel
theorem dX12_digest_219 : decode cX12_digest 219 = .ok (.iconst 0, 1) := by decide +kernel
theorem dX12_digest_220 : decode cX12_digest 220 = .ok (.istore_n 1, 1) := by decide +kernel
theorem dX12_digest_221 : decode cX12_digest 221 = .ok (.iload_n 1, 1) := by decide +kernel
theorem dX12_digest_222 : decode cX12_digest 222 = .ok (.bipush 13, 2) := by decide +kernel
theorem dX12_digest_224 : decode cX12_digest 224 = .ok (.if_icmp .ge 19, 3) := by decide +kernel
theorem dX12_digest_227 : decode cX12_digest 227 = .ok (.aload_n 0, 1) := by decide +kernel
theorem dX12_digest_228 : decode cX12_digest 228 = .ok (.aload_n 0, 1) := by decide +kernel
theorem dX12_digest_229 : decode cX12_digest 229 = .ok (.iload_n 1, 1) := by decide +kernel
theorem dX12_digest_230 : decode cX12_digest 230 = .ok (.invokevirtual 259, 3) := by decide +kernel
theorem dX12_digest_233 : decode cX12_digest 233 = .ok (.i2l, 1) := by decide +kernel
theorem dX12_digest_234 : decode cX12_digest 234 = .ok (.invokevirtual 269, 3) := by decide +kernel
theorem dX12_digest_237 : decode cX12_digest 237 = .ok (.iinc 1 1, 3) := by decide +kernel
theorem dX12_digest_240 : decode cX12_digest 240 = .ok (.goto (-19), 3) := by decide +kernel
theorem dX12_digest_243 : decode cX12_digest 243 = .ok (.aload_n 0, 1) := by decide +kernel
theorem dX12_digest_244 : decode cX12_digest 244 = .ok (.getfield 264, 3) := by decide +kernel
theorem dX12_digest_247 : decode cX12_digest 247 = .ok (.lreturn, 1) := by decide +kernel
end
section
theorem dX11_init_0 : decode cX11_init 0 = .ok (.aload_n 0, 1) := by decide +kernel
theorem dX11_init_1 : decode cX11_init 1 = .ok (.invokespecial 1, 3) := by decide +kernel
theorem dX11_init_4 : decode cX11_init 4 = .ok (.aload_n 0, 1) := by decide +kernel
theorem dX11_init_5 : decode cX11_init 5 = .ok (.new 7, 3) := by decide +kernel
theorem dX11_init_8 : decode cX11_init 8 = .ok (.dup, 1) := by decide +kernel
theorem dX11_init_9 : decode cX11_init 9 = .ok (.invokespecial 9, 3) := by decide +kernel
theorem dX11_init_12 : decode cX11_init 12 = .ok (.putfield 10, 3) := by decide +kernel
theorem dX11_init_15 : decode cX11_init 15 = .ok (.aload_n 0, 1) := by decide +kernel
theorem dX11_init_16 : decode cX11_init 16 = .ok (.new 16, 3) := by decide +kernel
theorem dX11_init_19 : decode cX11_init 19 = .ok (.dup, 1) := by decide +kernel
theorem dX11_init_20 : decode cX11_init 20 = .ok (.invokespecial 18, 3) := by decide +kernel
theorem dX11_init_23 : decode cX11_init 23 = .ok (.putfield 19, 3) := by decide +kernel
theorem dX11_init_26 : decode cX11_init 26 = .ok (.aload_n 0, 1) := by decide +kernel
theorem dX11_init_27 : decode cX11_init 27 = .ok (.new 23, 3) := by decide +kernel
theorem dX11_init_30 : decode cX11_init 30 = .ok (.dup, 1) := by decide +kernel
theorem dX11_init_31 : decode cX11_init 31 = .ok (.invokespecial 25, 3) := by decide +kernel
theorem dX11_init_34 : decode cX11_init 34 = .ok (.putfield 26, 3) := by decide +kernel
theorem dX11_init_37 : decode cX11_init 37 = .ok (.aload_n 0, 1) := by decide +kernel
theorem dX11_init_38 : decode cX11_init 38 = .ok (.new 30, 3) := by decide +kernel
theorem dX11_init_41 : decode cX11_init 41 = .ok (.dup, 1) := by decide +kernel
theorem dX11_init_42 : decode cX11_init 42 = .ok (.invokespecial 32, 3) := by decide +kernel
theorem dX11_init_45 : decode cX11_init 45 = .ok (.putfield 33, 3) := by decide +kernel
theorem dX11_init_48 : decode cX11_init 48 = .ok (.aload_n 0, 1) := by decide +kernel
theorem dX11_init_49 : decode cX11_init 49 = .ok (.new 37, 3) := by decide +kernel
theorem dX11_init_52 : decode cX11_init 52 = .ok (.dup, 1) := by decide +kernel
theorem dX11_init_53 : decode cX11_init 53 = .ok (.invokespecial 39, 3) := by decide +kernel
theorem dX11_init_56 : decode cX11_init 56 = .ok (.putfield 40, 3) := by decide +kernel
theorem dX11_init_59 : decode cX11_init 59 = .ok (.aload_n 0, 1) := by decide +kernel
theorem dX11_init_60 : decode cX11_init 60 = .ok (.new 44, 3) := by decide +kernel
theorem dX11_init_63 : decode cX11_init 63 = .ok (.dup, 1) := by decide +kernel
theorem dX11_init_64 : decode cX11_init 64 = .ok (.invokespecial 46, 3) := by decide +kernel
theorem dX11_init_67 : decode cX11_init 67 = .ok (.putfield 47, 3) := by decide +kernel
theorem dX11_init_70 : decode cX11_init 70 = .ok (.aload_n 0, 1) := by decide +kernel
theorem dX11_init_71 : decode cX11_init 71 = .ok (.new 16, 3) := by decide +kernel
theorem dX11_init_74 : decode cX11_init 74 = .ok (.dup, 1) := by decide +kernel
theorem dX11_init_75 : decode cX11_init 75 = .ok (.invokespecial 18, 3) := by decide +kernel
theorem dX11_init_78 : decode cX11_init 78 = .ok (.putfield 51, 3) := by decide +kernel
theorem dX11_init_81 : decode cX11_init 81 = .ok (.aload_n 0, 1) := by decide +kernel
theorem dX11_init_82 : decode cX11_init 82 = .ok (.new 16, 3) := by decide +kernel
theorem dX11_init_85 : decode cX11_init 85 = .ok (.dup, 1) := by decide +kernel
theorem dX11_init_86 : decode cX11_init 86 = .ok (.invokespecial 18, 3) := by decide +kernel
theorem dX11_init_89 : decode cX11_init 89 = .ok (.putfield 54, 3) := by decide +kernel
theorem dX11_init_92 : decode cX11_init 92 = .ok (.return_, 1) := by decide +kernel
theorem dX11_letters_0 : decode cX11_letters 0 = .ok (.lload_n 1, 1) := by decide +kernel
theorem dX11_letters_1 : decode cX11_letters 1 = .ok (.invokestatic 57, 3) := by decide +kernel
theorem dX11_letters_4 : decode cX11_letters 4 = .ok (.istore_n 3, 1) := by decide +kernel
theorem dX11_letters_5 : decode cX11_letters 5 = .ok (.iload_n 3, 1) := by decide +kernel
theorem dX11_letters_6 : decode cX11_letters 6 = .ok (.ifCond .ge 6, 3) := by decide +kernel
theorem dX11_letters_9 : decode cX11_letters 9 = .ok (.bipush (-102), 2) := by decide +kernel
theorem dX11_letters_11 : decode cX11_letters 11 = .ok (.ireturn, 1) := by decide +kernel
theorem dX11_letters_12 : decode cX11_letters 12 = .ok (.aload_n 0, 1) := by decide +kernel
theorem dX11_letters_13 : decode cX11_letters 13 = .ok (.getfield 10, 3) := by decide +kernel
theorem dX11_letters_16 : decode cX11_letters 16 = .ok (.iload_n 3, 1) := by decide +kernel
theorem dX11_letters_17 : decode cX11_letters 17 = .ok (.invokevirtual 61, 3) := by decide +kernel
theorem dX11_letters_20 : decode cX11_letters 20 = .ok (.ifCond .ne 6, 3) := by decide +kernel
theorem dX11_letters_23 : decode cX11_letters 23 = .ok (.bipush (-104), 2) := by decide +kernel
theorem dX11_letters_25 : decode cX11_letters 25 = .ok (.ireturn, 1) := by decide +kernel
theorem dX11_letters_26 : decode cX11_letters 26 = .ok (.iconst 0, 1) := by decide +kernel
theorem dX11_letters_27 : decode cX11_letters 27 = .ok (.istore 4, 2) := by decide +kernel
theorem dX11_letters_29 : decode cX11_letters 29 = .ok (.iload 4, 2) := by decide +kernel
theorem dX11_letters_31 : decode cX11_letters 31 = .ok (.iload_n 3, 1) := by decide +kernel
theorem dX11_letters_32 : decode cX11_letters 32 = .ok (.if_icmp .ge 23, 3) := by decide +kernel
theorem dX11_letters_35 : decode cX11_letters 35 = .ok (.aload_n 0, 1) := by decide +kernel
theorem dX11_letters_36 : decode cX11_letters 36 = .ok (.getfield 10, 3) := by decide +kernel
theorem dX11_letters_39 : decode cX11_letters 39 = .ok (.lload_n 1, 1) := by decide +kernel
theorem dX11_letters_40 : decode cX11_letters 40 = .ok (.iload 4, 2) := by decide +kernel
theorem dX11_letters_42 : decode cX11_letters 42 = .ok (.invokestatic 65, 3) := by decide +kernel
theorem dX11_letters_45 : decode cX11_letters 45 = .ok (.i2c, 1) := by decide +kernel
theorem dX11_letters_46 : decode cX11_letters 46 = .ok (.invokevirtual 69, 3) := by decide +kernel
theorem dX11_letters_49 : decode cX11_letters 49 = .ok (.iinc 4 1, 3) := by decide +kernel
theorem dX11_letters_52 : decode cX11_letters 52 = .ok (.goto (-23), 3) := by decide +kernel
theorem dX11_letters_55 : decode cX11_letters 55 = .ok (.aload_n 0, 1) := by decide +kernel
theorem dX11_letters_56 : decode cX11_letters 56 = .ok (.getfield 10, 3) := by decide +kernel
theorem dX11_letters_59 : decode cX11_letters 59 = .ok (.getfield 73, 3) := by decide +kernel
theorem dX11_letters_62 : decode cX11_letters 62 = .ok (.ireturn, 1) := by decide +kernel
theorem dX11_blank_0 : decode cX11_blank 0 = .ok (.aload_n 0, 1) := by decide +kernel
theorem dX11_blank_1 : decode cX11_blank 1 = .ok (.getfield 10, 3) := by decide +kernel
theorem dX11_blank_4 : decode cX11_blank 4 = .ok (.invokevirtual 77, 3) := by decide +kernel
theorem dX11_blank_7 : decode cX11_blank 7 = .ok (.ireturn, 1) := by decide +kernel
theorem dX11_fault_0 : decode cX11_fault 0 = .ok (.aload_n 0, 1) := by decide +kernel
theorem dX11_fault_1 : decode cX11_fault 1 = .ok (.getfield 10, 3) := by decide +kernel
theorem dX11_fault_4 : decode cX11_fault 4 = .ok (.invokevirtual 81, 3) := by decide +kernel
theorem dX11_fault_7 : decode cX11_fault 7 = .ok (.ireturn, 1) := by decide +kernel
theorem dX11_wire_0 : decode cX11_wire 0 = .ok (.aload_n 0, 1) := by decide +kernel
theorem dX11_wire_1 : decode cX11_wire 1 = .ok (.getfield 10, 3) := by decide +kernel
theorem dX11_wire_4 : decode cX11_wire 4 = .ok (.invokevirtual 84, 3) := by decide +kernel
theorem dX11_wire_7 : decode cX11_wire 7 = .ok (.ifCond .ne 6, 3) := by decide +kernel
theorem dX11_wire_10 : decode cX11_wire 10 = .ok (.bipush (-103), 2) := by decide +kernel
theorem dX11_wire_12 : decode cX11_wire 12 = .ok (.ireturn, 1) := by decide +kernel
theorem dX11_wire_13 : decode cX11_wire 13 = .ok (.aload_n 0, 1) := by decide +kernel
theorem dX11_wire_14 : decode cX11_wire 14 = .ok (.getfield 19, 3) := by decide +kernel
theorem dX11_wire_17 : decode cX11_wire 17 = .ok (.aload_n 0, 1) := by decide +kernel
theorem dX11_wire_18 : decode cX11_wire 18 = .ok (.getfield 10, 3) := by decide +kernel
theorem dX11_wire_21 : decode cX11_wire 21 = .ok (.invokevirtual 88, 3) := by decide +kernel
theorem dX11_wire_24 : decode cX11_wire 24 = .ok (.aload_n 0, 1) := by decide +kernel
theorem dX11_wire_25 : decode cX11_wire 25 = .ok (.getfield 10, 3) := by decide +kernel
theorem dX11_wire_28 : decode cX11_wire 28 = .ok (.invokevirtual 77, 3) := by decide +kernel
theorem dX11_wire_31 : decode cX11_wire 31 = .ok (.pop, 1) := by decide +kernel
theorem dX11_wire_32 : decode cX11_wire 32 = .ok (.aload_n 0, 1) := by decide +kernel
theorem dX11_wire_33 : decode cX11_wire 33 = .ok (.getfield 26, 3) := by decide +kernel
theorem dX11_wire_36 : decode cX11_wire 36 = .ok (.iconst 0, 1) := by decide +kernel
theorem dX11_wire_37 : decode cX11_wire 37 = .ok (.invokevirtual 92, 3) := by decide +kernel
theorem dX11_wire_40 : decode cX11_wire 40 = .ok (.aload_n 0, 1) := by decide +kernel
theorem dX11_wire_41 : decode cX11_wire 41 = .ok (.getfield 33, 3) := by decide +kernel
theorem dX11_wire_44 : decode cX11_wire 44 = .ok (.invokevirtual 96, 3) := by decide +kernel
theorem dX11_wire_47 : decode cX11_wire 47 = .ok (.pop, 1) := by decide +kernel
theorem dX11_wire_48 : decode cX11_wire 48 = .ok (.aload_n 0, 1) := by decide +kernel
theorem dX11_wire_49 : decode cX11_wire 49 = .ok (.iconst 0, 1) := by decide +kernel
theorem dX11_wire_50 : decode cX11_wire 50 = .ok (.putfield 97, 3) := by decide +kernel
theorem dX11_wire_53 : decode cX11_wire 53 = .ok (.aload_n 0, 1) := by decide +kernel
theorem dX11_wire_54 : decode cX11_wire 54 = .ok (.dup, 1) := by decide +kernel
theorem dX11_wire_55 : decode cX11_wire 55 = .ok (.getfield 101, 3) := by decide +kernel
theorem dX11_wire_58 : decode cX11_wire 58 = .ok (.iconst 1, 1) := by decide +kernel
theorem dX11_wire_59 : decode cX11_wire 59 = .ok (.iadd, 1) := by decide +kernel
theorem dX11_wire_60 : decode cX11_wire 60 = .ok (.putfield 101, 3) := by decide +kernel
theorem dX11_wire_63 : decode cX11_wire 63 = .ok (.aload_n 0, 1) := by decide +kernel
theorem dX11_wire_64 : decode cX11_wire 64 = .ok (.getfield 19, 3) := by decide +kernel
theorem dX11_wire_67 : decode cX11_wire 67 = .ok (.getfield 104, 3) := by decide +kernel
theorem dX11_wire_70 : decode cX11_wire 70 = .ok (.ireturn, 1) := by decide +kernel
theorem dX11_cabin_0 : decode cX11_cabin 0 = .ok (.iload_n 1, 1) := by decide +kernel
theorem dX11_cabin_1 : decode cX11_cabin 1 = .ok (.invokestatic 107, 3) := by decide +kernel
theorem dX11_cabin_4 : decode cX11_cabin 4 = .ok (.ifCond .ne 6, 3) := by decide +kernel
theorem dX11_cabin_7 : decode cX11_cabin 7 = .ok (.bipush (-101), 2) := by decide +kernel
theorem dX11_cabin_9 : decode cX11_cabin 9 = .ok (.ireturn, 1) := by decide +kernel
theorem dX11_cabin_10 : decode cX11_cabin 10 = .ok (.iload_n 2, 1) := by decide +kernel
theorem dX11_cabin_11 : decode cX11_cabin 11 = .ok (.ifCond .lt 8, 3) := by decide +kernel
theorem dX11_cabin_14 : decode cX11_cabin 14 = .ok (.iload_n 2, 1) := by decide +kernel
theorem dX11_cabin_15 : decode cX11_cabin 15 = .ok (.iconst 3, 1) := by decide +kernel
theorem dX11_cabin_16 : decode cX11_cabin 16 = .ok (.if_icmp .le 6, 3) := by decide +kernel
theorem dX11_cabin_19 : decode cX11_cabin 19 = .ok (.bipush (-102), 2) := by decide +kernel
theorem dX11_cabin_21 : decode cX11_cabin 21 = .ok (.ireturn, 1) := by decide +kernel
theorem dX11_cabin_22 : decode cX11_cabin 22 = .ok (.aload_n 0, 1) := by decide +kernel
theorem dX11_cabin_23 : decode cX11_cabin 23 = .ok (.getfield 19, 3) := by decide +kernel
theorem dX11_cabin_26 : decode cX11_cabin 26 = .ok (.invokevirtual 110, 3) := by decide +kernel
theorem dX11_cabin_29 : decode cX11_cabin 29 = .ok (.ifCond .ne 6, 3) := by decide +kernel
theorem dX11_cabin_32 : decode cX11_cabin 32 = .ok (.bipush (-103), 2) := by decide +kernel
theorem dX11_cabin_34 : decode cX11_cabin 34 = .ok (.ireturn, 1) := by decide +kernel
theorem dX11_cabin_35 : decode cX11_cabin 35 = .ok (.iload_n 2, 1) := by decide +kernel
theorem dX11_cabin_36 : decode cX11_cabin 36 = .ok (.tableswitch 70 0 2 #[28, 44, 57], 28) := by decide +kernel
theorem dX11_cabin_64 : decode cX11_cabin 64 = .ok (.aload_n 0, 1) := by decide +kernel
theorem dX11_cabin_65 : decode cX11_cabin 65 = .ok (.getfield 26, 3) := by decide +kernel
theorem dX11_cabin_68 : decode cX11_cabin 68 = .ok (.iload_n 1, 1) := by decide +kernel
theorem dX11_cabin_69 : decode cX11_cabin 69 = .ok (.aload_n 0, 1) := by decide +kernel
theorem dX11_cabin_70 : decode cX11_cabin 70 = .ok (.getfield 19, 3) := by decide +kernel
theorem dX11_cabin_73 : decode cX11_cabin 73 = .ok (.getfield 113, 3) := by decide +kernel
theorem dX11_cabin_76 : decode cX11_cabin 76 = .ok (.invokevirtual 116, 3) := by decide +kernel
theorem dX11_cabin_79 : decode cX11_cabin 79 = .ok (.ireturn, 1) := by decide +kernel
theorem dX11_cabin_80 : decode cX11_cabin 80 = .ok (.aload_n 0, 1) := by decide +kernel
theorem dX11_cabin_81 : decode cX11_cabin 81 = .ok (.getfield 19, 3) := by decide +kernel
theorem dX11_cabin_84 : decode cX11_cabin 84 = .ok (.iload_n 1, 1) := by decide +kernel
theorem dX11_cabin_85 : decode cX11_cabin 85 = .ok (.aload_n 0, 1) := by decide +kernel
theorem dX11_cabin_86 : decode cX11_cabin 86 = .ok (.getfield 26, 3) := by decide +kernel
theorem dX11_cabin_89 : decode cX11_cabin 89 = .ok (.invokevirtual 120, 3) := by decide +kernel
theorem dX11_cabin_92 : decode cX11_cabin 92 = .ok (.ireturn, 1) := by decide +kernel
theorem dX11_cabin_93 : decode cX11_cabin 93 = .ok (.aload_n 0, 1) := by decide +kernel
theorem dX11_cabin_94 : decode cX11_cabin 94 = .ok (.getfield 19, 3) := by decide +kernel
theorem dX11_cabin_97 : decode cX11_cabin 97 = .ok (.iload_n 1, 1) := by decide +kernel
theorem dX11_cabin_98 : decode cX11_cabin 98 = .ok (.aload_n 0, 1) := by decide +kernel
theorem dX11_cabin_99 : decode cX11_cabin 99 = .ok (.getfield 26, 3) := by decide +kernel
theorem dX11_cabin_102 : decode cX11_cabin 102 = .ok (.invokevirtual 124, 3) := by decide +kernel
theorem dX11_cabin_105 : decode cX11_cabin 105 = .ok (.ireturn, 1) := by decide +kernel
theorem dX11_cabin_106 : decode cX11_cabin 106 = .ok (.aload_n 0, 1) := by decide +kernel
theorem dX11_cabin_107 : decode cX11_cabin 107 = .ok (.getfield 26, 3) := by decide +kernel
theorem dX11_cabin_110 : decode cX11_cabin 110 = .ok (.iload_n 1, 1) := by decide +kernel
theorem dX11_cabin_111 : decode cX11_cabin 111 = .ok (.invokevirtual 127, 3) := by decide +kernel
theorem dX11_cabin_114 : decode cX11_cabin 114 = .ok (.ireturn, 1) := by decide +kernel
theorem dX11_thing_0 : decode cX11_thing 0 = .ok (.iload_n 3, 1) := by decide +kernel
theorem dX11_thing_1 : decode cX11_thing 1 = .ok (.invokestatic 107, 3) := by decide +kernel
theorem dX11_thing_4 : decode cX11_thing 4 = .ok (.ifCond .ne 6, 3) := by decide +kernel
theorem dX11_thing_7 : decode cX11_thing 7 = .ok (.bipush (-101), 2) := by decide +kernel
theorem dX11_thing_9 : decode cX11_thing 9 = .ok (.ireturn, 1) := by decide +kernel
theorem dX11_thing_10 : decode cX11_thing 10 = .ok (.iload_n 1, 1) := by decide +kernel
theorem dX11_thing_11 : decode cX11_thing 11 = .ok (.invokestatic 131, 3) := by decide +kernel
theorem dX11_thing_14 : decode cX11_thing 14 = .ok (.ifCond .eq 14, 3) := by decide +kernel
theorem dX11_thing_17 : decode cX11_thing 17 = .ok (.iload_n 2, 1) := by decide +kernel
theorem dX11_thing_18 : decode cX11_thing 18 = .ok (.iconst 1, 1) := by decide +kernel
theorem dX11_thing_19 : decode cX11_thing 19 = .ok (.if_icmp .lt 9, 3) := by decide +kernel
theorem dX11_thing_22 : decode cX11_thing 22 = .ok (.iload_n 2, 1) := by decide +kernel
theorem dX11_thing_23 : decode cX11_thing 23 = .ok (.bipush 20, 2) := by decide +kernel
theorem dX11_thing_25 : decode cX11_thing 25 = .ok (.if_icmp .le 6, 3) := by decide +kernel
theorem dX11_thing_28 : decode cX11_thing 28 = .ok (.bipush (-102), 2) := by decide +kernel
theorem dX11_thing_30 : decode cX11_thing 30 = .ok (.ireturn, 1) := by decide +kernel
theorem dX11_thing_31 : decode cX11_thing 31 = .ok (.aload_n 0, 1) := by decide +kernel
theorem dX11_thing_32 : decode cX11_thing 32 = .ok (.getfield 19, 3) := by decide +kernel
theorem dX11_thing_35 : decode cX11_thing 35 = .ok (.invokevirtual 110, 3) := by decide +kernel
theorem dX11_thing_38 : decode cX11_thing 38 = .ok (.ifCond .ne 6, 3) := by decide +kernel
theorem dX11_thing_41 : decode cX11_thing 41 = .ok (.bipush (-103), 2) := by decide +kernel
theorem dX11_thing_43 : decode cX11_thing 43 = .ok (.ireturn, 1) := by decide +kernel
theorem dX11_thing_44 : decode cX11_thing 44 = .ok (.aload_n 0, 1) := by decide +kernel
theorem dX11_thing_45 : decode cX11_thing 45 = .ok (.getfield 26, 3) := by decide +kernel
theorem dX11_thing_48 : decode cX11_thing 48 = .ok (.invokevirtual 134, 3) := by decide +kernel
theorem dX11_thing_51 : decode cX11_thing 51 = .ok (.ifCond .eq 6, 3) := by decide +kernel
theorem dX11_thing_54 : decode cX11_thing 54 = .ok (.bipush (-104), 2) := by decide +kernel
theorem dX11_thing_56 : decode cX11_thing 56 = .ok (.ireturn, 1) := by decide +kernel
theorem dX11_thing_57 : decode cX11_thing 57 = .ok (.aload_n 0, 1) := by decide +kernel
theorem dX11_thing_58 : decode cX11_thing 58 = .ok (.getfield 26, 3) := by decide +kernel
theorem dX11_thing_61 : decode cX11_thing 61 = .ok (.iload_n 1, 1) := by decide +kernel
theorem dX11_thing_62 : decode cX11_thing 62 = .ok (.iload_n 2, 1) := by decide +kernel
theorem dX11_thing_63 : decode cX11_thing 63 = .ok (.iload_n 3, 1) := by decide +kernel
theorem dX11_thing_64 : decode cX11_thing 64 = .ok (.aload_n 0, 1) := by decide +kernel
theorem dX11_thing_65 : decode cX11_thing 65 = .ok (.getfield 19, 3) := by decide +kernel
theorem dX11_thing_68 : decode cX11_thing 68 = .ok (.getfield 113, 3) := by decide +kernel
theorem dX11_thing_71 : decode cX11_thing 71 = .ok (.invokestatic 137, 3) := by decide +kernel
theorem dX11_thing_74 : decode cX11_thing 74 = .ok (.invokevirtual 141, 3) := by decide +kernel
theorem dX11_thing_77 : decode cX11_thing 77 = .ok (.ireturn, 1) := by decide +kernel
theorem dX11_about_0 : decode cX11_about 0 = .ok (.aload_n 0, 1) := by decide +kernel
theorem dX11_about_1 : decode cX11_about 1 = .ok (.getfield 26, 3) := by decide +kernel
theorem dX11_about_4 : decode cX11_about 4 = .ok (.iload_n 1, 1) := by decide +kernel
theorem dX11_about_5 : decode cX11_about 5 = .ok (.invokevirtual 144, 3) := by decide +kernel
theorem dX11_about_8 : decode cX11_about 8 = .ok (.astore_n 3, 1) := by decide +kernel
theorem dX11_about_9 : decode cX11_about 9 = .ok (.aload_n 3, 1) := by decide +kernel
theorem dX11_about_10 : decode cX11_about 10 = .ok (.ifnonnull 6, 3) := by decide +kernel
theorem dX11_about_13 : decode cX11_about 13 = .ok (.bipush (-101), 2) := by decide +kernel
theorem dX11_about_15 : decode cX11_about 15 = .ok (.ireturn, 1) := by decide +kernel
theorem dX11_about_16 : decode cX11_about 16 = .ok (.iload_n 2, 1) := by decide +kernel
theorem dX11_about_17 : decode cX11_about 17 = .ok (.tableswitch 74 0 4 #[35, 40, 45, 50, 62], 35) := by decide +kernel
theorem dX11_about_52 : decode cX11_about 52 = .ok (.aload_n 3, 1) := by decide +kernel
theorem dX11_about_53 : decode cX11_about 53 = .ok (.invokevirtual 148, 3) := by decide +kernel
theorem dX11_about_56 : decode cX11_about 56 = .ok (.ireturn, 1) := by decide +kernel
theorem dX11_about_57 : decode cX11_about 57 = .ok (.aload_n 3, 1) := by decide +kernel
theorem dX11_about_58 : decode cX11_about 58 = .ok (.getfield 153, 3) := by decide +kernel
theorem dX11_about_61 : decode cX11_about 61 = .ok (.ireturn, 1) := by decide +kernel
theorem dX11_about_62 : decode cX11_about 62 = .ok (.aload_n 3, 1) := by decide +kernel
theorem dX11_about_63 : decode cX11_about 63 = .ok (.getfield 156, 3) := by decide +kernel
theorem dX11_about_66 : decode cX11_about 66 = .ok (.ireturn, 1) := by decide +kernel
theorem dX11_about_67 : decode cX11_about 67 = .ok (.aload_n 3, 1) := by decide +kernel
theorem dX11_about_68 : decode cX11_about 68 = .ok (.aload_n 0, 1) := by decide +kernel
theorem dX11_about_69 : decode cX11_about 69 = .ok (.getfield 19, 3) := by decide +kernel
theorem dX11_about_72 : decode cX11_about 72 = .ok (.getfield 113, 3) := by decide +kernel
theorem dX11_about_75 : decode cX11_about 75 = .ok (.invokevirtual 159, 3) := by decide +kernel
theorem dX11_about_78 : decode cX11_about 78 = .ok (.ireturn, 1) := by decide +kernel
theorem dX11_about_79 : decode cX11_about 79 = .ok (.aload_n 3, 1) := by decide +kernel
theorem dX11_about_80 : decode cX11_about 80 = .ok (.aload_n 0, 1) := by decide +kernel
theorem dX11_about_81 : decode cX11_about 81 = .ok (.getfield 19, 3) := by decide +kernel
theorem dX11_about_84 : decode cX11_about 84 = .ok (.getfield 113, 3) := by decide +kernel
theorem dX11_about_87 : decode cX11_about 87 = .ok (.invokevirtual 162, 3) := by decide +kernel
theorem dX11_about_90 : decode cX11_about 90 = .ok (.ireturn, 1) := by decide +kernel
theorem dX11_about_91 : decode cX11_about 91 = .ok (.bipush (-102), 2) := by decide +kernel
theorem dX11_about_93 : decode cX11_about 93 = .ok (.ireturn, 1) := by decide +kernel
theorem dX11_as_0 : decode cX11_as 0 = .ok (.aload_n 0, 1) := by decide +kernel
theorem dX11_as_1 : decode cX11_as 1 = .ok (.getfield 26, 3) := by decide +kernel
theorem dX11_as_4 : decode cX11_as 4 = .ok (.iload_n 1, 1) := by decide +kernel
theorem dX11_as_5 : decode cX11_as 5 = .ok (.invokevirtual 144, 3) := by decide +kernel
theorem dX11_as_8 : decode cX11_as 8 = .ok (.astore_n 3, 1) := by decide +kernel
theorem dX11_as_9 : decode cX11_as 9 = .ok (.aload_n 3, 1) := by decide +kernel
theorem dX11_as_10 : decode cX11_as 10 = .ok (.ifnonnull 6, 3) := by decide +kernel
theorem dX11_as_13 : decode cX11_as 13 = .ok (.bipush (-101), 2) := by decide +kernel
theorem dX11_as_15 : decode cX11_as 15 = .ok (.ireturn, 1) := by decide +kernel
theorem dX11_as_16 : decode cX11_as 16 = .ok (.iload_n 2, 1) := by decide +kernel
theorem dX11_as_17 : decode cX11_as 17 = .ok (.invokestatic 131, 3) := by decide +kernel
theorem dX11_as_20 : decode cX11_as 20 = .ok (.ifCond .ne 6, 3) := by decide +kernel
theorem dX11_as_23 : decode cX11_as 23 = .ok (.bipush (-102), 2) := by decide +kernel
theorem dX11_as_25 : decode cX11_as 25 = .ok (.ireturn, 1) := by decide +kernel
theorem dX11_as_26 : decode cX11_as 26 = .ok (.aload_n 3, 1) := by decide +kernel
theorem dX11_as_27 : decode cX11_as 27 = .ok (.iload_n 2, 1) := by decide +kernel
theorem dX11_as_28 : decode cX11_as 28 = .ok (.invokestatic 165, 3) := by decide +kernel
theorem dX11_as_31 : decode cX11_as 31 = .ok (.ifCond .eq 7, 3) := by decide +kernel
theorem dX11_as_34 : decode cX11_as 34 = .ok (.iload_n 1, 1) := by decide +kernel
theorem dX11_as_35 : decode cX11_as 35 = .ok (.goto 4, 3) := by decide +kernel
theorem dX11_as_38 : decode cX11_as 38 = .ok (.iconst (-1), 1) := by decide +kernel
theorem dX11_as_39 : decode cX11_as 39 = .ok (.ireturn, 1) := by decide +kernel
theorem dX11_carry_0 : decode cX11_carry 0 = .ok (.aload_n 0, 1) := by decide +kernel
theorem dX11_carry_1 : decode cX11_carry 1 = .ok (.getfield 26, 3) := by decide +kernel
theorem dX11_carry_4 : decode cX11_carry 4 = .ok (.iload_n 1, 1) := by decide +kernel
theorem dX11_carry_5 : decode cX11_carry 5 = .ok (.invokevirtual 144, 3) := by decide +kernel
theorem dX11_carry_8 : decode cX11_carry 8 = .ok (.astore_n 2, 1) := by decide +kernel
theorem dX11_carry_9 : decode cX11_carry 9 = .ok (.aload_n 2, 1) := by decide +kernel
theorem dX11_carry_10 : decode cX11_carry 10 = .ok (.ifnonnull 6, 3) := by decide +kernel
theorem dX11_carry_13 : decode cX11_carry 13 = .ok (.bipush (-101), 2) := by decide +kernel
theorem dX11_carry_15 : decode cX11_carry 15 = .ok (.ireturn, 1) := by decide +kernel
theorem dX11_carry_16 : decode cX11_carry 16 = .ok (.aload_n 0, 1) := by decide +kernel
theorem dX11_carry_17 : decode cX11_carry 17 = .ok (.getfield 19, 3) := by decide +kernel
theorem dX11_carry_20 : decode cX11_carry 20 = .ok (.invokevirtual 169, 3) := by decide +kernel
theorem dX11_carry_23 : decode cX11_carry 23 = .ok (.ifCond .eq 17, 3) := by decide +kernel
theorem dX11_carry_26 : decode cX11_carry 26 = .ok (.aload_n 2, 1) := by decide +kernel
theorem dX11_carry_27 : decode cX11_carry 27 = .ok (.aload_n 0, 1) := by decide +kernel
theorem dX11_carry_28 : decode cX11_carry 28 = .ok (.getfield 19, 3) := by decide +kernel
theorem dX11_carry_31 : decode cX11_carry 31 = .ok (.invokevirtual 172, 3) := by decide +kernel
theorem dX11_carry_34 : decode cX11_carry 34 = .ok (.invokevirtual 175, 3) := by decide +kernel
theorem dX11_carry_37 : decode cX11_carry 37 = .ok (.ifCond .ne 6, 3) := by decide +kernel
theorem dX11_carry_40 : decode cX11_carry 40 = .ok (.bipush (-103), 2) := by decide +kernel
theorem dX11_carry_42 : decode cX11_carry 42 = .ok (.ireturn, 1) := by decide +kernel
theorem dX11_carry_43 : decode cX11_carry 43 = .ok (.aload_n 2, 1) := by decide +kernel
theorem dX11_carry_44 : decode cX11_carry 44 = .ok (.iconst 1, 1) := by decide +kernel
theorem dX11_carry_45 : decode cX11_carry 45 = .ok (.aload_n 2, 1) := by decide +kernel
theorem dX11_carry_46 : decode cX11_carry 46 = .ok (.getfield 156, 3) := by decide +kernel
theorem dX11_carry_49 : decode cX11_carry 49 = .ok (.isub, 1) := by decide +kernel
theorem dX11_carry_50 : decode cX11_carry 50 = .ok (.putfield 156, 3) := by decide +kernel
theorem dX11_carry_53 : decode cX11_carry 53 = .ok (.aload_n 2, 1) := by decide +kernel
theorem dX11_carry_54 : decode cX11_carry 54 = .ok (.getfield 156, 3) := by decide +kernel
theorem dX11_carry_57 : decode cX11_carry 57 = .ok (.ireturn, 1) := by decide +kernel
theorem dX11_hour_0 : decode cX11_hour 0 = .ok (.iload_n 1, 1) := by decide +kernel
theorem dX11_hour_1 : decode cX11_hour 1 = .ok (.bipush (-3), 2) := by decide +kernel
theorem dX11_hour_3 : decode cX11_hour 3 = .ok (.if_icmp .lt 8, 3) := by decide +kernel
theorem dX11_hour_6 : decode cX11_hour 6 = .ok (.iload_n 1, 1) := by decide +kernel
theorem dX11_hour_7 : decode cX11_hour 7 = .ok (.iconst 3, 1) := by decide +kernel
theorem dX11_hour_8 : decode cX11_hour 8 = .ok (.if_icmp .le 6, 3) := by decide +kernel
theorem dX11_hour_11 : decode cX11_hour 11 = .ok (.bipush (-102), 2) := by decide +kernel
theorem dX11_hour_13 : decode cX11_hour 13 = .ok (.ireturn, 1) := by decide +kernel
theorem dX11_hour_14 : decode cX11_hour 14 = .ok (.aload_n 0, 1) := by decide +kernel
theorem dX11_hour_15 : decode cX11_hour 15 = .ok (.getfield 19, 3) := by decide +kernel
theorem dX11_hour_18 : decode cX11_hour 18 = .ok (.invokevirtual 169, 3) := by decide +kernel
theorem dX11_hour_21 : decode cX11_hour 21 = .ok (.ifCond .eq 18, 3) := by decide +kernel
theorem dX11_hour_24 : decode cX11_hour 24 = .ok (.aload_n 0, 1) := by decide +kernel
theorem dX11_hour_25 : decode cX11_hour 25 = .ok (.getfield 19, 3) := by decide +kernel
theorem dX11_hour_28 : decode cX11_hour 28 = .ok (.getfield 178, 3) := by decide +kernel
theorem dX11_hour_31 : decode cX11_hour 31 = .ok (.iload_n 1, 1) := by decide +kernel
theorem dX11_hour_32 : decode cX11_hour 32 = .ok (.isub, 1) := by decide +kernel
theorem dX11_hour_33 : decode cX11_hour 33 = .ok (.invokestatic 181, 3) := by decide +kernel
theorem dX11_hour_36 : decode cX11_hour 36 = .ok (.ifCond .ne 6, 3) := by decide +kernel
theorem dX11_hour_39 : decode cX11_hour 39 = .ok (.bipush (-103), 2) := by decide +kernel
theorem dX11_hour_41 : decode cX11_hour 41 = .ok (.ireturn, 1) := by decide +kernel
theorem dX11_hour_42 : decode cX11_hour 42 = .ok (.aload_n 0, 1) := by decide +kernel
theorem dX11_hour_43 : decode cX11_hour 43 = .ok (.getfield 19, 3) := by decide +kernel
theorem dX11_hour_46 : decode cX11_hour 46 = .ok (.iload_n 1, 1) := by decide +kernel
theorem dX11_hour_47 : decode cX11_hour 47 = .ok (.aload_n 0, 1) := by decide +kernel
theorem dX11_hour_48 : decode cX11_hour 48 = .ok (.getfield 26, 3) := by decide +kernel
theorem dX11_hour_51 : decode cX11_hour 51 = .ok (.invokevirtual 184, 3) := by decide +kernel
theorem dX11_hour_54 : decode cX11_hour 54 = .ok (.aload_n 0, 1) := by decide +kernel
theorem dX11_hour_55 : decode cX11_hour 55 = .ok (.getfield 19, 3) := by decide +kernel
theorem dX11_hour_58 : decode cX11_hour 58 = .ok (.getfield 188, 3) := by decide +kernel
theorem dX11_hour_61 : decode cX11_hour 61 = .ok (.ifCond .eq 7, 3) := by decide +kernel
theorem dX11_hour_64 : decode cX11_hour 64 = .ok (.iconst (-1), 1) := by decide +kernel
theorem dX11_hour_65 : decode cX11_hour 65 = .ok (.goto 10, 3) := by decide +kernel
theorem dX11_hour_68 : decode cX11_hour 68 = .ok (.aload_n 0, 1) := by decide +kernel
theorem dX11_hour_69 : decode cX11_hour 69 = .ok (.getfield 19, 3) := by decide +kernel
theorem dX11_hour_72 : decode cX11_hour 72 = .ok (.getfield 178, 3) := by decide +kernel
theorem dX11_hour_75 : decode cX11_hour 75 = .ok (.ireturn, 1) := by decide +kernel
theorem dX11_even_0 : decode cX11_even 0 = .ok (.iload_n 1, 1) := by decide +kernel
theorem dX11_even_1 : decode cX11_even 1 = .ok (.ifCond .lt 8, 3) := by decide +kernel
theorem dX11_even_4 : decode cX11_even 4 = .ok (.iload_n 1, 1) := by decide +kernel
theorem dX11_even_5 : decode cX11_even 5 = .ok (.iconst 1, 1) := by decide +kernel
theorem dX11_even_6 : decode cX11_even 6 = .ok (.if_icmp .le 6, 3) := by decide +kernel
theorem dX11_even_9 : decode cX11_even 9 = .ok (.bipush (-102), 2) := by decide +kernel
theorem dX11_even_11 : decode cX11_even 11 = .ok (.ireturn, 1) := by decide +kernel
theorem dX11_even_12 : decode cX11_even 12 = .ok (.aload_n 0, 1) := by decide +kernel
theorem dX11_even_13 : decode cX11_even 13 = .ok (.getfield 19, 3) := by decide +kernel
theorem dX11_even_16 : decode cX11_even 16 = .ok (.invokevirtual 169, 3) := by decide +kernel
theorem dX11_even_19 : decode cX11_even 19 = .ok (.ifCond .ne 6, 3) := by decide +kernel
theorem dX11_even_22 : decode cX11_even 22 = .ok (.bipush (-103), 2) := by decide +kernel
theorem dX11_even_24 : decode cX11_even 24 = .ok (.ireturn, 1) := by decide +kernel
theorem dX11_even_25 : decode cX11_even 25 = .ok (.aload_n 0, 1) := by decide +kernel
theorem dX11_even_26 : decode cX11_even 26 = .ok (.getfield 40, 3) := by decide +kernel
theorem dX11_even_29 : decode cX11_even 29 = .ok (.aload_n 0, 1) := by decide +kernel
theorem dX11_even_30 : decode cX11_even 30 = .ok (.getfield 19, 3) := by decide +kernel
theorem dX11_even_33 : decode cX11_even 33 = .ok (.aload_n 0, 1) := by decide +kernel
theorem dX11_even_34 : decode cX11_even 34 = .ok (.getfield 26, 3) := by decide +kernel
theorem dX11_even_37 : decode cX11_even 37 = .ok (.invokevirtual 191, 3) := by decide +kernel
theorem dX11_even_40 : decode cX11_even 40 = .ok (.iload_n 1, 1) := by decide +kernel
theorem dX11_even_41 : decode cX11_even 41 = .ok (.ifCond .ne 13, 3) := by decide +kernel
theorem dX11_even_44 : decode cX11_even 44 = .ok (.aload_n 0, 1) := by decide +kernel
theorem dX11_even_45 : decode cX11_even 45 = .ok (.getfield 40, 3) := by decide +kernel
theorem dX11_even_48 : decode cX11_even 48 = .ok (.getfield 195, 3) := by decide +kernel
theorem dX11_even_51 : decode cX11_even 51 = .ok (.goto 10, 3) := by decide +kernel
theorem dX11_even_54 : decode cX11_even 54 = .ok (.aload_n 0, 1) := by decide +kernel
theorem dX11_even_55 : decode cX11_even 55 = .ok (.getfield 40, 3) := by decide +kernel
theorem dX11_even_58 : decode cX11_even 58 = .ok (.getfield 198, 3) := by decide +kernel
theorem dX11_even_61 : decode cX11_even 61 = .ok (.ireturn, 1) := by decide +kernel
theorem dX11_soonest_0 : decode cX11_soonest 0 = .ok (.iload_n 1, 1) := by decide +kernel
theorem dX11_soonest_1 : decode cX11_soonest 1 = .ok (.iconst 1, 1) := by decide +kernel
theorem dX11_soonest_2 : decode cX11_soonest 2 = .ok (.if_icmp .lt 19, 3) := by decide +kernel
theorem dX11_soonest_5 : decode cX11_soonest 5 = .ok (.iload_n 1, 1) := by decide +kernel
theorem dX11_soonest_6 : decode cX11_soonest 6 = .ok (.sipush 9999, 3) := by decide +kernel
theorem dX11_soonest_9 : decode cX11_soonest 9 = .ok (.if_icmp .gt 12, 3) := by decide +kernel
theorem dX11_soonest_12 : decode cX11_soonest 12 = .ok (.iload_n 2, 1) := by decide +kernel
theorem dX11_soonest_13 : decode cX11_soonest 13 = .ok (.ifCond .lt 8, 3) := by decide +kernel
theorem dX11_soonest_16 : decode cX11_soonest 16 = .ok (.iload_n 2, 1) := by decide +kernel
theorem dX11_soonest_17 : decode cX11_soonest 17 = .ok (.iconst 1, 1) := by decide +kernel
theorem dX11_soonest_18 : decode cX11_soonest 18 = .ok (.if_icmp .le 6, 3) := by decide +kernel
theorem dX11_soonest_21 : decode cX11_soonest 21 = .ok (.bipush (-102), 2) := by decide +kernel
theorem dX11_soonest_23 : decode cX11_soonest 23 = .ok (.ireturn, 1) := by decide +kernel
theorem dX11_soonest_24 : decode cX11_soonest 24 = .ok (.aload_n 0, 1) := by decide +kernel
theorem dX11_soonest_25 : decode cX11_soonest 25 = .ok (.getfield 19, 3) := by decide +kernel
theorem dX11_soonest_28 : decode cX11_soonest 28 = .ok (.invokevirtual 169, 3) := by decide +kernel
theorem dX11_soonest_31 : decode cX11_soonest 31 = .ok (.ifCond .ne 6, 3) := by decide +kernel
theorem dX11_soonest_34 : decode cX11_soonest 34 = .ok (.bipush (-103), 2) := by decide +kernel
theorem dX11_soonest_36 : decode cX11_soonest 36 = .ok (.ireturn, 1) := by decide +kernel
theorem dX11_soonest_37 : decode cX11_soonest 37 = .ok (.aload_n 0, 1) := by decide +kernel
theorem dX11_soonest_38 : decode cX11_soonest 38 = .ok (.getfield 47, 3) := by decide +kernel
theorem dX11_soonest_41 : decode cX11_soonest 41 = .ok (.aload_n 0, 1) := by decide +kernel
theorem dX11_soonest_42 : decode cX11_soonest 42 = .ok (.getfield 19, 3) := by decide +kernel
theorem dX11_soonest_45 : decode cX11_soonest 45 = .ok (.aload_n 0, 1) := by decide +kernel
theorem dX11_soonest_46 : decode cX11_soonest 46 = .ok (.getfield 26, 3) := by decide +kernel
theorem dX11_soonest_49 : decode cX11_soonest 49 = .ok (.iload_n 1, 1) := by decide +kernel
theorem dX11_soonest_50 : decode cX11_soonest 50 = .ok (.invokevirtual 201, 3) := by decide +kernel
theorem dX11_soonest_53 : decode cX11_soonest 53 = .ok (.iload_n 2, 1) := by decide +kernel
theorem dX11_soonest_54 : decode cX11_soonest 54 = .ok (.ifCond .ne 13, 3) := by decide +kernel
theorem dX11_soonest_57 : decode cX11_soonest 57 = .ok (.aload_n 0, 1) := by decide +kernel
theorem dX11_soonest_58 : decode cX11_soonest 58 = .ok (.getfield 47, 3) := by decide +kernel
theorem dX11_soonest_61 : decode cX11_soonest 61 = .ok (.getfield 204, 3) := by decide +kernel
theorem dX11_soonest_64 : decode cX11_soonest 64 = .ok (.goto 10, 3) := by decide +kernel
theorem dX11_soonest_67 : decode cX11_soonest 67 = .ok (.aload_n 0, 1) := by decide +kernel
theorem dX11_soonest_68 : decode cX11_soonest 68 = .ok (.getfield 47, 3) := by decide +kernel
theorem dX11_soonest_71 : decode cX11_soonest 71 = .ok (.getfield 205, 3) := by decide +kernel
theorem dX11_soonest_74 : decode cX11_soonest 74 = .ok (.ireturn, 1) := by decide +kernel
theorem dX11_caught_0 : decode cX11_caught 0 = .ok (.iload_n 1, 1) := by decide +kernel
theorem dX11_caught_1 : decode cX11_caught 1 = .ok (.iconst 1, 1) := by decide +kernel
theorem dX11_caught_2 : decode cX11_caught 2 = .ok (.if_icmp .lt 9, 3) := by decide +kernel
theorem dX11_caught_5 : decode cX11_caught 5 = .ok (.iload_n 1, 1) := by decide +kernel
theorem dX11_caught_6 : decode cX11_caught 6 = .ok (.bipush 99, 2) := by decide +kernel
theorem dX11_caught_8 : decode cX11_caught 8 = .ok (.if_icmp .le 6, 3) := by decide +kernel
theorem dX11_caught_11 : decode cX11_caught 11 = .ok (.bipush (-102), 2) := by decide +kernel
theorem dX11_caught_13 : decode cX11_caught 13 = .ok (.ireturn, 1) := by decide +kernel
theorem dX11_caught_14 : decode cX11_caught 14 = .ok (.aload_n 0, 1) := by decide +kernel
theorem dX11_caught_15 : decode cX11_caught 15 = .ok (.getfield 19, 3) := by decide +kernel
theorem dX11_caught_18 : decode cX11_caught 18 = .ok (.invokevirtual 169, 3) := by decide +kernel
theorem dX11_caught_21 : decode cX11_caught 21 = .ok (.ifCond .ne 6, 3) := by decide +kernel
theorem dX11_caught_24 : decode cX11_caught 24 = .ok (.bipush (-103), 2) := by decide +kernel
theorem dX11_caught_26 : decode cX11_caught 26 = .ok (.ireturn, 1) := by decide +kernel
theorem dX11_caught_27 : decode cX11_caught 27 = .ok (.aload_n 0, 1) := by decide +kernel
theorem dX11_caught_28 : decode cX11_caught 28 = .ok (.getfield 19, 3) := by decide +kernel
theorem dX11_caught_31 : decode cX11_caught 31 = .ok (.invokevirtual 172, 3) := by decide +kernel
theorem dX11_caught_34 : decode cX11_caught 34 = .ok (.istore_n 2, 1) := by decide +kernel
theorem dX11_caught_35 : decode cX11_caught 35 = .ok (.bipush 90, 2) := by decide +kernel
theorem dX11_caught_37 : decode cX11_caught 37 = .ok (.iload_n 1, 1) := by decide +kernel
theorem dX11_caught_38 : decode cX11_caught 38 = .ok (.iload_n 2, 1) := by decide +kernel
theorem dX11_caught_39 : decode cX11_caught 39 = .ok (.imul, 1) := by decide +kernel
theorem dX11_caught_40 : decode cX11_caught 40 = .ok (.isub, 1) := by decide +kernel
theorem dX11_caught_41 : decode cX11_caught 41 = .ok (.sipush 360, 3) := by decide +kernel
theorem dX11_caught_44 : decode cX11_caught 44 = .ok (.invokestatic 208, 3) := by decide +kernel
theorem dX11_caught_47 : decode cX11_caught 47 = .ok (.istore_n 3, 1) := by decide +kernel
theorem dX11_caught_48 : decode cX11_caught 48 = .ok (.iconst 0, 1) := by decide +kernel
theorem dX11_caught_49 : decode cX11_caught 49 = .ok (.istore 4, 2) := by decide +kernel
theorem dX11_caught_51 : decode cX11_caught 51 = .ok (.iload 4, 2) := by decide +kernel
theorem dX11_caught_53 : decode cX11_caught 53 = .ok (.bipush 98, 2) := by decide +kernel
theorem dX11_caught_55 : decode cX11_caught 55 = .ok (.if_icmp .gt 29, 3) := by decide +kernel
theorem dX11_caught_58 : decode cX11_caught 58 = .ok (.aload_n 0, 1) := by decide +kernel
theorem dX11_caught_59 : decode cX11_caught 59 = .ok (.getfield 19, 3) := by decide +kernel
theorem dX11_caught_62 : decode cX11_caught 62 = .ok (.iload 4, 2) := by decide +kernel
theorem dX11_caught_64 : decode cX11_caught 64 = .ok (.invokevirtual 213, 3) := by decide +kernel
theorem dX11_caught_67 : decode cX11_caught 67 = .ok (.iload_n 3, 1) := by decide +kernel
theorem dX11_caught_68 : decode cX11_caught 68 = .ok (.invokestatic 216, 3) := by decide +kernel
theorem dX11_caught_71 : decode cX11_caught 71 = .ok (.iconst 5, 1) := by decide +kernel
theorem dX11_caught_72 : decode cX11_caught 72 = .ok (.if_icmp .gt 6, 3) := by decide +kernel
theorem dX11_caught_75 : decode cX11_caught 75 = .ok (.iload 4, 2) := by decide +kernel
theorem dX11_caught_77 : decode cX11_caught 77 = .ok (.ireturn, 1) := by decide +kernel
theorem dX11_caught_78 : decode cX11_caught 78 = .ok (.iinc 4 1, 3) := by decide +kernel
theorem dX11_caught_81 : decode cX11_caught 81 = .ok (.goto (-30), 3) := by decide +kernel
theorem dX11_caught_84 : decode cX11_caught 84 = .ok (.iconst (-1), 1) := by decide +kernel
theorem dX11_caught_85 : decode cX11_caught 85 = .ok (.ireturn, 1) := by decide +kernel
theorem dX11_weighed_0 : decode cX11_weighed 0 = .ok (.iload_n 1, 1) := by decide +kernel
theorem dX11_weighed_1 : decode cX11_weighed 1 = .ok (.invokestatic 181, 3) := by decide +kernel
theorem dX11_weighed_4 : decode cX11_weighed 4 = .ok (.ifCond .eq 13, 3) := by decide +kernel
theorem dX11_weighed_7 : decode cX11_weighed 7 = .ok (.iload_n 2, 1) := by decide +kernel
theorem dX11_weighed_8 : decode cX11_weighed 8 = .ok (.ifCond .lt 9, 3) := by decide +kernel
theorem dX11_weighed_11 : decode cX11_weighed 11 = .ok (.iload_n 2, 1) := by decide +kernel
theorem dX11_weighed_12 : decode cX11_weighed 12 = .ok (.bipush 99, 2) := by decide +kernel
theorem dX11_weighed_14 : decode cX11_weighed 14 = .ok (.if_icmp .le 6, 3) := by decide +kernel
theorem dX11_weighed_17 : decode cX11_weighed 17 = .ok (.bipush (-102), 2) := by decide +kernel
theorem dX11_weighed_19 : decode cX11_weighed 19 = .ok (.ireturn, 1) := by decide +kernel
theorem dX11_weighed_20 : decode cX11_weighed 20 = .ok (.aload_n 0, 1) := by decide +kernel
theorem dX11_weighed_21 : decode cX11_weighed 21 = .ok (.getfield 19, 3) := by decide +kernel
theorem dX11_weighed_24 : decode cX11_weighed 24 = .ok (.invokevirtual 110, 3) := by decide +kernel
theorem dX11_weighed_27 : decode cX11_weighed 27 = .ok (.ifCond .ne 6, 3) := by decide +kernel
theorem dX11_weighed_30 : decode cX11_weighed 30 = .ok (.bipush (-103), 2) := by decide +kernel
theorem dX11_weighed_32 : decode cX11_weighed 32 = .ok (.ireturn, 1) := by decide +kernel
theorem dX11_weighed_33 : decode cX11_weighed 33 = .ok (.aload_n 0, 1) := by decide +kernel
theorem dX11_weighed_34 : decode cX11_weighed 34 = .ok (.getfield 33, 3) := by decide +kernel
theorem dX11_weighed_37 : decode cX11_weighed 37 = .ok (.invokevirtual 219, 3) := by decide +kernel
theorem dX11_weighed_40 : decode cX11_weighed 40 = .ok (.ifCond .eq 6, 3) := by decide +kernel
theorem dX11_weighed_43 : decode cX11_weighed 43 = .ok (.bipush (-104), 2) := by decide +kernel
theorem dX11_weighed_45 : decode cX11_weighed 45 = .ok (.ireturn, 1) := by decide +kernel
theorem dX11_weighed_46 : decode cX11_weighed 46 = .ok (.aload_n 0, 1) := by decide +kernel
theorem dX11_weighed_47 : decode cX11_weighed 47 = .ok (.getfield 33, 3) := by decide +kernel
theorem dX11_weighed_50 : decode cX11_weighed 50 = .ok (.iload_n 1, 1) := by decide +kernel
theorem dX11_weighed_51 : decode cX11_weighed 51 = .ok (.iload_n 2, 1) := by decide +kernel
theorem dX11_weighed_52 : decode cX11_weighed 52 = .ok (.invokevirtual 220, 3) := by decide +kernel
theorem dX11_weighed_55 : decode cX11_weighed 55 = .ok (.ireturn, 1) := by decide +kernel
theorem dX11_forget_0 : decode cX11_forget 0 = .ok (.aload_n 0, 1) := by decide +kernel
theorem dX11_forget_1 : decode cX11_forget 1 = .ok (.getfield 33, 3) := by decide +kernel
theorem dX11_forget_4 : decode cX11_forget 4 = .ok (.invokevirtual 96, 3) := by decide +kernel
theorem dX11_forget_7 : decode cX11_forget 7 = .ok (.ireturn, 1) := by decide +kernel
theorem dX11_fits_0 : decode cX11_fits 0 = .ok (.iload_n 1, 1) := by decide +kernel
theorem dX11_fits_1 : decode cX11_fits 1 = .ok (.ifCond .lt 8, 3) := by decide +kernel
theorem dX11_fits_4 : decode cX11_fits 4 = .ok (.iload_n 1, 1) := by decide +kernel
theorem dX11_fits_5 : decode cX11_fits 5 = .ok (.iconst 2, 1) := by decide +kernel
theorem dX11_fits_6 : decode cX11_fits 6 = .ok (.if_icmp .le 6, 3) := by decide +kernel
theorem dX11_fits_9 : decode cX11_fits 9 = .ok (.bipush (-102), 2) := by decide +kernel
theorem dX11_fits_11 : decode cX11_fits 11 = .ok (.ireturn, 1) := by decide +kernel
theorem dX11_fits_12 : decode cX11_fits 12 = .ok (.aload_n 0, 1) := by decide +kernel
theorem dX11_fits_13 : decode cX11_fits 13 = .ok (.getfield 33, 3) := by decide +kernel
theorem dX11_fits_16 : decode cX11_fits 16 = .ok (.invokevirtual 222, 3) := by decide +kernel
theorem dX11_fits_19 : decode cX11_fits 19 = .ok (.istore_n 2, 1) := by decide +kernel
theorem dX11_fits_20 : decode cX11_fits 20 = .ok (.aload_n 0, 1) := by decide +kernel
theorem dX11_fits_21 : decode cX11_fits 21 = .ok (.getfield 33, 3) := by decide +kernel
theorem dX11_fits_24 : decode cX11_fits 24 = .ok (.invokevirtual 225, 3) := by decide +kernel
theorem dX11_fits_27 : decode cX11_fits 27 = .ok (.istore_n 3, 1) := by decide +kernel
theorem dX11_fits_28 : decode cX11_fits 28 = .ok (.iload_n 1, 1) := by decide +kernel
theorem dX11_fits_29 : decode cX11_fits 29 = .ok (.ifCond .ne 18, 3) := by decide +kernel
theorem dX11_fits_32 : decode cX11_fits 32 = .ok (.iload_n 2, 1) := by decide +kernel
theorem dX11_fits_33 : decode cX11_fits 33 = .ok (.iload_n 3, 1) := by decide +kernel
theorem dX11_fits_34 : decode cX11_fits 34 = .ok (.if_icmp .le 7, 3) := by decide +kernel
theorem dX11_fits_37 : decode cX11_fits 37 = .ok (.iconst 0, 1) := by decide +kernel
theorem dX11_fits_38 : decode cX11_fits 38 = .ok (.goto 8, 3) := by decide +kernel
theorem dX11_fits_41 : decode cX11_fits 41 = .ok (.iload_n 3, 1) := by decide +kernel
theorem dX11_fits_42 : decode cX11_fits 42 = .ok (.iload_n 2, 1) := by decide +kernel
theorem dX11_fits_43 : decode cX11_fits 43 = .ok (.isub, 1) := by decide +kernel
theorem dX11_fits_44 : decode cX11_fits 44 = .ok (.iconst 1, 1) := by decide +kernel
theorem dX11_fits_45 : decode cX11_fits 45 = .ok (.iadd, 1) := by decide +kernel
theorem dX11_fits_46 : decode cX11_fits 46 = .ok (.ireturn, 1) := by decide +kernel
theorem dX11_fits_47 : decode cX11_fits 47 = .ok (.iload_n 2, 1) := by decide +kernel
theorem dX11_fits_48 : decode cX11_fits 48 = .ok (.iload_n 3, 1) := by decide +kernel
theorem dX11_fits_49 : decode cX11_fits 49 = .ok (.if_icmp .le 5, 3) := by decide +kernel
theorem dX11_fits_52 : decode cX11_fits 52 = .ok (.iconst (-1), 1) := by decide +kernel
theorem dX11_fits_53 : decode cX11_fits 53 = .ok (.ireturn, 1) := by decide +kernel
theorem dX11_fits_54 : decode cX11_fits 54 = .ok (.iload_n 1, 1) := by decide +kernel
theorem dX11_fits_55 : decode cX11_fits 55 = .ok (.iconst 1, 1) := by decide +kernel
theorem dX11_fits_56 : decode cX11_fits 56 = .ok (.if_icmp .ne 7, 3) := by decide +kernel
theorem dX11_fits_59 : decode cX11_fits 59 = .ok (.iload_n 2, 1) := by decide +kernel
theorem dX11_fits_60 : decode cX11_fits 60 = .ok (.goto 4, 3) := by decide +kernel
theorem dX11_fits_63 : decode cX11_fits 63 = .ok (.iload_n 3, 1) := by decide +kernel
theorem dX11_fits_64 : decode cX11_fits 64 = .ok (.ireturn, 1) := by decide +kernel
theorem dX11_lasts_0 : decode cX11_lasts 0 = .ok (.iload_n 1, 1) := by decide +kernel
theorem dX11_lasts_1 : decode cX11_lasts 1 = .ok (.iconst 1, 1) := by decide +kernel
theorem dX11_lasts_2 : decode cX11_lasts 2 = .ok (.if_icmp .lt 17, 3) := by decide +kernel
theorem dX11_lasts_5 : decode cX11_lasts 5 = .ok (.iload_n 1, 1) := by decide +kernel
theorem dX11_lasts_6 : decode cX11_lasts 6 = .ok (.iconst 4, 1) := by decide +kernel
theorem dX11_lasts_7 : decode cX11_lasts 7 = .ok (.if_icmp .gt 12, 3) := by decide +kernel
theorem dX11_lasts_10 : decode cX11_lasts 10 = .ok (.iload_n 2, 1) := by decide +kernel
theorem dX11_lasts_11 : decode cX11_lasts 11 = .ok (.ifCond .lt 8, 3) := by decide +kernel
theorem dX11_lasts_14 : decode cX11_lasts 14 = .ok (.iload_n 2, 1) := by decide +kernel
theorem dX11_lasts_15 : decode cX11_lasts 15 = .ok (.iconst 1, 1) := by decide +kernel
theorem dX11_lasts_16 : decode cX11_lasts 16 = .ok (.if_icmp .le 7, 3) := by decide +kernel
theorem dX11_lasts_19 : decode cX11_lasts 19 = .ok (.ldc2_w 228, 3) := by decide +kernel
theorem dX11_lasts_22 : decode cX11_lasts 22 = .ok (.lreturn, 1) := by decide +kernel
theorem dX11_lasts_23 : decode cX11_lasts 23 = .ok (.aload_n 0, 1) := by decide +kernel
theorem dX11_lasts_24 : decode cX11_lasts 24 = .ok (.getfield 19, 3) := by decide +kernel
theorem dX11_lasts_27 : decode cX11_lasts 27 = .ok (.invokevirtual 169, 3) := by decide +kernel
theorem dX11_lasts_30 : decode cX11_lasts 30 = .ok (.ifCond .ne 7, 3) := by decide +kernel
theorem dX11_lasts_33 : decode cX11_lasts 33 = .ok (.ldc2_w 230, 3) := by decide +kernel
theorem dX11_lasts_36 : decode cX11_lasts 36 = .ok (.lreturn, 1) := by decide +kernel
theorem dX11_lasts_37 : decode cX11_lasts 37 = .ok (.bipush 100, 2) := by decide +kernel
theorem dX11_lasts_39 : decode cX11_lasts 39 = .ok (.aload_n 0, 1) := by decide +kernel
theorem dX11_lasts_40 : decode cX11_lasts 40 = .ok (.getfield 19, 3) := by decide +kernel
theorem dX11_lasts_43 : decode cX11_lasts 43 = .ok (.aload_n 0, 1) := by decide +kernel
theorem dX11_lasts_44 : decode cX11_lasts 44 = .ok (.getfield 26, 3) := by decide +kernel
theorem dX11_lasts_47 : decode cX11_lasts 47 = .ok (.invokevirtual 232, 3) := by decide +kernel
theorem dX11_lasts_50 : decode cX11_lasts 50 = .ok (.isub, 1) := by decide +kernel
theorem dX11_lasts_51 : decode cX11_lasts 51 = .ok (.istore_n 3, 1) := by decide +kernel
theorem dX11_lasts_52 : decode cX11_lasts 52 = .ok (.iload_n 2, 1) := by decide +kernel
theorem dX11_lasts_53 : decode cX11_lasts 53 = .ok (.ifCond .ne 12, 3) := by decide +kernel
theorem dX11_lasts_56 : decode cX11_lasts 56 = .ok (.iload_n 3, 1) := by decide +kernel
theorem dX11_lasts_57 : decode cX11_lasts 57 = .ok (.bipush 100, 2) := by decide +kernel
theorem dX11_lasts_59 : decode cX11_lasts 59 = .ok (.invokestatic 236, 3) := by decide +kernel
theorem dX11_lasts_62 : decode cX11_lasts 62 = .ok (.goto 9, 3) := by decide +kernel
theorem dX11_lasts_65 : decode cX11_lasts 65 = .ok (.bipush 100, 2) := by decide +kernel
theorem dX11_lasts_67 : decode cX11_lasts 67 = .ok (.iload_n 3, 1) := by decide +kernel
theorem dX11_lasts_68 : decode cX11_lasts 68 = .ok (.invokestatic 236, 3) := by decide +kernel
theorem dX11_lasts_71 : decode cX11_lasts 71 = .ok (.istore 4, 2) := by decide +kernel
theorem dX11_lasts_73 : decode cX11_lasts 73 = .ok (.iload 4, 2) := by decide +kernel
theorem dX11_lasts_75 : decode cX11_lasts 75 = .ok (.iload_n 1, 1) := by decide +kernel
theorem dX11_lasts_76 : decode cX11_lasts 76 = .ok (.invokestatic 239, 3) := by decide +kernel
theorem dX11_lasts_79 : decode cX11_lasts 79 = .ok (.lreturn, 1) := by decide +kernel
theorem dX11_whirls_0 : decode cX11_whirls 0 = .ok (.iload_n 1, 1) := by decide +kernel
theorem dX11_whirls_1 : decode cX11_whirls 1 = .ok (.iconst 1, 1) := by decide +kernel
theorem dX11_whirls_2 : decode cX11_whirls 2 = .ok (.if_icmp .lt 22, 3) := by decide +kernel
theorem dX11_whirls_5 : decode cX11_whirls 5 = .ok (.iload_n 1, 1) := by decide +kernel
theorem dX11_whirls_6 : decode cX11_whirls 6 = .ok (.bipush 60, 2) := by decide +kernel
theorem dX11_whirls_8 : decode cX11_whirls 8 = .ok (.if_icmp .gt 16, 3) := by decide +kernel
theorem dX11_whirls_11 : decode cX11_whirls 11 = .ok (.iload_n 2, 1) := by decide +kernel
theorem dX11_whirls_12 : decode cX11_whirls 12 = .ok (.ifCond .lt 12, 3) := by decide +kernel
theorem dX11_whirls_15 : decode cX11_whirls 15 = .ok (.iload_n 3, 1) := by decide +kernel
theorem dX11_whirls_16 : decode cX11_whirls 16 = .ok (.ifCond .lt 8, 3) := by decide +kernel
theorem dX11_whirls_19 : decode cX11_whirls 19 = .ok (.iload_n 3, 1) := by decide +kernel
theorem dX11_whirls_20 : decode cX11_whirls 20 = .ok (.iconst 3, 1) := by decide +kernel
theorem dX11_whirls_21 : decode cX11_whirls 21 = .ok (.if_icmp .le 6, 3) := by decide +kernel
theorem dX11_whirls_24 : decode cX11_whirls 24 = .ok (.bipush (-102), 2) := by decide +kernel
theorem dX11_whirls_26 : decode cX11_whirls 26 = .ok (.ireturn, 1) := by decide +kernel
theorem dX11_whirls_27 : decode cX11_whirls 27 = .ok (.aload_n 0, 1) := by decide +kernel
theorem dX11_whirls_28 : decode cX11_whirls 28 = .ok (.getfield 19, 3) := by decide +kernel
theorem dX11_whirls_31 : decode cX11_whirls 31 = .ok (.invokevirtual 169, 3) := by decide +kernel
theorem dX11_whirls_34 : decode cX11_whirls 34 = .ok (.ifCond .ne 6, 3) := by decide +kernel
theorem dX11_whirls_37 : decode cX11_whirls 37 = .ok (.bipush (-103), 2) := by decide +kernel
theorem dX11_whirls_39 : decode cX11_whirls 39 = .ok (.ireturn, 1) := by decide +kernel
theorem dX11_whirls_40 : decode cX11_whirls 40 = .ok (.aload_n 0, 1) := by decide +kernel
theorem dX11_whirls_41 : decode cX11_whirls 41 = .ok (.iload_n 1, 1) := by decide +kernel
theorem dX11_whirls_42 : decode cX11_whirls 42 = .ok (.iload_n 2, 1) := by decide +kernel
theorem dX11_whirls_43 : decode cX11_whirls 43 = .ok (.invokevirtual 243, 3) := by decide +kernel
theorem dX11_whirls_46 : decode cX11_whirls 46 = .ok (.istore 4, 2) := by decide +kernel
theorem dX11_whirls_48 : decode cX11_whirls 48 = .ok (.iload_n 3, 1) := by decide +kernel
theorem dX11_whirls_49 : decode cX11_whirls 49 = .ok (.tableswitch 59 0 2 #[27, 35, 43], 27) := by decide +kernel
theorem dX11_whirls_76 : decode cX11_whirls 76 = .ok (.aload_n 0, 1) := by decide +kernel
theorem dX11_whirls_77 : decode cX11_whirls 77 = .ok (.getfield 51, 3) := by decide +kernel
theorem dX11_whirls_80 : decode cX11_whirls 80 = .ok (.getfield 178, 3) := by decide +kernel
theorem dX11_whirls_83 : decode cX11_whirls 83 = .ok (.ireturn, 1) := by decide +kernel
theorem dX11_whirls_84 : decode cX11_whirls 84 = .ok (.aload_n 0, 1) := by decide +kernel
theorem dX11_whirls_85 : decode cX11_whirls 85 = .ok (.getfield 51, 3) := by decide +kernel
theorem dX11_whirls_88 : decode cX11_whirls 88 = .ok (.getfield 246, 3) := by decide +kernel
theorem dX11_whirls_91 : decode cX11_whirls 91 = .ok (.ireturn, 1) := by decide +kernel
theorem dX11_whirls_92 : decode cX11_whirls 92 = .ok (.aload_n 0, 1) := by decide +kernel
theorem dX11_whirls_93 : decode cX11_whirls 93 = .ok (.getfield 51, 3) := by decide +kernel
theorem dX11_whirls_96 : decode cX11_whirls 96 = .ok (.getfield 113, 3) := by decide +kernel
theorem dX11_whirls_99 : decode cX11_whirls 99 = .ok (.aload_n 0, 1) := by decide +kernel
theorem dX11_whirls_100 : decode cX11_whirls 100 = .ok (.getfield 19, 3) := by decide +kernel
theorem dX11_whirls_103 : decode cX11_whirls 103 = .ok (.getfield 113, 3) := by decide +kernel
theorem dX11_whirls_106 : decode cX11_whirls 106 = .ok (.isub, 1) := by decide +kernel
theorem dX11_whirls_107 : decode cX11_whirls 107 = .ok (.ireturn, 1) := by decide +kernel
theorem dX11_whirls_108 : decode cX11_whirls 108 = .ok (.iload 4, 2) := by decide +kernel
theorem dX11_whirls_110 : decode cX11_whirls 110 = .ok (.ireturn, 1) := by decide +kernel
theorem dX11_image_0 : decode cX11_image 0 = .ok (.aload_n 0, 1) := by decide +kernel
theorem dX11_image_1 : decode cX11_image 1 = .ok (.getfield 19, 3) := by decide +kernel
theorem dX11_image_4 : decode cX11_image 4 = .ok (.invokevirtual 110, 3) := by decide +kernel
theorem dX11_image_7 : decode cX11_image 7 = .ok (.ifCond .ne 6, 3) := by decide +kernel
theorem dX11_image_10 : decode cX11_image 10 = .ok (.bipush (-103), 2) := by decide +kernel
theorem dX11_image_12 : decode cX11_image 12 = .ok (.ireturn, 1) := by decide +kernel
theorem dX11_image_13 : decode cX11_image 13 = .ok (.aload_n 0, 1) := by decide +kernel
theorem dX11_image_14 : decode cX11_image 14 = .ok (.getfield 54, 3) := by decide +kernel
theorem dX11_image_17 : decode cX11_image 17 = .ok (.aload_n 0, 1) := by decide +kernel
theorem dX11_image_18 : decode cX11_image 18 = .ok (.getfield 19, 3) := by decide +kernel
theorem dX11_image_21 : decode cX11_image 21 = .ok (.invokevirtual 247, 3) := by decide +kernel
theorem dX11_image_24 : decode cX11_image 24 = .ok (.aload_n 0, 1) := by decide +kernel
theorem dX11_image_25 : decode cX11_image 25 = .ok (.getfield 26, 3) := by decide +kernel
theorem dX11_image_28 : decode cX11_image 28 = .ok (.invokevirtual 251, 3) := by decide +kernel
theorem dX11_image_31 : decode cX11_image 31 = .ok (.aload_n 0, 1) := by decide +kernel
theorem dX11_image_32 : decode cX11_image 32 = .ok (.iconst 1, 1) := by decide +kernel
theorem dX11_image_33 : decode cX11_image 33 = .ok (.putfield 97, 3) := by decide +kernel
theorem dX11_image_36 : decode cX11_image 36 = .ok (.aload_n 0, 1) := by decide +kernel
theorem dX11_image_37 : decode cX11_image 37 = .ok (.getfield 19, 3) := by decide +kernel
theorem dX11_image_40 : decode cX11_image 40 = .ok (.getfield 113, 3) := by decide +kernel
theorem dX11_image_43 : decode cX11_image 43 = .ok (.ireturn, 1) := by decide +kernel
theorem dX11_restore_0 : decode cX11_restore 0 = .ok (.aload_n 0, 1) := by decide +kernel
theorem dX11_restore_1 : decode cX11_restore 1 = .ok (.getfield 97, 3) := by decide +kernel
theorem dX11_restore_4 : decode cX11_restore 4 = .ok (.ifCond .ne 6, 3) := by decide +kernel
theorem dX11_restore_7 : decode cX11_restore 7 = .ok (.bipush (-103), 2) := by decide +kernel
theorem dX11_restore_9 : decode cX11_restore 9 = .ok (.ireturn, 1) := by decide +kernel
theorem dX11_restore_10 : decode cX11_restore 10 = .ok (.aload_n 0, 1) := by decide +kernel
theorem dX11_restore_11 : decode cX11_restore 11 = .ok (.getfield 19, 3) := by decide +kernel
theorem dX11_restore_14 : decode cX11_restore 14 = .ok (.aload_n 0, 1) := by decide +kernel
theorem dX11_restore_15 : decode cX11_restore 15 = .ok (.getfield 54, 3) := by decide +kernel
theorem dX11_restore_18 : decode cX11_restore 18 = .ok (.invokevirtual 247, 3) := by decide +kernel
theorem dX11_restore_21 : decode cX11_restore 21 = .ok (.aload_n 0, 1) := by decide +kernel
theorem dX11_restore_22 : decode cX11_restore 22 = .ok (.getfield 26, 3) := by decide +kernel
theorem dX11_restore_25 : decode cX11_restore 25 = .ok (.invokevirtual 254, 3) := by decide +kernel
theorem dX11_restore_28 : decode cX11_restore 28 = .ok (.aload_n 0, 1) := by decide +kernel
theorem dX11_restore_29 : decode cX11_restore 29 = .ok (.getfield 19, 3) := by decide +kernel
theorem dX11_restore_32 : decode cX11_restore 32 = .ok (.getfield 113, 3) := by decide +kernel
theorem dX11_restore_35 : decode cX11_restore 35 = .ok (.ireturn, 1) := by decide +kernel
theorem dX11_count_0 : decode cX11_count 0 = .ok (.iload_n 1, 1) := by decide +kernel
theorem dX11_count_1 : decode cX11_count 1 = .ok (.tableswitch 188 0 12 #[67, 75, 83, 91, 103, 111, 127, 135, 143, 159, 167, 175, 180], 67) := by decide +kernel
theorem dX11_count_68 : decode cX11_count 68 = .ok (.aload_n 0, 1) := by decide +kernel
theorem dX11_count_69 : decode cX11_count 69 = .ok (.getfield 19, 3) := by decide +kernel
theorem dX11_count_72 : decode cX11_count 72 = .ok (.getfield 178, 3) := by decide +kernel
theorem dX11_count_75 : decode cX11_count 75 = .ok (.ireturn, 1) := by decide +kernel
theorem dX11_count_76 : decode cX11_count 76 = .ok (.aload_n 0, 1) := by decide +kernel
theorem dX11_count_77 : decode cX11_count 77 = .ok (.getfield 19, 3) := by decide +kernel
theorem dX11_count_80 : decode cX11_count 80 = .ok (.invokevirtual 172, 3) := by decide +kernel
theorem dX11_count_83 : decode cX11_count 83 = .ok (.ireturn, 1) := by decide +kernel
theorem dX11_count_84 : decode cX11_count 84 = .ok (.aload_n 0, 1) := by decide +kernel
theorem dX11_count_85 : decode cX11_count 85 = .ok (.getfield 19, 3) := by decide +kernel
theorem dX11_count_88 : decode cX11_count 88 = .ok (.getfield 104, 3) := by decide +kernel
theorem dX11_count_91 : decode cX11_count 91 = .ok (.ireturn, 1) := by decide +kernel
theorem dX11_count_92 : decode cX11_count 92 = .ok (.aload_n 0, 1) := by decide +kernel
theorem dX11_count_93 : decode cX11_count 93 = .ok (.getfield 19, 3) := by decide +kernel
theorem dX11_count_96 : decode cX11_count 96 = .ok (.aload_n 0, 1) := by decide +kernel
theorem dX11_count_97 : decode cX11_count 97 = .ok (.getfield 26, 3) := by decide +kernel
theorem dX11_count_100 : decode cX11_count 100 = .ok (.invokevirtual 257, 3) := by decide +kernel
theorem dX11_count_103 : decode cX11_count 103 = .ok (.ireturn, 1) := by decide +kernel
theorem dX11_count_104 : decode cX11_count 104 = .ok (.aload_n 0, 1) := by decide +kernel
theorem dX11_count_105 : decode cX11_count 105 = .ok (.getfield 19, 3) := by decide +kernel
theorem dX11_count_108 : decode cX11_count 108 = .ok (.getfield 260, 3) := by decide +kernel
theorem dX11_count_111 : decode cX11_count 111 = .ok (.ireturn, 1) := by decide +kernel
theorem dX11_count_112 : decode cX11_count 112 = .ok (.aload_n 0, 1) := by decide +kernel
theorem dX11_count_113 : decode cX11_count 113 = .ok (.getfield 19, 3) := by decide +kernel
theorem dX11_count_116 : decode cX11_count 116 = .ok (.getfield 263, 3) := by decide +kernel
theorem dX11_count_119 : decode cX11_count 119 = .ok (.ifCond .eq 7, 3) := by decide +kernel
theorem dX11_count_122 : decode cX11_count 122 = .ok (.iconst 1, 1) := by decide +kernel
theorem dX11_count_123 : decode cX11_count 123 = .ok (.goto 4, 3) := by decide +kernel
theorem dX11_count_126 : decode cX11_count 126 = .ok (.iconst 0, 1) := by decide +kernel
theorem dX11_count_127 : decode cX11_count 127 = .ok (.ireturn, 1) := by decide +kernel
theorem dX11_count_128 : decode cX11_count 128 = .ok (.aload_n 0, 1) := by decide +kernel
theorem dX11_count_129 : decode cX11_count 129 = .ok (.getfield 19, 3) := by decide +kernel
theorem dX11_count_132 : decode cX11_count 132 = .ok (.getfield 246, 3) := by decide +kernel
theorem dX11_count_135 : decode cX11_count 135 = .ok (.ireturn, 1) := by decide +kernel
theorem dX11_count_136 : decode cX11_count 136 = .ok (.aload_n 0, 1) := by decide +kernel
theorem dX11_count_137 : decode cX11_count 137 = .ok (.getfield 19, 3) := by decide +kernel
theorem dX11_count_140 : decode cX11_count 140 = .ok (.getfield 113, 3) := by decide +kernel
theorem dX11_count_143 : decode cX11_count 143 = .ok (.ireturn, 1) := by decide +kernel
theorem dX11_count_144 : decode cX11_count 144 = .ok (.aload_n 0, 1) := by decide +kernel
theorem dX11_count_145 : decode cX11_count 145 = .ok (.getfield 19, 3) := by decide +kernel
theorem dX11_count_148 : decode cX11_count 148 = .ok (.getfield 188, 3) := by decide +kernel
theorem dX11_count_151 : decode cX11_count 151 = .ok (.ifCond .eq 7, 3) := by decide +kernel
theorem dX11_count_154 : decode cX11_count 154 = .ok (.iconst 1, 1) := by decide +kernel
theorem dX11_count_155 : decode cX11_count 155 = .ok (.goto 4, 3) := by decide +kernel
theorem dX11_count_158 : decode cX11_count 158 = .ok (.iconst 0, 1) := by decide +kernel
theorem dX11_count_159 : decode cX11_count 159 = .ok (.ireturn, 1) := by decide +kernel
theorem dX11_count_160 : decode cX11_count 160 = .ok (.aload_n 0, 1) := by decide +kernel
theorem dX11_count_161 : decode cX11_count 161 = .ok (.getfield 26, 3) := by decide +kernel
theorem dX11_count_164 : decode cX11_count 164 = .ok (.getfield 266, 3) := by decide +kernel
theorem dX11_count_167 : decode cX11_count 167 = .ok (.ireturn, 1) := by decide +kernel
theorem dX11_count_168 : decode cX11_count 168 = .ok (.aload_n 0, 1) := by decide +kernel
theorem dX11_count_169 : decode cX11_count 169 = .ok (.getfield 10, 3) := by decide +kernel
theorem dX11_count_172 : decode cX11_count 172 = .ok (.getfield 73, 3) := by decide +kernel
theorem dX11_count_175 : decode cX11_count 175 = .ok (.ireturn, 1) := by decide +kernel
theorem dX11_count_176 : decode cX11_count 176 = .ok (.aload_n 0, 1) := by decide +kernel
theorem dX11_count_177 : decode cX11_count 177 = .ok (.getfield 101, 3) := by decide +kernel
theorem dX11_count_180 : decode cX11_count 180 = .ok (.ireturn, 1) := by decide +kernel
theorem dX11_count_181 : decode cX11_count 181 = .ok (.aload_n 0, 1) := by decide +kernel
theorem dX11_count_182 : decode cX11_count 182 = .ok (.getfield 33, 3) := by decide +kernel
theorem dX11_count_185 : decode cX11_count 185 = .ok (.getfield 267, 3) := by decide +kernel
theorem dX11_count_188 : decode cX11_count 188 = .ok (.ireturn, 1) := by decide +kernel
theorem dX11_count_189 : decode cX11_count 189 = .ok (.bipush (-102), 2) := by decide +kernel
theorem dX11_count_191 : decode cX11_count 191 = .ok (.ireturn, 1) := by decide +kernel
theorem dX11_digest_0 : decode cX11_digest 0 = .ok (.ldc2_w 268, 3) := by decide +kernel
theorem dX11_digest_3 : decode cX11_digest 3 = .ok (.lstore_n 1, 1) := by decide +kernel
theorem dX11_digest_4 : decode cX11_digest 4 = .ok (.aload_n 0, 1) := by decide +kernel
theorem dX11_digest_5 : decode cX11_digest 5 = .ok (.getfield 19, 3) := by decide +kernel
theorem dX11_digest_8 : decode cX11_digest 8 = .ok (.invokevirtual 110, 3) := by decide +kernel
theorem dX11_digest_11 : decode cX11_digest 11 = .ok (.ifCond .eq 9, 3) := by decide +kernel
theorem dX11_digest_14 : decode cX11_digest 14 = .ok (.aload_n 0, 1) := by decide +kernel
theorem dX11_digest_15 : decode cX11_digest 15 = .ok (.lload_n 1, 1) := by decide +kernel
theorem dX11_digest_16 : decode cX11_digest 16 = .ok (.invokevirtual 270, 3) := by decide +kernel
theorem dX11_digest_19 : decode cX11_digest 19 = .ok (.lstore_n 1, 1) := by decide +kernel
theorem dX11_digest_20 : decode cX11_digest 20 = .ok (.aload_n 0, 1) := by decide +kernel
theorem dX11_digest_21 : decode cX11_digest 21 = .ok (.lload_n 1, 1) := by decide +kernel
theorem dX11_digest_22 : decode cX11_digest 22 = .ok (.invokevirtual 274, 3) := by decide +kernel
theorem dX11_digest_25 : decode cX11_digest 25 = .ok (.lstore_n 1, 1) := by decide +kernel
theorem dX11_digest_26 : decode cX11_digest 26 = .ok (.aload_n 0, 1) := by decide +kernel
theorem dX11_digest_27 : decode cX11_digest 27 = .ok (.getfield 19, 3) := by decide +kernel
theorem dX11_digest_30 : decode cX11_digest 30 = .ok (.invokevirtual 169, 3) := by decide +kernel
theorem dX11_digest_33 : decode cX11_digest 33 = .ok (.ifCond .eq 9, 3) := by decide +kernel
theorem dX11_digest_36 : decode cX11_digest 36 = .ok (.aload_n 0, 1) := by decide +kernel
theorem dX11_digest_37 : decode cX11_digest 37 = .ok (.lload_n 1, 1) := by decide +kernel
theorem dX11_digest_38 : decode cX11_digest 38 = .ok (.invokevirtual 277, 3) := by decide +kernel
theorem dX11_digest_41 : decode cX11_digest 41 = .ok (.lstore_n 1, 1) := by decide +kernel
theorem dX11_digest_42 : decode cX11_digest 42 = .ok (.iconst 0, 1) := by decide +kernel
theorem dX11_digest_43 : decode cX11_digest 43 = .ok (.istore_n 3, 1) := by decide +kernel
theorem dX11_digest_44 : decode cX11_digest 44 = .ok (.iload_n 3, 1) := by decide +kernel
theorem dX11_digest_45 : decode cX11_digest 45 = .ok (.iconst 2, 1) := by decide +kernel
theorem dX11_digest_46 : decode cX11_digest 46 = .ok (.if_icmp .gt 20, 3) := by decide +kernel
theorem dX11_digest_49 : decode cX11_digest 49 = .ok (.lload_n 1, 1) := by decide +kernel
theorem dX11_digest_50 : decode cX11_digest 50 = .ok (.aload_n 0, 1) := by decide +kernel
theorem dX11_digest_51 : decode cX11_digest 51 = .ok (.iload_n 3, 1) := by decide +kernel
theorem dX11_digest_52 : decode cX11_digest 52 = .ok (.invokevirtual 280, 3) := by decide +kernel
theorem dX11_digest_55 : decode cX11_digest 55 = .ok (.i2l, 1) := by decide +kernel
theorem dX11_digest_56 : decode cX11_digest 56 = .ok (.invokestatic 283, 3) := by decide +kernel
theorem dX11_digest_59 : decode cX11_digest 59 = .ok (.lstore_n 1, 1) := by decide +kernel
theorem dX11_digest_60 : decode cX11_digest 60 = .ok (.iinc 3 1, 3) := by decide +kernel
theorem dX11_digest_63 : decode cX11_digest 63 = .ok (.goto (-19), 3) := by decide +kernel
theorem dX11_digest_66 : decode cX11_digest 66 = .ok (.iconst 0, 1) := by decide +kernel
theorem dX11_digest_67 : decode cX11_digest 67 = .ok (.istore_n 3, 1) := by decide +kernel
theorem dX11_digest_68 : decode cX11_digest 68 = .ok (.iload_n 3, 1) := by decide +kernel
theorem dX11_digest_69 : decode cX11_digest 69 = .ok (.aload_n 0, 1) := by decide +kernel
theorem dX11_digest_70 : decode cX11_digest 70 = .ok (.getfield 10, 3) := by decide +kernel
theorem dX11_digest_73 : decode cX11_digest 73 = .ok (.getfield 73, 3) := by decide +kernel
theorem dX11_digest_76 : decode cX11_digest 76 = .ok (.if_icmp .ge 23, 3) := by decide +kernel
theorem dX11_digest_79 : decode cX11_digest 79 = .ok (.lload_n 1, 1) := by decide +kernel
theorem dX11_digest_80 : decode cX11_digest 80 = .ok (.aload_n 0, 1) := by decide +kernel
theorem dX11_digest_81 : decode cX11_digest 81 = .ok (.getfield 10, 3) := by decide +kernel
theorem dX11_digest_84 : decode cX11_digest 84 = .ok (.iload_n 3, 1) := by decide +kernel
theorem dX11_digest_85 : decode cX11_digest 85 = .ok (.invokevirtual 287, 3) := by decide +kernel
theorem dX11_digest_88 : decode cX11_digest 88 = .ok (.i2l, 1) := by decide +kernel
theorem dX11_digest_89 : decode cX11_digest 89 = .ok (.invokestatic 283, 3) := by decide +kernel
theorem dX11_digest_92 : decode cX11_digest 92 = .ok (.lstore_n 1, 1) := by decide +kernel
theorem dX11_digest_93 : decode cX11_digest 93 = .ok (.iinc 3 1, 3) := by decide +kernel
theorem dX11_digest_96 : decode cX11_digest 96 = .ok (.goto (-28), 3) := by decide +kernel
theorem dX11_digest_99 : decode cX11_digest 99 = .ok (.iconst 0, 1) := by decide +kernel
theorem dX11_digest_100 : decode cX11_digest 100 = .ok (.istore_n 3, 1) := by decide +kernel
theorem dX11_digest_101 : decode cX11_digest 101 = .ok (.iload_n 3, 1) := by decide +kernel
theorem dX11_digest_102 : decode cX11_digest 102 = .ok (.bipush 13, 2) := by decide +kernel
theorem dX11_digest_104 : decode cX11_digest 104 = .ok (.if_icmp .ge 20, 3) := by decide +kernel
theorem dX11_digest_107 : decode cX11_digest 107 = .ok (.lload_n 1, 1) := by decide +kernel
theorem dX11_digest_108 : decode cX11_digest 108 = .ok (.aload_n 0, 1) := by decide +kernel
theorem dX11_digest_109 : decode cX11_digest 109 = .ok (.iload_n 3, 1) := by decide +kernel
theorem dX11_digest_110 : decode cX11_digest 110 = .ok (.invokevirtual 289, 3) := by decide +kernel
theorem dX11_digest_113 : decode cX11_digest 113 = .ok (.i2l, 1) := by decide +kernel
theorem dX11_digest_114 : decode cX11_digest 114 = .ok (.invokestatic 283, 3) := by decide +kernel
theorem dX11_digest_117 : decode cX11_digest 117 = .ok (.lstore_n 1, 1) := by decide +kernel
theorem dX11_digest_118 : decode cX11_digest 118 = .ok (.iinc 3 1, 3) := by decide +kernel
theorem dX11_digest_121 : decode cX11_digest 121 = .ok (.goto (-20), 3) := by decide +kernel
theorem dX11_digest_124 : decode cX11_digest 124 = .ok (.lload_n 1, 1) := by decide +kernel
theorem dX11_digest_125 : decode cX11_digest 125 = .ok (.lreturn, 1) := by decide +kernel
theorem dX11_withCabins_0 : decode cX11_withCabins 0 = .ok (.lload_n 1, 1) := by decide +kernel
theorem dX11_withCabins_1 : decode cX11_withCabins 1 = .ok (.lstore_n 3, 1) := by decide +kernel
theorem dX11_withCabins_2 : decode cX11_withCabins 2 = .ok (.iconst 0, 1) := by decide +kernel
theorem dX11_withCabins_3 : decode cX11_withCabins 3 = .ok (.istore 5, 2) := by decide +kernel
theorem dX11_withCabins_5 : decode cX11_withCabins 5 = .ok (.iload 5, 2) := by decide +kernel
theorem dX11_withCabins_7 : decode cX11_withCabins 7 = .ok (.iconst 2, 1) := by decide +kernel
theorem dX11_withCabins_8 : decode cX11_withCabins 8 = .ok (.if_icmp .ge 38, 3) := by decide +kernel
theorem dX11_withCabins_11 : decode cX11_withCabins 11 = .ok (.iconst 0, 1) := by decide +kernel
theorem dX11_withCabins_12 : decode cX11_withCabins 12 = .ok (.istore 6, 2) := by decide +kernel
theorem dX11_withCabins_14 : decode cX11_withCabins 14 = .ok (.iload 6, 2) := by decide +kernel
theorem dX11_withCabins_16 : decode cX11_withCabins 16 = .ok (.iconst 3, 1) := by decide +kernel
theorem dX11_withCabins_17 : decode cX11_withCabins 17 = .ok (.if_icmp .gt 23, 3) := by decide +kernel
theorem dX11_withCabins_20 : decode cX11_withCabins 20 = .ok (.lload_n 3, 1) := by decide +kernel
theorem dX11_withCabins_21 : decode cX11_withCabins 21 = .ok (.aload_n 0, 1) := by decide +kernel
theorem dX11_withCabins_22 : decode cX11_withCabins 22 = .ok (.iload 5, 2) := by decide +kernel
theorem dX11_withCabins_24 : decode cX11_withCabins 24 = .ok (.iload 6, 2) := by decide +kernel
theorem dX11_withCabins_26 : decode cX11_withCabins 26 = .ok (.invokevirtual 292, 3) := by decide +kernel
theorem dX11_withCabins_29 : decode cX11_withCabins 29 = .ok (.i2l, 1) := by decide +kernel
theorem dX11_withCabins_30 : decode cX11_withCabins 30 = .ok (.invokestatic 283, 3) := by decide +kernel
theorem dX11_withCabins_33 : decode cX11_withCabins 33 = .ok (.lstore_n 3, 1) := by decide +kernel
theorem dX11_withCabins_34 : decode cX11_withCabins 34 = .ok (.iinc 6 1, 3) := by decide +kernel
theorem dX11_withCabins_37 : decode cX11_withCabins 37 = .ok (.goto (-23), 3) := by decide +kernel
theorem dX11_withCabins_40 : decode cX11_withCabins 40 = .ok (.iinc 5 1, 3) := by decide +kernel
theorem dX11_withCabins_43 : decode cX11_withCabins 43 = .ok (.goto (-38), 3) := by decide +kernel
theorem dX11_withCabins_46 : decode cX11_withCabins 46 = .ok (.lload_n 3, 1) := by decide +kernel
theorem dX11_withCabins_47 : decode cX11_withCabins 47 = .ok (.lreturn, 1) := by decide +kernel
theorem dX11_withThings_0 : decode cX11_withThings 0 = .ok (.lload_n 1, 1) := by decide +kernel
theorem dX11_withThings_1 : decode cX11_withThings 1 = .ok (.lstore_n 3, 1) := by decide +kernel
theorem dX11_withThings_2 : decode cX11_withThings 2 = .ok (.iconst 0, 1) := by decide +kernel
theorem dX11_withThings_3 : decode cX11_withThings 3 = .ok (.istore 5, 2) := by decide +kernel
theorem dX11_withThings_5 : decode cX11_withThings 5 = .ok (.iload 5, 2) := by decide +kernel
theorem dX11_withThings_7 : decode cX11_withThings 7 = .ok (.aload_n 0, 1) := by decide +kernel
theorem dX11_withThings_8 : decode cX11_withThings 8 = .ok (.getfield 26, 3) := by decide +kernel
theorem dX11_withThings_11 : decode cX11_withThings 11 = .ok (.getfield 266, 3) := by decide +kernel
theorem dX11_withThings_14 : decode cX11_withThings 14 = .ok (.if_icmp .ge 38, 3) := by decide +kernel
theorem dX11_withThings_17 : decode cX11_withThings 17 = .ok (.iconst 0, 1) := by decide +kernel
theorem dX11_withThings_18 : decode cX11_withThings 18 = .ok (.istore 6, 2) := by decide +kernel
theorem dX11_withThings_20 : decode cX11_withThings 20 = .ok (.iload 6, 2) := by decide +kernel
theorem dX11_withThings_22 : decode cX11_withThings 22 = .ok (.iconst 4, 1) := by decide +kernel
theorem dX11_withThings_23 : decode cX11_withThings 23 = .ok (.if_icmp .gt 23, 3) := by decide +kernel
theorem dX11_withThings_26 : decode cX11_withThings 26 = .ok (.lload_n 3, 1) := by decide +kernel
theorem dX11_withThings_27 : decode cX11_withThings 27 = .ok (.aload_n 0, 1) := by decide +kernel
theorem dX11_withThings_28 : decode cX11_withThings 28 = .ok (.iload 5, 2) := by decide +kernel
theorem dX11_withThings_30 : decode cX11_withThings 30 = .ok (.iload 6, 2) := by decide +kernel
theorem dX11_withThings_32 : decode cX11_withThings 32 = .ok (.invokevirtual 295, 3) := by decide +kernel
theorem dX11_withThings_35 : decode cX11_withThings 35 = .ok (.i2l, 1) := by decide +kernel
theorem dX11_withThings_36 : decode cX11_withThings 36 = .ok (.invokestatic 283, 3) := by decide +kernel
theorem dX11_withThings_39 : decode cX11_withThings 39 = .ok (.lstore_n 3, 1) := by decide +kernel
theorem dX11_withThings_40 : decode cX11_withThings 40 = .ok (.iinc 6 1, 3) := by decide +kernel
theorem dX11_withThings_43 : decode cX11_withThings 43 = .ok (.goto (-23), 3) := by decide +kernel
theorem dX11_withThings_46 : decode cX11_withThings 46 = .ok (.iinc 5 1, 3) := by decide +kernel
theorem dX11_withThings_49 : decode cX11_withThings 49 = .ok (.goto (-44), 3) := by decide +kernel
theorem dX11_withThings_52 : decode cX11_withThings 52 = .ok (.lload_n 3, 1) := by decide +kernel
theorem dX11_withThings_53 : decode cX11_withThings 53 = .ok (.lreturn, 1) := by decide +kernel
theorem dX11_withOutlook_0 : decode cX11_withOutlook 0 = .ok (.lload_n 1, 1) := by decide +kernel
theorem dX11_withOutlook_1 : decode cX11_withOutlook 1 = .ok (.lstore_n 3, 1) := by decide +kernel
theorem dX11_withOutlook_2 : decode cX11_withOutlook 2 = .ok (.iconst 0, 1) := by decide +kernel
theorem dX11_withOutlook_3 : decode cX11_withOutlook 3 = .ok (.istore 5, 2) := by decide +kernel
theorem dX11_withOutlook_5 : decode cX11_withOutlook 5 = .ok (.iload 5, 2) := by decide +kernel
theorem dX11_withOutlook_7 : decode cX11_withOutlook 7 = .ok (.iconst 1, 1) := by decide +kernel
theorem dX11_withOutlook_8 : decode cX11_withOutlook 8 = .ok (.if_icmp .gt 21, 3) := by decide +kernel
theorem dX11_withOutlook_11 : decode cX11_withOutlook 11 = .ok (.lload_n 3, 1) := by decide +kernel
theorem dX11_withOutlook_12 : decode cX11_withOutlook 12 = .ok (.aload_n 0, 1) := by decide +kernel
theorem dX11_withOutlook_13 : decode cX11_withOutlook 13 = .ok (.iload 5, 2) := by decide +kernel
theorem dX11_withOutlook_15 : decode cX11_withOutlook 15 = .ok (.invokevirtual 298, 3) := by decide +kernel
theorem dX11_withOutlook_18 : decode cX11_withOutlook 18 = .ok (.i2l, 1) := by decide +kernel
theorem dX11_withOutlook_19 : decode cX11_withOutlook 19 = .ok (.invokestatic 283, 3) := by decide +kernel
theorem dX11_withOutlook_22 : decode cX11_withOutlook 22 = .ok (.lstore_n 3, 1) := by decide +kernel
theorem dX11_withOutlook_23 : decode cX11_withOutlook 23 = .ok (.iinc 5 1, 3) := by decide +kernel
theorem dX11_withOutlook_26 : decode cX11_withOutlook 26 = .ok (.goto (-21), 3) := by decide +kernel
theorem dX11_withOutlook_29 : decode cX11_withOutlook 29 = .ok (.iconst 0, 1) := by decide +kernel
theorem dX11_withOutlook_30 : decode cX11_withOutlook 30 = .ok (.istore 5, 2) := by decide +kernel
theorem dX11_withOutlook_32 : decode cX11_withOutlook 32 = .ok (.iload 5, 2) := by decide +kernel
theorem dX11_withOutlook_34 : decode cX11_withOutlook 34 = .ok (.iconst 1, 1) := by decide +kernel
theorem dX11_withOutlook_35 : decode cX11_withOutlook 35 = .ok (.if_icmp .gt 23, 3) := by decide +kernel
theorem dX11_withOutlook_38 : decode cX11_withOutlook 38 = .ok (.lload_n 3, 1) := by decide +kernel
theorem dX11_withOutlook_39 : decode cX11_withOutlook 39 = .ok (.aload_n 0, 1) := by decide +kernel
theorem dX11_withOutlook_40 : decode cX11_withOutlook 40 = .ok (.bipush 100, 2) := by decide +kernel
theorem dX11_withOutlook_42 : decode cX11_withOutlook 42 = .ok (.iload 5, 2) := by decide +kernel
theorem dX11_withOutlook_44 : decode cX11_withOutlook 44 = .ok (.invokevirtual 301, 3) := by decide +kernel
theorem dX11_withOutlook_47 : decode cX11_withOutlook 47 = .ok (.i2l, 1) := by decide +kernel
theorem dX11_withOutlook_48 : decode cX11_withOutlook 48 = .ok (.invokestatic 283, 3) := by decide +kernel
theorem dX11_withOutlook_51 : decode cX11_withOutlook 51 = .ok (.lstore_n 3, 1) := by decide +kernel
theorem dX11_withOutlook_52 : decode cX11_withOutlook 52 = .ok (.iinc 5 1, 3) := by decide +kernel
theorem dX11_withOutlook_55 : decode cX11_withOutlook 55 = .ok (.goto (-23), 3) := by decide +kernel
theorem dX11_withOutlook_58 : decode cX11_withOutlook 58 = .ok (.iconst 0, 1) := by decide +kernel
theorem dX11_withOutlook_59 : decode cX11_withOutlook 59 = .ok (.istore 5, 2) := by decide +kernel
theorem dX11_withOutlook_61 : decode cX11_withOutlook 61 = .ok (.iload 5, 2) := by decide +kernel
theorem dX11_withOutlook_63 : decode cX11_withOutlook 63 = .ok (.iconst 1, 1) := by decide +kernel
theorem dX11_withOutlook_64 : decode cX11_withOutlook 64 = .ok (.if_icmp .gt 21, 3) := by decide +kernel
theorem dX11_withOutlook_67 : decode cX11_withOutlook 67 = .ok (.lload_n 3, 1) := by decide +kernel
theorem dX11_withOutlook_68 : decode cX11_withOutlook 68 = .ok (.aload_n 0, 1) := by decide +kernel
theorem dX11_withOutlook_69 : decode cX11_withOutlook 69 = .ok (.iconst 2, 1) := by decide +kernel
theorem dX11_withOutlook_70 : decode cX11_withOutlook 70 = .ok (.iload 5, 2) := by decide +kernel
theorem dX11_withOutlook_72 : decode cX11_withOutlook 72 = .ok (.invokevirtual 304, 3) := by decide +kernel
theorem dX11_withOutlook_75 : decode cX11_withOutlook 75 = .ok (.invokestatic 283, 3) := by decide +kernel
theorem dX11_withOutlook_78 : decode cX11_withOutlook 78 = .ok (.lstore_n 3, 1) := by decide +kernel
theorem dX11_withOutlook_79 : decode cX11_withOutlook 79 = .ok (.iinc 5 1, 3) := by decide +kernel
theorem dX11_withOutlook_82 : decode cX11_withOutlook 82 = .ok (.goto (-21), 3) := by decide +kernel
theorem dX11_withOutlook_85 : decode cX11_withOutlook 85 = .ok (.lload_n 3, 1) := by decide +kernel
theorem dX11_withOutlook_86 : decode cX11_withOutlook 86 = .ok (.lreturn, 1) := by decide +kernel
theorem dX11_tryHours_0 : decode cX11_tryHours 0 = .ok (.aload_n 0, 1) := by decide +kernel
theorem dX11_tryHours_1 : decode cX11_tryHours 1 = .ok (.getfield 51, 3) := by decide +kernel
theorem dX11_tryHours_4 : decode cX11_tryHours 4 = .ok (.aload_n 0, 1) := by decide +kernel
theorem dX11_tryHours_5 : decode cX11_tryHours 5 = .ok (.getfield 19, 3) := by decide +kernel
theorem dX11_tryHours_8 : decode cX11_tryHours 8 = .ok (.invokevirtual 247, 3) := by decide +kernel
theorem dX11_tryHours_11 : decode cX11_tryHours 11 = .ok (.iload_n 2, 1) := by decide +kernel
theorem dX11_tryHours_12 : decode cX11_tryHours 12 = .ok (.istore_n 3, 1) := by decide +kernel
theorem dX11_tryHours_13 : decode cX11_tryHours 13 = .ok (.iconst 0, 1) := by decide +kernel
theorem dX11_tryHours_14 : decode cX11_tryHours 14 = .ok (.istore 4, 2) := by decide +kernel
theorem dX11_tryHours_16 : decode cX11_tryHours 16 = .ok (.iload 4, 2) := by decide +kernel
theorem dX11_tryHours_18 : decode cX11_tryHours 18 = .ok (.iload_n 1, 1) := by decide +kernel
theorem dX11_tryHours_19 : decode cX11_tryHours 19 = .ok (.if_icmp .ge 70, 3) := by decide +kernel
theorem dX11_tryHours_22 : decode cX11_tryHours 22 = .ok (.aload_n 0, 1) := by decide +kernel
theorem dX11_tryHours_23 : decode cX11_tryHours 23 = .ok (.getfield 51, 3) := by decide +kernel
theorem dX11_tryHours_26 : decode cX11_tryHours 26 = .ok (.getfield 188, 3) := by decide +kernel
theorem dX11_tryHours_29 : decode cX11_tryHours 29 = .ok (.ifCond .ne 60, 3) := by decide +kernel
theorem dX11_tryHours_32 : decode cX11_tryHours 32 = .ok (.iload_n 3, 1) := by decide +kernel
theorem dX11_tryHours_33 : decode cX11_tryHours 33 = .ok (.invokestatic 307, 3) := by decide +kernel
theorem dX11_tryHours_36 : decode cX11_tryHours 36 = .ok (.istore_n 3, 1) := by decide +kernel
theorem dX11_tryHours_37 : decode cX11_tryHours 37 = .ok (.iload_n 3, 1) := by decide +kernel
theorem dX11_tryHours_38 : decode cX11_tryHours 38 = .ok (.ldc_w 310, 3) := by decide +kernel
theorem dX11_tryHours_41 : decode cX11_tryHours 41 = .ok (.idiv, 1) := by decide +kernel
theorem dX11_tryHours_42 : decode cX11_tryHours 42 = .ok (.bipush 7, 2) := by decide +kernel
theorem dX11_tryHours_44 : decode cX11_tryHours 44 = .ok (.irem, 1) := by decide +kernel
theorem dX11_tryHours_45 : decode cX11_tryHours 45 = .ok (.invokestatic 311, 3) := by decide +kernel
theorem dX11_tryHours_48 : decode cX11_tryHours 48 = .ok (.istore 5, 2) := by decide +kernel
theorem dX11_tryHours_50 : decode cX11_tryHours 50 = .ok (.aload_n 0, 1) := by decide +kernel
theorem dX11_tryHours_51 : decode cX11_tryHours 51 = .ok (.getfield 51, 3) := by decide +kernel
theorem dX11_tryHours_54 : decode cX11_tryHours 54 = .ok (.aload_n 0, 1) := by decide +kernel
theorem dX11_tryHours_55 : decode cX11_tryHours 55 = .ok (.getfield 51, 3) := by decide +kernel
theorem dX11_tryHours_58 : decode cX11_tryHours 58 = .ok (.getfield 178, 3) := by decide +kernel
theorem dX11_tryHours_61 : decode cX11_tryHours 61 = .ok (.iload 5, 2) := by decide +kernel
theorem dX11_tryHours_63 : decode cX11_tryHours 63 = .ok (.isub, 1) := by decide +kernel
theorem dX11_tryHours_64 : decode cX11_tryHours 64 = .ok (.invokestatic 181, 3) := by decide +kernel
theorem dX11_tryHours_67 : decode cX11_tryHours 67 = .ok (.ifCond .eq 8, 3) := by decide +kernel
theorem dX11_tryHours_70 : decode cX11_tryHours 70 = .ok (.iload 5, 2) := by decide +kernel
theorem dX11_tryHours_72 : decode cX11_tryHours 72 = .ok (.goto 4, 3) := by decide +kernel
theorem dX11_tryHours_75 : decode cX11_tryHours 75 = .ok (.iconst 0, 1) := by decide +kernel
theorem dX11_tryHours_76 : decode cX11_tryHours 76 = .ok (.aload_n 0, 1) := by decide +kernel
theorem dX11_tryHours_77 : decode cX11_tryHours 77 = .ok (.getfield 26, 3) := by decide +kernel
theorem dX11_tryHours_80 : decode cX11_tryHours 80 = .ok (.invokevirtual 184, 3) := by decide +kernel
theorem dX11_tryHours_83 : decode cX11_tryHours 83 = .ok (.iinc 4 1, 3) := by decide +kernel
theorem dX11_tryHours_86 : decode cX11_tryHours 86 = .ok (.goto (-70), 3) := by decide +kernel
theorem dX11_tryHours_89 : decode cX11_tryHours 89 = .ok (.iload_n 3, 1) := by decide +kernel
theorem dX11_tryHours_90 : decode cX11_tryHours 90 = .ok (.ireturn, 1) := by decide +kernel
theorem dX11_nextSeed_0 : decode cX11_nextSeed 0 = .ok (.ldc2_w 314, 3) := by decide +kernel
theorem dX11_nextSeed_3 : decode cX11_nextSeed 3 = .ok (.iload_n 0, 1) := by decide +kernel
theorem dX11_nextSeed_4 : decode cX11_nextSeed 4 = .ok (.i2l, 1) := by decide +kernel
theorem dX11_nextSeed_5 : decode cX11_nextSeed 5 = .ok (.lmul, 1) := by decide +kernel
theorem dX11_nextSeed_6 : decode cX11_nextSeed 6 = .ok (.ldc2_w 316, 3) := by decide +kernel
theorem dX11_nextSeed_9 : decode cX11_nextSeed 9 = .ok (.ladd, 1) := by decide +kernel
theorem dX11_nextSeed_10 : decode cX11_nextSeed 10 = .ok (.ldc2_w 318, 3) := by decide +kernel
theorem dX11_nextSeed_13 : decode cX11_nextSeed 13 = .ok (.lrem, 1) := by decide +kernel
theorem dX11_nextSeed_14 : decode cX11_nextSeed 14 = .ok (.l2i, 1) := by decide +kernel
theorem dX11_nextSeed_15 : decode cX11_nextSeed 15 = .ok (.ireturn, 1) := by decide +kernel
theorem dX11_mixed_0 : decode cX11_mixed 0 = .ok (.ldc2_w 320, 3) := by decide +kernel
theorem dX11_mixed_3 : decode cX11_mixed 3 = .ok (.lload_n 0, 1) := by decide +kernel
theorem dX11_mixed_4 : decode cX11_mixed 4 = .ok (.lmul, 1) := by decide +kernel
theorem dX11_mixed_5 : decode cX11_mixed 5 = .ok (.lload_n 2, 1) := by decide +kernel
theorem dX11_mixed_6 : decode cX11_mixed 6 = .ok (.ladd, 1) := by decide +kernel
theorem dX11_mixed_7 : decode cX11_mixed 7 = .ok (.lreturn, 1) := by decide +kernel
theorem dX11_byteOf_0 : decode cX11_byteOf 0 = .ok (.lload_n 0, 1) := by decide +kernel
theorem dX11_byteOf_1 : decode cX11_byteOf 1 = .ok (.bipush 8, 2) := by decide +kernel
theorem dX11_byteOf_3 : decode cX11_byteOf 3 = .ok (.iload_n 2, 1) := by decide +kernel
theorem dX11_byteOf_4 : decode cX11_byteOf 4 = .ok (.imul, 1) := by decide +kernel
theorem dX11_byteOf_5 : decode cX11_byteOf 5 = .ok (.lushr, 1) := by decide +kernel
theorem dX11_byteOf_6 : decode cX11_byteOf 6 = .ok (.l2i, 1) := by decide +kernel
theorem dX11_byteOf_7 : decode cX11_byteOf 7 = .ok (.sipush 255, 3) := by decide +kernel
theorem dX11_byteOf_10 : decode cX11_byteOf 10 = .ok (.iand, 1) := by decide +kernel
theorem dX11_byteOf_11 : decode cX11_byteOf 11 = .ok (.ireturn, 1) := by decide +kernel
theorem dX11_lettersIn_0 : decode cX11_lettersIn 0 = .ok (.iconst 0, 1) := by decide +kernel
theorem dX11_lettersIn_1 : decode cX11_lettersIn 1 = .ok (.istore_n 2, 1) := by decide +kernel
theorem dX11_lettersIn_2 : decode cX11_lettersIn 2 = .ok (.iconst 0, 1) := by decide +kernel
theorem dX11_lettersIn_3 : decode cX11_lettersIn 3 = .ok (.istore_n 3, 1) := by decide +kernel
theorem dX11_lettersIn_4 : decode cX11_lettersIn 4 = .ok (.iconst 0, 1) := by decide +kernel
theorem dX11_lettersIn_5 : decode cX11_lettersIn 5 = .ok (.istore 4, 2) := by decide +kernel
theorem dX11_lettersIn_7 : decode cX11_lettersIn 7 = .ok (.iload 4, 2) := by decide +kernel
theorem dX11_lettersIn_9 : decode cX11_lettersIn 9 = .ok (.bipush 8, 2) := by decide +kernel
theorem dX11_lettersIn_11 : decode cX11_lettersIn 11 = .ok (.if_icmp .ge 48, 3) := by decide +kernel
theorem dX11_lettersIn_14 : decode cX11_lettersIn 14 = .ok (.lload_n 0, 1) := by decide +kernel
theorem dX11_lettersIn_15 : decode cX11_lettersIn 15 = .ok (.iload 4, 2) := by decide +kernel
theorem dX11_lettersIn_17 : decode cX11_lettersIn 17 = .ok (.invokestatic 65, 3) := by decide +kernel
theorem dX11_lettersIn_20 : decode cX11_lettersIn 20 = .ok (.istore 5, 2) := by decide +kernel
theorem dX11_lettersIn_22 : decode cX11_lettersIn 22 = .ok (.iload 5, 2) := by decide +kernel
theorem dX11_lettersIn_24 : decode cX11_lettersIn 24 = .ok (.bipush 126, 2) := by decide +kernel
theorem dX11_lettersIn_26 : decode cX11_lettersIn 26 = .ok (.if_icmp .gt 12, 3) := by decide +kernel
theorem dX11_lettersIn_29 : decode cX11_lettersIn 29 = .ok (.iload_n 3, 1) := by decide +kernel
theorem dX11_lettersIn_30 : decode cX11_lettersIn 30 = .ok (.ifCond .eq 10, 3) := by decide +kernel
theorem dX11_lettersIn_33 : decode cX11_lettersIn 33 = .ok (.iload 5, 2) := by decide +kernel
theorem dX11_lettersIn_35 : decode cX11_lettersIn 35 = .ok (.ifCond .eq 5, 3) := by decide +kernel
theorem dX11_lettersIn_38 : decode cX11_lettersIn 38 = .ok (.iconst (-1), 1) := by decide +kernel
theorem dX11_lettersIn_39 : decode cX11_lettersIn 39 = .ok (.ireturn, 1) := by decide +kernel
theorem dX11_lettersIn_40 : decode cX11_lettersIn 40 = .ok (.iload 5, 2) := by decide +kernel
theorem dX11_lettersIn_42 : decode cX11_lettersIn 42 = .ok (.ifCond .ne 8, 3) := by decide +kernel
theorem dX11_lettersIn_45 : decode cX11_lettersIn 45 = .ok (.iconst 1, 1) := by decide +kernel
theorem dX11_lettersIn_46 : decode cX11_lettersIn 46 = .ok (.istore_n 3, 1) := by decide +kernel
theorem dX11_lettersIn_47 : decode cX11_lettersIn 47 = .ok (.goto 6, 3) := by decide +kernel
theorem dX11_lettersIn_50 : decode cX11_lettersIn 50 = .ok (.iinc 2 1, 3) := by decide +kernel
theorem dX11_lettersIn_53 : decode cX11_lettersIn 53 = .ok (.iinc 4 1, 3) := by decide +kernel
theorem dX11_lettersIn_56 : decode cX11_lettersIn 56 = .ok (.goto (-49), 3) := by decide +kernel
theorem dX11_lettersIn_59 : decode cX11_lettersIn 59 = .ok (.iload_n 2, 1) := by decide +kernel
theorem dX11_lettersIn_60 : decode cX11_lettersIn 60 = .ok (.ireturn, 1) := by decide +kernel
theorem dX11_isCabin_0 : decode cX11_isCabin 0 = .ok (.iload_n 0, 1) := by decide +kernel
theorem dX11_isCabin_1 : decode cX11_isCabin 1 = .ok (.ifCond .lt 12, 3) := by decide +kernel
theorem dX11_isCabin_4 : decode cX11_isCabin 4 = .ok (.iload_n 0, 1) := by decide +kernel
theorem dX11_isCabin_5 : decode cX11_isCabin 5 = .ok (.iconst 2, 1) := by decide +kernel
theorem dX11_isCabin_6 : decode cX11_isCabin 6 = .ok (.if_icmp .ge 7, 3) := by decide +kernel
theorem dX11_isCabin_9 : decode cX11_isCabin 9 = .ok (.iconst 1, 1) := by decide +kernel
theorem dX11_isCabin_10 : decode cX11_isCabin 10 = .ok (.goto 4, 3) := by decide +kernel
theorem dX11_isCabin_13 : decode cX11_isCabin 13 = .ok (.iconst 0, 1) := by decide +kernel
theorem dX11_isCabin_14 : decode cX11_isCabin 14 = .ok (.ireturn, 1) := by decide +kernel
theorem dX11_isKind_0 : decode cX11_isKind 0 = .ok (.iload_n 0, 1) := by decide +kernel
theorem dX11_isKind_1 : decode cX11_isKind 1 = .ok (.ifCond .lt 12, 3) := by decide +kernel
theorem dX11_isKind_4 : decode cX11_isKind 4 = .ok (.iload_n 0, 1) := by decide +kernel
theorem dX11_isKind_5 : decode cX11_isKind 5 = .ok (.iconst 4, 1) := by decide +kernel
theorem dX11_isKind_6 : decode cX11_isKind 6 = .ok (.if_icmp .gt 7, 3) := by decide +kernel
theorem dX11_isKind_9 : decode cX11_isKind 9 = .ok (.iconst 1, 1) := by decide +kernel
theorem dX11_isKind_10 : decode cX11_isKind 10 = .ok (.goto 4, 3) := by decide +kernel
theorem dX11_isKind_13 : decode cX11_isKind 13 = .ok (.iconst 0, 1) := by decide +kernel
theorem dX11_isKind_14 : decode cX11_isKind 14 = .ok (.ireturn, 1) := by decide +kernel
theorem dX11_isLength_0 : decode cX11_isLength 0 = .ok (.iload_n 0, 1) := by decide +kernel
theorem dX11_isLength_1 : decode cX11_isLength 1 = .ok (.bipush 10, 2) := by decide +kernel
theorem dX11_isLength_3 : decode cX11_isLength 3 = .ok (.if_icmp .lt 13, 3) := by decide +kernel
theorem dX11_isLength_6 : decode cX11_isLength 6 = .ok (.iload_n 0, 1) := by decide +kernel
theorem dX11_isLength_7 : decode cX11_isLength 7 = .ok (.bipush 40, 2) := by decide +kernel
theorem dX11_isLength_9 : decode cX11_isLength 9 = .ok (.if_icmp .gt 7, 3) := by decide +kernel
theorem dX11_isLength_12 : decode cX11_isLength 12 = .ok (.iconst 1, 1) := by decide +kernel
theorem dX11_isLength_13 : decode cX11_isLength 13 = .ok (.goto 4, 3) := by decide +kernel
theorem dX11_isLength_16 : decode cX11_isLength 16 = .ok (.iconst 0, 1) := by decide +kernel
theorem dX11_isLength_17 : decode cX11_isLength 17 = .ok (.ireturn, 1) := by decide +kernel
theorem dX11_apartOnCircle_0 : decode cX11_apartOnCircle 0 = .ok (.iload_n 0, 1) := by decide +kernel
theorem dX11_apartOnCircle_1 : decode cX11_apartOnCircle 1 = .ok (.iload_n 1, 1) := by decide +kernel
theorem dX11_apartOnCircle_2 : decode cX11_apartOnCircle 2 = .ok (.isub, 1) := by decide +kernel
theorem dX11_apartOnCircle_3 : decode cX11_apartOnCircle 3 = .ok (.sipush 360, 3) := by decide +kernel
theorem dX11_apartOnCircle_6 : decode cX11_apartOnCircle 6 = .ok (.invokestatic 208, 3) := by decide +kernel
theorem dX11_apartOnCircle_9 : decode cX11_apartOnCircle 9 = .ok (.istore_n 2, 1) := by decide +kernel
theorem dX11_apartOnCircle_10 : decode cX11_apartOnCircle 10 = .ok (.iload_n 2, 1) := by decide +kernel
theorem dX11_apartOnCircle_11 : decode cX11_apartOnCircle 11 = .ok (.sipush 360, 3) := by decide +kernel
theorem dX11_apartOnCircle_14 : decode cX11_apartOnCircle 14 = .ok (.iload_n 2, 1) := by decide +kernel
theorem dX11_apartOnCircle_15 : decode cX11_apartOnCircle 15 = .ok (.isub, 1) := by decide +kernel
theorem dX11_apartOnCircle_16 : decode cX11_apartOnCircle 16 = .ok (.invokestatic 322, 3) := by decide +kernel
theorem dX11_apartOnCircle_19 : decode cX11_apartOnCircle 19 = .ok (.ireturn, 1) := by decide +kernel
theorem dX11_windingOf_0 : decode cX11_windingOf 0 = .ok (.iload_n 0, 1) := by decide +kernel
theorem dX11_windingOf_1 : decode cX11_windingOf 1 = .ok (.iconst 3, 1) := by decide +kernel
theorem dX11_windingOf_2 : decode cX11_windingOf 2 = .ok (.if_icmp .gt 7, 3) := by decide +kernel
theorem dX11_windingOf_5 : decode cX11_windingOf 5 = .ok (.iload_n 0, 1) := by decide +kernel
theorem dX11_windingOf_6 : decode cX11_windingOf 6 = .ok (.goto 6, 3) := by decide +kernel
theorem dX11_windingOf_9 : decode cX11_windingOf 9 = .ok (.iconst 3, 1) := by decide +kernel
theorem dX11_windingOf_10 : decode cX11_windingOf 10 = .ok (.iload_n 0, 1) := by decide +kernel
theorem dX11_windingOf_11 : decode cX11_windingOf 11 = .ok (.isub, 1) := by decide +kernel
theorem dX11_windingOf_12 : decode cX11_windingOf 12 = .ok (.ireturn, 1) := by decide +kernel
theorem dX11_reduced_0 : decode cX11_reduced 0 = .ok (.bipush 100, 2) := by decide +kernel
theorem dX11_reduced_2 : decode cX11_reduced 2 = .ok (.istore_n 2, 1) := by decide +kernel
theorem dX11_reduced_3 : decode cX11_reduced 3 = .ok (.iload_n 2, 1) := by decide +kernel
theorem dX11_reduced_4 : decode cX11_reduced 4 = .ok (.iconst 1, 1) := by decide +kernel
theorem dX11_reduced_5 : decode cX11_reduced 5 = .ok (.if_icmp .le 25, 3) := by decide +kernel
theorem dX11_reduced_8 : decode cX11_reduced 8 = .ok (.iload_n 0, 1) := by decide +kernel
theorem dX11_reduced_9 : decode cX11_reduced 9 = .ok (.iload_n 2, 1) := by decide +kernel
theorem dX11_reduced_10 : decode cX11_reduced 10 = .ok (.irem, 1) := by decide +kernel
theorem dX11_reduced_11 : decode cX11_reduced 11 = .ok (.ifCond .ne 13, 3) := by decide +kernel
theorem dX11_reduced_14 : decode cX11_reduced 14 = .ok (.iload_n 1, 1) := by decide +kernel
theorem dX11_reduced_15 : decode cX11_reduced 15 = .ok (.iload_n 2, 1) := by decide +kernel
theorem dX11_reduced_16 : decode cX11_reduced 16 = .ok (.irem, 1) := by decide +kernel
theorem dX11_reduced_17 : decode cX11_reduced 17 = .ok (.ifCond .ne 7, 3) := by decide +kernel
theorem dX11_reduced_20 : decode cX11_reduced 20 = .ok (.iload_n 0, 1) := by decide +kernel
theorem dX11_reduced_21 : decode cX11_reduced 21 = .ok (.iload_n 2, 1) := by decide +kernel
theorem dX11_reduced_22 : decode cX11_reduced 22 = .ok (.idiv, 1) := by decide +kernel
theorem dX11_reduced_23 : decode cX11_reduced 23 = .ok (.ireturn, 1) := by decide +kernel
theorem dX11_reduced_24 : decode cX11_reduced 24 = .ok (.iinc 2 (-1), 3) := by decide +kernel
theorem dX11_reduced_27 : decode cX11_reduced 27 = .ok (.goto (-24), 3) := by decide +kernel
theorem dX11_reduced_30 : decode cX11_reduced 30 = .ok (.iload_n 0, 1) := by decide +kernel
theorem dX11_reduced_31 : decode cX11_reduced 31 = .ok (.ireturn, 1) := by decide +kernel
theorem dX11_power_0 : decode cX11_power 0 = .ok (.lconst 1, 1) := by decide +kernel
theorem dX11_power_1 : decode cX11_power 1 = .ok (.lstore_n 2, 1) := by decide +kernel
theorem dX11_power_2 : decode cX11_power 2 = .ok (.iconst 0, 1) := by decide +kernel
theorem dX11_power_3 : decode cX11_power 3 = .ok (.istore 4, 2) := by decide +kernel
theorem dX11_power_5 : decode cX11_power 5 = .ok (.iload 4, 2) := by decide +kernel
theorem dX11_power_7 : decode cX11_power 7 = .ok (.iload_n 1, 1) := by decide +kernel
theorem dX11_power_8 : decode cX11_power 8 = .ok (.if_icmp .ge 14, 3) := by decide +kernel
theorem dX11_power_11 : decode cX11_power 11 = .ok (.lload_n 2, 1) := by decide +kernel
theorem dX11_power_12 : decode cX11_power 12 = .ok (.iload_n 0, 1) := by decide +kernel
theorem dX11_power_13 : decode cX11_power 13 = .ok (.i2l, 1) := by decide +kernel
theorem dX11_power_14 : decode cX11_power 14 = .ok (.lmul, 1) := by decide +kernel
theorem dX11_power_15 : decode cX11_power 15 = .ok (.lstore_n 2, 1) := by decide +kernel
theorem dX11_power_16 : decode cX11_power 16 = .ok (.iinc 4 1, 3) := by decide +kernel
theorem dX11_power_19 : decode cX11_power 19 = .ok (.goto (-14), 3) := by decide +kernel
theorem dX11_power_22 : decode cX11_power 22 = .ok (.lload_n 2, 1) := by decide +kernel
theorem dX11_power_23 : decode cX11_power 23 = .ok (.lreturn, 1) := by decide +kernel
theorem dX11_newThing_0 : decode cX11_newThing 0 = .ok (.iload_n 0, 1) := by decide +kernel
theorem dX11_newThing_1 : decode cX11_newThing 1 = .ok (.tableswitch 75 1 4 #[31, 42, 53, 64], 31) := by decide +kernel
theorem dX11_newThing_32 : decode cX11_newThing 32 = .ok (.new 325, 3) := by decide +kernel
theorem dX11_newThing_35 : decode cX11_newThing 35 = .ok (.dup, 1) := by decide +kernel
theorem dX11_newThing_36 : decode cX11_newThing 36 = .ok (.iload_n 1, 1) := by decide +kernel
theorem dX11_newThing_37 : decode cX11_newThing 37 = .ok (.iload_n 2, 1) := by decide +kernel
theorem dX11_newThing_38 : decode cX11_newThing 38 = .ok (.iload_n 3, 1) := by decide +kernel
theorem dX11_newThing_39 : decode cX11_newThing 39 = .ok (.invokespecial 327, 3) := by decide +kernel
theorem dX11_newThing_42 : decode cX11_newThing 42 = .ok (.areturn, 1) := by decide +kernel
theorem dX11_newThing_43 : decode cX11_newThing 43 = .ok (.new 330, 3) := by decide +kernel
theorem dX11_newThing_46 : decode cX11_newThing 46 = .ok (.dup, 1) := by decide +kernel
theorem dX11_newThing_47 : decode cX11_newThing 47 = .ok (.iload_n 1, 1) := by decide +kernel
theorem dX11_newThing_48 : decode cX11_newThing 48 = .ok (.iload_n 2, 1) := by decide +kernel
theorem dX11_newThing_49 : decode cX11_newThing 49 = .ok (.iload_n 3, 1) := by decide +kernel
theorem dX11_newThing_50 : decode cX11_newThing 50 = .ok (.invokespecial 332, 3) := by decide +kernel
theorem dX11_newThing_53 : decode cX11_newThing 53 = .ok (.areturn, 1) := by decide +kernel
theorem dX11_newThing_54 : decode cX11_newThing 54 = .ok (.new 333, 3) := by decide +kernel
theorem dX11_newThing_57 : decode cX11_newThing 57 = .ok (.dup, 1) := by decide +kernel
theorem dX11_newThing_58 : decode cX11_newThing 58 = .ok (.iload_n 1, 1) := by decide +kernel
theorem dX11_newThing_59 : decode cX11_newThing 59 = .ok (.iload_n 2, 1) := by decide +kernel
theorem dX11_newThing_60 : decode cX11_newThing 60 = .ok (.iload_n 3, 1) := by decide +kernel
theorem dX11_newThing_61 : decode cX11_newThing 61 = .ok (.invokespecial 335, 3) := by decide +kernel
theorem dX11_newThing_64 : decode cX11_newThing 64 = .ok (.areturn, 1) := by decide +kernel
theorem dX11_newThing_65 : decode cX11_newThing 65 = .ok (.new 336, 3) := by decide +kernel
theorem dX11_newThing_68 : decode cX11_newThing 68 = .ok (.dup, 1) := by decide +kernel
theorem dX11_newThing_69 : decode cX11_newThing 69 = .ok (.iload_n 1, 1) := by decide +kernel
theorem dX11_newThing_70 : decode cX11_newThing 70 = .ok (.iload_n 2, 1) := by decide +kernel
theorem dX11_newThing_71 : decode cX11_newThing 71 = .ok (.iload_n 3, 1) := by decide +kernel
theorem dX11_newThing_72 : decode cX11_newThing 72 = .ok (.invokespecial 338, 3) := by decide +kernel
theorem dX11_newThing_75 : decode cX11_newThing 75 = .ok (.areturn, 1) := by decide +kernel
theorem dX11_newThing_76 : decode cX11_newThing 76 = .ok (.new 149, 3) := by decide +kernel
theorem dX11_newThing_79 : decode cX11_newThing 79 = .ok (.dup, 1) := by decide +kernel
theorem dX11_newThing_80 : decode cX11_newThing 80 = .ok (.iload_n 1, 1) := by decide +kernel
theorem dX11_newThing_81 : decode cX11_newThing 81 = .ok (.iload_n 2, 1) := by decide +kernel
theorem dX11_newThing_82 : decode cX11_newThing 82 = .ok (.iload_n 3, 1) := by decide +kernel
theorem dX11_newThing_83 : decode cX11_newThing 83 = .ok (.invokespecial 339, 3) := by decide +kernel
theorem dX11_newThing_86 : decode cX11_newThing 86 = .ok (.areturn, 1) := by decide +kernel
theorem dX11_isOfKind_0 : decode cX11_isOfKind 0 = .ok (.iload_n 1, 1) := by decide +kernel
theorem dX11_isOfKind_1 : decode cX11_isOfKind 1 = .ok (.tableswitch 51 1 4 #[31, 36, 41, 46], 31) := by decide +kernel
theorem dX11_isOfKind_32 : decode cX11_isOfKind 32 = .ok (.aload_n 0, 1) := by decide +kernel
theorem dX11_isOfKind_33 : decode cX11_isOfKind 33 = .ok (.instanceof 325, 3) := by decide +kernel
theorem dX11_isOfKind_36 : decode cX11_isOfKind 36 = .ok (.ireturn, 1) := by decide +kernel
theorem dX11_isOfKind_37 : decode cX11_isOfKind 37 = .ok (.aload_n 0, 1) := by decide +kernel
theorem dX11_isOfKind_38 : decode cX11_isOfKind 38 = .ok (.instanceof 330, 3) := by decide +kernel
theorem dX11_isOfKind_41 : decode cX11_isOfKind 41 = .ok (.ireturn, 1) := by decide +kernel
theorem dX11_isOfKind_42 : decode cX11_isOfKind 42 = .ok (.aload_n 0, 1) := by decide +kernel
theorem dX11_isOfKind_43 : decode cX11_isOfKind 43 = .ok (.instanceof 333, 3) := by decide +kernel
theorem dX11_isOfKind_46 : decode cX11_isOfKind 46 = .ok (.ireturn, 1) := by decide +kernel
theorem dX11_isOfKind_47 : decode cX11_isOfKind 47 = .ok (.aload_n 0, 1) := by decide +kernel
theorem dX11_isOfKind_48 : decode cX11_isOfKind 48 = .ok (.instanceof 336, 3) := by decide +kernel
theorem dX11_isOfKind_51 : decode cX11_isOfKind 51 = .ok (.ireturn, 1) := by decide +kernel
theorem dX11_isOfKind_52 : decode cX11_isOfKind 52 = .ok (.iload_n 1, 1) := by decide +kernel
theorem dX11_isOfKind_53 : decode cX11_isOfKind 53 = .ok (.ifCond .ne 7, 3) := by decide +kernel
theorem dX11_isOfKind_56 : decode cX11_isOfKind 56 = .ok (.iconst 1, 1) := by decide +kernel
theorem dX11_isOfKind_57 : decode cX11_isOfKind 57 = .ok (.goto 4, 3) := by decide +kernel
theorem dX11_isOfKind_60 : decode cX11_isOfKind 60 = .ok (.iconst 0, 1) := by decide +kernel
theorem dX11_isOfKind_61 : decode cX11_isOfKind 61 = .ok (.ireturn, 1) := by decide +kernel
theorem dL_law_0 : decode cL_law 0 = .ok (.new 7, 3) := by decide +kernel
theorem dL_law_3 : decode cL_law 3 = .ok (.dup, 1) := by decide +kernel
theorem dL_law_4 : decode cL_law 4 = .ok (.invokespecial 9, 3) := by decide +kernel
theorem dL_law_7 : decode cL_law 7 = .ok (.astore_n 1, 1) := by decide +kernel
theorem dL_law_8 : decode cL_law 8 = .ok (.new 10, 3) := by decide +kernel
theorem dL_law_11 : decode cL_law 11 = .ok (.dup, 1) := by decide +kernel
theorem dL_law_12 : decode cL_law 12 = .ok (.invokespecial 12, 3) := by decide +kernel
theorem dL_law_15 : decode cL_law 15 = .ok (.astore_n 2, 1) := by decide +kernel
theorem dL_law_16 : decode cL_law 16 = .ok (.iconst 0, 1) := by decide +kernel
theorem dL_law_17 : decode cL_law 17 = .ok (.istore_n 3, 1) := by decide +kernel
theorem dL_law_18 : decode cL_law 18 = .ok (.iload_n 3, 1) := by decide +kernel
theorem dL_law_19 : decode cL_law 19 = .ok (.aload_n 0, 1) := by decide +kernel
theorem dL_law_20 : decode cL_law 20 = .ok (.arraylength, 1) := by decide +kernel
theorem dL_law_21 : decode cL_law 21 = .ok (.iconst 4, 1) := by decide +kernel
theorem dL_law_22 : decode cL_law 22 = .ok (.isub, 1) := by decide +kernel
theorem dL_law_23 : decode cL_law 23 = .ok (.if_icmp .gt 687, 3) := by decide +kernel
theorem dL_law_26 : decode cL_law 26 = .ok (.aload_n 0, 1) := by decide +kernel
theorem dL_law_27 : decode cL_law 27 = .ok (.iload_n 3, 1) := by decide +kernel
theorem dL_law_28 : decode cL_law 28 = .ok (.iaload, 1) := by decide +kernel
theorem dL_law_29 : decode cL_law 29 = .ok (.bipush 31, 2) := by decide +kernel
theorem dL_law_31 : decode cL_law 31 = .ok (.iand, 1) := by decide +kernel
theorem dL_law_32 : decode cL_law 32 = .ok (.tableswitch 672 0 21 #[104, 157, 170, 183, 196, 229, 272, 305, 338, 361, 384, 407, 440, 463, 496, 509, 532, 566, 609, 622, 635, 658], 104) := by decide +kernel
theorem dL_law_136 : decode cL_law 136 = .ok (.aload_n 1, 1) := by decide +kernel
theorem dL_law_137 : decode cL_law 137 = .ok (.aload_n 0, 1) := by decide +kernel
theorem dL_law_138 : decode cL_law 138 = .ok (.iload_n 3, 1) := by decide +kernel
theorem dL_law_139 : decode cL_law 139 = .ok (.iconst 1, 1) := by decide +kernel
theorem dL_law_140 : decode cL_law 140 = .ok (.iadd, 1) := by decide +kernel
theorem dL_law_141 : decode cL_law 141 = .ok (.iaload, 1) := by decide +kernel
theorem dL_law_142 : decode cL_law 142 = .ok (.i2l, 1) := by decide +kernel
theorem dL_law_143 : decode cL_law 143 = .ok (.bipush 32, 2) := by decide +kernel
theorem dL_law_145 : decode cL_law 145 = .ok (.lshl, 1) := by decide +kernel
theorem dL_law_146 : decode cL_law 146 = .ok (.aload_n 0, 1) := by decide +kernel
theorem dL_law_147 : decode cL_law 147 = .ok (.iload_n 3, 1) := by decide +kernel
theorem dL_law_148 : decode cL_law 148 = .ok (.iconst 2, 1) := by decide +kernel
theorem dL_law_149 : decode cL_law 149 = .ok (.iadd, 1) := by decide +kernel
theorem dL_law_150 : decode cL_law 150 = .ok (.iaload, 1) := by decide +kernel
theorem dL_law_151 : decode cL_law 151 = .ok (.i2l, 1) := by decide +kernel
theorem dL_law_152 : decode cL_law 152 = .ok (.ldc2_w 13, 3) := by decide +kernel
theorem dL_law_155 : decode cL_law 155 = .ok (.land, 1) := by decide +kernel
theorem dL_law_156 : decode cL_law 156 = .ok (.lor, 1) := by decide +kernel
theorem dL_law_157 : decode cL_law 157 = .ok (.invokevirtual 15, 3) := by decide +kernel
theorem dL_law_160 : decode cL_law 160 = .ok (.aload_n 2, 1) := by decide +kernel
theorem dL_law_161 : decode cL_law 161 = .ok (.aload_n 0, 1) := by decide +kernel
theorem dL_law_162 : decode cL_law 162 = .ok (.iload_n 3, 1) := by decide +kernel
theorem dL_law_163 : decode cL_law 163 = .ok (.iconst 1, 1) := by decide +kernel
theorem dL_law_164 : decode cL_law 164 = .ok (.iadd, 1) := by decide +kernel
theorem dL_law_165 : decode cL_law 165 = .ok (.iaload, 1) := by decide +kernel
theorem dL_law_166 : decode cL_law 166 = .ok (.i2l, 1) := by decide +kernel
theorem dL_law_167 : decode cL_law 167 = .ok (.bipush 32, 2) := by decide +kernel
theorem dL_law_169 : decode cL_law 169 = .ok (.lshl, 1) := by decide +kernel
theorem dL_law_170 : decode cL_law 170 = .ok (.aload_n 0, 1) := by decide +kernel
theorem dL_law_171 : decode cL_law 171 = .ok (.iload_n 3, 1) := by decide +kernel
theorem dL_law_172 : decode cL_law 172 = .ok (.iconst 2, 1) := by decide +kernel
theorem dL_law_173 : decode cL_law 173 = .ok (.iadd, 1) := by decide +kernel
theorem dL_law_174 : decode cL_law 174 = .ok (.iaload, 1) := by decide +kernel
theorem dL_law_175 : decode cL_law 175 = .ok (.i2l, 1) := by decide +kernel
theorem dL_law_176 : decode cL_law 176 = .ok (.ldc2_w 13, 3) := by decide +kernel
theorem dL_law_179 : decode cL_law 179 = .ok (.land, 1) := by decide +kernel
theorem dL_law_180 : decode cL_law 180 = .ok (.lor, 1) := by decide +kernel
theorem dL_law_181 : decode cL_law 181 = .ok (.invokevirtual 19, 3) := by decide +kernel
theorem dL_law_184 : decode cL_law 184 = .ok (.if_icmp .eq 520, 3) := by decide +kernel
theorem dL_law_187 : decode cL_law 187 = .ok (.iconst 0, 1) := by decide +kernel
theorem dL_law_188 : decode cL_law 188 = .ok (.ireturn, 1) := by decide +kernel
theorem dL_law_189 : decode cL_law 189 = .ok (.aload_n 1, 1) := by decide +kernel
theorem dL_law_190 : decode cL_law 190 = .ok (.invokevirtual 20, 3) := by decide +kernel
theorem dL_law_193 : decode cL_law 193 = .ok (.aload_n 2, 1) := by decide +kernel
theorem dL_law_194 : decode cL_law 194 = .ok (.invokevirtual 24, 3) := by decide +kernel
theorem dL_law_197 : decode cL_law 197 = .ok (.if_icmp .eq 507, 3) := by decide +kernel
theorem dL_law_200 : decode cL_law 200 = .ok (.iconst 0, 1) := by decide +kernel
theorem dL_law_201 : decode cL_law 201 = .ok (.ireturn, 1) := by decide +kernel
theorem dL_law_202 : decode cL_law 202 = .ok (.aload_n 1, 1) := by decide +kernel
theorem dL_law_203 : decode cL_law 203 = .ok (.invokevirtual 25, 3) := by decide +kernel
theorem dL_law_206 : decode cL_law 206 = .ok (.aload_n 2, 1) := by decide +kernel
theorem dL_law_207 : decode cL_law 207 = .ok (.invokevirtual 28, 3) := by decide +kernel
theorem dL_law_210 : decode cL_law 210 = .ok (.if_icmp .eq 494, 3) := by decide +kernel
theorem dL_law_213 : decode cL_law 213 = .ok (.iconst 0, 1) := by decide +kernel
theorem dL_law_214 : decode cL_law 214 = .ok (.ireturn, 1) := by decide +kernel
theorem dL_law_215 : decode cL_law 215 = .ok (.aload_n 1, 1) := by decide +kernel
theorem dL_law_216 : decode cL_law 216 = .ok (.invokevirtual 29, 3) := by decide +kernel
theorem dL_law_219 : decode cL_law 219 = .ok (.aload_n 2, 1) := by decide +kernel
theorem dL_law_220 : decode cL_law 220 = .ok (.invokevirtual 32, 3) := by decide +kernel
theorem dL_law_223 : decode cL_law 223 = .ok (.if_icmp .eq 481, 3) := by decide +kernel
theorem dL_law_226 : decode cL_law 226 = .ok (.iconst 0, 1) := by decide +kernel
theorem dL_law_227 : decode cL_law 227 = .ok (.ireturn, 1) := by decide +kernel
theorem dL_law_228 : decode cL_law 228 = .ok (.aload_n 1, 1) := by decide +kernel
theorem dL_law_229 : decode cL_law 229 = .ok (.aload_n 0, 1) := by decide +kernel
theorem dL_law_230 : decode cL_law 230 = .ok (.iload_n 3, 1) := by decide +kernel
theorem dL_law_231 : decode cL_law 231 = .ok (.iconst 1, 1) := by decide +kernel
theorem dL_law_232 : decode cL_law 232 = .ok (.iadd, 1) := by decide +kernel
theorem dL_law_233 : decode cL_law 233 = .ok (.iaload, 1) := by decide +kernel
theorem dL_law_234 : decode cL_law 234 = .ok (.aload_n 0, 1) := by decide +kernel
theorem dL_law_235 : decode cL_law 235 = .ok (.iload_n 3, 1) := by decide +kernel
theorem dL_law_236 : decode cL_law 236 = .ok (.iconst 2, 1) := by decide +kernel
theorem dL_law_237 : decode cL_law 237 = .ok (.iadd, 1) := by decide +kernel
theorem dL_law_238 : decode cL_law 238 = .ok (.iaload, 1) := by decide +kernel
theorem dL_law_239 : decode cL_law 239 = .ok (.invokevirtual 33, 3) := by decide +kernel
theorem dL_law_242 : decode cL_law 242 = .ok (.aload_n 2, 1) := by decide +kernel
theorem dL_law_243 : decode cL_law 243 = .ok (.aload_n 0, 1) := by decide +kernel
theorem dL_law_244 : decode cL_law 244 = .ok (.iload_n 3, 1) := by decide +kernel
theorem dL_law_245 : decode cL_law 245 = .ok (.iconst 1, 1) := by decide +kernel
theorem dL_law_246 : decode cL_law 246 = .ok (.iadd, 1) := by decide +kernel
theorem dL_law_247 : decode cL_law 247 = .ok (.iaload, 1) := by decide +kernel
theorem dL_law_248 : decode cL_law 248 = .ok (.aload_n 0, 1) := by decide +kernel
theorem dL_law_249 : decode cL_law 249 = .ok (.iload_n 3, 1) := by decide +kernel
theorem dL_law_250 : decode cL_law 250 = .ok (.iconst 2, 1) := by decide +kernel
theorem dL_law_251 : decode cL_law 251 = .ok (.iadd, 1) := by decide +kernel
theorem dL_law_252 : decode cL_law 252 = .ok (.iaload, 1) := by decide +kernel
theorem dL_law_253 : decode cL_law 253 = .ok (.invokevirtual 37, 3) := by decide +kernel
theorem dL_law_256 : decode cL_law 256 = .ok (.if_icmp .eq 448, 3) := by decide +kernel
theorem dL_law_259 : decode cL_law 259 = .ok (.iconst 0, 1) := by decide +kernel
theorem dL_law_260 : decode cL_law 260 = .ok (.ireturn, 1) := by decide +kernel
theorem dL_law_261 : decode cL_law 261 = .ok (.aload_n 1, 1) := by decide +kernel
theorem dL_law_262 : decode cL_law 262 = .ok (.aload_n 0, 1) := by decide +kernel
theorem dL_law_263 : decode cL_law 263 = .ok (.iload_n 3, 1) := by decide +kernel
theorem dL_law_264 : decode cL_law 264 = .ok (.iconst 1, 1) := by decide +kernel
theorem dL_law_265 : decode cL_law 265 = .ok (.iadd, 1) := by decide +kernel
theorem dL_law_266 : decode cL_law 266 = .ok (.iaload, 1) := by decide +kernel
theorem dL_law_267 : decode cL_law 267 = .ok (.aload_n 0, 1) := by decide +kernel
theorem dL_law_268 : decode cL_law 268 = .ok (.iload_n 3, 1) := by decide +kernel
theorem dL_law_269 : decode cL_law 269 = .ok (.iconst 2, 1) := by decide +kernel
theorem dL_law_270 : decode cL_law 270 = .ok (.iadd, 1) := by decide +kernel
theorem dL_law_271 : decode cL_law 271 = .ok (.iaload, 1) := by decide +kernel
theorem dL_law_272 : decode cL_law 272 = .ok (.aload_n 0, 1) := by decide +kernel
theorem dL_law_273 : decode cL_law 273 = .ok (.iload_n 3, 1) := by decide +kernel
theorem dL_law_274 : decode cL_law 274 = .ok (.iconst 3, 1) := by decide +kernel
theorem dL_law_275 : decode cL_law 275 = .ok (.iadd, 1) := by decide +kernel
theorem dL_law_276 : decode cL_law 276 = .ok (.iaload, 1) := by decide +kernel
theorem dL_law_277 : decode cL_law 277 = .ok (.invokevirtual 38, 3) := by decide +kernel
theorem dL_law_280 : decode cL_law 280 = .ok (.aload_n 2, 1) := by decide +kernel
theorem dL_law_281 : decode cL_law 281 = .ok (.aload_n 0, 1) := by decide +kernel
theorem dL_law_282 : decode cL_law 282 = .ok (.iload_n 3, 1) := by decide +kernel
theorem dL_law_283 : decode cL_law 283 = .ok (.iconst 1, 1) := by decide +kernel
theorem dL_law_284 : decode cL_law 284 = .ok (.iadd, 1) := by decide +kernel
theorem dL_law_285 : decode cL_law 285 = .ok (.iaload, 1) := by decide +kernel
theorem dL_law_286 : decode cL_law 286 = .ok (.aload_n 0, 1) := by decide +kernel
theorem dL_law_287 : decode cL_law 287 = .ok (.iload_n 3, 1) := by decide +kernel
theorem dL_law_288 : decode cL_law 288 = .ok (.iconst 2, 1) := by decide +kernel
theorem dL_law_289 : decode cL_law 289 = .ok (.iadd, 1) := by decide +kernel
theorem dL_law_290 : decode cL_law 290 = .ok (.iaload, 1) := by decide +kernel
theorem dL_law_291 : decode cL_law 291 = .ok (.aload_n 0, 1) := by decide +kernel
theorem dL_law_292 : decode cL_law 292 = .ok (.iload_n 3, 1) := by decide +kernel
theorem dL_law_293 : decode cL_law 293 = .ok (.iconst 3, 1) := by decide +kernel
theorem dL_law_294 : decode cL_law 294 = .ok (.iadd, 1) := by decide +kernel
theorem dL_law_295 : decode cL_law 295 = .ok (.iaload, 1) := by decide +kernel
theorem dL_law_296 : decode cL_law 296 = .ok (.invokevirtual 42, 3) := by decide +kernel
theorem dL_law_299 : decode cL_law 299 = .ok (.if_icmp .eq 405, 3) := by decide +kernel
theorem dL_law_302 : decode cL_law 302 = .ok (.iconst 0, 1) := by decide +kernel
theorem dL_law_303 : decode cL_law 303 = .ok (.ireturn, 1) := by decide +kernel
theorem dL_law_304 : decode cL_law 304 = .ok (.aload_n 1, 1) := by decide +kernel
theorem dL_law_305 : decode cL_law 305 = .ok (.aload_n 0, 1) := by decide +kernel
theorem dL_law_306 : decode cL_law 306 = .ok (.iload_n 3, 1) := by decide +kernel
theorem dL_law_307 : decode cL_law 307 = .ok (.iconst 1, 1) := by decide +kernel
theorem dL_law_308 : decode cL_law 308 = .ok (.iadd, 1) := by decide +kernel
theorem dL_law_309 : decode cL_law 309 = .ok (.iaload, 1) := by decide +kernel
theorem dL_law_310 : decode cL_law 310 = .ok (.aload_n 0, 1) := by decide +kernel
theorem dL_law_311 : decode cL_law 311 = .ok (.iload_n 3, 1) := by decide +kernel
theorem dL_law_312 : decode cL_law 312 = .ok (.iconst 2, 1) := by decide +kernel
theorem dL_law_313 : decode cL_law 313 = .ok (.iadd, 1) := by decide +kernel
theorem dL_law_314 : decode cL_law 314 = .ok (.iaload, 1) := by decide +kernel
theorem dL_law_315 : decode cL_law 315 = .ok (.invokevirtual 43, 3) := by decide +kernel
theorem dL_law_318 : decode cL_law 318 = .ok (.aload_n 2, 1) := by decide +kernel
theorem dL_law_319 : decode cL_law 319 = .ok (.aload_n 0, 1) := by decide +kernel
theorem dL_law_320 : decode cL_law 320 = .ok (.iload_n 3, 1) := by decide +kernel
theorem dL_law_321 : decode cL_law 321 = .ok (.iconst 1, 1) := by decide +kernel
theorem dL_law_322 : decode cL_law 322 = .ok (.iadd, 1) := by decide +kernel
theorem dL_law_323 : decode cL_law 323 = .ok (.iaload, 1) := by decide +kernel
theorem dL_law_324 : decode cL_law 324 = .ok (.aload_n 0, 1) := by decide +kernel
theorem dL_law_325 : decode cL_law 325 = .ok (.iload_n 3, 1) := by decide +kernel
theorem dL_law_326 : decode cL_law 326 = .ok (.iconst 2, 1) := by decide +kernel
theorem dL_law_327 : decode cL_law 327 = .ok (.iadd, 1) := by decide +kernel
theorem dL_law_328 : decode cL_law 328 = .ok (.iaload, 1) := by decide +kernel
theorem dL_law_329 : decode cL_law 329 = .ok (.invokevirtual 46, 3) := by decide +kernel
theorem dL_law_332 : decode cL_law 332 = .ok (.if_icmp .eq 372, 3) := by decide +kernel
theorem dL_law_335 : decode cL_law 335 = .ok (.iconst 0, 1) := by decide +kernel
theorem dL_law_336 : decode cL_law 336 = .ok (.ireturn, 1) := by decide +kernel
theorem dL_law_337 : decode cL_law 337 = .ok (.aload_n 1, 1) := by decide +kernel
theorem dL_law_338 : decode cL_law 338 = .ok (.aload_n 0, 1) := by decide +kernel
theorem dL_law_339 : decode cL_law 339 = .ok (.iload_n 3, 1) := by decide +kernel
theorem dL_law_340 : decode cL_law 340 = .ok (.iconst 1, 1) := by decide +kernel
theorem dL_law_341 : decode cL_law 341 = .ok (.iadd, 1) := by decide +kernel
theorem dL_law_342 : decode cL_law 342 = .ok (.iaload, 1) := by decide +kernel
theorem dL_law_343 : decode cL_law 343 = .ok (.aload_n 0, 1) := by decide +kernel
theorem dL_law_344 : decode cL_law 344 = .ok (.iload_n 3, 1) := by decide +kernel
theorem dL_law_345 : decode cL_law 345 = .ok (.iconst 2, 1) := by decide +kernel
theorem dL_law_346 : decode cL_law 346 = .ok (.iadd, 1) := by decide +kernel
theorem dL_law_347 : decode cL_law 347 = .ok (.iaload, 1) := by decide +kernel
theorem dL_law_348 : decode cL_law 348 = .ok (.invokevirtual 47, 3) := by decide +kernel
theorem dL_law_351 : decode cL_law 351 = .ok (.aload_n 2, 1) := by decide +kernel
theorem dL_law_352 : decode cL_law 352 = .ok (.aload_n 0, 1) := by decide +kernel
theorem dL_law_353 : decode cL_law 353 = .ok (.iload_n 3, 1) := by decide +kernel
theorem dL_law_354 : decode cL_law 354 = .ok (.iconst 1, 1) := by decide +kernel
theorem dL_law_355 : decode cL_law 355 = .ok (.iadd, 1) := by decide +kernel
theorem dL_law_356 : decode cL_law 356 = .ok (.iaload, 1) := by decide +kernel
theorem dL_law_357 : decode cL_law 357 = .ok (.aload_n 0, 1) := by decide +kernel
theorem dL_law_358 : decode cL_law 358 = .ok (.iload_n 3, 1) := by decide +kernel
theorem dL_law_359 : decode cL_law 359 = .ok (.iconst 2, 1) := by decide +kernel
theorem dL_law_360 : decode cL_law 360 = .ok (.iadd, 1) := by decide +kernel
theorem dL_law_361 : decode cL_law 361 = .ok (.iaload, 1) := by decide +kernel
theorem dL_law_362 : decode cL_law 362 = .ok (.invokevirtual 50, 3) := by decide +kernel
theorem dL_law_365 : decode cL_law 365 = .ok (.if_icmp .eq 339, 3) := by decide +kernel
theorem dL_law_368 : decode cL_law 368 = .ok (.iconst 0, 1) := by decide +kernel
theorem dL_law_369 : decode cL_law 369 = .ok (.ireturn, 1) := by decide +kernel
theorem dL_law_370 : decode cL_law 370 = .ok (.aload_n 1, 1) := by decide +kernel
theorem dL_law_371 : decode cL_law 371 = .ok (.aload_n 0, 1) := by decide +kernel
theorem dL_law_372 : decode cL_law 372 = .ok (.iload_n 3, 1) := by decide +kernel
theorem dL_law_373 : decode cL_law 373 = .ok (.iconst 1, 1) := by decide +kernel
theorem dL_law_374 : decode cL_law 374 = .ok (.iadd, 1) := by decide +kernel
theorem dL_law_375 : decode cL_law 375 = .ok (.iaload, 1) := by decide +kernel
theorem dL_law_376 : decode cL_law 376 = .ok (.invokevirtual 51, 3) := by decide +kernel
theorem dL_law_379 : decode cL_law 379 = .ok (.aload_n 2, 1) := by decide +kernel
theorem dL_law_380 : decode cL_law 380 = .ok (.aload_n 0, 1) := by decide +kernel
theorem dL_law_381 : decode cL_law 381 = .ok (.iload_n 3, 1) := by decide +kernel
theorem dL_law_382 : decode cL_law 382 = .ok (.iconst 1, 1) := by decide +kernel
theorem dL_law_383 : decode cL_law 383 = .ok (.iadd, 1) := by decide +kernel
theorem dL_law_384 : decode cL_law 384 = .ok (.iaload, 1) := by decide +kernel
theorem dL_law_385 : decode cL_law 385 = .ok (.invokevirtual 55, 3) := by decide +kernel
theorem dL_law_388 : decode cL_law 388 = .ok (.if_icmp .eq 316, 3) := by decide +kernel
theorem dL_law_391 : decode cL_law 391 = .ok (.iconst 0, 1) := by decide +kernel
theorem dL_law_392 : decode cL_law 392 = .ok (.ireturn, 1) := by decide +kernel
theorem dL_law_393 : decode cL_law 393 = .ok (.aload_n 1, 1) := by decide +kernel
theorem dL_law_394 : decode cL_law 394 = .ok (.aload_n 0, 1) := by decide +kernel
theorem dL_law_395 : decode cL_law 395 = .ok (.iload_n 3, 1) := by decide +kernel
theorem dL_law_396 : decode cL_law 396 = .ok (.iconst 1, 1) := by decide +kernel
theorem dL_law_397 : decode cL_law 397 = .ok (.iadd, 1) := by decide +kernel
theorem dL_law_398 : decode cL_law 398 = .ok (.iaload, 1) := by decide +kernel
theorem dL_law_399 : decode cL_law 399 = .ok (.invokevirtual 56, 3) := by decide +kernel
theorem dL_law_402 : decode cL_law 402 = .ok (.aload_n 2, 1) := by decide +kernel
theorem dL_law_403 : decode cL_law 403 = .ok (.aload_n 0, 1) := by decide +kernel
theorem dL_law_404 : decode cL_law 404 = .ok (.iload_n 3, 1) := by decide +kernel
theorem dL_law_405 : decode cL_law 405 = .ok (.iconst 1, 1) := by decide +kernel
theorem dL_law_406 : decode cL_law 406 = .ok (.iadd, 1) := by decide +kernel
theorem dL_law_407 : decode cL_law 407 = .ok (.iaload, 1) := by decide +kernel
theorem dL_law_408 : decode cL_law 408 = .ok (.invokevirtual 59, 3) := by decide +kernel
theorem dL_law_411 : decode cL_law 411 = .ok (.if_icmp .eq 293, 3) := by decide +kernel
theorem dL_law_414 : decode cL_law 414 = .ok (.iconst 0, 1) := by decide +kernel
theorem dL_law_415 : decode cL_law 415 = .ok (.ireturn, 1) := by decide +kernel
theorem dL_law_416 : decode cL_law 416 = .ok (.aload_n 1, 1) := by decide +kernel
theorem dL_law_417 : decode cL_law 417 = .ok (.aload_n 0, 1) := by decide +kernel
theorem dL_law_418 : decode cL_law 418 = .ok (.iload_n 3, 1) := by decide +kernel
theorem dL_law_419 : decode cL_law 419 = .ok (.iconst 1, 1) := by decide +kernel
theorem dL_law_420 : decode cL_law 420 = .ok (.iadd, 1) := by decide +kernel
theorem dL_law_421 : decode cL_law 421 = .ok (.iaload, 1) := by decide +kernel
theorem dL_law_422 : decode cL_law 422 = .ok (.invokevirtual 60, 3) := by decide +kernel
theorem dL_law_425 : decode cL_law 425 = .ok (.aload_n 2, 1) := by decide +kernel
theorem dL_law_426 : decode cL_law 426 = .ok (.aload_n 0, 1) := by decide +kernel
theorem dL_law_427 : decode cL_law 427 = .ok (.iload_n 3, 1) := by decide +kernel
theorem dL_law_428 : decode cL_law 428 = .ok (.iconst 1, 1) := by decide +kernel
theorem dL_law_429 : decode cL_law 429 = .ok (.iadd, 1) := by decide +kernel
theorem dL_law_430 : decode cL_law 430 = .ok (.iaload, 1) := by decide +kernel
theorem dL_law_431 : decode cL_law 431 = .ok (.invokevirtual 63, 3) := by decide +kernel
theorem dL_law_434 : decode cL_law 434 = .ok (.if_icmp .eq 270, 3) := by decide +kernel
theorem dL_law_437 : decode cL_law 437 = .ok (.iconst 0, 1) := by decide +kernel
theorem dL_law_438 : decode cL_law 438 = .ok (.ireturn, 1) := by decide +kernel
theorem dL_law_439 : decode cL_law 439 = .ok (.aload_n 1, 1) := by decide +kernel
theorem dL_law_440 : decode cL_law 440 = .ok (.aload_n 0, 1) := by decide +kernel
theorem dL_law_441 : decode cL_law 441 = .ok (.iload_n 3, 1) := by decide +kernel
theorem dL_law_442 : decode cL_law 442 = .ok (.iconst 1, 1) := by decide +kernel
theorem dL_law_443 : decode cL_law 443 = .ok (.iadd, 1) := by decide +kernel
theorem dL_law_444 : decode cL_law 444 = .ok (.iaload, 1) := by decide +kernel
theorem dL_law_445 : decode cL_law 445 = .ok (.aload_n 0, 1) := by decide +kernel
theorem dL_law_446 : decode cL_law 446 = .ok (.iload_n 3, 1) := by decide +kernel
theorem dL_law_447 : decode cL_law 447 = .ok (.iconst 2, 1) := by decide +kernel
theorem dL_law_448 : decode cL_law 448 = .ok (.iadd, 1) := by decide +kernel
theorem dL_law_449 : decode cL_law 449 = .ok (.iaload, 1) := by decide +kernel
theorem dL_law_450 : decode cL_law 450 = .ok (.invokevirtual 64, 3) := by decide +kernel
theorem dL_law_453 : decode cL_law 453 = .ok (.aload_n 2, 1) := by decide +kernel
theorem dL_law_454 : decode cL_law 454 = .ok (.aload_n 0, 1) := by decide +kernel
theorem dL_law_455 : decode cL_law 455 = .ok (.iload_n 3, 1) := by decide +kernel
theorem dL_law_456 : decode cL_law 456 = .ok (.iconst 1, 1) := by decide +kernel
theorem dL_law_457 : decode cL_law 457 = .ok (.iadd, 1) := by decide +kernel
theorem dL_law_458 : decode cL_law 458 = .ok (.iaload, 1) := by decide +kernel
theorem dL_law_459 : decode cL_law 459 = .ok (.aload_n 0, 1) := by decide +kernel
theorem dL_law_460 : decode cL_law 460 = .ok (.iload_n 3, 1) := by decide +kernel
theorem dL_law_461 : decode cL_law 461 = .ok (.iconst 2, 1) := by decide +kernel
theorem dL_law_462 : decode cL_law 462 = .ok (.iadd, 1) := by decide +kernel
theorem dL_law_463 : decode cL_law 463 = .ok (.iaload, 1) := by decide +kernel
theorem dL_law_464 : decode cL_law 464 = .ok (.invokevirtual 67, 3) := by decide +kernel
theorem dL_law_467 : decode cL_law 467 = .ok (.if_icmp .eq 237, 3) := by decide +kernel
theorem dL_law_470 : decode cL_law 470 = .ok (.iconst 0, 1) := by decide +kernel
theorem dL_law_471 : decode cL_law 471 = .ok (.ireturn, 1) := by decide +kernel
theorem dL_law_472 : decode cL_law 472 = .ok (.aload_n 1, 1) := by decide +kernel
theorem dL_law_473 : decode cL_law 473 = .ok (.aload_n 0, 1) := by decide +kernel
theorem dL_law_474 : decode cL_law 474 = .ok (.iload_n 3, 1) := by decide +kernel
theorem dL_law_475 : decode cL_law 475 = .ok (.iconst 1, 1) := by decide +kernel
theorem dL_law_476 : decode cL_law 476 = .ok (.iadd, 1) := by decide +kernel
theorem dL_law_477 : decode cL_law 477 = .ok (.iaload, 1) := by decide +kernel
theorem dL_law_478 : decode cL_law 478 = .ok (.invokevirtual 68, 3) := by decide +kernel
theorem dL_law_481 : decode cL_law 481 = .ok (.aload_n 2, 1) := by decide +kernel
theorem dL_law_482 : decode cL_law 482 = .ok (.aload_n 0, 1) := by decide +kernel
theorem dL_law_483 : decode cL_law 483 = .ok (.iload_n 3, 1) := by decide +kernel
theorem dL_law_484 : decode cL_law 484 = .ok (.iconst 1, 1) := by decide +kernel
theorem dL_law_485 : decode cL_law 485 = .ok (.iadd, 1) := by decide +kernel
theorem dL_law_486 : decode cL_law 486 = .ok (.iaload, 1) := by decide +kernel
theorem dL_law_487 : decode cL_law 487 = .ok (.invokevirtual 71, 3) := by decide +kernel
theorem dL_law_490 : decode cL_law 490 = .ok (.if_icmp .eq 214, 3) := by decide +kernel
theorem dL_law_493 : decode cL_law 493 = .ok (.iconst 0, 1) := by decide +kernel
theorem dL_law_494 : decode cL_law 494 = .ok (.ireturn, 1) := by decide +kernel
theorem dL_law_495 : decode cL_law 495 = .ok (.aload_n 1, 1) := by decide +kernel
theorem dL_law_496 : decode cL_law 496 = .ok (.aload_n 0, 1) := by decide +kernel
theorem dL_law_497 : decode cL_law 497 = .ok (.iload_n 3, 1) := by decide +kernel
theorem dL_law_498 : decode cL_law 498 = .ok (.iconst 1, 1) := by decide +kernel
theorem dL_law_499 : decode cL_law 499 = .ok (.iadd, 1) := by decide +kernel
theorem dL_law_500 : decode cL_law 500 = .ok (.iaload, 1) := by decide +kernel
theorem dL_law_501 : decode cL_law 501 = .ok (.aload_n 0, 1) := by decide +kernel
theorem dL_law_502 : decode cL_law 502 = .ok (.iload_n 3, 1) := by decide +kernel
theorem dL_law_503 : decode cL_law 503 = .ok (.iconst 2, 1) := by decide +kernel
theorem dL_law_504 : decode cL_law 504 = .ok (.iadd, 1) := by decide +kernel
theorem dL_law_505 : decode cL_law 505 = .ok (.iaload, 1) := by decide +kernel
theorem dL_law_506 : decode cL_law 506 = .ok (.invokevirtual 72, 3) := by decide +kernel
theorem dL_law_509 : decode cL_law 509 = .ok (.aload_n 2, 1) := by decide +kernel
theorem dL_law_510 : decode cL_law 510 = .ok (.aload_n 0, 1) := by decide +kernel
theorem dL_law_511 : decode cL_law 511 = .ok (.iload_n 3, 1) := by decide +kernel
theorem dL_law_512 : decode cL_law 512 = .ok (.iconst 1, 1) := by decide +kernel
theorem dL_law_513 : decode cL_law 513 = .ok (.iadd, 1) := by decide +kernel
theorem dL_law_514 : decode cL_law 514 = .ok (.iaload, 1) := by decide +kernel
theorem dL_law_515 : decode cL_law 515 = .ok (.aload_n 0, 1) := by decide +kernel
theorem dL_law_516 : decode cL_law 516 = .ok (.iload_n 3, 1) := by decide +kernel
theorem dL_law_517 : decode cL_law 517 = .ok (.iconst 2, 1) := by decide +kernel
theorem dL_law_518 : decode cL_law 518 = .ok (.iadd, 1) := by decide +kernel
theorem dL_law_519 : decode cL_law 519 = .ok (.iaload, 1) := by decide +kernel
theorem dL_law_520 : decode cL_law 520 = .ok (.invokevirtual 75, 3) := by decide +kernel
theorem dL_law_523 : decode cL_law 523 = .ok (.if_icmp .eq 181, 3) := by decide +kernel
theorem dL_law_526 : decode cL_law 526 = .ok (.iconst 0, 1) := by decide +kernel
theorem dL_law_527 : decode cL_law 527 = .ok (.ireturn, 1) := by decide +kernel
theorem dL_law_528 : decode cL_law 528 = .ok (.aload_n 1, 1) := by decide +kernel
theorem dL_law_529 : decode cL_law 529 = .ok (.invokevirtual 76, 3) := by decide +kernel
theorem dL_law_532 : decode cL_law 532 = .ok (.aload_n 2, 1) := by decide +kernel
theorem dL_law_533 : decode cL_law 533 = .ok (.invokevirtual 79, 3) := by decide +kernel
theorem dL_law_536 : decode cL_law 536 = .ok (.if_icmp .eq 168, 3) := by decide +kernel
theorem dL_law_539 : decode cL_law 539 = .ok (.iconst 0, 1) := by decide +kernel
theorem dL_law_540 : decode cL_law 540 = .ok (.ireturn, 1) := by decide +kernel
theorem dL_law_541 : decode cL_law 541 = .ok (.aload_n 1, 1) := by decide +kernel
theorem dL_law_542 : decode cL_law 542 = .ok (.aload_n 0, 1) := by decide +kernel
theorem dL_law_543 : decode cL_law 543 = .ok (.iload_n 3, 1) := by decide +kernel
theorem dL_law_544 : decode cL_law 544 = .ok (.iconst 1, 1) := by decide +kernel
theorem dL_law_545 : decode cL_law 545 = .ok (.iadd, 1) := by decide +kernel
theorem dL_law_546 : decode cL_law 546 = .ok (.iaload, 1) := by decide +kernel
theorem dL_law_547 : decode cL_law 547 = .ok (.invokevirtual 80, 3) := by decide +kernel
theorem dL_law_550 : decode cL_law 550 = .ok (.aload_n 2, 1) := by decide +kernel
theorem dL_law_551 : decode cL_law 551 = .ok (.aload_n 0, 1) := by decide +kernel
theorem dL_law_552 : decode cL_law 552 = .ok (.iload_n 3, 1) := by decide +kernel
theorem dL_law_553 : decode cL_law 553 = .ok (.iconst 1, 1) := by decide +kernel
theorem dL_law_554 : decode cL_law 554 = .ok (.iadd, 1) := by decide +kernel
theorem dL_law_555 : decode cL_law 555 = .ok (.iaload, 1) := by decide +kernel
theorem dL_law_556 : decode cL_law 556 = .ok (.invokevirtual 83, 3) := by decide +kernel
theorem dL_law_559 : decode cL_law 559 = .ok (.if_icmp .eq 145, 3) := by decide +kernel
theorem dL_law_562 : decode cL_law 562 = .ok (.iconst 0, 1) := by decide +kernel
theorem dL_law_563 : decode cL_law 563 = .ok (.ireturn, 1) := by decide +kernel
theorem dL_law_564 : decode cL_law 564 = .ok (.aload_n 1, 1) := by decide +kernel
theorem dL_law_565 : decode cL_law 565 = .ok (.aload_n 0, 1) := by decide +kernel
theorem dL_law_566 : decode cL_law 566 = .ok (.iload_n 3, 1) := by decide +kernel
theorem dL_law_567 : decode cL_law 567 = .ok (.iconst 1, 1) := by decide +kernel
theorem dL_law_568 : decode cL_law 568 = .ok (.iadd, 1) := by decide +kernel
theorem dL_law_569 : decode cL_law 569 = .ok (.iaload, 1) := by decide +kernel
theorem dL_law_570 : decode cL_law 570 = .ok (.aload_n 0, 1) := by decide +kernel
theorem dL_law_571 : decode cL_law 571 = .ok (.iload_n 3, 1) := by decide +kernel
theorem dL_law_572 : decode cL_law 572 = .ok (.iconst 2, 1) := by decide +kernel
theorem dL_law_573 : decode cL_law 573 = .ok (.iadd, 1) := by decide +kernel
theorem dL_law_574 : decode cL_law 574 = .ok (.iaload, 1) := by decide +kernel
theorem dL_law_575 : decode cL_law 575 = .ok (.invokevirtual 84, 3) := by decide +kernel
theorem dL_law_578 : decode cL_law 578 = .ok (.aload_n 2, 1) := by decide +kernel
theorem dL_law_579 : decode cL_law 579 = .ok (.aload_n 0, 1) := by decide +kernel
theorem dL_law_580 : decode cL_law 580 = .ok (.iload_n 3, 1) := by decide +kernel
theorem dL_law_581 : decode cL_law 581 = .ok (.iconst 1, 1) := by decide +kernel
theorem dL_law_582 : decode cL_law 582 = .ok (.iadd, 1) := by decide +kernel
theorem dL_law_583 : decode cL_law 583 = .ok (.iaload, 1) := by decide +kernel
theorem dL_law_584 : decode cL_law 584 = .ok (.aload_n 0, 1) := by decide +kernel
theorem dL_law_585 : decode cL_law 585 = .ok (.iload_n 3, 1) := by decide +kernel
theorem dL_law_586 : decode cL_law 586 = .ok (.iconst 2, 1) := by decide +kernel
theorem dL_law_587 : decode cL_law 587 = .ok (.iadd, 1) := by decide +kernel
theorem dL_law_588 : decode cL_law 588 = .ok (.iaload, 1) := by decide +kernel
theorem dL_law_589 : decode cL_law 589 = .ok (.invokevirtual 88, 3) := by decide +kernel
theorem dL_law_592 : decode cL_law 592 = .ok (.lcmp, 1) := by decide +kernel
theorem dL_law_593 : decode cL_law 593 = .ok (.ifCond .eq 111, 3) := by decide +kernel
theorem dL_law_596 : decode cL_law 596 = .ok (.iconst 0, 1) := by decide +kernel
theorem dL_law_597 : decode cL_law 597 = .ok (.ireturn, 1) := by decide +kernel
theorem dL_law_598 : decode cL_law 598 = .ok (.aload_n 1, 1) := by decide +kernel
theorem dL_law_599 : decode cL_law 599 = .ok (.aload_n 0, 1) := by decide +kernel
theorem dL_law_600 : decode cL_law 600 = .ok (.iload_n 3, 1) := by decide +kernel
theorem dL_law_601 : decode cL_law 601 = .ok (.iconst 1, 1) := by decide +kernel
theorem dL_law_602 : decode cL_law 602 = .ok (.iadd, 1) := by decide +kernel
theorem dL_law_603 : decode cL_law 603 = .ok (.iaload, 1) := by decide +kernel
theorem dL_law_604 : decode cL_law 604 = .ok (.aload_n 0, 1) := by decide +kernel
theorem dL_law_605 : decode cL_law 605 = .ok (.iload_n 3, 1) := by decide +kernel
theorem dL_law_606 : decode cL_law 606 = .ok (.iconst 2, 1) := by decide +kernel
theorem dL_law_607 : decode cL_law 607 = .ok (.iadd, 1) := by decide +kernel
theorem dL_law_608 : decode cL_law 608 = .ok (.iaload, 1) := by decide +kernel
theorem dL_law_609 : decode cL_law 609 = .ok (.aload_n 0, 1) := by decide +kernel
theorem dL_law_610 : decode cL_law 610 = .ok (.iload_n 3, 1) := by decide +kernel
theorem dL_law_611 : decode cL_law 611 = .ok (.iconst 3, 1) := by decide +kernel
theorem dL_law_612 : decode cL_law 612 = .ok (.iadd, 1) := by decide +kernel
theorem dL_law_613 : decode cL_law 613 = .ok (.iaload, 1) := by decide +kernel
theorem dL_law_614 : decode cL_law 614 = .ok (.invokevirtual 89, 3) := by decide +kernel
theorem dL_law_617 : decode cL_law 617 = .ok (.aload_n 2, 1) := by decide +kernel
theorem dL_law_618 : decode cL_law 618 = .ok (.aload_n 0, 1) := by decide +kernel
theorem dL_law_619 : decode cL_law 619 = .ok (.iload_n 3, 1) := by decide +kernel
theorem dL_law_620 : decode cL_law 620 = .ok (.iconst 1, 1) := by decide +kernel
theorem dL_law_621 : decode cL_law 621 = .ok (.iadd, 1) := by decide +kernel
theorem dL_law_622 : decode cL_law 622 = .ok (.iaload, 1) := by decide +kernel
theorem dL_law_623 : decode cL_law 623 = .ok (.aload_n 0, 1) := by decide +kernel
theorem dL_law_624 : decode cL_law 624 = .ok (.iload_n 3, 1) := by decide +kernel
theorem dL_law_625 : decode cL_law 625 = .ok (.iconst 2, 1) := by decide +kernel
theorem dL_law_626 : decode cL_law 626 = .ok (.iadd, 1) := by decide +kernel
theorem dL_law_627 : decode cL_law 627 = .ok (.iaload, 1) := by decide +kernel
theorem dL_law_628 : decode cL_law 628 = .ok (.aload_n 0, 1) := by decide +kernel
theorem dL_law_629 : decode cL_law 629 = .ok (.iload_n 3, 1) := by decide +kernel
theorem dL_law_630 : decode cL_law 630 = .ok (.iconst 3, 1) := by decide +kernel
theorem dL_law_631 : decode cL_law 631 = .ok (.iadd, 1) := by decide +kernel
theorem dL_law_632 : decode cL_law 632 = .ok (.iaload, 1) := by decide +kernel
theorem dL_law_633 : decode cL_law 633 = .ok (.invokevirtual 92, 3) := by decide +kernel
theorem dL_law_636 : decode cL_law 636 = .ok (.if_icmp .eq 68, 3) := by decide +kernel
theorem dL_law_639 : decode cL_law 639 = .ok (.iconst 0, 1) := by decide +kernel
theorem dL_law_640 : decode cL_law 640 = .ok (.ireturn, 1) := by decide +kernel
theorem dL_law_641 : decode cL_law 641 = .ok (.aload_n 1, 1) := by decide +kernel
theorem dL_law_642 : decode cL_law 642 = .ok (.invokevirtual 93, 3) := by decide +kernel
theorem dL_law_645 : decode cL_law 645 = .ok (.aload_n 2, 1) := by decide +kernel
theorem dL_law_646 : decode cL_law 646 = .ok (.invokevirtual 96, 3) := by decide +kernel
theorem dL_law_649 : decode cL_law 649 = .ok (.if_icmp .eq 55, 3) := by decide +kernel
theorem dL_law_652 : decode cL_law 652 = .ok (.iconst 0, 1) := by decide +kernel
theorem dL_law_653 : decode cL_law 653 = .ok (.ireturn, 1) := by decide +kernel
theorem dL_law_654 : decode cL_law 654 = .ok (.aload_n 1, 1) := by decide +kernel
theorem dL_law_655 : decode cL_law 655 = .ok (.invokevirtual 97, 3) := by decide +kernel
theorem dL_law_658 : decode cL_law 658 = .ok (.aload_n 2, 1) := by decide +kernel
theorem dL_law_659 : decode cL_law 659 = .ok (.invokevirtual 100, 3) := by decide +kernel
theorem dL_law_662 : decode cL_law 662 = .ok (.if_icmp .eq 42, 3) := by decide +kernel
theorem dL_law_665 : decode cL_law 665 = .ok (.iconst 0, 1) := by decide +kernel
theorem dL_law_666 : decode cL_law 666 = .ok (.ireturn, 1) := by decide +kernel
theorem dL_law_667 : decode cL_law 667 = .ok (.aload_n 1, 1) := by decide +kernel
theorem dL_law_668 : decode cL_law 668 = .ok (.aload_n 0, 1) := by decide +kernel
theorem dL_law_669 : decode cL_law 669 = .ok (.iload_n 3, 1) := by decide +kernel
theorem dL_law_670 : decode cL_law 670 = .ok (.iconst 1, 1) := by decide +kernel
theorem dL_law_671 : decode cL_law 671 = .ok (.iadd, 1) := by decide +kernel
theorem dL_law_672 : decode cL_law 672 = .ok (.iaload, 1) := by decide +kernel
theorem dL_law_673 : decode cL_law 673 = .ok (.invokevirtual 101, 3) := by decide +kernel
theorem dL_law_676 : decode cL_law 676 = .ok (.aload_n 2, 1) := by decide +kernel
theorem dL_law_677 : decode cL_law 677 = .ok (.aload_n 0, 1) := by decide +kernel
theorem dL_law_678 : decode cL_law 678 = .ok (.iload_n 3, 1) := by decide +kernel
theorem dL_law_679 : decode cL_law 679 = .ok (.iconst 1, 1) := by decide +kernel
theorem dL_law_680 : decode cL_law 680 = .ok (.iadd, 1) := by decide +kernel
theorem dL_law_681 : decode cL_law 681 = .ok (.iaload, 1) := by decide +kernel
theorem dL_law_682 : decode cL_law 682 = .ok (.invokevirtual 104, 3) := by decide +kernel
theorem dL_law_685 : decode cL_law 685 = .ok (.if_icmp .eq 19, 3) := by decide +kernel
theorem dL_law_688 : decode cL_law 688 = .ok (.iconst 0, 1) := by decide +kernel
theorem dL_law_689 : decode cL_law 689 = .ok (.ireturn, 1) := by decide +kernel
theorem dL_law_690 : decode cL_law 690 = .ok (.aload_n 1, 1) := by decide +kernel
theorem dL_law_691 : decode cL_law 691 = .ok (.invokevirtual 105, 3) := by decide +kernel
theorem dL_law_694 : decode cL_law 694 = .ok (.aload_n 2, 1) := by decide +kernel
theorem dL_law_695 : decode cL_law 695 = .ok (.invokevirtual 109, 3) := by decide +kernel
theorem dL_law_698 : decode cL_law 698 = .ok (.lcmp, 1) := by decide +kernel
theorem dL_law_699 : decode cL_law 699 = .ok (.ifCond .eq 5, 3) := by decide +kernel
theorem dL_law_702 : decode cL_law 702 = .ok (.iconst 0, 1) := by decide +kernel
theorem dL_law_703 : decode cL_law 703 = .ok (.ireturn, 1) := by decide +kernel
theorem dL_law_704 : decode cL_law 704 = .ok (.iinc 3 4, 3) := by decide +kernel
theorem dL_law_707 : decode cL_law 707 = .ok (.goto (-689), 3) := by decide +kernel
theorem dL_law_710 : decode cL_law 710 = .ok (.iconst 1, 1) := by decide +kernel
theorem dL_law_711 : decode cL_law 711 = .ok (.ireturn, 1) := by decide +kernel
end
section
/-! THE STATE: V (object's number, place) an int; J a long of the reference; th the row of things; L the things that were made, tk their class, T their fields -/
abbrev St : Type := (Nat → Nat → Int32) × (Nat → Int64) × (Nat → Option Nat) × List Nat × (Nat → Nat) × (Nat → Nat → Int32)
abbrev sL (σ : St) : List Nat := σ.2.2.2.1
abbrev sK (σ : St) : Nat → Nat := σ.2.2.2.2.1
abbrev sF (σ : St) : Nat → Nat → Int32 := σ.2.2.2.2.2
abbrev sR (σ : St) : Nat → Option Nat := σ.2.2.1
def up2 (V : Nat → Nat → Int32) (a b : Nat) (v : Int32) : Nat → Nat → Int32 := va_up V a (va_up (V a) b v)
def sV (σ : St) (a b : Nat) (v : Int32) : St := (up2 σ.1 a b v, σ.2)
def sJ (σ : St) (a : Nat) (v : Int64) : St := (σ.1, va_up σ.2.1 a v, σ.2.2)
def sH (σ : St) (i : Nat) (r : Option Nat) : St := (σ.1, σ.2.1, va_up σ.2.2.1 i r, σ.2.2.2)
def sT (σ : St) (a j : Nat) (v : Int32) : St := (σ.1, σ.2.1, σ.2.2.1, σ.2.2.2.1, σ.2.2.2.2.1, up2 σ.2.2.2.2.2 a j v)
def sN (σ : St) (a kd : Nat) : St := (σ.1, σ.2.1, σ.2.2.1, σ.2.2.2.1 ++ [a], va_up σ.2.2.2.2.1 a kd, va_up σ.2.2.2.2.2 a (fun _ => 0))
/-- a thing that was made, and of one of the five classes -/
def isT (σ : St) (a : Nat) : Prop := a ∈ σ.2.2.2.1 ∧ (σ.2.2.2.2.1 a = 1 ∨ σ.2.2.2.2.1 a = 3 ∨ σ.2.2.2.2.1 a = 4 ∨ σ.2.2.2.2.1 a = 5 ∨ σ.2.2.2.2.1 a = 9)
def isC (k : Nat) : Prop := k = 3 ∨ k = 16 ∨ k = 17

/-! THE WORLD: thirty fixed cells, and the things -/
abbrev tcell (σ : St) : Nat → va_E := fun a => .inr (σ.2.2.2.2.1 a, [.int (σ.2.2.2.2.2 a 0), .int (σ.2.2.2.2.2 a 1), .int (σ.2.2.2.2.2 a 2)])
def gX (cy : Nat → ClassId) (A : Nat → Nat) (σ : St) : va_W := [(A 0, .inr (11, [.ref (A 1), .ref (A 3), .ref (A 4), .ref (A 7), .ref (A 10), .ref (A 13), .ref (A 16), .ref (A 17), .int (σ.1 0 8), .int (σ.1 0 9)])), (A 1, .inr (7, [.ref (A 2), .int (σ.1 1 1)])), (A 2, .inl (cy 1, 12, .inl (σ.1 2))), (A 3, .inr (0, [.int (σ.1 3 0), .int (σ.1 3 1), .int (σ.1 3 2), .int (σ.1 3 3), .int (σ.1 3 4), .int (σ.1 3 5), .int (σ.1 3 6)])), (A 4, .inr (6, [.ref (A 5), .ref (A 6), .int (σ.1 4 2), .int (σ.1 4 3)])), (A 5, .inl (cy 3, 6, .inr (.inr (.inr (.inr σ.2.2.1))))), (A 6, .inl (cy 2, 6, .inl (σ.1 6))), (A 7, .inr (10, [.ref (A 8), .ref (A 9), .int (σ.1 7 2)])), (A 8, .inl (cy 2, 6, .inl (σ.1 8))), (A 9, .inl (cy 2, 6, .inl (σ.1 9))), (A 10, .inr (2, [.ref (A 11), .ref (A 12), .int (σ.1 10 2), .int (σ.1 10 3), .int (σ.1 10 4), .int (σ.1 10 5), .int (σ.1 10 6)])), (A 11, .inl (cy 2, 6, .inl (σ.1 11))), (A 12, .inl (cy 2, 6, .inl (σ.1 12))), (A 13, .inr (8, [.ref (A 14), .ref (A 15), .int (σ.1 13 2), .int (σ.1 13 3)])), (A 14, .inl (cy 2, 41, .inl (σ.1 14))), (A 15, .inl (cy 2, 41, .inl (σ.1 15))), (A 16, .inr (0, [.int (σ.1 16 0), .int (σ.1 16 1), .int (σ.1 16 2), .int (σ.1 16 3), .int (σ.1 16 4), .int (σ.1 16 5), .int (σ.1 16 6)])), (A 17, .inr (0, [.int (σ.1 17 0), .int (σ.1 17 1), .int (σ.1 17 2), .int (σ.1 17 3), .int (σ.1 17 4), .int (σ.1 17 5), .int (σ.1 17 6)])), (A 18, .inr (12, [.int (σ.1 18 0), .int (σ.1 18 1), .int (σ.1 18 2), .int (σ.1 18 3), .int (σ.1 18 4), .int (σ.1 18 5), .int (σ.1 18 6), .int (σ.1 18 7), .int (σ.1 18 8), .int (σ.1 18 9), .ref (A 19), .ref (A 20), .ref (A 21), .ref (A 22), .int (σ.1 18 14), .ref (A 23), .ref (A 24), .int (σ.1 18 17), .ref (A 25), .int (σ.1 18 19), .int (σ.1 18 20), .int (σ.1 18 21), .int (σ.1 18 22), .int (σ.1 18 23), .int (σ.1 18 24), .int (σ.1 18 25), .int (σ.1 18 26), .ref (A 26), .ref (A 27), .long (σ.2.1 0), .int (σ.1 18 30), .int (σ.1 18 31), .int (σ.1 18 32), .int (σ.1 18 33), .int (σ.1 18 34), .int (σ.1 18 35), .int (σ.1 18 36), .ref (A 28), .ref (A 29), .long (σ.2.1 1)])), (A 19, .inl (cy 2, 6, .inl (σ.1 19))), (A 20, .inl (cy 2, 6, .inl (σ.1 20))), (A 21, .inl (cy 2, 6, .inl (σ.1 21))), (A 22, .inl (cy 2, 6, .inl (σ.1 22))), (A 23, .inl (cy 2, 6, .inl (σ.1 23))), (A 24, .inl (cy 2, 6, .inl (σ.1 24))), (A 25, .inl (cy 0, 12, .inl (σ.1 25))), (A 26, .inl (cy 2, 41, .inl (σ.1 26))), (A 27, .inl (cy 2, 41, .inl (σ.1 27))), (A 28, .inl (cy 2, 6, .inl (σ.1 28))), (A 29, .inl (cy 2, 6, .inl (σ.1 29)))]
def gW (cy : Nat → ClassId) (A : Nat → Nat) (σ : St) : va_W := gX cy A σ ++ va_pl σ.2.2.2.1 (tcell σ)
def gty (cy : Nat → ClassId) : List (ClassId × FieldType) := [(cy 0, .byte), (cy 1, .char), (cy 2, .int), (cy 3, .object "TwoOnACable$Thing")]
theorem ga_0 (cy : Nat → ClassId) (A : Nat → Nat) (σ : St) : (gW cy A σ)[0]? = some (A 0, .inr (11, [.ref (A 1), .ref (A 3), .ref (A 4), .ref (A 7), .ref (A 10), .ref (A 13), .ref (A 16), .ref (A 17), .int (σ.1 0 8), .int (σ.1 0 9)])) := rfl
theorem ga_1 (cy : Nat → ClassId) (A : Nat → Nat) (σ : St) : (gW cy A σ)[1]? = some (A 1, .inr (7, [.ref (A 2), .int (σ.1 1 1)])) := rfl
theorem ga_2 (cy : Nat → ClassId) (A : Nat → Nat) (σ : St) : (gW cy A σ)[2]? = some (A 2, .inl (cy 1, 12, .inl (σ.1 2))) := rfl
theorem ga_3 (cy : Nat → ClassId) (A : Nat → Nat) (σ : St) : (gW cy A σ)[3]? = some (A 3, .inr (0, [.int (σ.1 3 0), .int (σ.1 3 1), .int (σ.1 3 2), .int (σ.1 3 3), .int (σ.1 3 4), .int (σ.1 3 5), .int (σ.1 3 6)])) := rfl
theorem ga_4 (cy : Nat → ClassId) (A : Nat → Nat) (σ : St) : (gW cy A σ)[4]? = some (A 4, .inr (6, [.ref (A 5), .ref (A 6), .int (σ.1 4 2), .int (σ.1 4 3)])) := rfl
theorem ga_5 (cy : Nat → ClassId) (A : Nat → Nat) (σ : St) : (gW cy A σ)[5]? = some (A 5, .inl (cy 3, 6, .inr (.inr (.inr (.inr σ.2.2.1))))) := rfl
theorem ga_6 (cy : Nat → ClassId) (A : Nat → Nat) (σ : St) : (gW cy A σ)[6]? = some (A 6, .inl (cy 2, 6, .inl (σ.1 6))) := rfl
theorem ga_7 (cy : Nat → ClassId) (A : Nat → Nat) (σ : St) : (gW cy A σ)[7]? = some (A 7, .inr (10, [.ref (A 8), .ref (A 9), .int (σ.1 7 2)])) := rfl
theorem ga_8 (cy : Nat → ClassId) (A : Nat → Nat) (σ : St) : (gW cy A σ)[8]? = some (A 8, .inl (cy 2, 6, .inl (σ.1 8))) := rfl
theorem ga_9 (cy : Nat → ClassId) (A : Nat → Nat) (σ : St) : (gW cy A σ)[9]? = some (A 9, .inl (cy 2, 6, .inl (σ.1 9))) := rfl
theorem ga_10 (cy : Nat → ClassId) (A : Nat → Nat) (σ : St) : (gW cy A σ)[10]? = some (A 10, .inr (2, [.ref (A 11), .ref (A 12), .int (σ.1 10 2), .int (σ.1 10 3), .int (σ.1 10 4), .int (σ.1 10 5), .int (σ.1 10 6)])) := rfl
theorem ga_11 (cy : Nat → ClassId) (A : Nat → Nat) (σ : St) : (gW cy A σ)[11]? = some (A 11, .inl (cy 2, 6, .inl (σ.1 11))) := rfl
theorem ga_12 (cy : Nat → ClassId) (A : Nat → Nat) (σ : St) : (gW cy A σ)[12]? = some (A 12, .inl (cy 2, 6, .inl (σ.1 12))) := rfl
theorem ga_13 (cy : Nat → ClassId) (A : Nat → Nat) (σ : St) : (gW cy A σ)[13]? = some (A 13, .inr (8, [.ref (A 14), .ref (A 15), .int (σ.1 13 2), .int (σ.1 13 3)])) := rfl
theorem ga_14 (cy : Nat → ClassId) (A : Nat → Nat) (σ : St) : (gW cy A σ)[14]? = some (A 14, .inl (cy 2, 41, .inl (σ.1 14))) := rfl
theorem ga_15 (cy : Nat → ClassId) (A : Nat → Nat) (σ : St) : (gW cy A σ)[15]? = some (A 15, .inl (cy 2, 41, .inl (σ.1 15))) := rfl
theorem ga_16 (cy : Nat → ClassId) (A : Nat → Nat) (σ : St) : (gW cy A σ)[16]? = some (A 16, .inr (0, [.int (σ.1 16 0), .int (σ.1 16 1), .int (σ.1 16 2), .int (σ.1 16 3), .int (σ.1 16 4), .int (σ.1 16 5), .int (σ.1 16 6)])) := rfl
theorem ga_17 (cy : Nat → ClassId) (A : Nat → Nat) (σ : St) : (gW cy A σ)[17]? = some (A 17, .inr (0, [.int (σ.1 17 0), .int (σ.1 17 1), .int (σ.1 17 2), .int (σ.1 17 3), .int (σ.1 17 4), .int (σ.1 17 5), .int (σ.1 17 6)])) := rfl
theorem ga_18 (cy : Nat → ClassId) (A : Nat → Nat) (σ : St) : (gW cy A σ)[18]? = some (A 18, .inr (12, [.int (σ.1 18 0), .int (σ.1 18 1), .int (σ.1 18 2), .int (σ.1 18 3), .int (σ.1 18 4), .int (σ.1 18 5), .int (σ.1 18 6), .int (σ.1 18 7), .int (σ.1 18 8), .int (σ.1 18 9), .ref (A 19), .ref (A 20), .ref (A 21), .ref (A 22), .int (σ.1 18 14), .ref (A 23), .ref (A 24), .int (σ.1 18 17), .ref (A 25), .int (σ.1 18 19), .int (σ.1 18 20), .int (σ.1 18 21), .int (σ.1 18 22), .int (σ.1 18 23), .int (σ.1 18 24), .int (σ.1 18 25), .int (σ.1 18 26), .ref (A 26), .ref (A 27), .long (σ.2.1 0), .int (σ.1 18 30), .int (σ.1 18 31), .int (σ.1 18 32), .int (σ.1 18 33), .int (σ.1 18 34), .int (σ.1 18 35), .int (σ.1 18 36), .ref (A 28), .ref (A 29), .long (σ.2.1 1)])) := rfl
theorem ga_19 (cy : Nat → ClassId) (A : Nat → Nat) (σ : St) : (gW cy A σ)[19]? = some (A 19, .inl (cy 2, 6, .inl (σ.1 19))) := rfl
theorem ga_20 (cy : Nat → ClassId) (A : Nat → Nat) (σ : St) : (gW cy A σ)[20]? = some (A 20, .inl (cy 2, 6, .inl (σ.1 20))) := rfl
theorem ga_21 (cy : Nat → ClassId) (A : Nat → Nat) (σ : St) : (gW cy A σ)[21]? = some (A 21, .inl (cy 2, 6, .inl (σ.1 21))) := rfl
theorem ga_22 (cy : Nat → ClassId) (A : Nat → Nat) (σ : St) : (gW cy A σ)[22]? = some (A 22, .inl (cy 2, 6, .inl (σ.1 22))) := rfl
theorem ga_23 (cy : Nat → ClassId) (A : Nat → Nat) (σ : St) : (gW cy A σ)[23]? = some (A 23, .inl (cy 2, 6, .inl (σ.1 23))) := rfl
theorem ga_24 (cy : Nat → ClassId) (A : Nat → Nat) (σ : St) : (gW cy A σ)[24]? = some (A 24, .inl (cy 2, 6, .inl (σ.1 24))) := rfl
theorem ga_25 (cy : Nat → ClassId) (A : Nat → Nat) (σ : St) : (gW cy A σ)[25]? = some (A 25, .inl (cy 0, 12, .inl (σ.1 25))) := rfl
theorem ga_26 (cy : Nat → ClassId) (A : Nat → Nat) (σ : St) : (gW cy A σ)[26]? = some (A 26, .inl (cy 2, 41, .inl (σ.1 26))) := rfl
theorem ga_27 (cy : Nat → ClassId) (A : Nat → Nat) (σ : St) : (gW cy A σ)[27]? = some (A 27, .inl (cy 2, 41, .inl (σ.1 27))) := rfl
theorem ga_28 (cy : Nat → ClassId) (A : Nat → Nat) (σ : St) : (gW cy A σ)[28]? = some (A 28, .inl (cy 2, 6, .inl (σ.1 28))) := rfl
theorem ga_29 (cy : Nat → ClassId) (A : Nat → Nat) (σ : St) : (gW cy A σ)[29]? = some (A 29, .inl (cy 2, 6, .inl (σ.1 29))) := rfl
theorem ga_c (cy : Nat → ClassId) (A : Nat → Nat) (σ : St) {k : Nat} (h : isC k) : (gW cy A σ)[k]? = some (A k, .inr (0, [.int (σ.1 k 0), .int (σ.1 k 1), .int (σ.1 k 2), .int (σ.1 k 3), .int (σ.1 k 4), .int (σ.1 k 5), .int (σ.1 k 6)])) := by
  rcases h with rfl | rfl | rfl <;> rfl
theorem gp_0_8 (cy : Nat → ClassId) (A : Nat → Nat) (σ : St) (v : Int32) : (gW cy A σ).set 0 (A 0, .inr (11, [.ref (A 1), .ref (A 3), .ref (A 4), .ref (A 7), .ref (A 10), .ref (A 13), .ref (A 16), .ref (A 17), .int v, .int (σ.1 0 9)])) = gW cy A (sV σ 0 8 v) := rfl
theorem gp_0_9 (cy : Nat → ClassId) (A : Nat → Nat) (σ : St) (v : Int32) : (gW cy A σ).set 0 (A 0, .inr (11, [.ref (A 1), .ref (A 3), .ref (A 4), .ref (A 7), .ref (A 10), .ref (A 13), .ref (A 16), .ref (A 17), .int (σ.1 0 8), .int v])) = gW cy A (sV σ 0 9 v) := rfl
theorem gp_1_1 (cy : Nat → ClassId) (A : Nat → Nat) (σ : St) (v : Int32) : (gW cy A σ).set 1 (A 1, .inr (7, [.ref (A 2), .int v])) = gW cy A (sV σ 1 1 v) := rfl
theorem gp_4_2 (cy : Nat → ClassId) (A : Nat → Nat) (σ : St) (v : Int32) : (gW cy A σ).set 4 (A 4, .inr (6, [.ref (A 5), .ref (A 6), .int v, .int (σ.1 4 3)])) = gW cy A (sV σ 4 2 v) := rfl
theorem gp_4_3 (cy : Nat → ClassId) (A : Nat → Nat) (σ : St) (v : Int32) : (gW cy A σ).set 4 (A 4, .inr (6, [.ref (A 5), .ref (A 6), .int (σ.1 4 2), .int v])) = gW cy A (sV σ 4 3 v) := rfl
theorem gp_7_2 (cy : Nat → ClassId) (A : Nat → Nat) (σ : St) (v : Int32) : (gW cy A σ).set 7 (A 7, .inr (10, [.ref (A 8), .ref (A 9), .int v])) = gW cy A (sV σ 7 2 v) := rfl
theorem gp_10_2 (cy : Nat → ClassId) (A : Nat → Nat) (σ : St) (v : Int32) : (gW cy A σ).set 10 (A 10, .inr (2, [.ref (A 11), .ref (A 12), .int v, .int (σ.1 10 3), .int (σ.1 10 4), .int (σ.1 10 5), .int (σ.1 10 6)])) = gW cy A (sV σ 10 2 v) := rfl
theorem gp_10_3 (cy : Nat → ClassId) (A : Nat → Nat) (σ : St) (v : Int32) : (gW cy A σ).set 10 (A 10, .inr (2, [.ref (A 11), .ref (A 12), .int (σ.1 10 2), .int v, .int (σ.1 10 4), .int (σ.1 10 5), .int (σ.1 10 6)])) = gW cy A (sV σ 10 3 v) := rfl
theorem gp_10_4 (cy : Nat → ClassId) (A : Nat → Nat) (σ : St) (v : Int32) : (gW cy A σ).set 10 (A 10, .inr (2, [.ref (A 11), .ref (A 12), .int (σ.1 10 2), .int (σ.1 10 3), .int v, .int (σ.1 10 5), .int (σ.1 10 6)])) = gW cy A (sV σ 10 4 v) := rfl
theorem gp_10_5 (cy : Nat → ClassId) (A : Nat → Nat) (σ : St) (v : Int32) : (gW cy A σ).set 10 (A 10, .inr (2, [.ref (A 11), .ref (A 12), .int (σ.1 10 2), .int (σ.1 10 3), .int (σ.1 10 4), .int v, .int (σ.1 10 6)])) = gW cy A (sV σ 10 5 v) := rfl
theorem gp_10_6 (cy : Nat → ClassId) (A : Nat → Nat) (σ : St) (v : Int32) : (gW cy A σ).set 10 (A 10, .inr (2, [.ref (A 11), .ref (A 12), .int (σ.1 10 2), .int (σ.1 10 3), .int (σ.1 10 4), .int (σ.1 10 5), .int v])) = gW cy A (sV σ 10 6 v) := rfl
theorem gp_13_2 (cy : Nat → ClassId) (A : Nat → Nat) (σ : St) (v : Int32) : (gW cy A σ).set 13 (A 13, .inr (8, [.ref (A 14), .ref (A 15), .int v, .int (σ.1 13 3)])) = gW cy A (sV σ 13 2 v) := rfl
theorem gp_13_3 (cy : Nat → ClassId) (A : Nat → Nat) (σ : St) (v : Int32) : (gW cy A σ).set 13 (A 13, .inr (8, [.ref (A 14), .ref (A 15), .int (σ.1 13 2), .int v])) = gW cy A (sV σ 13 3 v) := rfl
theorem gp_18_0 (cy : Nat → ClassId) (A : Nat → Nat) (σ : St) (v : Int32) : (gW cy A σ).set 18 (A 18, .inr (12, [.int v, .int (σ.1 18 1), .int (σ.1 18 2), .int (σ.1 18 3), .int (σ.1 18 4), .int (σ.1 18 5), .int (σ.1 18 6), .int (σ.1 18 7), .int (σ.1 18 8), .int (σ.1 18 9), .ref (A 19), .ref (A 20), .ref (A 21), .ref (A 22), .int (σ.1 18 14), .ref (A 23), .ref (A 24), .int (σ.1 18 17), .ref (A 25), .int (σ.1 18 19), .int (σ.1 18 20), .int (σ.1 18 21), .int (σ.1 18 22), .int (σ.1 18 23), .int (σ.1 18 24), .int (σ.1 18 25), .int (σ.1 18 26), .ref (A 26), .ref (A 27), .long (σ.2.1 0), .int (σ.1 18 30), .int (σ.1 18 31), .int (σ.1 18 32), .int (σ.1 18 33), .int (σ.1 18 34), .int (σ.1 18 35), .int (σ.1 18 36), .ref (A 28), .ref (A 29), .long (σ.2.1 1)])) = gW cy A (sV σ 18 0 v) := rfl
theorem gp_18_1 (cy : Nat → ClassId) (A : Nat → Nat) (σ : St) (v : Int32) : (gW cy A σ).set 18 (A 18, .inr (12, [.int (σ.1 18 0), .int v, .int (σ.1 18 2), .int (σ.1 18 3), .int (σ.1 18 4), .int (σ.1 18 5), .int (σ.1 18 6), .int (σ.1 18 7), .int (σ.1 18 8), .int (σ.1 18 9), .ref (A 19), .ref (A 20), .ref (A 21), .ref (A 22), .int (σ.1 18 14), .ref (A 23), .ref (A 24), .int (σ.1 18 17), .ref (A 25), .int (σ.1 18 19), .int (σ.1 18 20), .int (σ.1 18 21), .int (σ.1 18 22), .int (σ.1 18 23), .int (σ.1 18 24), .int (σ.1 18 25), .int (σ.1 18 26), .ref (A 26), .ref (A 27), .long (σ.2.1 0), .int (σ.1 18 30), .int (σ.1 18 31), .int (σ.1 18 32), .int (σ.1 18 33), .int (σ.1 18 34), .int (σ.1 18 35), .int (σ.1 18 36), .ref (A 28), .ref (A 29), .long (σ.2.1 1)])) = gW cy A (sV σ 18 1 v) := rfl
theorem gp_18_2 (cy : Nat → ClassId) (A : Nat → Nat) (σ : St) (v : Int32) : (gW cy A σ).set 18 (A 18, .inr (12, [.int (σ.1 18 0), .int (σ.1 18 1), .int v, .int (σ.1 18 3), .int (σ.1 18 4), .int (σ.1 18 5), .int (σ.1 18 6), .int (σ.1 18 7), .int (σ.1 18 8), .int (σ.1 18 9), .ref (A 19), .ref (A 20), .ref (A 21), .ref (A 22), .int (σ.1 18 14), .ref (A 23), .ref (A 24), .int (σ.1 18 17), .ref (A 25), .int (σ.1 18 19), .int (σ.1 18 20), .int (σ.1 18 21), .int (σ.1 18 22), .int (σ.1 18 23), .int (σ.1 18 24), .int (σ.1 18 25), .int (σ.1 18 26), .ref (A 26), .ref (A 27), .long (σ.2.1 0), .int (σ.1 18 30), .int (σ.1 18 31), .int (σ.1 18 32), .int (σ.1 18 33), .int (σ.1 18 34), .int (σ.1 18 35), .int (σ.1 18 36), .ref (A 28), .ref (A 29), .long (σ.2.1 1)])) = gW cy A (sV σ 18 2 v) := rfl
theorem gp_18_3 (cy : Nat → ClassId) (A : Nat → Nat) (σ : St) (v : Int32) : (gW cy A σ).set 18 (A 18, .inr (12, [.int (σ.1 18 0), .int (σ.1 18 1), .int (σ.1 18 2), .int v, .int (σ.1 18 4), .int (σ.1 18 5), .int (σ.1 18 6), .int (σ.1 18 7), .int (σ.1 18 8), .int (σ.1 18 9), .ref (A 19), .ref (A 20), .ref (A 21), .ref (A 22), .int (σ.1 18 14), .ref (A 23), .ref (A 24), .int (σ.1 18 17), .ref (A 25), .int (σ.1 18 19), .int (σ.1 18 20), .int (σ.1 18 21), .int (σ.1 18 22), .int (σ.1 18 23), .int (σ.1 18 24), .int (σ.1 18 25), .int (σ.1 18 26), .ref (A 26), .ref (A 27), .long (σ.2.1 0), .int (σ.1 18 30), .int (σ.1 18 31), .int (σ.1 18 32), .int (σ.1 18 33), .int (σ.1 18 34), .int (σ.1 18 35), .int (σ.1 18 36), .ref (A 28), .ref (A 29), .long (σ.2.1 1)])) = gW cy A (sV σ 18 3 v) := rfl
theorem gp_18_4 (cy : Nat → ClassId) (A : Nat → Nat) (σ : St) (v : Int32) : (gW cy A σ).set 18 (A 18, .inr (12, [.int (σ.1 18 0), .int (σ.1 18 1), .int (σ.1 18 2), .int (σ.1 18 3), .int v, .int (σ.1 18 5), .int (σ.1 18 6), .int (σ.1 18 7), .int (σ.1 18 8), .int (σ.1 18 9), .ref (A 19), .ref (A 20), .ref (A 21), .ref (A 22), .int (σ.1 18 14), .ref (A 23), .ref (A 24), .int (σ.1 18 17), .ref (A 25), .int (σ.1 18 19), .int (σ.1 18 20), .int (σ.1 18 21), .int (σ.1 18 22), .int (σ.1 18 23), .int (σ.1 18 24), .int (σ.1 18 25), .int (σ.1 18 26), .ref (A 26), .ref (A 27), .long (σ.2.1 0), .int (σ.1 18 30), .int (σ.1 18 31), .int (σ.1 18 32), .int (σ.1 18 33), .int (σ.1 18 34), .int (σ.1 18 35), .int (σ.1 18 36), .ref (A 28), .ref (A 29), .long (σ.2.1 1)])) = gW cy A (sV σ 18 4 v) := rfl
theorem gp_18_5 (cy : Nat → ClassId) (A : Nat → Nat) (σ : St) (v : Int32) : (gW cy A σ).set 18 (A 18, .inr (12, [.int (σ.1 18 0), .int (σ.1 18 1), .int (σ.1 18 2), .int (σ.1 18 3), .int (σ.1 18 4), .int v, .int (σ.1 18 6), .int (σ.1 18 7), .int (σ.1 18 8), .int (σ.1 18 9), .ref (A 19), .ref (A 20), .ref (A 21), .ref (A 22), .int (σ.1 18 14), .ref (A 23), .ref (A 24), .int (σ.1 18 17), .ref (A 25), .int (σ.1 18 19), .int (σ.1 18 20), .int (σ.1 18 21), .int (σ.1 18 22), .int (σ.1 18 23), .int (σ.1 18 24), .int (σ.1 18 25), .int (σ.1 18 26), .ref (A 26), .ref (A 27), .long (σ.2.1 0), .int (σ.1 18 30), .int (σ.1 18 31), .int (σ.1 18 32), .int (σ.1 18 33), .int (σ.1 18 34), .int (σ.1 18 35), .int (σ.1 18 36), .ref (A 28), .ref (A 29), .long (σ.2.1 1)])) = gW cy A (sV σ 18 5 v) := rfl
theorem gp_18_6 (cy : Nat → ClassId) (A : Nat → Nat) (σ : St) (v : Int32) : (gW cy A σ).set 18 (A 18, .inr (12, [.int (σ.1 18 0), .int (σ.1 18 1), .int (σ.1 18 2), .int (σ.1 18 3), .int (σ.1 18 4), .int (σ.1 18 5), .int v, .int (σ.1 18 7), .int (σ.1 18 8), .int (σ.1 18 9), .ref (A 19), .ref (A 20), .ref (A 21), .ref (A 22), .int (σ.1 18 14), .ref (A 23), .ref (A 24), .int (σ.1 18 17), .ref (A 25), .int (σ.1 18 19), .int (σ.1 18 20), .int (σ.1 18 21), .int (σ.1 18 22), .int (σ.1 18 23), .int (σ.1 18 24), .int (σ.1 18 25), .int (σ.1 18 26), .ref (A 26), .ref (A 27), .long (σ.2.1 0), .int (σ.1 18 30), .int (σ.1 18 31), .int (σ.1 18 32), .int (σ.1 18 33), .int (σ.1 18 34), .int (σ.1 18 35), .int (σ.1 18 36), .ref (A 28), .ref (A 29), .long (σ.2.1 1)])) = gW cy A (sV σ 18 6 v) := rfl
theorem gp_18_7 (cy : Nat → ClassId) (A : Nat → Nat) (σ : St) (v : Int32) : (gW cy A σ).set 18 (A 18, .inr (12, [.int (σ.1 18 0), .int (σ.1 18 1), .int (σ.1 18 2), .int (σ.1 18 3), .int (σ.1 18 4), .int (σ.1 18 5), .int (σ.1 18 6), .int v, .int (σ.1 18 8), .int (σ.1 18 9), .ref (A 19), .ref (A 20), .ref (A 21), .ref (A 22), .int (σ.1 18 14), .ref (A 23), .ref (A 24), .int (σ.1 18 17), .ref (A 25), .int (σ.1 18 19), .int (σ.1 18 20), .int (σ.1 18 21), .int (σ.1 18 22), .int (σ.1 18 23), .int (σ.1 18 24), .int (σ.1 18 25), .int (σ.1 18 26), .ref (A 26), .ref (A 27), .long (σ.2.1 0), .int (σ.1 18 30), .int (σ.1 18 31), .int (σ.1 18 32), .int (σ.1 18 33), .int (σ.1 18 34), .int (σ.1 18 35), .int (σ.1 18 36), .ref (A 28), .ref (A 29), .long (σ.2.1 1)])) = gW cy A (sV σ 18 7 v) := rfl
theorem gp_18_8 (cy : Nat → ClassId) (A : Nat → Nat) (σ : St) (v : Int32) : (gW cy A σ).set 18 (A 18, .inr (12, [.int (σ.1 18 0), .int (σ.1 18 1), .int (σ.1 18 2), .int (σ.1 18 3), .int (σ.1 18 4), .int (σ.1 18 5), .int (σ.1 18 6), .int (σ.1 18 7), .int v, .int (σ.1 18 9), .ref (A 19), .ref (A 20), .ref (A 21), .ref (A 22), .int (σ.1 18 14), .ref (A 23), .ref (A 24), .int (σ.1 18 17), .ref (A 25), .int (σ.1 18 19), .int (σ.1 18 20), .int (σ.1 18 21), .int (σ.1 18 22), .int (σ.1 18 23), .int (σ.1 18 24), .int (σ.1 18 25), .int (σ.1 18 26), .ref (A 26), .ref (A 27), .long (σ.2.1 0), .int (σ.1 18 30), .int (σ.1 18 31), .int (σ.1 18 32), .int (σ.1 18 33), .int (σ.1 18 34), .int (σ.1 18 35), .int (σ.1 18 36), .ref (A 28), .ref (A 29), .long (σ.2.1 1)])) = gW cy A (sV σ 18 8 v) := rfl
theorem gp_18_9 (cy : Nat → ClassId) (A : Nat → Nat) (σ : St) (v : Int32) : (gW cy A σ).set 18 (A 18, .inr (12, [.int (σ.1 18 0), .int (σ.1 18 1), .int (σ.1 18 2), .int (σ.1 18 3), .int (σ.1 18 4), .int (σ.1 18 5), .int (σ.1 18 6), .int (σ.1 18 7), .int (σ.1 18 8), .int v, .ref (A 19), .ref (A 20), .ref (A 21), .ref (A 22), .int (σ.1 18 14), .ref (A 23), .ref (A 24), .int (σ.1 18 17), .ref (A 25), .int (σ.1 18 19), .int (σ.1 18 20), .int (σ.1 18 21), .int (σ.1 18 22), .int (σ.1 18 23), .int (σ.1 18 24), .int (σ.1 18 25), .int (σ.1 18 26), .ref (A 26), .ref (A 27), .long (σ.2.1 0), .int (σ.1 18 30), .int (σ.1 18 31), .int (σ.1 18 32), .int (σ.1 18 33), .int (σ.1 18 34), .int (σ.1 18 35), .int (σ.1 18 36), .ref (A 28), .ref (A 29), .long (σ.2.1 1)])) = gW cy A (sV σ 18 9 v) := rfl
theorem gp_18_14 (cy : Nat → ClassId) (A : Nat → Nat) (σ : St) (v : Int32) : (gW cy A σ).set 18 (A 18, .inr (12, [.int (σ.1 18 0), .int (σ.1 18 1), .int (σ.1 18 2), .int (σ.1 18 3), .int (σ.1 18 4), .int (σ.1 18 5), .int (σ.1 18 6), .int (σ.1 18 7), .int (σ.1 18 8), .int (σ.1 18 9), .ref (A 19), .ref (A 20), .ref (A 21), .ref (A 22), .int v, .ref (A 23), .ref (A 24), .int (σ.1 18 17), .ref (A 25), .int (σ.1 18 19), .int (σ.1 18 20), .int (σ.1 18 21), .int (σ.1 18 22), .int (σ.1 18 23), .int (σ.1 18 24), .int (σ.1 18 25), .int (σ.1 18 26), .ref (A 26), .ref (A 27), .long (σ.2.1 0), .int (σ.1 18 30), .int (σ.1 18 31), .int (σ.1 18 32), .int (σ.1 18 33), .int (σ.1 18 34), .int (σ.1 18 35), .int (σ.1 18 36), .ref (A 28), .ref (A 29), .long (σ.2.1 1)])) = gW cy A (sV σ 18 14 v) := rfl
theorem gp_18_17 (cy : Nat → ClassId) (A : Nat → Nat) (σ : St) (v : Int32) : (gW cy A σ).set 18 (A 18, .inr (12, [.int (σ.1 18 0), .int (σ.1 18 1), .int (σ.1 18 2), .int (σ.1 18 3), .int (σ.1 18 4), .int (σ.1 18 5), .int (σ.1 18 6), .int (σ.1 18 7), .int (σ.1 18 8), .int (σ.1 18 9), .ref (A 19), .ref (A 20), .ref (A 21), .ref (A 22), .int (σ.1 18 14), .ref (A 23), .ref (A 24), .int v, .ref (A 25), .int (σ.1 18 19), .int (σ.1 18 20), .int (σ.1 18 21), .int (σ.1 18 22), .int (σ.1 18 23), .int (σ.1 18 24), .int (σ.1 18 25), .int (σ.1 18 26), .ref (A 26), .ref (A 27), .long (σ.2.1 0), .int (σ.1 18 30), .int (σ.1 18 31), .int (σ.1 18 32), .int (σ.1 18 33), .int (σ.1 18 34), .int (σ.1 18 35), .int (σ.1 18 36), .ref (A 28), .ref (A 29), .long (σ.2.1 1)])) = gW cy A (sV σ 18 17 v) := rfl
theorem gp_18_19 (cy : Nat → ClassId) (A : Nat → Nat) (σ : St) (v : Int32) : (gW cy A σ).set 18 (A 18, .inr (12, [.int (σ.1 18 0), .int (σ.1 18 1), .int (σ.1 18 2), .int (σ.1 18 3), .int (σ.1 18 4), .int (σ.1 18 5), .int (σ.1 18 6), .int (σ.1 18 7), .int (σ.1 18 8), .int (σ.1 18 9), .ref (A 19), .ref (A 20), .ref (A 21), .ref (A 22), .int (σ.1 18 14), .ref (A 23), .ref (A 24), .int (σ.1 18 17), .ref (A 25), .int v, .int (σ.1 18 20), .int (σ.1 18 21), .int (σ.1 18 22), .int (σ.1 18 23), .int (σ.1 18 24), .int (σ.1 18 25), .int (σ.1 18 26), .ref (A 26), .ref (A 27), .long (σ.2.1 0), .int (σ.1 18 30), .int (σ.1 18 31), .int (σ.1 18 32), .int (σ.1 18 33), .int (σ.1 18 34), .int (σ.1 18 35), .int (σ.1 18 36), .ref (A 28), .ref (A 29), .long (σ.2.1 1)])) = gW cy A (sV σ 18 19 v) := rfl
theorem gp_18_20 (cy : Nat → ClassId) (A : Nat → Nat) (σ : St) (v : Int32) : (gW cy A σ).set 18 (A 18, .inr (12, [.int (σ.1 18 0), .int (σ.1 18 1), .int (σ.1 18 2), .int (σ.1 18 3), .int (σ.1 18 4), .int (σ.1 18 5), .int (σ.1 18 6), .int (σ.1 18 7), .int (σ.1 18 8), .int (σ.1 18 9), .ref (A 19), .ref (A 20), .ref (A 21), .ref (A 22), .int (σ.1 18 14), .ref (A 23), .ref (A 24), .int (σ.1 18 17), .ref (A 25), .int (σ.1 18 19), .int v, .int (σ.1 18 21), .int (σ.1 18 22), .int (σ.1 18 23), .int (σ.1 18 24), .int (σ.1 18 25), .int (σ.1 18 26), .ref (A 26), .ref (A 27), .long (σ.2.1 0), .int (σ.1 18 30), .int (σ.1 18 31), .int (σ.1 18 32), .int (σ.1 18 33), .int (σ.1 18 34), .int (σ.1 18 35), .int (σ.1 18 36), .ref (A 28), .ref (A 29), .long (σ.2.1 1)])) = gW cy A (sV σ 18 20 v) := rfl
theorem gp_18_21 (cy : Nat → ClassId) (A : Nat → Nat) (σ : St) (v : Int32) : (gW cy A σ).set 18 (A 18, .inr (12, [.int (σ.1 18 0), .int (σ.1 18 1), .int (σ.1 18 2), .int (σ.1 18 3), .int (σ.1 18 4), .int (σ.1 18 5), .int (σ.1 18 6), .int (σ.1 18 7), .int (σ.1 18 8), .int (σ.1 18 9), .ref (A 19), .ref (A 20), .ref (A 21), .ref (A 22), .int (σ.1 18 14), .ref (A 23), .ref (A 24), .int (σ.1 18 17), .ref (A 25), .int (σ.1 18 19), .int (σ.1 18 20), .int v, .int (σ.1 18 22), .int (σ.1 18 23), .int (σ.1 18 24), .int (σ.1 18 25), .int (σ.1 18 26), .ref (A 26), .ref (A 27), .long (σ.2.1 0), .int (σ.1 18 30), .int (σ.1 18 31), .int (σ.1 18 32), .int (σ.1 18 33), .int (σ.1 18 34), .int (σ.1 18 35), .int (σ.1 18 36), .ref (A 28), .ref (A 29), .long (σ.2.1 1)])) = gW cy A (sV σ 18 21 v) := rfl
theorem gp_18_22 (cy : Nat → ClassId) (A : Nat → Nat) (σ : St) (v : Int32) : (gW cy A σ).set 18 (A 18, .inr (12, [.int (σ.1 18 0), .int (σ.1 18 1), .int (σ.1 18 2), .int (σ.1 18 3), .int (σ.1 18 4), .int (σ.1 18 5), .int (σ.1 18 6), .int (σ.1 18 7), .int (σ.1 18 8), .int (σ.1 18 9), .ref (A 19), .ref (A 20), .ref (A 21), .ref (A 22), .int (σ.1 18 14), .ref (A 23), .ref (A 24), .int (σ.1 18 17), .ref (A 25), .int (σ.1 18 19), .int (σ.1 18 20), .int (σ.1 18 21), .int v, .int (σ.1 18 23), .int (σ.1 18 24), .int (σ.1 18 25), .int (σ.1 18 26), .ref (A 26), .ref (A 27), .long (σ.2.1 0), .int (σ.1 18 30), .int (σ.1 18 31), .int (σ.1 18 32), .int (σ.1 18 33), .int (σ.1 18 34), .int (σ.1 18 35), .int (σ.1 18 36), .ref (A 28), .ref (A 29), .long (σ.2.1 1)])) = gW cy A (sV σ 18 22 v) := rfl
theorem gp_18_23 (cy : Nat → ClassId) (A : Nat → Nat) (σ : St) (v : Int32) : (gW cy A σ).set 18 (A 18, .inr (12, [.int (σ.1 18 0), .int (σ.1 18 1), .int (σ.1 18 2), .int (σ.1 18 3), .int (σ.1 18 4), .int (σ.1 18 5), .int (σ.1 18 6), .int (σ.1 18 7), .int (σ.1 18 8), .int (σ.1 18 9), .ref (A 19), .ref (A 20), .ref (A 21), .ref (A 22), .int (σ.1 18 14), .ref (A 23), .ref (A 24), .int (σ.1 18 17), .ref (A 25), .int (σ.1 18 19), .int (σ.1 18 20), .int (σ.1 18 21), .int (σ.1 18 22), .int v, .int (σ.1 18 24), .int (σ.1 18 25), .int (σ.1 18 26), .ref (A 26), .ref (A 27), .long (σ.2.1 0), .int (σ.1 18 30), .int (σ.1 18 31), .int (σ.1 18 32), .int (σ.1 18 33), .int (σ.1 18 34), .int (σ.1 18 35), .int (σ.1 18 36), .ref (A 28), .ref (A 29), .long (σ.2.1 1)])) = gW cy A (sV σ 18 23 v) := rfl
theorem gp_18_24 (cy : Nat → ClassId) (A : Nat → Nat) (σ : St) (v : Int32) : (gW cy A σ).set 18 (A 18, .inr (12, [.int (σ.1 18 0), .int (σ.1 18 1), .int (σ.1 18 2), .int (σ.1 18 3), .int (σ.1 18 4), .int (σ.1 18 5), .int (σ.1 18 6), .int (σ.1 18 7), .int (σ.1 18 8), .int (σ.1 18 9), .ref (A 19), .ref (A 20), .ref (A 21), .ref (A 22), .int (σ.1 18 14), .ref (A 23), .ref (A 24), .int (σ.1 18 17), .ref (A 25), .int (σ.1 18 19), .int (σ.1 18 20), .int (σ.1 18 21), .int (σ.1 18 22), .int (σ.1 18 23), .int v, .int (σ.1 18 25), .int (σ.1 18 26), .ref (A 26), .ref (A 27), .long (σ.2.1 0), .int (σ.1 18 30), .int (σ.1 18 31), .int (σ.1 18 32), .int (σ.1 18 33), .int (σ.1 18 34), .int (σ.1 18 35), .int (σ.1 18 36), .ref (A 28), .ref (A 29), .long (σ.2.1 1)])) = gW cy A (sV σ 18 24 v) := rfl
theorem gp_18_25 (cy : Nat → ClassId) (A : Nat → Nat) (σ : St) (v : Int32) : (gW cy A σ).set 18 (A 18, .inr (12, [.int (σ.1 18 0), .int (σ.1 18 1), .int (σ.1 18 2), .int (σ.1 18 3), .int (σ.1 18 4), .int (σ.1 18 5), .int (σ.1 18 6), .int (σ.1 18 7), .int (σ.1 18 8), .int (σ.1 18 9), .ref (A 19), .ref (A 20), .ref (A 21), .ref (A 22), .int (σ.1 18 14), .ref (A 23), .ref (A 24), .int (σ.1 18 17), .ref (A 25), .int (σ.1 18 19), .int (σ.1 18 20), .int (σ.1 18 21), .int (σ.1 18 22), .int (σ.1 18 23), .int (σ.1 18 24), .int v, .int (σ.1 18 26), .ref (A 26), .ref (A 27), .long (σ.2.1 0), .int (σ.1 18 30), .int (σ.1 18 31), .int (σ.1 18 32), .int (σ.1 18 33), .int (σ.1 18 34), .int (σ.1 18 35), .int (σ.1 18 36), .ref (A 28), .ref (A 29), .long (σ.2.1 1)])) = gW cy A (sV σ 18 25 v) := rfl
theorem gp_18_26 (cy : Nat → ClassId) (A : Nat → Nat) (σ : St) (v : Int32) : (gW cy A σ).set 18 (A 18, .inr (12, [.int (σ.1 18 0), .int (σ.1 18 1), .int (σ.1 18 2), .int (σ.1 18 3), .int (σ.1 18 4), .int (σ.1 18 5), .int (σ.1 18 6), .int (σ.1 18 7), .int (σ.1 18 8), .int (σ.1 18 9), .ref (A 19), .ref (A 20), .ref (A 21), .ref (A 22), .int (σ.1 18 14), .ref (A 23), .ref (A 24), .int (σ.1 18 17), .ref (A 25), .int (σ.1 18 19), .int (σ.1 18 20), .int (σ.1 18 21), .int (σ.1 18 22), .int (σ.1 18 23), .int (σ.1 18 24), .int (σ.1 18 25), .int v, .ref (A 26), .ref (A 27), .long (σ.2.1 0), .int (σ.1 18 30), .int (σ.1 18 31), .int (σ.1 18 32), .int (σ.1 18 33), .int (σ.1 18 34), .int (σ.1 18 35), .int (σ.1 18 36), .ref (A 28), .ref (A 29), .long (σ.2.1 1)])) = gW cy A (sV σ 18 26 v) := rfl
theorem gp_18_30 (cy : Nat → ClassId) (A : Nat → Nat) (σ : St) (v : Int32) : (gW cy A σ).set 18 (A 18, .inr (12, [.int (σ.1 18 0), .int (σ.1 18 1), .int (σ.1 18 2), .int (σ.1 18 3), .int (σ.1 18 4), .int (σ.1 18 5), .int (σ.1 18 6), .int (σ.1 18 7), .int (σ.1 18 8), .int (σ.1 18 9), .ref (A 19), .ref (A 20), .ref (A 21), .ref (A 22), .int (σ.1 18 14), .ref (A 23), .ref (A 24), .int (σ.1 18 17), .ref (A 25), .int (σ.1 18 19), .int (σ.1 18 20), .int (σ.1 18 21), .int (σ.1 18 22), .int (σ.1 18 23), .int (σ.1 18 24), .int (σ.1 18 25), .int (σ.1 18 26), .ref (A 26), .ref (A 27), .long (σ.2.1 0), .int v, .int (σ.1 18 31), .int (σ.1 18 32), .int (σ.1 18 33), .int (σ.1 18 34), .int (σ.1 18 35), .int (σ.1 18 36), .ref (A 28), .ref (A 29), .long (σ.2.1 1)])) = gW cy A (sV σ 18 30 v) := rfl
theorem gp_18_31 (cy : Nat → ClassId) (A : Nat → Nat) (σ : St) (v : Int32) : (gW cy A σ).set 18 (A 18, .inr (12, [.int (σ.1 18 0), .int (σ.1 18 1), .int (σ.1 18 2), .int (σ.1 18 3), .int (σ.1 18 4), .int (σ.1 18 5), .int (σ.1 18 6), .int (σ.1 18 7), .int (σ.1 18 8), .int (σ.1 18 9), .ref (A 19), .ref (A 20), .ref (A 21), .ref (A 22), .int (σ.1 18 14), .ref (A 23), .ref (A 24), .int (σ.1 18 17), .ref (A 25), .int (σ.1 18 19), .int (σ.1 18 20), .int (σ.1 18 21), .int (σ.1 18 22), .int (σ.1 18 23), .int (σ.1 18 24), .int (σ.1 18 25), .int (σ.1 18 26), .ref (A 26), .ref (A 27), .long (σ.2.1 0), .int (σ.1 18 30), .int v, .int (σ.1 18 32), .int (σ.1 18 33), .int (σ.1 18 34), .int (σ.1 18 35), .int (σ.1 18 36), .ref (A 28), .ref (A 29), .long (σ.2.1 1)])) = gW cy A (sV σ 18 31 v) := rfl
theorem gp_18_32 (cy : Nat → ClassId) (A : Nat → Nat) (σ : St) (v : Int32) : (gW cy A σ).set 18 (A 18, .inr (12, [.int (σ.1 18 0), .int (σ.1 18 1), .int (σ.1 18 2), .int (σ.1 18 3), .int (σ.1 18 4), .int (σ.1 18 5), .int (σ.1 18 6), .int (σ.1 18 7), .int (σ.1 18 8), .int (σ.1 18 9), .ref (A 19), .ref (A 20), .ref (A 21), .ref (A 22), .int (σ.1 18 14), .ref (A 23), .ref (A 24), .int (σ.1 18 17), .ref (A 25), .int (σ.1 18 19), .int (σ.1 18 20), .int (σ.1 18 21), .int (σ.1 18 22), .int (σ.1 18 23), .int (σ.1 18 24), .int (σ.1 18 25), .int (σ.1 18 26), .ref (A 26), .ref (A 27), .long (σ.2.1 0), .int (σ.1 18 30), .int (σ.1 18 31), .int v, .int (σ.1 18 33), .int (σ.1 18 34), .int (σ.1 18 35), .int (σ.1 18 36), .ref (A 28), .ref (A 29), .long (σ.2.1 1)])) = gW cy A (sV σ 18 32 v) := rfl
theorem gp_18_33 (cy : Nat → ClassId) (A : Nat → Nat) (σ : St) (v : Int32) : (gW cy A σ).set 18 (A 18, .inr (12, [.int (σ.1 18 0), .int (σ.1 18 1), .int (σ.1 18 2), .int (σ.1 18 3), .int (σ.1 18 4), .int (σ.1 18 5), .int (σ.1 18 6), .int (σ.1 18 7), .int (σ.1 18 8), .int (σ.1 18 9), .ref (A 19), .ref (A 20), .ref (A 21), .ref (A 22), .int (σ.1 18 14), .ref (A 23), .ref (A 24), .int (σ.1 18 17), .ref (A 25), .int (σ.1 18 19), .int (σ.1 18 20), .int (σ.1 18 21), .int (σ.1 18 22), .int (σ.1 18 23), .int (σ.1 18 24), .int (σ.1 18 25), .int (σ.1 18 26), .ref (A 26), .ref (A 27), .long (σ.2.1 0), .int (σ.1 18 30), .int (σ.1 18 31), .int (σ.1 18 32), .int v, .int (σ.1 18 34), .int (σ.1 18 35), .int (σ.1 18 36), .ref (A 28), .ref (A 29), .long (σ.2.1 1)])) = gW cy A (sV σ 18 33 v) := rfl
theorem gp_18_34 (cy : Nat → ClassId) (A : Nat → Nat) (σ : St) (v : Int32) : (gW cy A σ).set 18 (A 18, .inr (12, [.int (σ.1 18 0), .int (σ.1 18 1), .int (σ.1 18 2), .int (σ.1 18 3), .int (σ.1 18 4), .int (σ.1 18 5), .int (σ.1 18 6), .int (σ.1 18 7), .int (σ.1 18 8), .int (σ.1 18 9), .ref (A 19), .ref (A 20), .ref (A 21), .ref (A 22), .int (σ.1 18 14), .ref (A 23), .ref (A 24), .int (σ.1 18 17), .ref (A 25), .int (σ.1 18 19), .int (σ.1 18 20), .int (σ.1 18 21), .int (σ.1 18 22), .int (σ.1 18 23), .int (σ.1 18 24), .int (σ.1 18 25), .int (σ.1 18 26), .ref (A 26), .ref (A 27), .long (σ.2.1 0), .int (σ.1 18 30), .int (σ.1 18 31), .int (σ.1 18 32), .int (σ.1 18 33), .int v, .int (σ.1 18 35), .int (σ.1 18 36), .ref (A 28), .ref (A 29), .long (σ.2.1 1)])) = gW cy A (sV σ 18 34 v) := rfl
theorem gp_18_35 (cy : Nat → ClassId) (A : Nat → Nat) (σ : St) (v : Int32) : (gW cy A σ).set 18 (A 18, .inr (12, [.int (σ.1 18 0), .int (σ.1 18 1), .int (σ.1 18 2), .int (σ.1 18 3), .int (σ.1 18 4), .int (σ.1 18 5), .int (σ.1 18 6), .int (σ.1 18 7), .int (σ.1 18 8), .int (σ.1 18 9), .ref (A 19), .ref (A 20), .ref (A 21), .ref (A 22), .int (σ.1 18 14), .ref (A 23), .ref (A 24), .int (σ.1 18 17), .ref (A 25), .int (σ.1 18 19), .int (σ.1 18 20), .int (σ.1 18 21), .int (σ.1 18 22), .int (σ.1 18 23), .int (σ.1 18 24), .int (σ.1 18 25), .int (σ.1 18 26), .ref (A 26), .ref (A 27), .long (σ.2.1 0), .int (σ.1 18 30), .int (σ.1 18 31), .int (σ.1 18 32), .int (σ.1 18 33), .int (σ.1 18 34), .int v, .int (σ.1 18 36), .ref (A 28), .ref (A 29), .long (σ.2.1 1)])) = gW cy A (sV σ 18 35 v) := rfl
theorem gp_18_36 (cy : Nat → ClassId) (A : Nat → Nat) (σ : St) (v : Int32) : (gW cy A σ).set 18 (A 18, .inr (12, [.int (σ.1 18 0), .int (σ.1 18 1), .int (σ.1 18 2), .int (σ.1 18 3), .int (σ.1 18 4), .int (σ.1 18 5), .int (σ.1 18 6), .int (σ.1 18 7), .int (σ.1 18 8), .int (σ.1 18 9), .ref (A 19), .ref (A 20), .ref (A 21), .ref (A 22), .int (σ.1 18 14), .ref (A 23), .ref (A 24), .int (σ.1 18 17), .ref (A 25), .int (σ.1 18 19), .int (σ.1 18 20), .int (σ.1 18 21), .int (σ.1 18 22), .int (σ.1 18 23), .int (σ.1 18 24), .int (σ.1 18 25), .int (σ.1 18 26), .ref (A 26), .ref (A 27), .long (σ.2.1 0), .int (σ.1 18 30), .int (σ.1 18 31), .int (σ.1 18 32), .int (σ.1 18 33), .int (σ.1 18 34), .int (σ.1 18 35), .int v, .ref (A 28), .ref (A 29), .long (σ.2.1 1)])) = gW cy A (sV σ 18 36 v) := rfl
theorem gp_c_0 (cy : Nat → ClassId) (A : Nat → Nat) (σ : St) (v : Int32) {k : Nat} (h : isC k) : (gW cy A σ).set k (A k, .inr (0, [.int v, .int (σ.1 k 1), .int (σ.1 k 2), .int (σ.1 k 3), .int (σ.1 k 4), .int (σ.1 k 5), .int (σ.1 k 6)])) = gW cy A (sV σ k 0 v) := by
  rcases h with rfl | rfl | rfl <;> rfl
theorem gp_c_1 (cy : Nat → ClassId) (A : Nat → Nat) (σ : St) (v : Int32) {k : Nat} (h : isC k) : (gW cy A σ).set k (A k, .inr (0, [.int (σ.1 k 0), .int v, .int (σ.1 k 2), .int (σ.1 k 3), .int (σ.1 k 4), .int (σ.1 k 5), .int (σ.1 k 6)])) = gW cy A (sV σ k 1 v) := by
  rcases h with rfl | rfl | rfl <;> rfl
theorem gp_c_2 (cy : Nat → ClassId) (A : Nat → Nat) (σ : St) (v : Int32) {k : Nat} (h : isC k) : (gW cy A σ).set k (A k, .inr (0, [.int (σ.1 k 0), .int (σ.1 k 1), .int v, .int (σ.1 k 3), .int (σ.1 k 4), .int (σ.1 k 5), .int (σ.1 k 6)])) = gW cy A (sV σ k 2 v) := by
  rcases h with rfl | rfl | rfl <;> rfl
theorem gp_c_3 (cy : Nat → ClassId) (A : Nat → Nat) (σ : St) (v : Int32) {k : Nat} (h : isC k) : (gW cy A σ).set k (A k, .inr (0, [.int (σ.1 k 0), .int (σ.1 k 1), .int (σ.1 k 2), .int v, .int (σ.1 k 4), .int (σ.1 k 5), .int (σ.1 k 6)])) = gW cy A (sV σ k 3 v) := by
  rcases h with rfl | rfl | rfl <;> rfl
theorem gp_c_4 (cy : Nat → ClassId) (A : Nat → Nat) (σ : St) (v : Int32) {k : Nat} (h : isC k) : (gW cy A σ).set k (A k, .inr (0, [.int (σ.1 k 0), .int (σ.1 k 1), .int (σ.1 k 2), .int (σ.1 k 3), .int v, .int (σ.1 k 5), .int (σ.1 k 6)])) = gW cy A (sV σ k 4 v) := by
  rcases h with rfl | rfl | rfl <;> rfl
theorem gp_c_5 (cy : Nat → ClassId) (A : Nat → Nat) (σ : St) (v : Int32) {k : Nat} (h : isC k) : (gW cy A σ).set k (A k, .inr (0, [.int (σ.1 k 0), .int (σ.1 k 1), .int (σ.1 k 2), .int (σ.1 k 3), .int (σ.1 k 4), .int v, .int (σ.1 k 6)])) = gW cy A (sV σ k 5 v) := by
  rcases h with rfl | rfl | rfl <;> rfl
theorem gp_c_6 (cy : Nat → ClassId) (A : Nat → Nat) (σ : St) (v : Int32) {k : Nat} (h : isC k) : (gW cy A σ).set k (A k, .inr (0, [.int (σ.1 k 0), .int (σ.1 k 1), .int (σ.1 k 2), .int (σ.1 k 3), .int (σ.1 k 4), .int (σ.1 k 5), .int v])) = gW cy A (sV σ k 6 v) := by
  rcases h with rfl | rfl | rfl <;> rfl
theorem gp_18_29 (cy : Nat → ClassId) (A : Nat → Nat) (σ : St) (v : Int64) : (gW cy A σ).set 18 (A 18, .inr (12, [.int (σ.1 18 0), .int (σ.1 18 1), .int (σ.1 18 2), .int (σ.1 18 3), .int (σ.1 18 4), .int (σ.1 18 5), .int (σ.1 18 6), .int (σ.1 18 7), .int (σ.1 18 8), .int (σ.1 18 9), .ref (A 19), .ref (A 20), .ref (A 21), .ref (A 22), .int (σ.1 18 14), .ref (A 23), .ref (A 24), .int (σ.1 18 17), .ref (A 25), .int (σ.1 18 19), .int (σ.1 18 20), .int (σ.1 18 21), .int (σ.1 18 22), .int (σ.1 18 23), .int (σ.1 18 24), .int (σ.1 18 25), .int (σ.1 18 26), .ref (A 26), .ref (A 27), .long v, .int (σ.1 18 30), .int (σ.1 18 31), .int (σ.1 18 32), .int (σ.1 18 33), .int (σ.1 18 34), .int (σ.1 18 35), .int (σ.1 18 36), .ref (A 28), .ref (A 29), .long (σ.2.1 1)])) = gW cy A (sJ σ 0 v) := rfl
theorem gp_18_39 (cy : Nat → ClassId) (A : Nat → Nat) (σ : St) (v : Int64) : (gW cy A σ).set 18 (A 18, .inr (12, [.int (σ.1 18 0), .int (σ.1 18 1), .int (σ.1 18 2), .int (σ.1 18 3), .int (σ.1 18 4), .int (σ.1 18 5), .int (σ.1 18 6), .int (σ.1 18 7), .int (σ.1 18 8), .int (σ.1 18 9), .ref (A 19), .ref (A 20), .ref (A 21), .ref (A 22), .int (σ.1 18 14), .ref (A 23), .ref (A 24), .int (σ.1 18 17), .ref (A 25), .int (σ.1 18 19), .int (σ.1 18 20), .int (σ.1 18 21), .int (σ.1 18 22), .int (σ.1 18 23), .int (σ.1 18 24), .int (σ.1 18 25), .int (σ.1 18 26), .ref (A 26), .ref (A 27), .long (σ.2.1 0), .int (σ.1 18 30), .int (σ.1 18 31), .int (σ.1 18 32), .int (σ.1 18 33), .int (σ.1 18 34), .int (σ.1 18 35), .int (σ.1 18 36), .ref (A 28), .ref (A 29), .long v])) = gW cy A (sJ σ 1 v) := rfl
theorem gs_2 (cy : Nat → ClassId) (A : Nat → Nat) (σ : St) (b : Nat) (v : Int32) : (gW cy A σ).set 2 (A 2, .inl (cy 1, 12, .inl (upd (σ.1 2) b v))) = gW cy A (sV σ 2 b v) := rfl
theorem gs_6 (cy : Nat → ClassId) (A : Nat → Nat) (σ : St) (b : Nat) (v : Int32) : (gW cy A σ).set 6 (A 6, .inl (cy 2, 6, .inl (upd (σ.1 6) b v))) = gW cy A (sV σ 6 b v) := rfl
theorem gs_8 (cy : Nat → ClassId) (A : Nat → Nat) (σ : St) (b : Nat) (v : Int32) : (gW cy A σ).set 8 (A 8, .inl (cy 2, 6, .inl (upd (σ.1 8) b v))) = gW cy A (sV σ 8 b v) := rfl
theorem gs_9 (cy : Nat → ClassId) (A : Nat → Nat) (σ : St) (b : Nat) (v : Int32) : (gW cy A σ).set 9 (A 9, .inl (cy 2, 6, .inl (upd (σ.1 9) b v))) = gW cy A (sV σ 9 b v) := rfl
theorem gs_11 (cy : Nat → ClassId) (A : Nat → Nat) (σ : St) (b : Nat) (v : Int32) : (gW cy A σ).set 11 (A 11, .inl (cy 2, 6, .inl (upd (σ.1 11) b v))) = gW cy A (sV σ 11 b v) := rfl
theorem gs_12 (cy : Nat → ClassId) (A : Nat → Nat) (σ : St) (b : Nat) (v : Int32) : (gW cy A σ).set 12 (A 12, .inl (cy 2, 6, .inl (upd (σ.1 12) b v))) = gW cy A (sV σ 12 b v) := rfl
theorem gs_14 (cy : Nat → ClassId) (A : Nat → Nat) (σ : St) (b : Nat) (v : Int32) : (gW cy A σ).set 14 (A 14, .inl (cy 2, 41, .inl (upd (σ.1 14) b v))) = gW cy A (sV σ 14 b v) := rfl
theorem gs_15 (cy : Nat → ClassId) (A : Nat → Nat) (σ : St) (b : Nat) (v : Int32) : (gW cy A σ).set 15 (A 15, .inl (cy 2, 41, .inl (upd (σ.1 15) b v))) = gW cy A (sV σ 15 b v) := rfl
theorem gs_19 (cy : Nat → ClassId) (A : Nat → Nat) (σ : St) (b : Nat) (v : Int32) : (gW cy A σ).set 19 (A 19, .inl (cy 2, 6, .inl (upd (σ.1 19) b v))) = gW cy A (sV σ 19 b v) := rfl
theorem gs_20 (cy : Nat → ClassId) (A : Nat → Nat) (σ : St) (b : Nat) (v : Int32) : (gW cy A σ).set 20 (A 20, .inl (cy 2, 6, .inl (upd (σ.1 20) b v))) = gW cy A (sV σ 20 b v) := rfl
theorem gs_21 (cy : Nat → ClassId) (A : Nat → Nat) (σ : St) (b : Nat) (v : Int32) : (gW cy A σ).set 21 (A 21, .inl (cy 2, 6, .inl (upd (σ.1 21) b v))) = gW cy A (sV σ 21 b v) := rfl
theorem gs_22 (cy : Nat → ClassId) (A : Nat → Nat) (σ : St) (b : Nat) (v : Int32) : (gW cy A σ).set 22 (A 22, .inl (cy 2, 6, .inl (upd (σ.1 22) b v))) = gW cy A (sV σ 22 b v) := rfl
theorem gs_23 (cy : Nat → ClassId) (A : Nat → Nat) (σ : St) (b : Nat) (v : Int32) : (gW cy A σ).set 23 (A 23, .inl (cy 2, 6, .inl (upd (σ.1 23) b v))) = gW cy A (sV σ 23 b v) := rfl
theorem gs_24 (cy : Nat → ClassId) (A : Nat → Nat) (σ : St) (b : Nat) (v : Int32) : (gW cy A σ).set 24 (A 24, .inl (cy 2, 6, .inl (upd (σ.1 24) b v))) = gW cy A (sV σ 24 b v) := rfl
theorem gs_25 (cy : Nat → ClassId) (A : Nat → Nat) (σ : St) (b : Nat) (v : Int32) : (gW cy A σ).set 25 (A 25, .inl (cy 0, 12, .inl (upd (σ.1 25) b v))) = gW cy A (sV σ 25 b v) := rfl
theorem gs_26 (cy : Nat → ClassId) (A : Nat → Nat) (σ : St) (b : Nat) (v : Int32) : (gW cy A σ).set 26 (A 26, .inl (cy 2, 41, .inl (upd (σ.1 26) b v))) = gW cy A (sV σ 26 b v) := rfl
theorem gs_27 (cy : Nat → ClassId) (A : Nat → Nat) (σ : St) (b : Nat) (v : Int32) : (gW cy A σ).set 27 (A 27, .inl (cy 2, 41, .inl (upd (σ.1 27) b v))) = gW cy A (sV σ 27 b v) := rfl
theorem gs_28 (cy : Nat → ClassId) (A : Nat → Nat) (σ : St) (b : Nat) (v : Int32) : (gW cy A σ).set 28 (A 28, .inl (cy 2, 6, .inl (upd (σ.1 28) b v))) = gW cy A (sV σ 28 b v) := rfl
theorem gs_29 (cy : Nat → ClassId) (A : Nat → Nat) (σ : St) (b : Nat) (v : Int32) : (gW cy A σ).set 29 (A 29, .inl (cy 2, 6, .inl (upd (σ.1 29) b v))) = gW cy A (sV σ 29 b v) := rfl
theorem gs_5 (cy : Nat → ClassId) (A : Nat → Nat) (σ : St) (b : Nat) (r : Option Nat) : (gW cy A σ).set 5 (A 5, .inl (cy 3, 6, .inr (.inr (.inr (.inr (va_up σ.2.2.1 b r)))))) = gW cy A (sH σ b r) := rfl
theorem gt_0 (cy : Nat → ClassId) (A : Nat → Nat) (σ : St) (A0 : Nat → Prop) {a k : Nat} (v : Int32) (hD : va_D A0 (gW cy A σ)) (h : a ∈ σ.2.2.2.1) (hk : (gW cy A σ)[k]? = some (a, tcell σ a)) : (gW cy A σ).set k (a, .inr (σ.2.2.2.2.1 a, [.int v, .int (σ.2.2.2.2.2 a 1), .int (σ.2.2.2.2.2 a 2)])) = gW cy A (sT σ a 0 v) := by
  refine (va_pl_set (X := gX cy A σ) hD h hk).trans ?_
  refine congrArg (fun l => gX cy A σ ++ l) (va_pl_congr fun b => ?_)
  by_cases hb : b = a
  · subst hb
    simp [va_up, sT, up2, tcell]
  · simp [va_up, sT, up2, hb, tcell]
theorem gt_1 (cy : Nat → ClassId) (A : Nat → Nat) (σ : St) (A0 : Nat → Prop) {a k : Nat} (v : Int32) (hD : va_D A0 (gW cy A σ)) (h : a ∈ σ.2.2.2.1) (hk : (gW cy A σ)[k]? = some (a, tcell σ a)) : (gW cy A σ).set k (a, .inr (σ.2.2.2.2.1 a, [.int (σ.2.2.2.2.2 a 0), .int v, .int (σ.2.2.2.2.2 a 2)])) = gW cy A (sT σ a 1 v) := by
  refine (va_pl_set (X := gX cy A σ) hD h hk).trans ?_
  refine congrArg (fun l => gX cy A σ ++ l) (va_pl_congr fun b => ?_)
  by_cases hb : b = a
  · subst hb
    simp [va_up, sT, up2, tcell]
  · simp [va_up, sT, up2, hb, tcell]
theorem gt_2 (cy : Nat → ClassId) (A : Nat → Nat) (σ : St) (A0 : Nat → Prop) {a k : Nat} (v : Int32) (hD : va_D A0 (gW cy A σ)) (h : a ∈ σ.2.2.2.1) (hk : (gW cy A σ)[k]? = some (a, tcell σ a)) : (gW cy A σ).set k (a, .inr (σ.2.2.2.2.1 a, [.int (σ.2.2.2.2.2 a 0), .int (σ.2.2.2.2.2 a 1), .int v])) = gW cy A (sT σ a 2 v) := by
  refine (va_pl_set (X := gX cy A σ) hD h hk).trans ?_
  refine congrArg (fun l => gX cy A σ ++ l) (va_pl_congr fun b => ?_)
  by_cases hb : b = a
  · subst hb
    simp [va_up, sT, up2, tcell]
  · simp [va_up, sT, up2, hb, tcell]
theorem gn_T (cy : Nat → ClassId) (A : Nat → Nat) (σ : St) {a : Nat} (kd : Nat) (h : a ∉ σ.2.2.2.1) : gW cy A σ ++ [(a, .inr (kd, [.int 0, .int 0, .int 0]))] = gW cy A (sN σ a kd) := by
  unfold gW
  rw [List.append_assoc, va_pl_push h]
  refine congrArg (fun l => gX cy A σ ++ l) ?_
  show va_pl (σ.2.2.2.1 ++ [a]) _ = va_pl (σ.2.2.2.1 ++ [a]) _
  refine va_pl_congr fun b => ?_
  by_cases hb : b = a
  · subst hb
    simp [va_up, sN, tcell]
  · simp [va_up, sN, hb, tcell]

/-! words that ride beside the tables' -/
def nwM : List Cond := [.methodLinkNest RX0 43 yX11_isLength RX11, .methodLinkNest RX8 57 yX11_windingOf RX11, .methodLinkNest RX8 61 yX11_isLength RX11, .methodLinkNest RX11 9 yX7_init RX11, .methodLinkNest RX11 18 yX0_init RX11, .methodLinkNest RX11 25 yX6_init RX11, .methodLinkNest RX11 32 yX10_init RX11, .methodLinkNest RX11 39 yX2_init RX11, .methodLinkNest RX11 46 yX8_init RX11]
def nwC : List (String × String) := [(RX1, RX9), (RX3, RX9), (RX4, RX9), (RX5, RX9), (RX4, RX5)]
def nwN : List (String × String) := [(RX9, RX1), (RX9, RX3), (RX9, RX5), (RX9, RX4), (RX1, RX3), (RX1, RX5), (RX1, RX4), (RX3, RX1), (RX3, RX5), (RX3, RX4), (RX5, RX1), (RX5, RX3), (RX5, RX4), (RX4, RX1), (RX4, RX3)]
def NW (U : State) : Prop := (∀ w ∈ nwM, va_Nw w U) ∧ (∀ q ∈ nwC, va_Nw (.castable q.1 q.2) U) ∧ (∀ q ∈ nwN, va_Nc q.1 q.2 U) ∧ va_AO RX9 U
theorem NW.warm {s U : State} (hW : s.WarmedH U.vm) (h : NW s) : NW U := by
  refine ⟨fun w hw => ?_, fun q hq => va_Nw.warmC hW (h.2.1 q hq), fun q hq => va_Nc.moved hW.alike (h.2.2.1 q hq), va_AO.moved hW.alike h.2.2.2⟩
  have h1 := h.1 w hw
  simp only [nwM, List.mem_cons, List.mem_nil_iff, or_false, List.not_mem_nil] at hw
  rcases hw with rfl | rfl | rfl | rfl | rfl | rfl | rfl | rfl | rfl <;> exact va_Nw.warmM hW h1
theorem NW.calling {U : State} {g : JFrame} {mk : MethodId} {a : Array Value} (h : NW U) : NW (U.calling g mk a) := by
  refine ⟨fun w hw => ?_, fun q hq => va_Nw.same rfl (u := U) rfl (h.2.1 q hq), fun q hq => va_Nc.moved (u := U) (U := U.calling g mk a) (Vm.Alike.refl U.vm) (h.2.2.1 q hq), va_AO.moved (u := U) (U := U.calling g mk a) (Vm.Alike.refl U.vm) h.2.2.2⟩
  have h1 := h.1 w hw
  simp only [nwM, List.mem_cons, List.mem_nil_iff, or_false, List.not_mem_nil] at hw
  rcases hw with rfl | rfl | rfl | rfl | rfl | rfl | rfl | rfl | rfl <;> exact va_Nw.same rfl (u := U) rfl h1

/-! THE CONTEXT of a walk, in one row -/
abbrev qC : Type := Program × Launch × Env × Room × State × MethodId × Array Value × List Frame × Method × Code × (Nat → Prop) × va_G × (State → Prop) × Nat
abbrev q_p (κ : qC) : Program := κ.1
abbrev q_l (κ : qC) : Launch := κ.2.1
abbrev q_e (κ : qC) : Env := κ.2.2.1
abbrev q_R (κ : qC) : Room := κ.2.2.2.1
abbrev q_s (κ : qC) : State := κ.2.2.2.2.1
abbrev q_m (κ : qC) : MethodId := κ.2.2.2.2.2.1
abbrev q_a (κ : qC) : Array Value := κ.2.2.2.2.2.2.1
abbrev q_b (κ : qC) : List Frame := κ.2.2.2.2.2.2.2.1
abbrev q_M (κ : qC) : Method := κ.2.2.2.2.2.2.2.2.1
abbrev q_c (κ : qC) : Code := κ.2.2.2.2.2.2.2.2.2.1
abbrev q_A (κ : qC) : Nat → Prop := κ.2.2.2.2.2.2.2.2.2.2.1
abbrev q_D (κ : qC) : va_G := κ.2.2.2.2.2.2.2.2.2.2.2.1
abbrev q_Q (κ : qC) : State → Prop := κ.2.2.2.2.2.2.2.2.2.2.2.2.1
abbrev q_n (κ : qC) : Nat := κ.2.2.2.2.2.2.2.2.2.2.2.2.2
def GW (κ : qC) (k n : Nat) (ws : va_W) (pc : Nat) (lv : List (Nat × Value)) (st : List Value) : Prop :=
  ∀ (H : Heap) (locs : List Loc), va_P (q_D κ) vwCl ws H → va_D (q_A κ) ws → va_S (q_A κ) (q_s κ).heap H locs → ∀ ls : Array Slot, lv_has ls (q_n κ) lv → W (q_p κ) (q_l κ) (q_e κ) (q_R κ) (q_s κ) (q_m κ) (q_a κ) (q_b κ) (q_M κ) (q_c κ) H locs k n (q_Q κ) (F0 (q_m κ) pc ls st)
/-- what holds all along a walk -/
def Cx (κ : qC) (cc : ByteArray) (own : String) (Ts : List Cond) (Rm : Room) : Prop :=
  (q_p κ).tables.exec = Jvm.exec ∧ (q_c κ).code = cc ∧ (q_c κ).maxLocals = q_n κ ∧ (q_s κ).vm.findClass own = some (q_m κ).cls ∧ (∀ w ∈ Ts, w.before (q_a κ) (q_s κ) = true) ∧ (∀ q, (q_s κ).heap.size ≤ q → q_A κ q) ∧ NW (q_s κ) ∧ (q_M κ).locks = false ∧ q_R κ = Rm
section GR
variable {κ : qC} {cc : ByteArray} {own : String} {Ts : List Cond} {Rm : Room} {k n : Nat} {ws : va_W} {pc : Nat} {lv : List (Nat × Value)} {st : List Value}
theorem g_widen {k' n' : Nat} (h1 : k ≤ k') (h2 : n ≤ n') (h : GW κ k' n' ws pc lv st) : GW κ k n ws pc lv st := fun H locs hP hD hS ls hl => W.widen h1 h2 (h H locs hP hD hS ls hl)
theorem g_eqs {ws' : va_W} (e : ws = ws') (h : GW κ k n ws' pc lv st) : GW κ k n ws pc lv st := e ▸ h
theorem g_eqv {st' : List Value} (e : st = st') (h : GW κ k n ws pc lv st') : GW κ k n ws pc lv st := e ▸ h
theorem g_eql {lv' : List (Nat × Value)} (ks : List Nat) (e : lv_pick lv ks = lv') (h : GW κ k n ws pc lv' st) : GW κ k n ws pc lv st := fun H locs hP hD hS ls hl => h H locs hP hD hS ls (lv_sub hl ks e)

theorem g_iconst (C : Cx κ cc own Ts Rm) {i : Int} {v : Int32} (hdg : decode cc pc = .ok (.iconst i, 1)) (hv : Int32.ofInt i = v) (h : GW κ k n ws (pc + 1) lv (.int v :: st)) : GW κ k n ws pc lv (st) := fun H locs hP hD hS ls hl => lv_iconst C.1 C.2.1 hdg hv (h H locs hP hD hS ls hl)
theorem g_bipush (C : Cx κ cc own Ts Rm) {i : Int} {v : Int32} (hdg : decode cc pc = .ok (.bipush i, 2)) (hv : (Int8.ofInt i).toInt32 = v) (h : GW κ k n ws (pc + 2) lv (.int v :: st)) : GW κ k n ws pc lv (st) := fun H locs hP hD hS ls hl => lv_bipush C.1 C.2.1 hdg hv (h H locs hP hD hS ls hl)
theorem g_sipush (C : Cx κ cc own Ts Rm) {i : Int} {v : Int32} (hdg : decode cc pc = .ok (.sipush i, 3)) (hv : (Int16.ofInt i).toInt32 = v) (h : GW κ k n ws (pc + 3) lv (.int v :: st)) : GW κ k n ws pc lv (st) := fun H locs hP hD hS ls hl => lv_sipush C.1 C.2.1 hdg hv (h H locs hP hD hS ls hl)
theorem g_lconst (C : Cx κ cc own Ts Rm) {i : Fin 2} {v : Int64} (hdg : decode cc pc = .ok (.lconst i, 1)) (hv : Int64.ofNat (i : Nat) = v) (h : GW κ k n ws (pc + 1) lv (.long v :: st)) : GW κ k n ws pc lv (st) := fun H locs hP hD hS ls hl => lv_lconst C.1 C.2.1 hdg hv (h H locs hP hD hS ls hl)
theorem g_null (C : Cx κ cc own Ts Rm)  (hdg : decode cc pc = .ok (.aconst_null, 1)) (h : GW κ k n ws (pc + 1) lv (.null :: st)) : GW κ k n ws pc lv (st) := fun H locs hP hD hS ls hl => lv_null C.1 C.2.1 hdg (h H locs hP hD hS ls hl)
theorem g_ldc (C : Cx κ cc own Ts Rm) {i : Nat} {v : Int32} (hdg : decode cc pc = .ok (.ldc i, 2)) (hw : Cond.constant own i v ∈ Ts) (h : GW κ k n ws (pc + 2) lv (.int v :: st)) : GW κ k n ws pc lv (st) := fun H locs hP hD hS ls hl => lv_ldc C.1 C.2.1 C.2.2.2.1 (C.2.2.2.2.1 _ hw) hdg (h H locs hP hD hS ls hl)
theorem g_ldcw (C : Cx κ cc own Ts Rm) {i : Nat} {v : Int32} (hdg : decode cc pc = .ok (.ldc_w i, 3)) (hw : Cond.constant own i v ∈ Ts) (h : GW κ k n ws (pc + 3) lv (.int v :: st)) : GW κ k n ws pc lv (st) := fun H locs hP hD hS ls hl => lv_ldcw C.1 C.2.1 C.2.2.2.1 (C.2.2.2.2.1 _ hw) hdg (h H locs hP hD hS ls hl)
theorem g_ldc2 (C : Cx κ cc own Ts Rm) {i : Nat} {v : Int64} (hdg : decode cc pc = .ok (.ldc2_w i, 3)) (hw : Cond.constantLong own i v ∈ Ts) (h : GW κ k n ws (pc + 3) lv (.long v :: st)) : GW κ k n ws pc lv (st) := fun H locs hP hD hS ls hl => lv_ldc2 C.1 C.2.1 C.2.2.2.1 (C.2.2.2.2.1 _ hw) hdg (h H locs hP hD hS ls hl)
theorem g_iload_n (C : Cx κ cc own Ts Rm) {f : Fin 4} {i : Nat} {x : Int32} (j : Nat) (hj : lv[j]? = some (i, .int x)) (hi : (f : Nat) = i) (hdg : decode cc pc = .ok (.iload_n f, 1)) (h : GW κ k n ws (pc + 1) lv (.int x :: st)) : GW κ k n ws pc lv (st) := fun H locs hP hD hS ls hl => lv_iload_n C.1 C.2.1 hdg hi (lv_at hl j hj) (h H locs hP hD hS ls hl)
theorem g_iload (C : Cx κ cc own Ts Rm) {i : Nat} {x : Int32} (j : Nat) (hj : lv[j]? = some (i, .int x)) (hdg : decode cc pc = .ok (.iload i, 2)) (h : GW κ k n ws (pc + 2) lv (.int x :: st)) : GW κ k n ws pc lv (st) := fun H locs hP hD hS ls hl => lv_iload C.1 C.2.1 hdg (lv_at hl j hj) (h H locs hP hD hS ls hl)
theorem g_istore_n (C : Cx κ cc own Ts Rm) {f : Fin 4} {i N : Nat} {x : Int32} (lv' : List (Nat × Value)) (hN : q_n κ = N) (hi : (f : Nat) = i) (hn : i < N) (hl' : (i, Value.int x) :: lv.filter (fun q => !(q.1 == i) && !(q.1 + 1 == i && q.2.category == 2)) = lv') (hdg : decode cc pc = .ok (.istore_n f, 1)) (h : GW κ k n ws (pc + 1) lv' st) : GW κ k n ws pc lv (.int x :: st) := fun H locs hP hD hS ls hl => lv_istore_n C.1 C.2.1 hdg hi hl (by rw [hN]; exact hn) hl' (fun ls' hls => h H locs hP hD hS ls' hls)
theorem g_istore (C : Cx κ cc own Ts Rm) {i N : Nat} {x : Int32} (lv' : List (Nat × Value)) (hN : q_n κ = N) (hn : i < N) (hl' : (i, Value.int x) :: lv.filter (fun q => !(q.1 == i) && !(q.1 + 1 == i && q.2.category == 2)) = lv') (hdg : decode cc pc = .ok (.istore i, 2)) (h : GW κ k n ws (pc + 2) lv' st) : GW κ k n ws pc lv (.int x :: st) := fun H locs hP hD hS ls hl => lv_istore C.1 C.2.1 hdg hl (by rw [hN]; exact hn) hl' (fun ls' hls => h H locs hP hD hS ls' hls)
theorem g_lload_n (C : Cx κ cc own Ts Rm) {f : Fin 4} {i : Nat} {x : Int64} (j : Nat) (hj : lv[j]? = some (i, .long x)) (hi : (f : Nat) = i) (hdg : decode cc pc = .ok (.lload_n f, 1)) (h : GW κ k n ws (pc + 1) lv (.long x :: st)) : GW κ k n ws pc lv (st) := fun H locs hP hD hS ls hl => lv_lload_n C.1 C.2.1 hdg hi (lv_at hl j hj) (h H locs hP hD hS ls hl)
theorem g_lload (C : Cx κ cc own Ts Rm) {i : Nat} {x : Int64} (j : Nat) (hj : lv[j]? = some (i, .long x)) (hdg : decode cc pc = .ok (.lload i, 2)) (h : GW κ k n ws (pc + 2) lv (.long x :: st)) : GW κ k n ws pc lv (st) := fun H locs hP hD hS ls hl => lv_lload C.1 C.2.1 hdg (lv_at hl j hj) (h H locs hP hD hS ls hl)
theorem g_lstore_n (C : Cx κ cc own Ts Rm) {f : Fin 4} {i N : Nat} {x : Int64} (lv' : List (Nat × Value)) (hN : q_n κ = N) (hi : (f : Nat) = i) (hn : i + 1 < N) (hl' : (i, Value.long x) :: lv.filter (fun q => !(q.1 == i) && (!(q.1 == i + 1) && !(q.1 + 1 == i && q.2.category == 2))) = lv') (hdg : decode cc pc = .ok (.lstore_n f, 1)) (h : GW κ k n ws (pc + 1) lv' st) : GW κ k n ws pc lv (.long x :: st) := fun H locs hP hD hS ls hl => lv_lstore_n C.1 C.2.1 hdg hi hl (by rw [hN]; exact hn) hl' (fun ls' hls => h H locs hP hD hS ls' hls)
theorem g_lstore (C : Cx κ cc own Ts Rm) {i N : Nat} {x : Int64} (lv' : List (Nat × Value)) (hN : q_n κ = N) (hn : i + 1 < N) (hl' : (i, Value.long x) :: lv.filter (fun q => !(q.1 == i) && (!(q.1 == i + 1) && !(q.1 + 1 == i && q.2.category == 2))) = lv') (hdg : decode cc pc = .ok (.lstore i, 2)) (h : GW κ k n ws (pc + 2) lv' st) : GW κ k n ws pc lv (.long x :: st) := fun H locs hP hD hS ls hl => lv_lstore C.1 C.2.1 hdg hl (by rw [hN]; exact hn) hl' (fun ls' hls => h H locs hP hD hS ls' hls)
theorem g_aload_n (C : Cx κ cc own Ts Rm) {f : Fin 4} {i : Nat} {x : Nat} (j : Nat) (hj : lv[j]? = some (i, .ref x)) (hi : (f : Nat) = i) (hdg : decode cc pc = .ok (.aload_n f, 1)) (h : GW κ k n ws (pc + 1) lv (.ref x :: st)) : GW κ k n ws pc lv (st) := fun H locs hP hD hS ls hl => lv_aload_n C.1 C.2.1 hdg hi (lv_at hl j hj) (h H locs hP hD hS ls hl)
theorem g_aload (C : Cx κ cc own Ts Rm) {i : Nat} {x : Nat} (j : Nat) (hj : lv[j]? = some (i, .ref x)) (hdg : decode cc pc = .ok (.aload i, 2)) (h : GW κ k n ws (pc + 2) lv (.ref x :: st)) : GW κ k n ws pc lv (st) := fun H locs hP hD hS ls hl => lv_aload C.1 C.2.1 hdg (lv_at hl j hj) (h H locs hP hD hS ls hl)
theorem g_astore_n (C : Cx κ cc own Ts Rm) {f : Fin 4} {i N : Nat} {x : Nat} (lv' : List (Nat × Value)) (hN : q_n κ = N) (hi : (f : Nat) = i) (hn : i < N) (hl' : (i, Value.ref x) :: lv.filter (fun q => !(q.1 == i) && !(q.1 + 1 == i && q.2.category == 2)) = lv') (hdg : decode cc pc = .ok (.astore_n f, 1)) (h : GW κ k n ws (pc + 1) lv' st) : GW κ k n ws pc lv (.ref x :: st) := fun H locs hP hD hS ls hl => lv_astore_n C.1 C.2.1 hdg hi hl (by rw [hN]; exact hn) hl' (fun ls' hls => h H locs hP hD hS ls' hls)
theorem g_astore (C : Cx κ cc own Ts Rm) {i N : Nat} {x : Nat} (lv' : List (Nat × Value)) (hN : q_n κ = N) (hn : i < N) (hl' : (i, Value.ref x) :: lv.filter (fun q => !(q.1 == i) && !(q.1 + 1 == i && q.2.category == 2)) = lv') (hdg : decode cc pc = .ok (.astore i, 2)) (h : GW κ k n ws (pc + 2) lv' st) : GW κ k n ws pc lv (.ref x :: st) := fun H locs hP hD hS ls hl => lv_astore C.1 C.2.1 hdg hl (by rw [hN]; exact hn) hl' (fun ls' hls => h H locs hP hD hS ls' hls)
theorem g_rload_n (C : Cx κ cc own Ts Rm) {f : Fin 4} {i : Nat} {r : Option Nat} (j : Nat) (hj : lv[j]? = some (i, va_rf r)) (hi : (f : Nat) = i) (hdg : decode cc pc = .ok (.aload_n f, 1)) (h : GW κ k n ws (pc + 1) lv (va_rf r :: st)) : GW κ k n ws pc lv st := by
  intro H locs hP hD hS ls hl
  have h1 := h H locs hP hD hS ls hl
  cases r with
  | none => exact lv_aload_nN C.1 C.2.1 hdg hi (lv_at hl j hj) h1
  | some a => exact lv_aload_n C.1 C.2.1 hdg hi (lv_at hl j hj) h1
theorem g_rload (C : Cx κ cc own Ts Rm) {i : Nat} {r : Option Nat} (j : Nat) (hj : lv[j]? = some (i, va_rf r)) (hdg : decode cc pc = .ok (.aload i, 2)) (h : GW κ k n ws (pc + 2) lv (va_rf r :: st)) : GW κ k n ws pc lv st := by
  intro H locs hP hD hS ls hl
  have h1 := h H locs hP hD hS ls hl
  cases r with
  | none => exact lv_aloadN C.1 C.2.1 hdg (lv_at hl j hj) h1
  | some a => exact lv_aload C.1 C.2.1 hdg (lv_at hl j hj) h1
theorem g_rstore_n (C : Cx κ cc own Ts Rm) {f : Fin 4} {i N : Nat} {r : Option Nat} (lv' : List (Nat × Value)) (hN : q_n κ = N) (hi : (f : Nat) = i) (hn : i < N) (hl' : (i, va_rf r) :: lv.filter (fun q => !(q.1 == i) && !(q.1 + 1 == i && q.2.category == 2)) = lv') (hdg : decode cc pc = .ok (.astore_n f, 1)) (h : GW κ k n ws (pc + 1) lv' st) : GW κ k n ws pc lv (va_rf r :: st) := by
  intro H locs hP hD hS ls hl
  cases r with
  | none => exact lv_astore_nN C.1 C.2.1 hdg hi hl (by rw [hN]; exact hn) hl' (fun ls' hls => h H locs hP hD hS ls' hls)
  | some a => exact lv_astore_n C.1 C.2.1 hdg hi hl (by rw [hN]; exact hn) hl' (fun ls' hls => h H locs hP hD hS ls' hls)
theorem g_rstore (C : Cx κ cc own Ts Rm) {i N : Nat} {r : Option Nat} (lv' : List (Nat × Value)) (hN : q_n κ = N) (hn : i < N) (hl' : (i, va_rf r) :: lv.filter (fun q => !(q.1 == i) && !(q.1 + 1 == i && q.2.category == 2)) = lv') (hdg : decode cc pc = .ok (.astore i, 2)) (h : GW κ k n ws (pc + 2) lv' st) : GW κ k n ws pc lv (va_rf r :: st) := by
  intro H locs hP hD hS ls hl
  cases r with
  | none => exact lv_astoreN C.1 C.2.1 hdg hl (by rw [hN]; exact hn) hl' (fun ls' hls => h H locs hP hD hS ls' hls)
  | some a => exact lv_astore C.1 C.2.1 hdg hl (by rw [hN]; exact hn) hl' (fun ls' hls => h H locs hP hD hS ls' hls)
theorem g_iinc (C : Cx κ cc own Ts Rm) {i N j : Nat} {d : Int} {x v : Int32} (lv' : List (Nat × Value)) (hN : q_n κ = N) (hj : lv[j]? = some (i, .int x)) (hv : x + Int32.ofInt d = v) (hn : i < N) (hl' : (i, Value.int v) :: lv.filter (fun q => !(q.1 == i) && !(q.1 + 1 == i && q.2.category == 2)) = lv') (hdg : decode cc pc = .ok (.iinc i d, 3)) (h : GW κ k n ws (pc + 3) lv' st) : GW κ k n ws pc lv st := fun H locs hP hD hS ls hl => lv_iinc C.1 C.2.1 hdg hl hj hv (by rw [hN]; exact hn) hl' (fun ls' hls => h H locs hP hD hS ls' hls)
theorem g_iadd (C : Cx κ cc own Ts Rm) {x y : Int32} (hdg : decode cc pc = .ok (.iadd, 1)) (h : GW κ k n ws (pc + 1) lv (.int (x + y) :: st)) : GW κ k n ws pc lv (.int y :: .int x :: st) := fun H locs hP hD hS ls hl => lv_iadd C.1 C.2.1 hdg (h H locs hP hD hS ls hl)
theorem g_isub (C : Cx κ cc own Ts Rm) {x y : Int32} (hdg : decode cc pc = .ok (.isub, 1)) (h : GW κ k n ws (pc + 1) lv (.int (x - y) :: st)) : GW κ k n ws pc lv (.int y :: .int x :: st) := fun H locs hP hD hS ls hl => lv_isub C.1 C.2.1 hdg (h H locs hP hD hS ls hl)
theorem g_imul (C : Cx κ cc own Ts Rm) {x y : Int32} (hdg : decode cc pc = .ok (.imul, 1)) (h : GW κ k n ws (pc + 1) lv (.int (x * y) :: st)) : GW κ k n ws pc lv (.int y :: .int x :: st) := fun H locs hP hD hS ls hl => lv_imul C.1 C.2.1 hdg (h H locs hP hD hS ls hl)
theorem g_iand (C : Cx κ cc own Ts Rm) {x y : Int32} (hdg : decode cc pc = .ok (.iand, 1)) (h : GW κ k n ws (pc + 1) lv (.int (x &&& y) :: st)) : GW κ k n ws pc lv (.int y :: .int x :: st) := fun H locs hP hD hS ls hl => lv_iand C.1 C.2.1 hdg (h H locs hP hD hS ls hl)
theorem g_ior (C : Cx κ cc own Ts Rm) {x y : Int32} (hdg : decode cc pc = .ok (.ior, 1)) (h : GW κ k n ws (pc + 1) lv (.int (x ||| y) :: st)) : GW κ k n ws pc lv (.int y :: .int x :: st) := fun H locs hP hD hS ls hl => lv_ior C.1 C.2.1 hdg (h H locs hP hD hS ls hl)
theorem g_ixor (C : Cx κ cc own Ts Rm) {x y : Int32} (hdg : decode cc pc = .ok (.ixor, 1)) (h : GW κ k n ws (pc + 1) lv (.int (x ^^^ y) :: st)) : GW κ k n ws pc lv (.int y :: .int x :: st) := fun H locs hP hD hS ls hl => lv_ixor C.1 C.2.1 hdg (h H locs hP hD hS ls hl)
theorem g_ishl (C : Cx κ cc own Ts Rm) {x y : Int32} (hdg : decode cc pc = .ok (.ishl, 1)) (h : GW κ k n ws (pc + 1) lv (.int (x <<< (y &&& 31)) :: st)) : GW κ k n ws pc lv (.int y :: .int x :: st) := fun H locs hP hD hS ls hl => lv_ishl C.1 C.2.1 hdg (h H locs hP hD hS ls hl)
theorem g_ishr (C : Cx κ cc own Ts Rm) {x y : Int32} (hdg : decode cc pc = .ok (.ishr, 1)) (h : GW κ k n ws (pc + 1) lv (.int (x >>> (y &&& 31)) :: st)) : GW κ k n ws pc lv (.int y :: .int x :: st) := fun H locs hP hD hS ls hl => lv_ishr C.1 C.2.1 hdg (h H locs hP hD hS ls hl)
theorem g_ladd (C : Cx κ cc own Ts Rm) {x y : Int64} (hdg : decode cc pc = .ok (.ladd, 1)) (h : GW κ k n ws (pc + 1) lv (.long (x + y) :: st)) : GW κ k n ws pc lv (.long y :: .long x :: st) := fun H locs hP hD hS ls hl => lv_ladd C.1 C.2.1 hdg (h H locs hP hD hS ls hl)
theorem g_lsub (C : Cx κ cc own Ts Rm) {x y : Int64} (hdg : decode cc pc = .ok (.lsub, 1)) (h : GW κ k n ws (pc + 1) lv (.long (x - y) :: st)) : GW κ k n ws pc lv (.long y :: .long x :: st) := fun H locs hP hD hS ls hl => lv_lsub C.1 C.2.1 hdg (h H locs hP hD hS ls hl)
theorem g_lmul (C : Cx κ cc own Ts Rm) {x y : Int64} (hdg : decode cc pc = .ok (.lmul, 1)) (h : GW κ k n ws (pc + 1) lv (.long (x * y) :: st)) : GW κ k n ws pc lv (.long y :: .long x :: st) := fun H locs hP hD hS ls hl => lv_lmul C.1 C.2.1 hdg (h H locs hP hD hS ls hl)
theorem g_land (C : Cx κ cc own Ts Rm) {x y : Int64} (hdg : decode cc pc = .ok (.land, 1)) (h : GW κ k n ws (pc + 1) lv (.long (x &&& y) :: st)) : GW κ k n ws pc lv (.long y :: .long x :: st) := fun H locs hP hD hS ls hl => lv_land C.1 C.2.1 hdg (h H locs hP hD hS ls hl)
theorem g_lor (C : Cx κ cc own Ts Rm) {x y : Int64} (hdg : decode cc pc = .ok (.lor, 1)) (h : GW κ k n ws (pc + 1) lv (.long (x ||| y) :: st)) : GW κ k n ws pc lv (.long y :: .long x :: st) := fun H locs hP hD hS ls hl => lv_lor C.1 C.2.1 hdg (h H locs hP hD hS ls hl)
theorem g_idiv (C : Cx κ cc own Ts Rm) {x y : Int32} (hne : ¬ y = 0) (hdg : decode cc pc = .ok (.idiv, 1)) (h : GW κ k n ws (pc + 1) lv (.int (x / y) :: st)) : GW κ k n ws pc lv (.int y :: .int x :: st) := fun H locs hP hD hS ls hl => lv_idiv C.1 C.2.1 hdg hne (h H locs hP hD hS ls hl)
theorem g_irem (C : Cx κ cc own Ts Rm) {x y : Int32} (hne : ¬ y = 0) (hdg : decode cc pc = .ok (.irem, 1)) (h : GW κ k n ws (pc + 1) lv (.int (x - x / y * y) :: st)) : GW κ k n ws pc lv (.int y :: .int x :: st) := fun H locs hP hD hS ls hl => lv_irem C.1 C.2.1 hdg hne (h H locs hP hD hS ls hl)
theorem g_ldiv (C : Cx κ cc own Ts Rm) {x y : Int64} (hne : ¬ y = 0) (hdg : decode cc pc = .ok (.ldiv, 1)) (h : GW κ k n ws (pc + 1) lv (.long (x / y) :: st)) : GW κ k n ws pc lv (.long y :: .long x :: st) := fun H locs hP hD hS ls hl => lv_ldiv C.1 C.2.1 hdg hne (h H locs hP hD hS ls hl)
theorem g_lrem (C : Cx κ cc own Ts Rm) {x y : Int64} (hne : ¬ y = 0) (hdg : decode cc pc = .ok (.lrem, 1)) (h : GW κ k n ws (pc + 1) lv (.long (x - x / y * y) :: st)) : GW κ k n ws pc lv (.long y :: .long x :: st) := fun H locs hP hD hS ls hl => lv_lrem C.1 C.2.1 hdg hne (h H locs hP hD hS ls hl)
theorem g_ineg (C : Cx κ cc own Ts Rm) {x : Int32} (hdg : decode cc pc = .ok (.ineg, 1)) (h : GW κ k n ws (pc + 1) lv (.int (-x) :: st)) : GW κ k n ws pc lv (.int x :: st) := fun H locs hP hD hS ls hl => lv_ineg C.1 C.2.1 hdg (h H locs hP hD hS ls hl)
theorem g_i2l (C : Cx κ cc own Ts Rm) {x : Int32} (hdg : decode cc pc = .ok (.i2l, 1)) (h : GW κ k n ws (pc + 1) lv (.long x.toInt64 :: st)) : GW κ k n ws pc lv (.int x :: st) := fun H locs hP hD hS ls hl => lv_i2l C.1 C.2.1 hdg rfl (h H locs hP hD hS ls hl)
theorem g_l2i (C : Cx κ cc own Ts Rm) {x : Int64} (hdg : decode cc pc = .ok (.l2i, 1)) (h : GW κ k n ws (pc + 1) lv (.int x.toInt32 :: st)) : GW κ k n ws pc lv (.long x :: st) := fun H locs hP hD hS ls hl => lv_l2i C.1 C.2.1 hdg rfl (h H locs hP hD hS ls hl)
theorem g_i2b (C : Cx κ cc own Ts Rm) {x : Int32} (hdg : decode cc pc = .ok (.i2b, 1)) (h : GW κ k n ws (pc + 1) lv (.int x.toInt8.toInt32 :: st)) : GW κ k n ws pc lv (.int x :: st) := fun H locs hP hD hS ls hl => lv_i2b C.1 C.2.1 hdg rfl (h H locs hP hD hS ls hl)
theorem g_i2c (C : Cx κ cc own Ts Rm) {x : Int32} (hdg : decode cc pc = .ok (.i2c, 1)) (h : GW κ k n ws (pc + 1) lv (.int (x.toUInt32 % 65536).toInt32 :: st)) : GW κ k n ws pc lv (.int x :: st) := fun H locs hP hD hS ls hl => lv_i2c C.1 C.2.1 hdg rfl (h H locs hP hD hS ls hl)
theorem g_lushr (C : Cx κ cc own Ts Rm) {x : Int64} {y : Int32} (hdg : decode cc pc = .ok (.lushr, 1)) (h : GW κ k n ws (pc + 1) lv (.long (x.toUInt64 >>> (y.toInt64.toUInt64 &&& Int64.toUInt64 63)).toInt64 :: st)) : GW κ k n ws pc lv (.int y :: .long x :: st) := fun H locs hP hD hS ls hl => lv_lushr C.1 C.2.1 hdg rfl (h H locs hP hD hS ls hl)
theorem g_lshl (C : Cx κ cc own Ts Rm) {x : Int64} {y : Int32} (hdg : decode cc pc = .ok (.lshl, 1)) (h : GW κ k n ws (pc + 1) lv (.long (x <<< (y.toInt64 &&& 63)) :: st)) : GW κ k n ws pc lv (.int y :: .long x :: st) := fun H locs hP hD hS ls hl => lv_lshl C.1 C.2.1 hdg rfl (h H locs hP hD hS ls hl)
theorem g_lshr (C : Cx κ cc own Ts Rm) {x : Int64} {y : Int32} (hdg : decode cc pc = .ok (.lshr, 1)) (h : GW κ k n ws (pc + 1) lv (.long (x >>> (y.toInt64 &&& 63)) :: st)) : GW κ k n ws pc lv (.int y :: .long x :: st) := fun H locs hP hD hS ls hl => lv_lshr C.1 C.2.1 hdg rfl (h H locs hP hD hS ls hl)
theorem g_dup (C : Cx κ cc own Ts Rm) {v : Value} (hv : v.category = 1) (hdg : decode cc pc = .ok (.dup, 1)) (h : GW κ k n ws (pc + 1) lv (v :: v :: st)) : GW κ k n ws pc lv (v :: st) := fun H locs hP hD hS ls hl => lv_dup C.1 C.2.1 hdg hv (h H locs hP hD hS ls hl)
theorem g_pop (C : Cx κ cc own Ts Rm) {v : Value} (hv : v.category = 1) (hdg : decode cc pc = .ok (.pop, 1)) (h : GW κ k n ws (pc + 1) lv (st)) : GW κ k n ws pc lv (v :: st) := fun H locs hP hD hS ls hl => lv_pop C.1 C.2.1 hdg hv (h H locs hP hD hS ls hl)
theorem g_goto (C : Cx κ cc own Ts Rm) {off : Int} (tgt : Nat) (ht : (pc : Int) + off = (tgt : Int)) (hdg : decode cc pc = .ok (.goto off, 3)) (h : GW κ k n ws tgt lv st) : GW κ k n ws pc lv st := fun H locs hP hD hS ls hl => lv_goto C.1 C.2.1 hdg ht (h H locs hP hD hS ls hl)
theorem g_if_eq (C : Cx κ cc own Ts Rm) {x : Int32} {off : Int} {wa wb : Prop} (tgt : Nat) (ht : (pc : Int) + off = (tgt : Int)) (hw : if x = 0 then wa else wb) (hdg : decode cc pc = .ok (.ifCond .eq off, 3)) (kt : wa → GW κ k n ws tgt lv st) (kf : wb → GW κ k n ws (pc + 3) lv st) : GW κ k n ws pc lv (.int x :: st) := fun H locs hP hD hS ls hl => lv_if_eq C.1 C.2.1 hdg ht (fun e => kt (by rw [if_pos e] at hw; exact hw) H locs hP hD hS ls hl) (fun e => kf (by rw [if_neg e] at hw; exact hw) H locs hP hD hS ls hl)
theorem g_icmp_eq (C : Cx κ cc own Ts Rm) {x y : Int32} {off : Int} {wa wb : Prop} (tgt : Nat) (ht : (pc : Int) + off = (tgt : Int)) (hw : if x = y then wa else wb) (hdg : decode cc pc = .ok (.if_icmp .eq off, 3)) (kt : wa → GW κ k n ws tgt lv st) (kf : wb → GW κ k n ws (pc + 3) lv st) : GW κ k n ws pc lv (.int y :: .int x :: st) := fun H locs hP hD hS ls hl => lv_icmp_eq C.1 C.2.1 hdg ht (fun e => kt (by rw [if_pos e] at hw; exact hw) H locs hP hD hS ls hl) (fun e => kf (by rw [if_neg e] at hw; exact hw) H locs hP hD hS ls hl)
theorem g_if_ne (C : Cx κ cc own Ts Rm) {x : Int32} {off : Int} {wa wb : Prop} (tgt : Nat) (ht : (pc : Int) + off = (tgt : Int)) (hw : if x = 0 then wa else wb) (hdg : decode cc pc = .ok (.ifCond .ne off, 3)) (kt : wb → GW κ k n ws tgt lv st) (kf : wa → GW κ k n ws (pc + 3) lv st) : GW κ k n ws pc lv (.int x :: st) := fun H locs hP hD hS ls hl => lv_if_ne C.1 C.2.1 hdg ht (fun e => kt (by rw [if_neg e] at hw; exact hw) H locs hP hD hS ls hl) (fun e => kf (by rw [if_pos e] at hw; exact hw) H locs hP hD hS ls hl)
theorem g_icmp_ne (C : Cx κ cc own Ts Rm) {x y : Int32} {off : Int} {wa wb : Prop} (tgt : Nat) (ht : (pc : Int) + off = (tgt : Int)) (hw : if x = y then wa else wb) (hdg : decode cc pc = .ok (.if_icmp .ne off, 3)) (kt : wb → GW κ k n ws tgt lv st) (kf : wa → GW κ k n ws (pc + 3) lv st) : GW κ k n ws pc lv (.int y :: .int x :: st) := fun H locs hP hD hS ls hl => lv_icmp_ne C.1 C.2.1 hdg ht (fun e => kt (by rw [if_neg e] at hw; exact hw) H locs hP hD hS ls hl) (fun e => kf (by rw [if_pos e] at hw; exact hw) H locs hP hD hS ls hl)
theorem g_if_lt (C : Cx κ cc own Ts Rm) {x : Int32} {off : Int} {wa wb : Prop} (tgt : Nat) (ht : (pc : Int) + off = (tgt : Int)) (hw : if x < 0 then wa else wb) (hdg : decode cc pc = .ok (.ifCond .lt off, 3)) (kt : wa → GW κ k n ws tgt lv st) (kf : wb → GW κ k n ws (pc + 3) lv st) : GW κ k n ws pc lv (.int x :: st) := fun H locs hP hD hS ls hl => lv_if_lt C.1 C.2.1 hdg ht (fun e => kt (by rw [if_pos e] at hw; exact hw) H locs hP hD hS ls hl) (fun e => kf (by rw [if_neg e] at hw; exact hw) H locs hP hD hS ls hl)
theorem g_icmp_lt (C : Cx κ cc own Ts Rm) {x y : Int32} {off : Int} {wa wb : Prop} (tgt : Nat) (ht : (pc : Int) + off = (tgt : Int)) (hw : if x < y then wa else wb) (hdg : decode cc pc = .ok (.if_icmp .lt off, 3)) (kt : wa → GW κ k n ws tgt lv st) (kf : wb → GW κ k n ws (pc + 3) lv st) : GW κ k n ws pc lv (.int y :: .int x :: st) := fun H locs hP hD hS ls hl => lv_icmp_lt C.1 C.2.1 hdg ht (fun e => kt (by rw [if_pos e] at hw; exact hw) H locs hP hD hS ls hl) (fun e => kf (by rw [if_neg e] at hw; exact hw) H locs hP hD hS ls hl)
theorem g_if_ge (C : Cx κ cc own Ts Rm) {x : Int32} {off : Int} {wa wb : Prop} (tgt : Nat) (ht : (pc : Int) + off = (tgt : Int)) (hw : if 0 ≤ x then wa else wb) (hdg : decode cc pc = .ok (.ifCond .ge off, 3)) (kt : wa → GW κ k n ws tgt lv st) (kf : wb → GW κ k n ws (pc + 3) lv st) : GW κ k n ws pc lv (.int x :: st) := fun H locs hP hD hS ls hl => lv_if_ge C.1 C.2.1 hdg ht (fun e => kt (by rw [if_pos e] at hw; exact hw) H locs hP hD hS ls hl) (fun e => kf (by rw [if_neg e] at hw; exact hw) H locs hP hD hS ls hl)
theorem g_icmp_ge (C : Cx κ cc own Ts Rm) {x y : Int32} {off : Int} {wa wb : Prop} (tgt : Nat) (ht : (pc : Int) + off = (tgt : Int)) (hw : if y ≤ x then wa else wb) (hdg : decode cc pc = .ok (.if_icmp .ge off, 3)) (kt : wa → GW κ k n ws tgt lv st) (kf : wb → GW κ k n ws (pc + 3) lv st) : GW κ k n ws pc lv (.int y :: .int x :: st) := fun H locs hP hD hS ls hl => lv_icmp_ge C.1 C.2.1 hdg ht (fun e => kt (by rw [if_pos e] at hw; exact hw) H locs hP hD hS ls hl) (fun e => kf (by rw [if_neg e] at hw; exact hw) H locs hP hD hS ls hl)
theorem g_if_gt (C : Cx κ cc own Ts Rm) {x : Int32} {off : Int} {wa wb : Prop} (tgt : Nat) (ht : (pc : Int) + off = (tgt : Int)) (hw : if 0 < x then wa else wb) (hdg : decode cc pc = .ok (.ifCond .gt off, 3)) (kt : wa → GW κ k n ws tgt lv st) (kf : wb → GW κ k n ws (pc + 3) lv st) : GW κ k n ws pc lv (.int x :: st) := fun H locs hP hD hS ls hl => lv_if_gt C.1 C.2.1 hdg ht (fun e => kt (by rw [if_pos e] at hw; exact hw) H locs hP hD hS ls hl) (fun e => kf (by rw [if_neg e] at hw; exact hw) H locs hP hD hS ls hl)
theorem g_icmp_gt (C : Cx κ cc own Ts Rm) {x y : Int32} {off : Int} {wa wb : Prop} (tgt : Nat) (ht : (pc : Int) + off = (tgt : Int)) (hw : if y < x then wa else wb) (hdg : decode cc pc = .ok (.if_icmp .gt off, 3)) (kt : wa → GW κ k n ws tgt lv st) (kf : wb → GW κ k n ws (pc + 3) lv st) : GW κ k n ws pc lv (.int y :: .int x :: st) := fun H locs hP hD hS ls hl => lv_icmp_gt C.1 C.2.1 hdg ht (fun e => kt (by rw [if_pos e] at hw; exact hw) H locs hP hD hS ls hl) (fun e => kf (by rw [if_neg e] at hw; exact hw) H locs hP hD hS ls hl)
theorem g_if_le (C : Cx κ cc own Ts Rm) {x : Int32} {off : Int} {wa wb : Prop} (tgt : Nat) (ht : (pc : Int) + off = (tgt : Int)) (hw : if x ≤ 0 then wa else wb) (hdg : decode cc pc = .ok (.ifCond .le off, 3)) (kt : wa → GW κ k n ws tgt lv st) (kf : wb → GW κ k n ws (pc + 3) lv st) : GW κ k n ws pc lv (.int x :: st) := fun H locs hP hD hS ls hl => lv_if_le C.1 C.2.1 hdg ht (fun e => kt (by rw [if_pos e] at hw; exact hw) H locs hP hD hS ls hl) (fun e => kf (by rw [if_neg e] at hw; exact hw) H locs hP hD hS ls hl)
theorem g_icmp_le (C : Cx κ cc own Ts Rm) {x y : Int32} {off : Int} {wa wb : Prop} (tgt : Nat) (ht : (pc : Int) + off = (tgt : Int)) (hw : if x ≤ y then wa else wb) (hdg : decode cc pc = .ok (.if_icmp .le off, 3)) (kt : wa → GW κ k n ws tgt lv st) (kf : wb → GW κ k n ws (pc + 3) lv st) : GW κ k n ws pc lv (.int y :: .int x :: st) := fun H locs hP hD hS ls hl => lv_icmp_le C.1 C.2.1 hdg ht (fun e => kt (by rw [if_pos e] at hw; exact hw) H locs hP hD hS ls hl) (fun e => kf (by rw [if_neg e] at hw; exact hw) H locs hP hD hS ls hl)
theorem g_lcmp (C : Cx κ cc own Ts Rm) {x y : Int64} (hdg : decode cc pc = .ok (.lcmp, 1)) (h : GW κ k n ws (pc + 1) lv (.int (lg_cmp x y) :: st)) : GW κ k n ws pc lv (.long y :: .long x :: st) := fun H locs hP hD hS ls hl => W.lcmp C.1 C.2.1 hdg (h H locs hP hD hS ls hl)
/-- a reference to a thing, or null -/
theorem g_ifnull (C : Cx κ cc own Ts Rm) {r : Option Nat} {off : Int} {wa : Prop} {wb : Nat → Prop} (tgt : Nat) (ht : (pc : Int) + off = (tgt : Int)) (hw : (r = none → wa) ∧ ∀ a, r = some a → wb a) (hdg : decode cc pc = .ok (.ifnull off, 3)) (kt : wa → r = none → GW κ k n ws tgt lv st) (kf : ∀ a, r = some a → wb a → GW κ k n ws (pc + 3) lv st) : GW κ k n ws pc lv (va_rf r :: st) := by
  intro H locs hP hD hS ls hl
  cases r with
  | none => exact lv_ifnullN C.1 C.2.1 hdg ht (kt (hw.1 rfl) rfl H locs hP hD hS ls hl)
  | some a => exact lv_ifnull C.1 C.2.1 hdg (kf a rfl (hw.2 a rfl) H locs hP hD hS ls hl)
theorem g_ifnonnull (C : Cx κ cc own Ts Rm) {r : Option Nat} {off : Int} {wa : Prop} {wb : Nat → Prop} (tgt : Nat) (ht : (pc : Int) + off = (tgt : Int)) (hw : (r = none → wa) ∧ ∀ a, r = some a → wb a) (hdg : decode cc pc = .ok (.ifnonnull off, 3)) (kt : ∀ a, r = some a → wb a → GW κ k n ws tgt lv st) (kf : wa → r = none → GW κ k n ws (pc + 3) lv st) : GW κ k n ws pc lv (va_rf r :: st) := by
  intro H locs hP hD hS ls hl
  cases r with
  | none => exact lv_ifnonnullN C.1 C.2.1 hdg (kf (hw.1 rfl) rfl H locs hP hD hS ls hl)
  | some a => exact lv_ifnonnull C.1 C.2.1 hdg ht (kt a rfl (hw.2 a rfl) H locs hP hD hS ls hl)
/-- a switch: out of its range, or at one of its numbers -/
theorem g_swOut (C : Cx κ cc own Ts Rm) {dflt lo hi : Int} {offs : Array Int} {len : Nat} {x : Int32} (tgt : Nat) (h : x.toInt < lo ∨ hi < x.toInt) (ht : (pc : Int) + dflt = (tgt : Int)) (hdg : decode cc pc = .ok (.tableswitch dflt lo hi offs, len)) (hk : GW κ k n ws tgt lv st) : GW κ k n ws pc lv (.int x :: st) := fun H locs hP hD hS ls hl => lv_tableOut C.1 C.2.1 hdg h ht (hk H locs hP hD hS ls hl)
theorem g_swIn (C : Cx κ cc own Ts Rm) {dflt lo hi off : Int} {offs : Array Int} {len : Nat} {x : Int32} (y : Int) (tgt : Nat) (h : x.toInt = y) (h1 : ¬ y < lo) (h2 : ¬ hi < y) (ho : offs[(y - lo).toNat]? = some off) (ht : (pc : Int) + off = (tgt : Int)) (hdg : decode cc pc = .ok (.tableswitch dflt lo hi offs, len)) (hk : GW κ k n ws tgt lv st) : GW κ k n ws pc lv (.int x :: st) := by
  subst h
  exact fun H locs hP hD hS ls hl => lv_tableIn C.1 C.2.1 hdg h1 h2 ho ht (hk H locs hP hD hS ls hl)
/-! fields -/
variable {tys : List (ClassId × FieldType)} {Cn ref : String} {T : u_T} {N ci idx : Nat} {a : Nat} {fs : List Value}
theorem g_get (C : Cx κ cc own Ts Rm) (hK : va_K (q_D κ) vwCl tys (q_s κ)) (hin : ∀ w ∈ u_ws Cn T N, w ∈ Ts) (hc : vwCl[ci]? = some (Cn, T, N)) (q0 : Nat) (he : ws[q0]? = some (a, .inr (ci, fs))) (f : Nat) (hf : f < N) (hsame : ∀ x, (q_s κ).fieldFound? (T f).1 (T f).2.1 (T f).2.2.1 = some x → (q_s κ).fieldFound? ref (T f).2.1 (T f).2.2.1 = some x) (hlk : Cond.fieldLink own idx ref (T f).2.1 (T f).2.2.1 ∈ Ts) {v : Value} (hv : fs[f]? = some v) (hdg : decode cc pc = .ok (.getfield idx, 3)) (h : GW κ k n ws (pc + 3) lv (v :: st)) : GW κ k n ws pc lv (.ref a :: st) :=
  fun H locs hP hD hS ls hl => va_get C.1 C.2.1 C.2.2.2.2.1 hin C.2.2.2.1 hK hP q0 he hc f hf (C.2.2.2.2.1 _ hlk) hsame hv hdg (h H locs hP hD hS ls hl)
theorem g_put (C : Cx κ cc own Ts Rm) (hK : va_K (q_D κ) vwCl tys (q_s κ)) (hin : ∀ w ∈ u_ws Cn T N, w ∈ Ts) (hc : vwCl[ci]? = some (Cn, T, N)) (ty0 : Nat → FieldType) (hty : ∀ k, k < N → parseFieldDescriptor (T k).2.2.1 = some (ty0 k)) (hnm : ∀ a, a < N → ∀ b, b < N → a ≠ b → (T a).2.1 ≠ (T b).2.1) (q0 : Nat) (he : ws[q0]? = some (a, .inr (ci, fs))) (f : Nat) (hf : f < N) (hsame : ∀ x, (q_s κ).fieldFound? (T f).1 (T f).2.1 (T f).2.2.1 = some x → (q_s κ).fieldFound? ref (T f).2.1 (T f).2.2.1 = some x) (hlk : Cond.fieldLink own idx ref (T f).2.1 (T f).2.2.1 ∈ Ts) (hfin : (T f).2.2.2 = false) {v : Value} (hn : narrow (ty0 f) v = v) (hfit : fits (ty0 f) v = true) (hlen : f < fs.length) {ws' : va_W} (e : ws.set q0 (a, .inr (ci, fs.set f v)) = ws') (hdg : decode cc pc = .ok (.putfield idx, 3)) (h : GW κ k n ws' (pc + 3) lv st) : GW κ k n ws pc lv (v :: .ref a :: st) :=
  fun H locs hP hD hS ls hl => va_put C.1 C.2.1 C.2.2.2.2.1 hin ty0 hty hnm C.2.2.2.1 hK hP hD hS q0 he hc f hf (C.2.2.2.2.1 _ hlk) hsame hfin (hty f hf) hn hfit hlen hdg (fun H1 locs1 hP1 hD1 hS1 => h H1 locs1 (e ▸ hP1) (e ▸ hD1) hS1 ls hl)
theorem g_putF (C : Cx κ cc own Ts Rm) (hK : va_K (q_D κ) vwCl tys (q_s κ)) (hin : ∀ w ∈ u_ws Cn T N, w ∈ Ts) (hc : vwCl[ci]? = some (Cn, T, N)) (ty0 : Nat → FieldType) (hty : ∀ k, k < N → parseFieldDescriptor (T k).2.2.1 = some (ty0 k)) (hnm : ∀ a, a < N → ∀ b, b < N → a ≠ b → (T a).2.1 ≠ (T b).2.1) (hi : (q_M κ).name = "<init>") (q0 : Nat) (he : ws[q0]? = some (a, .inr (ci, fs))) (f : Nat) (hf : f < N) (hdecl : (T f).1 = own) (hsame : ∀ x, (q_s κ).fieldFound? (T f).1 (T f).2.1 (T f).2.2.1 = some x → (q_s κ).fieldFound? ref (T f).2.1 (T f).2.2.1 = some x) (hlk : Cond.fieldLink own idx ref (T f).2.1 (T f).2.2.1 ∈ Ts) (hfin : (T f).2.2.2 = true) {v : Value} (hn : narrow (ty0 f) v = v) (hfit : fits (ty0 f) v = true) (hlen : f < fs.length) {ws' : va_W} (e : ws.set q0 (a, .inr (ci, fs.set f v)) = ws') (hdg : decode cc pc = .ok (.putfield idx, 3)) (h : GW κ k n ws' (pc + 3) lv st) : GW κ k n ws pc lv (v :: .ref a :: st) :=
  fun H locs hP hD hS ls hl => va_putF C.1 C.2.1 C.2.2.2.2.1 hin ty0 hty hnm C.2.2.2.1 hK hP hD hS q0 he hc f hf (C.2.2.2.2.1 _ hlk) hsame hfin hi hdecl (hty f hf) hn hfit hlen hdg (fun H1 locs1 hP1 hD1 hS1 => h H1 locs1 (e ▸ hP1) (e ▸ hD1) hS1 ls hl)
/-! arrays -/
variable {cA : ClassId} {L : Nat} {i : Int32}
theorem g_iald (C : Cx κ cc own Ts Rm) (hK : va_K (q_D κ) vwCl tys (q_s κ)) (q0 t0 : Nat) {f : Nat → Int32} (ha : ws[q0]? = some (a, .inl (cA, L, .inl f))) (ht : tys[t0]? = some (cA, .int)) (hin : vp_in i L) (hdg : decode cc pc = .ok (.iaload, 1)) (h : GW κ k n ws (pc + 1) lv (.int (f i.toNatClampNeg) :: st)) : GW κ k n ws pc lv (.int i :: .ref a :: st) := fun H locs hP hD hS ls hl => va_iald C.1 C.2.1 hK hP q0 t0 ha ht hin hdg (h H locs hP hD hS ls hl)
theorem g_bald (C : Cx κ cc own Ts Rm) (hK : va_K (q_D κ) vwCl tys (q_s κ)) (q0 t0 : Nat) {f : Nat → Int32} (ha : ws[q0]? = some (a, .inl (cA, L, .inl f))) (ht : tys[t0]? = some (cA, .byte)) (hin : vp_in i L) (hdg : decode cc pc = .ok (.baload, 1)) (h : GW κ k n ws (pc + 1) lv (.int (f i.toNatClampNeg) :: st)) : GW κ k n ws pc lv (.int i :: .ref a :: st) := fun H locs hP hD hS ls hl => va_bald C.1 C.2.1 hK hP q0 t0 ha ht hin hdg (h H locs hP hD hS ls hl)
theorem g_cald (C : Cx κ cc own Ts Rm) (hK : va_K (q_D κ) vwCl tys (q_s κ)) (q0 t0 : Nat) {f : Nat → Int32} (ha : ws[q0]? = some (a, .inl (cA, L, .inl f))) (ht : tys[t0]? = some (cA, .char)) (hin : vp_in i L) (hdg : decode cc pc = .ok (.caload, 1)) (h : GW κ k n ws (pc + 1) lv (.int (f i.toNatClampNeg) :: st)) : GW κ k n ws pc lv (.int i :: .ref a :: st) := fun H locs hP hD hS ls hl => va_cald C.1 C.2.1 hK hP q0 t0 ha ht hin hdg (h H locs hP hD hS ls hl)
theorem g_aald (C : Cx κ cc own Ts Rm) (hK : va_K (q_D κ) vwCl tys (q_s κ)) (q0 t0 : Nat) {E : String} {f : Nat → Option Nat} (ha : ws[q0]? = some (a, .inl (cA, L, .inr (.inr (.inr (.inr f)))))) (ht : tys[t0]? = some (cA, .object E)) (hin : vp_in i L) (hdg : decode cc pc = .ok (.aaload, 1)) (h : GW κ k n ws (pc + 1) lv (va_rf (f i.toNatClampNeg) :: st)) : GW κ k n ws pc lv (.int i :: .ref a :: st) := fun H locs hP hD hS ls hl => va_aldq C.1 C.2.1 hK hP q0 t0 ha ht hin hdg (h H locs hP hD hS ls hl)
theorem g_iast (C : Cx κ cc own Ts Rm) (hK : va_K (q_D κ) vwCl tys (q_s κ)) (q0 t0 : Nat) {x : Int32} {f : Nat → Int32} (ha : ws[q0]? = some (a, .inl (cA, L, .inl f))) (ht : tys[t0]? = some (cA, .int)) (hin : vp_in i L) {ws' : va_W} (e : ws.set q0 (a, .inl (cA, L, .inl (upd f i.toNatClampNeg x))) = ws') (hdg : decode cc pc = .ok (.iastore, 1)) (h : GW κ k n ws' (pc + 1) lv st) : GW κ k n ws pc lv (.int x :: .int i :: .ref a :: st) := fun H locs hP hD hS ls hl => va_iast C.1 C.2.1 hK hP hD hS q0 t0 ha ht hin hdg (fun H1 locs1 hP1 hD1 hS1 => h H1 locs1 (e ▸ hP1) (e ▸ hD1) hS1 ls hl)
theorem g_bast (C : Cx κ cc own Ts Rm) (hK : va_K (q_D κ) vwCl tys (q_s κ)) (q0 t0 : Nat) {x : Int32} {f : Nat → Int32} (ha : ws[q0]? = some (a, .inl (cA, L, .inl f))) (ht : tys[t0]? = some (cA, .byte)) (hin : vp_in i L) {ws' : va_W} (e : ws.set q0 (a, .inl (cA, L, .inl (upd f i.toNatClampNeg (vp_nar .byte x)))) = ws') (hdg : decode cc pc = .ok (.bastore, 1)) (h : GW κ k n ws' (pc + 1) lv st) : GW κ k n ws pc lv (.int x :: .int i :: .ref a :: st) := fun H locs hP hD hS ls hl => va_bast C.1 C.2.1 hK hP hD hS q0 t0 ha ht hin hdg (fun H1 locs1 hP1 hD1 hS1 => h H1 locs1 (e ▸ hP1) (e ▸ hD1) hS1 ls hl)
theorem g_cast (C : Cx κ cc own Ts Rm) (hK : va_K (q_D κ) vwCl tys (q_s κ)) (q0 t0 : Nat) {x : Int32} {f : Nat → Int32} (ha : ws[q0]? = some (a, .inl (cA, L, .inl f))) (ht : tys[t0]? = some (cA, .char)) (hin : vp_in i L) {ws' : va_W} (e : ws.set q0 (a, .inl (cA, L, .inl (upd f i.toNatClampNeg (vp_nar .char x)))) = ws') (hdg : decode cc pc = .ok (.castore, 1)) (h : GW κ k n ws' (pc + 1) lv st) : GW κ k n ws pc lv (.int x :: .int i :: .ref a :: st) := fun H locs hP hD hS ls hl => va_cast C.1 C.2.1 hK hP hD hS q0 t0 ha ht hin hdg (fun H1 locs1 hP1 hD1 hS1 => h H1 locs1 (e ▸ hP1) (e ▸ hD1) hS1 ls hl)
theorem g_aastN (C : Cx κ cc own Ts Rm) (hK : va_K (q_D κ) vwCl tys (q_s κ)) (q0 t0 : Nat) {E : String} {f : Nat → Option Nat} (ha : ws[q0]? = some (a, .inl (cA, L, .inr (.inr (.inr (.inr f)))))) (ht : tys[t0]? = some (cA, .object E)) (hin : vp_in i L) {ws' : va_W} (e : ws.set q0 (a, .inl (cA, L, .inr (.inr (.inr (.inr (va_up f i.toNatClampNeg none)))))) = ws') (hdg : decode cc pc = .ok (.aastore, 1)) (h : GW κ k n ws' (pc + 1) lv st) : GW κ k n ws pc lv (.null :: .int i :: .ref a :: st) := fun H locs hP hD hS ls hl => va_astqN C.1 C.2.1 hK hP hD hS q0 t0 ha ht hin hdg (fun H1 locs1 hP1 hD1 hS1 => h H1 locs1 (e ▸ hP1) (e ▸ hD1) hS1 ls hl)
theorem g_alen (C : Cx κ cc own Ts Rm) (hK : va_K (q_D κ) vwCl tys (q_s κ)) (q0 t0 : Nat) {x : vp_A} (ha : ws[q0]? = some (a, .inl (cA, x))) {ty : FieldType} (ht : tys[t0]? = some (cA, ty)) {v : Int32} (hv : Int32.ofNat x.1 = v) (hdg : decode cc pc = .ok (.arraylength, 1)) (h : GW κ k n ws (pc + 1) lv (.int v :: st)) : GW κ k n ws pc lv (.ref a :: st) := fun H locs hP hD hS ls hl => va_alen C.1 C.2.1 hK hP q0 t0 ha ht hv hdg (h H locs hP hD hS ls hl)
end GR
end
section
/-! CONTRACTS over the world, calls and ends over the context -/
def HG (D : va_G) (cy : Nat → ClassId) (A : Nat → Nat) (σ : St) (U : State) : Prop := va_P D vwCl (gW cy A σ) U.heap ∧ va_K D vwCl (gty cy) U ∧ va_D (fun _ => True) (gW cy A σ) ∧ NW U
def HE (D : va_G) (cy : Nat → ClassId) (A : Nat → Nat) (Z : Nat → Prop) (σ : St) (t : State) : Prop := va_P D vwCl (gW cy A σ) t.heap ∧ va_D Z (gW cy A σ)
def gPc (D : va_G) (cy : Nat → ClassId) (A : Nat → Nat) (σ : St) (sz : Nat) (av : List Value) : Array Value → State → Prop := va_Pc av (fun U => U.heap.size = sz ∧ HG D cy A σ U)
def gZ (cy : Nat → ClassId) (A : Nat → Nat) (σ : St) (sz : Nat) : Nat → Prop := va_A (gW cy A σ) sz
def CtI (l : Launch) (y : MethodName) (ws : List Cond) (rm : Room) (mc ms : Nat) (av : List Value) (D : va_G) (cy : Nat → ClassId) (A : Nat → Nat) (σ : St) (Φ : Int32 → St → Prop) : Prop := ∀ sz, Met l y ws rm (gPc D cy A σ sz av) (va_Qi Φ (HE D cy A (gZ cy A σ sz)) (gZ cy A σ sz)) mc ms (gZ cy A σ sz)
def CtL (l : Launch) (y : MethodName) (ws : List Cond) (rm : Room) (mc ms : Nat) (av : List Value) (D : va_G) (cy : Nat → ClassId) (A : Nat → Nat) (σ : St) (Φ : Int64 → St → Prop) : Prop := ∀ sz, Met l y ws rm (gPc D cy A σ sz av) (va_Ql Φ (HE D cy A (gZ cy A σ sz)) (gZ cy A σ sz)) mc ms (gZ cy A σ sz)
def CtV (l : Launch) (y : MethodName) (ws : List Cond) (rm : Room) (mc ms : Nat) (av : List Value) (D : va_G) (cy : Nat → ClassId) (A : Nat → Nat) (σ : St) (Φ : St → Prop) : Prop := ∀ sz, Met l y ws rm (gPc D cy A σ sz av) (va_Qv Φ (HE D cy A (gZ cy A σ sz)) (gZ cy A σ sz)) mc ms (gZ cy A σ sz)
def CtQ (l : Launch) (y : MethodName) (ws : List Cond) (rm : Room) (mc ms : Nat) (av : List Value) (D : va_G) (cy : Nat → ClassId) (A : Nat → Nat) (σ : St) (Φ : Option Nat → St → Prop) : Prop := ∀ sz, Met l y ws rm (gPc D cy A σ sz av) (va_Qq Φ (HE D cy A (gZ cy A σ sz)) (gZ cy A σ sz)) mc ms (gZ cy A σ sz)
theorem gPc_blind {D : va_G} {cy : Nat → ClassId} {A : Nat → Nat} {σ : St} {sz : Nat} {av : List Value} : FrameBlind (gPc D cy A σ sz av) := fun a U g mk q => ⟨q.1, q.2.1, q.2.2.1, va_K.moved (u := U) (U := U.calling g mk a) (Vm.Alike.refl U.vm) q.2.2.2.1, q.2.2.2.2.1, NW.calling q.2.2.2.2.2⟩
theorem gPc_at {D : va_G} {cy : Nat → ClassId} {A : Nat → Nat} {σ : St} {av : List Value} {s : State} {H : Heap} {Z : Nat → Prop} (hP : va_P D vwCl (gW cy A σ) H) (hK : va_K D vwCl (gty cy) s) (hD : va_D Z (gW cy A σ)) (hN : NW s) : ∀ U : State, U.heap = H → s.WarmedH U.vm → gPc D cy A σ H.size av av.toArray U := fun U hU hW => ⟨rfl, by rw [hU], by rw [hU]; exact hP, va_K.moved hW.alike hK, hD.weaken (fun _ _ _ _ => trivial), NW.warm hW hN⟩
theorem gF {Z : Nat → Prop} {ws : va_W} {H0 H : Heap} {locs : List Loc} (hD : va_D Z ws) (hS : va_S Z H0 H locs) (hA : ∀ q, H0.size ≤ q → Z q) : ∀ q, va_A ws H.size q → Z q := by
  intro q h
  rcases h with ⟨k, e, h⟩ | h
  · exact hD.2 k (q, e) h
  · exact hA q (Nat.le_trans hS.1 h)
theorem ga_T (cy : Nat → ClassId) (A : Nat → Nat) (σ : St) {a kd : Nat} (h : a ∈ σ.2.2.2.1) (hk : σ.2.2.2.2.1 a = kd) : ∃ q0 : Nat, (gW cy A σ)[q0]? = some (a, tcell σ a) ∧ (gW cy A σ)[q0]? = some (a, .inr (kd, [.int (σ.2.2.2.2.2 a 0), .int (σ.2.2.2.2.2 a 1), .int (σ.2.2.2.2.2 a 2)])) := by
  subst hk
  obtain ⟨k, hk⟩ := va_pl_get (X := gX cy A σ) (f := tcell σ) h
  exact ⟨k, hk, hk⟩
def Fx (κ : qC) (D : va_G) (Z : Nat → Prop) (ret : Option FieldType) (maxL : Nat) (Qc : Array Value → State → Outcome → State → Prop) (mc ms : Nat) : Prop := q_D κ = D ∧ q_A κ = Z ∧ (q_M κ).sig.returnType = ret ∧ q_n κ = maxL ∧ q_Q κ = MQ (q_b κ) Qc (q_a κ) (q_s κ) mc ms Z
theorem ct_any {l : Launch} {y : MethodName} {ws : List Cond} {rm : Room} {mc ms : Nat} {av : List Value} {D : va_G} {cy : Nat → ClassId} {A : Nat → Nat} {σ : St} {cc : ByteArray} {maxL : Nat} {own : String} {ret : Option FieldType} (Qc : Nat → Array Value → State → Outcome → State → Prop) (hy : plainFor y = true) (hw : ws = Cond.code y cc maxL ret :: gL) (hcl : y.cls = own) (lv0 : List (Nat × Value)) (hlv : lv_args 0 av = lv0) (hlen : (lg_sl av).length ≤ maxL)
    (body : ∀ κ : qC, q_l κ = l → (q_M κ).name = y.name → Cx κ cc own gL rm → va_K (q_D κ) vwCl (gty cy) (q_s κ) → ∀ sz, Fx κ D (gZ cy A σ sz) ret maxL (Qc sz) mc ms → GW κ 0 0 (gW cy A σ) 0 lv0 []) : ∀ sz, Met l y ws rm (gPc D cy A σ sz av) (Qc sz) mc ms (gZ cy A σ sz) := by
  intro sz
  refine va_MetF (cc := cc) (maxL := maxL) (ret := ret) hy hw ?_
  intro p e s m args below meth c s₁ B hml hv
  obtain ⟨rfl, hsz, hP, hK, hD0, hN⟩ := hv
  have hts := atoms_spec (ws := ws) B.pre
  subst hsz
  have hD := hD0.self (sz := s.heap.size)
  have hA : ∀ q : Nat, s.heap.size ≤ q → gZ cy A σ s.heap.size q := fun q h => Or.inr h
  have hl := lv_entry av (n := maxL) hlen
  rw [lg_entry_eq]
  generalize (lg_sl av ++ List.replicate (maxL - (lg_sl av).length) Slot.unset).toArray = ls at hl ⊢
  rw [hlv] at hl
  exact body (p, l, e, (headSpec ws rm).room, s, m, av.toArray, below, meth, c, gZ cy A σ s.heap.size, D, MQ below (Qc s.heap.size) av.toArray s mc ms (gZ cy A σ s.heap.size), maxL) rfl (name_of_methodNamed B.named B.method).1 ⟨B.exec, B.bytes, hml, by rw [← hcl]; exact findClass_of_methodNamed B.named, fun w h => hts w (by rw [hw]; exact List.mem_cons_of_mem _ h), hA, hN, B.notSynchronized, rfl⟩ hK s.heap.size ⟨rfl, rfl, B.returns, rfl, rfl⟩ s.heap [] hP hD va_S.rf ls hl
section GC
variable {κ : qC} {cc : ByteArray} {own : String} {Rm : Room} {k n mc ms : Nat} {cy : Nat → ClassId} {A : Nat → Nat} {σ : St} {pc : Nat} {lv : List (Nat × Value)} {st0 rest av : List Value}
def GRun (κ : qC) (k n mc ms : Nat) (cy : Nat → ClassId) (A : Nat → Nat) (σ : St) (pc : Nat) (lv : List (Nat × Value)) (st0 rest av : List Value) (Qc : Nat → Array Value → State → Outcome → State → Prop) : Prop :=
  ∀ (H : Heap) (locs : List Loc), va_P (q_D κ) vwCl (gW cy A σ) H → va_D (q_A κ) (gW cy A σ) → va_S (q_A κ) (q_s κ).heap H locs → ∀ ls : Array Slot, lv_has ls (q_n κ) lv → va_Run (q_p κ) (q_l κ) (q_e κ) (q_R κ) (q_s κ) (q_m κ) (q_a κ) (q_b κ) (q_M κ) (q_c κ) H locs k n mc ms (F0 (q_m κ) pc ls st0) rest (Qc H.size av.toArray) (gZ cy A σ H.size)
theorem gc_I (C : Cx κ cc own gL Rm) {Φ : Int32 → St → Prop} (hr : GRun κ k n mc ms cy A σ pc lv st0 rest av (fun sz => va_Qi Φ (HE (q_D κ) cy A (gZ cy A σ sz)) (gZ cy A σ sz))) (h : ∀ r σ', Φ r σ' → GW κ (k + mc) (n + ms) (gW cy A σ') (pc + 3) lv (.int r :: rest)) : GW κ k n (gW cy A σ) pc lv st0 := by
  intro H locs hP hD hS ls hl
  have hF := gF hD hS C.2.2.2.2.2.1
  refine va_calli (hr H locs hP hD hS ls hl) hS (fun q _ h => hF q h) hF (fun r u t H1 locs1 ht hvm hw hB hz hk1 hS1 => ?_)
  exact h r u hw H1 locs1 (ht ▸ hB.1) (hB.2.weaken (fun k q _ h => hF q.1 h)) hS1 ls hl
theorem gc_L (C : Cx κ cc own gL Rm) {Φ : Int64 → St → Prop} (hr : GRun κ k n mc ms cy A σ pc lv st0 rest av (fun sz => va_Ql Φ (HE (q_D κ) cy A (gZ cy A σ sz)) (gZ cy A σ sz))) (h : ∀ r σ', Φ r σ' → GW κ (k + mc) (n + ms) (gW cy A σ') (pc + 3) lv (.long r :: rest)) : GW κ k n (gW cy A σ) pc lv st0 := by
  intro H locs hP hD hS ls hl
  have hF := gF hD hS C.2.2.2.2.2.1
  refine va_calll (hr H locs hP hD hS ls hl) hS (fun q _ h => hF q h) hF (fun r u t H1 locs1 ht hvm hw hB hz hk1 hS1 => ?_)
  exact h r u hw H1 locs1 (ht ▸ hB.1) (hB.2.weaken (fun k q _ h => hF q.1 h)) hS1 ls hl
theorem gc_V (C : Cx κ cc own gL Rm) {Φ : St → Prop} (hr : GRun κ k n mc ms cy A σ pc lv st0 rest av (fun sz => va_Qv Φ (HE (q_D κ) cy A (gZ cy A σ sz)) (gZ cy A σ sz))) (h : ∀ σ', Φ σ' → GW κ (k + mc) (n + ms) (gW cy A σ') (pc + 3) lv rest) : GW κ k n (gW cy A σ) pc lv st0 := by
  intro H locs hP hD hS ls hl
  have hF := gF hD hS C.2.2.2.2.2.1
  refine va_callv (hr H locs hP hD hS ls hl) hS (fun q _ h => hF q h) hF (fun u t H1 locs1 ht hvm hw hB hz hk1 hS1 => ?_)
  exact h u hw H1 locs1 (ht ▸ hB.1) (hB.2.weaken (fun k q _ h => hF q.1 h)) hS1 ls hl
theorem gc_Q (C : Cx κ cc own gL Rm) {Φ : Option Nat → St → Prop} (hr : GRun κ k n mc ms cy A σ pc lv st0 rest av (fun sz => va_Qq Φ (HE (q_D κ) cy A (gZ cy A σ sz)) (gZ cy A σ sz))) (h : ∀ r σ', Φ r σ' → GW κ (k + mc) (n + ms) (gW cy A σ') (pc + 3) lv (va_rf r :: rest)) : GW κ k n (gW cy A σ) pc lv st0 := by
  intro H locs hP hD hS ls hl
  have hF := gF hD hS C.2.2.2.2.2.1
  refine va_callq (hr H locs hP hD hS ls hl) hS (fun q _ h => hF q h) hF (fun r u t H1 locs1 ht hvm hw hB hz hk1 hS1 => ?_)
  exact h r u hw H1 locs1 (ht ▸ hB.1) (hB.2.weaken (fun k q _ h => hF q.1 h)) hS1 ls hl
variable {y : MethodName} {bytes : ByteArray} {maxL idx : Nat} {ret : Option FieldType} {ws ws' : List Cond} {rm : Room} {Qc : Nat → Array Value → State → Outcome → State → Prop}
theorem gr_V (C : Cx κ cc own gL Rm) (hK : va_K (q_D κ) vwCl (gty cy) (q_s κ)) {Cn : String} (nA : Nat) (hg : GoodIn gL (wsV own idx Cn y ws)) (hw : ws = Cond.code y bytes maxL ret :: ws') (hrc : rm.cells = mc) (hrs : rm.slots = ms) (hd : y.cls = Cn ∧ y.cls ≠ "java/lang/invoke/MethodHandle" ∧ y.cls ≠ "java/lang/invoke/VarHandle" ∧ (parseMethodDescriptor y.desc).map (fun d => d.parameters.length) = some nA) (hroom : (rm.frames + 1 ≤ Rm.frames ∧ 8 + (maxL + 11) + rm.locals ≤ Rm.locals) ∧ k + mc ≤ Rm.cells ∧ n + ms ≤ Rm.slots) {As : List Value} {b : Nat} (hn : As.length = nA) (q0 : Nat) {ci : Nat} {fs : List Value} {T : u_T} {N : Nat} (he : (gW cy A σ)[q0]? = some (b, .inr (ci, fs))) (hc : vwCl[ci]? = some (Cn, T, N)) (hst : st0 = As.reverse ++ .ref b :: rest) (hcat : (rest.map fun v => v.category).sum ≤ 8) (hdg : decode cc pc = .ok (.invokevirtual idx, 3)) (hM : ∀ sz, Met (q_l κ) y ws rm (gPc (q_D κ) cy A σ sz (.ref b :: As)) (Qc sz) mc ms (gZ cy A σ sz)) : GRun κ k n mc ms cy A σ pc lv st0 rest (.ref b :: As) Qc := by
  intro H locs hP hD hS ls hl
  obtain ⟨c1, c2, c3, c4, c5, c6, c7, c8, c9⟩ := C
  rw [← c9] at hroom
  exact va_runV (Ts := gL) ⟨c1, c2, c3, c4, c5⟩ (hM H.size) (cwV nA c5 hg hw hrc hrs hd hroom.1) ⟨gPc_blind, va_recv hK hP hc he, gPc_at hP hK hD c7⟩ rfl hn hl.1 hst (lv_room hcat) hdg hroom.2
theorem gr_U (C : Cx κ cc own gL Rm) (hK : va_K (q_D κ) vwCl (gty cy) (q_s κ)) {Cn owner : String} {x : MethodName} (nA : Nat) (hg : GoodIn gL (va_wsU own idx Cn owner x y ws)) (hw : ws = Cond.code y bytes maxL ret :: ws') (hrc : rm.cells = mc) (hrs : rm.slots = ms) (hyx : y = ⟨owner, x.name, x.desc⟩) (hd : owner ≠ "java/lang/invoke/MethodHandle" ∧ owner ≠ "java/lang/invoke/VarHandle" ∧ (parseMethodDescriptor x.desc).map (fun d => d.parameters.length) = some nA) (hroom : (rm.frames + 1 ≤ Rm.frames ∧ 8 + (maxL + 11) + rm.locals ≤ Rm.locals) ∧ k + mc ≤ Rm.cells ∧ n + ms ≤ Rm.slots) {As : List Value} {b : Nat} (hn : As.length = nA) (q0 : Nat) {ci : Nat} {fs : List Value} {T : u_T} {N : Nat} (he : (gW cy A σ)[q0]? = some (b, .inr (ci, fs))) (hc : vwCl[ci]? = some (Cn, T, N)) (hst : st0 = As.reverse ++ .ref b :: rest) (hcat : (rest.map fun v => v.category).sum ≤ 8) (hdg : decode cc pc = .ok (.invokevirtual idx, 3)) (hM : ∀ sz, Met (q_l κ) y ws rm (gPc (q_D κ) cy A σ sz (.ref b :: As)) (Qc sz) mc ms (gZ cy A σ sz)) : GRun κ k n mc ms cy A σ pc lv st0 rest (.ref b :: As) Qc := by
  intro H locs hP hD hS ls hl
  obtain ⟨c1, c2, c3, c4, c5, c6, c7, c8, c9⟩ := C
  rw [← c9] at hroom
  exact va_runU (Ts := gL) ⟨c1, c2, c3, c4, c5⟩ (hM H.size) (va_cwU nA c5 hg hw hrc hrs hyx hd hroom.1) ⟨gPc_blind, va_recv hK hP hc he, gPc_at hP hK hD c7⟩ rfl hn hl.1 hst (lv_room hcat) hdg hroom.2
theorem gr_O (C : Cx κ cc own gL Rm) (hK : va_K (q_D κ) vwCl (gty cy) (q_s κ)) {Cn owner : String} {x : MethodName} (nA : Nat) (hg : GoodIn gL (va_wsO own idx Cn owner x y ws)) (hw : ws = Cond.code y bytes maxL ret :: ws') (hrc : rm.cells = mc) (hrs : rm.slots = ms) {b0 : ByteArray} {m0 : Nat} {r0 : Option FieldType} (h0 : Cond.code ⟨owner, x.name, x.desc⟩ b0 m0 r0 ∈ gL) (hd : owner ≠ "java/lang/invoke/MethodHandle" ∧ owner ≠ "java/lang/invoke/VarHandle" ∧ (parseMethodDescriptor x.desc).map (fun d => d.parameters.length) = some nA) (hroom : (rm.frames + 1 ≤ Rm.frames ∧ 8 + (maxL + 11) + rm.locals ≤ Rm.locals) ∧ k + mc ≤ Rm.cells ∧ n + ms ≤ Rm.slots) {As : List Value} {b : Nat} (hn : As.length = nA) (q0 : Nat) {ci : Nat} {fs : List Value} {T : u_T} {N : Nat} (he : (gW cy A σ)[q0]? = some (b, .inr (ci, fs))) (hc : vwCl[ci]? = some (Cn, T, N)) (hst : st0 = As.reverse ++ .ref b :: rest) (hcat : (rest.map fun v => v.category).sum ≤ 8) (hdg : decode cc pc = .ok (.invokevirtual idx, 3)) (hM : ∀ sz, Met (q_l κ) y ws rm (gPc (q_D κ) cy A σ sz (.ref b :: As)) (Qc sz) mc ms (gZ cy A σ sz)) : GRun κ k n mc ms cy A σ pc lv st0 rest (.ref b :: As) Qc := by
  intro H locs hP hD hS ls hl
  obtain ⟨c1, c2, c3, c4, c5, c6, c7, c8, c9⟩ := C
  rw [← c9] at hroom
  exact va_runU (Ts := gL) ⟨c1, c2, c3, c4, c5⟩ (hM H.size) (va_cwO nA c5 hg hw hrc hrs h0 hd hroom.1) ⟨gPc_blind, va_recv hK hP hc he, gPc_at hP hK hD c7⟩ rfl hn hl.1 hst (lv_room hcat) hdg hroom.2
theorem gr_S (C : Cx κ cc own gL Rm) (hK : va_K (q_D κ) vwCl (gty cy) (q_s κ)) (nA : Nat) (hg : GoodIn gL (va_wsS own idx y ws)) (hw : ws = Cond.code y bytes maxL ret :: ws') (hrc : rm.cells = mc) (hrs : rm.slots = ms) (hd : y.cls ≠ "java/lang/invoke/MethodHandle" ∧ y.cls ≠ "java/lang/invoke/VarHandle" ∧ (parseMethodDescriptor y.desc).map (fun d => d.parameters.length) = some nA) (hroom : (rm.frames + 1 ≤ Rm.frames ∧ 8 + (maxL + 11) + rm.locals ≤ Rm.locals) ∧ k + mc ≤ Rm.cells ∧ n + ms ≤ Rm.slots) {As : List Value} (hn : As.length = nA) (hst : st0 = As.reverse ++ rest) (hcat : (rest.map fun v => v.category).sum ≤ 8) (hdg : decode cc pc = .ok (.invokestatic idx, 3)) (hM : ∀ sz, Met (q_l κ) y ws rm (gPc (q_D κ) cy A σ sz As) (Qc sz) mc ms (gZ cy A σ sz)) : GRun κ k n mc ms cy A σ pc lv st0 rest As Qc := by
  intro H locs hP hD hS ls hl
  obtain ⟨c1, c2, c3, c4, c5, c6, c7, c8, c9⟩ := C
  rw [← c9] at hroom
  exact va_runS (Ts := gL) ⟨c1, c2, c3, c4, c5⟩ (hM H.size) (va_cwS nA c5 hg hw hrc hrs hd hroom.1) ⟨gPc_blind, gPc_at hP hK hD c7⟩ rfl hn hl.1 hst (lv_room hcat) hdg hroom.2
theorem gr_SN (C : Cx κ cc own gL Rm) (hK : va_K (q_D κ) vwCl (gty cy) (q_s κ)) {host : String} (nA : Nat) (hg : GoodIn gL ws) (hw : ws = Cond.code y bytes maxL ret :: ws') (hrc : rm.cells = mc) (hrs : rm.slots = ms) (hl0 : Cond.methodLinkNest own idx y host ∈ nwM) (hini : Cond.initialized y.cls ∈ gL) (hst1 : Cond.static y ∈ gL) (hd : y.cls ≠ "java/lang/invoke/MethodHandle" ∧ y.cls ≠ "java/lang/invoke/VarHandle" ∧ (parseMethodDescriptor y.desc).map (fun d => d.parameters.length) = some nA) (hroom : (rm.frames + 1 ≤ Rm.frames ∧ 8 + (maxL + 11) + rm.locals ≤ Rm.locals) ∧ k + mc ≤ Rm.cells ∧ n + ms ≤ Rm.slots) {As : List Value} (hn : As.length = nA) (hst : st0 = As.reverse ++ rest) (hcat : (rest.map fun v => v.category).sum ≤ 8) (hdg : decode cc pc = .ok (.invokestatic idx, 3)) (hM : ∀ sz, Met (q_l κ) y ws rm (gPc (q_D κ) cy A σ sz As) (Qc sz) mc ms (gZ cy A σ sz)) : GRun κ k n mc ms cy A σ pc lv st0 rest As Qc := by
  intro H locs hP hD hS ls hl
  obtain ⟨c1, c2, c3, c4, c5, c6, c7, c8, c9⟩ := C
  rw [← c9] at hroom
  exact va_runSN (Ts := gL) ⟨c1, c2, c3, c4, c5⟩ (hM H.size) ⟨va_cnB nA c5 hg hw hrc hrs (c7.1 _ hl0) (c5 _ hini) hd hroom.1, c5 _ hst1, trivial⟩ ⟨gPc_blind, gPc_at hP hK hD c7⟩ rfl hn hl.1 hst (lv_room hcat) hdg hroom.2
theorem gr_N (C : Cx κ cc own gL Rm) (hK : va_K (q_D κ) vwCl (gty cy) (q_s κ)) (nA : Nat) (hg : GoodIn gL ws) (hw : ws = Cond.code y bytes maxL none :: ws') (hrc : rm.cells = mc) (hrs : rm.slots = ms) (hini : Cond.initialized y.cls ∈ gL) (hlk : Cond.methodLink own idx y ∈ gL) (hin : Cond.instanceMethod y ∈ gL) (hy1 : y.name = "<init>") (hd : y.cls ≠ "java/lang/invoke/MethodHandle" ∧ y.cls ≠ "java/lang/invoke/VarHandle" ∧ (parseMethodDescriptor y.desc).map (fun d => d.parameters.length) = some nA) (hroom : (rm.frames + 1 ≤ Rm.frames ∧ 8 + (maxL + 11) + rm.locals ≤ Rm.locals) ∧ k + mc ≤ Rm.cells ∧ n + ms ≤ Rm.slots) {As : List Value} {b : Nat} (hn : As.length = nA) (hst : st0 = As.reverse ++ .ref b :: rest) (hcat : (rest.map fun v => v.category).sum ≤ 8) (hdg : decode cc pc = .ok (.invokespecial idx, 3)) (hM : ∀ sz, Met (q_l κ) y ws rm (gPc (q_D κ) cy A σ sz (.ref b :: As)) (Qc sz) mc ms (gZ cy A σ sz)) : GRun κ k n mc ms cy A σ pc lv st0 rest (.ref b :: As) Qc := by
  intro H locs hP hD hS ls hl
  obtain ⟨c1, c2, c3, c4, c5, c6, c7, c8, c9⟩ := C
  rw [← c9] at hroom
  exact va_runI (Ts := gL) ⟨c1, c2, c3, c4, c5⟩ (hM H.size) (cwI nA c5 hg hw hrc hrs (c5 _ hini) (c5 _ hlk) (c5 _ hin) hy1 hd hroom.1) ⟨gPc_blind, gPc_at hP hK hD c7⟩ rfl hn hl.1 hst (lv_room hcat) hdg hroom.2
/-! ends -/
variable {D : va_G} {Z : Nat → Prop}
theorem gq_I (C : Cx κ cc own gL Rm) {Φ : Int32 → St → Prop} (F : Fx κ D Z (some .int) maxL (va_Qi Φ (HE D cy A Z) Z) mc ms) (hk : k ≤ mc) (hn : n ≤ ms) {v : Int32} (hw : Φ v σ) (hdg : decode cc pc = .ok (.ireturn, 1)) : GW κ k n (gW cy A σ) pc lv [.int v] := by
  intro H locs hP hD hS ls hl
  obtain ⟨rfl, rfl, f3, f4, f5⟩ := F
  rw [f5]
  refine W.widen hk hn ?_
  exact W.iret (hlocks := C.2.2.2.2.2.2.2.1) C.1 C.2.1 f3 (fun t ht hW => ⟨⟨v, σ, rfl, hw, by rw [ht]; exact hP, hD⟩, hS.F ht⟩) hS.2.2 hdg
theorem gq_Z (C : Cx κ cc own gL Rm) {Φ : Int32 → St → Prop} (F : Fx κ D Z (some .boolean) maxL (va_Qi Φ (HE D cy A Z) Z) mc ms) (hk : k ≤ mc) (hn : n ≤ ms) {v : Int32} (hw : (v = 0 ∨ v = 1) ∧ Φ v σ) (hdg : decode cc pc = .ok (.ireturn, 1)) : GW κ k n (gW cy A σ) pc lv [.int v] := by
  intro H locs hP hD hS ls hl
  obtain ⟨rfl, rfl, f3, f4, f5⟩ := F
  rw [f5]
  refine W.widen hk hn ?_
  exact W.zret (hlocks := C.2.2.2.2.2.2.2.1) C.1 C.2.1 f3 (by rcases hw.1 with rfl | rfl <;> rfl) (fun t ht hW => ⟨⟨v, σ, rfl, hw.2, by rw [ht]; exact hP, hD⟩, hS.F ht⟩) hS.2.2 hdg
theorem gq_L (C : Cx κ cc own gL Rm) {Φ : Int64 → St → Prop} (F : Fx κ D Z (some .long) maxL (va_Ql Φ (HE D cy A Z) Z) mc ms) (hk : k ≤ mc) (hn : n ≤ ms) {v : Int64} (hw : Φ v σ) (hdg : decode cc pc = .ok (.lreturn, 1)) : GW κ k n (gW cy A σ) pc lv [.long v] := by
  intro H locs hP hD hS ls hl
  obtain ⟨rfl, rfl, f3, f4, f5⟩ := F
  rw [f5]
  refine W.widen hk hn ?_
  exact W.lret (hlocks := C.2.2.2.2.2.2.2.1) C.1 C.2.1 f3 (fun t ht hW => ⟨⟨v, σ, rfl, hw, by rw [ht]; exact hP, hD⟩, hS.F ht⟩) hS.2.2 hdg
theorem gq_V (C : Cx κ cc own gL Rm) {Φ : St → Prop} (F : Fx κ D Z none maxL (va_Qv Φ (HE D cy A Z) Z) mc ms) (hk : k ≤ mc) (hn : n ≤ ms) (hw : Φ σ) (hdg : decode cc pc = .ok (.return_, 1)) : GW κ k n (gW cy A σ) pc lv [] := by
  intro H locs hP hD hS ls hl
  obtain ⟨rfl, rfl, f3, f4, f5⟩ := F
  rw [f5]
  refine W.widen hk hn ?_
  exact W.vret (hlocks := C.2.2.2.2.2.2.2.1) C.1 C.2.1 f3 (fun t ht hW => ⟨⟨σ, rfl, hw, by rw [ht]; exact hP, hD⟩, hS.F ht⟩) hS.2.2 hdg
theorem gq_Q (C : Cx κ cc own gL Rm) {Φ : Option Nat → St → Prop} {nm : String} (F : Fx κ D Z (some (.object nm)) maxL (va_Qq Φ (HE D cy A Z) Z) mc ms) (hk : k ≤ mc) (hn : n ≤ ms) {r : Option Nat} (hw : Φ r σ) (hdg : decode cc pc = .ok (.areturn, 1)) : GW κ k n (gW cy A σ) pc lv [va_rf r] := by
  intro H locs hP hD hS ls hl
  obtain ⟨rfl, rfl, f3, f4, f5⟩ := F
  rw [f5]
  refine W.widen hk hn ?_
  exact W.aret (hlocks := C.2.2.2.2.2.2.2.1) C.1 C.2.1 f3 (Or.inl ⟨_, rfl⟩) (by cases r with | none => exact Or.inl rfl | some a => exact Or.inr ⟨a, rfl⟩) (fun t ht hW => ⟨⟨r, σ, rfl, hw, by rw [ht]; exact hP, hD⟩, hS.F ht⟩) hS.2.2 hdg
/-! things: their fields, their classes, a new one -/
variable {st : List Value} {a : Nat} {ref : String}
theorem g_getT0 (C : Cx κ cc own gL Rm) (hK : va_K (q_D κ) vwCl (gty cy) (q_s κ)) (hT : isT σ a) (hsame : ∀ x, (q_s κ).fieldFound? "TwoOnACable$Thing" "weight" "I" = some x → (q_s κ).fieldFound? ref "weight" "I" = some x) (hlk : Cond.fieldLink own idx ref "weight" "I" ∈ gL) (hdg : decode cc pc = .ok (.getfield idx, 3)) (h : GW κ k n (gW cy A σ) (pc + 3) lv (.int (σ.2.2.2.2.2 a 0) :: st)) : GW κ k n (gW cy A σ) pc lv (.ref a :: st) := by
  obtain ⟨ha, hk⟩ := hT
  rcases hk with hk | hk | hk | hk | hk <;> obtain ⟨q0, -, he⟩ := ga_T cy A σ ha hk
  · exact g_get C hK inX1 rfl q0 he 0 (by decide) hsame hlk rfl hdg h
  · exact g_get C hK inX3 rfl q0 he 0 (by decide) hsame hlk rfl hdg h
  · exact g_get C hK inX4 rfl q0 he 0 (by decide) hsame hlk rfl hdg h
  · exact g_get C hK inX5 rfl q0 he 0 (by decide) hsame hlk rfl hdg h
  · exact g_get C hK inX9 rfl q0 he 0 (by decide) hsame hlk rfl hdg h
theorem g_getT1 (C : Cx κ cc own gL Rm) (hK : va_K (q_D κ) vwCl (gty cy) (q_s κ)) (hT : isT σ a) (hsame : ∀ x, (q_s κ).fieldFound? "TwoOnACable$Thing" "came" "I" = some x → (q_s κ).fieldFound? ref "came" "I" = some x) (hlk : Cond.fieldLink own idx ref "came" "I" ∈ gL) (hdg : decode cc pc = .ok (.getfield idx, 3)) (h : GW κ k n (gW cy A σ) (pc + 3) lv (.int (σ.2.2.2.2.2 a 1) :: st)) : GW κ k n (gW cy A σ) pc lv (.ref a :: st) := by
  obtain ⟨ha, hk⟩ := hT
  rcases hk with hk | hk | hk | hk | hk <;> obtain ⟨q0, -, he⟩ := ga_T cy A σ ha hk
  · exact g_get C hK inX1 rfl q0 he 1 (by decide) hsame hlk rfl hdg h
  · exact g_get C hK inX3 rfl q0 he 1 (by decide) hsame hlk rfl hdg h
  · exact g_get C hK inX4 rfl q0 he 1 (by decide) hsame hlk rfl hdg h
  · exact g_get C hK inX5 rfl q0 he 1 (by decide) hsame hlk rfl hdg h
  · exact g_get C hK inX9 rfl q0 he 1 (by decide) hsame hlk rfl hdg h
theorem g_getT2 (C : Cx κ cc own gL Rm) (hK : va_K (q_D κ) vwCl (gty cy) (q_s κ)) (hT : isT σ a) (hsame : ∀ x, (q_s κ).fieldFound? "TwoOnACable$Thing" "place" "I" = some x → (q_s κ).fieldFound? ref "place" "I" = some x) (hlk : Cond.fieldLink own idx ref "place" "I" ∈ gL) (hdg : decode cc pc = .ok (.getfield idx, 3)) (h : GW κ k n (gW cy A σ) (pc + 3) lv (.int (σ.2.2.2.2.2 a 2) :: st)) : GW κ k n (gW cy A σ) pc lv (.ref a :: st) := by
  obtain ⟨ha, hk⟩ := hT
  rcases hk with hk | hk | hk | hk | hk <;> obtain ⟨q0, -, he⟩ := ga_T cy A σ ha hk
  · exact g_get C hK inX1 rfl q0 he 2 (by decide) hsame hlk rfl hdg h
  · exact g_get C hK inX3 rfl q0 he 2 (by decide) hsame hlk rfl hdg h
  · exact g_get C hK inX4 rfl q0 he 2 (by decide) hsame hlk rfl hdg h
  · exact g_get C hK inX5 rfl q0 he 2 (by decide) hsame hlk rfl hdg h
  · exact g_get C hK inX9 rfl q0 he 2 (by decide) hsame hlk rfl hdg h
/-- a put on a thing: the world behind it, whatever the class -/
theorem g_putT2 (C : Cx κ cc own gL Rm) (hK : va_K (q_D κ) vwCl (gty cy) (q_s κ)) (hT : isT σ a) (hsame : ∀ x, (q_s κ).fieldFound? "TwoOnACable$Thing" "place" "I" = some x → (q_s κ).fieldFound? ref "place" "I" = some x) (hlk : Cond.fieldLink own idx ref "place" "I" ∈ gL) (hdg : decode cc pc = .ok (.putfield idx, 3)) {v : Int32} (h : GW κ k n (gW cy A (sT σ a 2 v)) (pc + 3) lv st) : GW κ k n (gW cy A σ) pc lv (.int v :: .ref a :: st) := by
  intro H locs hP hD hS ls hl
  obtain ⟨ha, hk⟩ := hT
  rcases hk with hk | hk | hk | hk | hk <;> obtain ⟨q0, he0, he⟩ := ga_T cy A σ ha hk
  · exact g_put C hK inX1 rfl tyX1 tyX1_ok nmX1 q0 he 2 (by decide) hsame hlk rfl rfl rfl (Nat.le_of_ble_eq_true rfl) (by have e := gt_2 cy A σ _ v hD ha he0; rw [hk] at e; exact e) hdg h H locs hP hD hS ls hl
  · exact g_put C hK inX3 rfl tyX3 tyX3_ok nmX3 q0 he 2 (by decide) hsame hlk rfl rfl rfl (Nat.le_of_ble_eq_true rfl) (by have e := gt_2 cy A σ _ v hD ha he0; rw [hk] at e; exact e) hdg h H locs hP hD hS ls hl
  · exact g_put C hK inX4 rfl tyX4 tyX4_ok nmX4 q0 he 2 (by decide) hsame hlk rfl rfl rfl (Nat.le_of_ble_eq_true rfl) (by have e := gt_2 cy A σ _ v hD ha he0; rw [hk] at e; exact e) hdg h H locs hP hD hS ls hl
  · exact g_put C hK inX5 rfl tyX5 tyX5_ok nmX5 q0 he 2 (by decide) hsame hlk rfl rfl rfl (Nat.le_of_ble_eq_true rfl) (by have e := gt_2 cy A σ _ v hD ha he0; rw [hk] at e; exact e) hdg h H locs hP hD hS ls hl
  · exact g_put C hK inX9 rfl tyX9 tyX9_ok nmX9 q0 he 2 (by decide) hsame hlk rfl rfl rfl (Nat.le_of_ble_eq_true rfl) (by have e := gt_2 cy A σ _ v hD ha he0; rw [hk] at e; exact e) hdg h H locs hP hD hS ls hl
theorem g_putT0 (C : Cx κ cc "TwoOnACable$Thing" gL Rm) (hK : va_K (q_D κ) vwCl (gty cy) (q_s κ)) (hi : (q_M κ).name = "<init>") (hT : isT σ a) (hlk : Cond.fieldLink "TwoOnACable$Thing" idx "TwoOnACable$Thing" "weight" "I" ∈ gL) (hdg : decode cc pc = .ok (.putfield idx, 3)) {v : Int32} (h : GW κ k n (gW cy A (sT σ a 0 v)) (pc + 3) lv st) : GW κ k n (gW cy A σ) pc lv (.int v :: .ref a :: st) := by
  intro H locs hP hD hS ls hl
  obtain ⟨ha, hk⟩ := hT
  rcases hk with hk | hk | hk | hk | hk <;> obtain ⟨q0, he0, he⟩ := ga_T cy A σ ha hk
  · exact g_putF C hK inX1 rfl tyX1 tyX1_ok nmX1 hi q0 he 0 (by decide) rfl (fun _ h => h) hlk rfl rfl rfl (Nat.le_of_ble_eq_true rfl) (by have e := gt_0 cy A σ _ v hD ha he0; rw [hk] at e; exact e) hdg h H locs hP hD hS ls hl
  · exact g_putF C hK inX3 rfl tyX3 tyX3_ok nmX3 hi q0 he 0 (by decide) rfl (fun _ h => h) hlk rfl rfl rfl (Nat.le_of_ble_eq_true rfl) (by have e := gt_0 cy A σ _ v hD ha he0; rw [hk] at e; exact e) hdg h H locs hP hD hS ls hl
  · exact g_putF C hK inX4 rfl tyX4 tyX4_ok nmX4 hi q0 he 0 (by decide) rfl (fun _ h => h) hlk rfl rfl rfl (Nat.le_of_ble_eq_true rfl) (by have e := gt_0 cy A σ _ v hD ha he0; rw [hk] at e; exact e) hdg h H locs hP hD hS ls hl
  · exact g_putF C hK inX5 rfl tyX5 tyX5_ok nmX5 hi q0 he 0 (by decide) rfl (fun _ h => h) hlk rfl rfl rfl (Nat.le_of_ble_eq_true rfl) (by have e := gt_0 cy A σ _ v hD ha he0; rw [hk] at e; exact e) hdg h H locs hP hD hS ls hl
  · exact g_putF C hK inX9 rfl tyX9 tyX9_ok nmX9 hi q0 he 0 (by decide) rfl (fun _ h => h) hlk rfl rfl rfl (Nat.le_of_ble_eq_true rfl) (by have e := gt_0 cy A σ _ v hD ha he0; rw [hk] at e; exact e) hdg h H locs hP hD hS ls hl
theorem g_putT1 (C : Cx κ cc "TwoOnACable$Thing" gL Rm) (hK : va_K (q_D κ) vwCl (gty cy) (q_s κ)) (hi : (q_M κ).name = "<init>") (hT : isT σ a) (hlk : Cond.fieldLink "TwoOnACable$Thing" idx "TwoOnACable$Thing" "came" "I" ∈ gL) (hdg : decode cc pc = .ok (.putfield idx, 3)) {v : Int32} (h : GW κ k n (gW cy A (sT σ a 1 v)) (pc + 3) lv st) : GW κ k n (gW cy A σ) pc lv (.int v :: .ref a :: st) := by
  intro H locs hP hD hS ls hl
  obtain ⟨ha, hk⟩ := hT
  rcases hk with hk | hk | hk | hk | hk <;> obtain ⟨q0, he0, he⟩ := ga_T cy A σ ha hk
  · exact g_putF C hK inX1 rfl tyX1 tyX1_ok nmX1 hi q0 he 1 (by decide) rfl (fun _ h => h) hlk rfl rfl rfl (Nat.le_of_ble_eq_true rfl) (by have e := gt_1 cy A σ _ v hD ha he0; rw [hk] at e; exact e) hdg h H locs hP hD hS ls hl
  · exact g_putF C hK inX3 rfl tyX3 tyX3_ok nmX3 hi q0 he 1 (by decide) rfl (fun _ h => h) hlk rfl rfl rfl (Nat.le_of_ble_eq_true rfl) (by have e := gt_1 cy A σ _ v hD ha he0; rw [hk] at e; exact e) hdg h H locs hP hD hS ls hl
  · exact g_putF C hK inX4 rfl tyX4 tyX4_ok nmX4 hi q0 he 1 (by decide) rfl (fun _ h => h) hlk rfl rfl rfl (Nat.le_of_ble_eq_true rfl) (by have e := gt_1 cy A σ _ v hD ha he0; rw [hk] at e; exact e) hdg h H locs hP hD hS ls hl
  · exact g_putF C hK inX5 rfl tyX5 tyX5_ok nmX5 hi q0 he 1 (by decide) rfl (fun _ h => h) hlk rfl rfl rfl (Nat.le_of_ble_eq_true rfl) (by have e := gt_1 cy A σ _ v hD ha he0; rw [hk] at e; exact e) hdg h H locs hP hD hS ls hl
  · exact g_putF C hK inX9 rfl tyX9 tyX9_ok nmX9 hi q0 he 1 (by decide) rfl (fun _ h => h) hlk rfl rfl rfl (Nat.le_of_ble_eq_true rfl) (by have e := gt_1 cy A σ _ v hD ha he0; rw [hk] at e; exact e) hdg h H locs hP hD hS ls hl
theorem g_newT (C : Cx κ cc own gL Rm) (hK : va_K (q_D κ) vwCl (gty cy) (q_s κ)) {Cn : String} {T : u_T} (kd : Nat) (hin : ∀ w ∈ u_ws Cn T 3, w ∈ gL) (ty : Nat → FieldType) (hty : ∀ k, k < 3 → parseFieldDescriptor (T k).2.2.1 = some (ty k)) (hc : vwCl[kd]? = some (Cn, T, 3)) (h0 : ty 0 = .int ∧ ty 1 = .int ∧ ty 2 = .int) (hcl : Cond.classLink own idx Cn ∈ gL) (hinst : Cond.instantiable Cn 3 ∈ gL) (hini : Cond.initialized Cn ∈ gL) (hcs : k + 1 ≤ Rm.cells ∧ n + 3 ≤ Rm.slots) (hdg : decode cc pc = .ok (.new idx, 3)) (h : ∀ a, a ∉ σ.2.2.2.1 → GW κ (k + 1) (n + 3) (gW cy A (sN σ a kd)) (pc + 3) lv (.ref a :: st)) : GW κ k n (gW cy A σ) pc lv st := by
  intro H locs hP hD hS ls hl
  obtain ⟨c1, c2, c3, c4, c5, c6, c7, c8, c9⟩ := C
  rw [← c9] at hcs
  refine va_new (ci := kd) (fs := [.int 0, .int 0, .int 0]) (N := 3) c1 c2 c5 hin ty hty c4 (c5 _ hcl) (c5 _ hinst) (c5 _ hini) hK hP hD hS c6 hc (fun j hj => by
    rcases (show j = 0 ∨ j = 1 ∨ j = 2 by omega) with rfl | rfl | rfl
    · rw [h0.1]; rfl
    · rw [h0.2.1]; rfl
    · rw [h0.2.2]; rfl) hcs.1 hcs.2 hdg (fun q H1 hP1 hD1 hS1 => ?_)
  have hq : q ∉ σ.2.2.2.1 := by
    intro hm
    obtain ⟨i, hi⟩ := va_pl_get (X := gX cy A σ) (f := tcell σ) hm
    have hil : i < (gW cy A σ).length := (List.getElem?_eq_some_iff.mp hi).1
    have e1 : (gW cy A σ ++ [(q, (.inr (kd, [.int 0, .int 0, .int 0]) : va_E))])[i]? = some (q, tcell σ q) := by rw [List.getElem?_append_left hil]; exact hi
    have e2 : (gW cy A σ ++ [(q, (.inr (kd, [.int 0, .int 0, .int 0]) : va_E))])[(gW cy A σ).length]? = some (q, .inr (kd, [.int 0, .int 0, .int 0])) := by rw [List.getElem?_append_right (Nat.le_refl _), Nat.sub_self]; rfl
    have := hD1.1 _ _ _ _ e1 e2 rfl
    omega
  rw [gn_T cy A σ kd hq] at hP1 hD1
  exact h q hq H1 locs hP1 hD1 hS1 ls hl
/-- a thing is put into the row of things -/
theorem g_aastT (C : Cx κ cc own gL Rm) (hK : va_K (q_D κ) vwCl (gty cy) (q_s κ)) (hT : isT σ a) {i : Int32} (hin : vp_in i 6) (hdg : decode cc pc = .ok (.aastore, 1)) (h : GW κ k n (gW cy A (sH σ i.toNatClampNeg (some a))) (pc + 1) lv st) : GW κ k n (gW cy A σ) pc lv (.ref a :: .int i :: .ref (A 5) :: st) := by
  intro H locs hP hD hS ls hl
  obtain ⟨c1, c2, c3, c4, c5, c6, c7, c8, c9⟩ := C
  obtain ⟨ha, hk⟩ := hT
  rcases hk with hk | hk | hk | hk | hk <;> obtain ⟨q0, -, he⟩ := ga_T cy A σ ha hk
  · exact va_astqO (r := (RX1, TX1, 3)) c1 c2 hK hP hD hS 5 3 q0 1 (ga_5 cy A σ) rfl (c7.2.1 (RX1, RX9) (by decide)) he rfl hin hdg (fun H1 locs1 hP1 hD1 hS1 => h H1 locs1 hP1 hD1 hS1 ls hl)
  · exact va_astqO (r := (RX3, TX3, 3)) c1 c2 hK hP hD hS 5 3 q0 3 (ga_5 cy A σ) rfl (c7.2.1 (RX3, RX9) (by decide)) he rfl hin hdg (fun H1 locs1 hP1 hD1 hS1 => h H1 locs1 hP1 hD1 hS1 ls hl)
  · exact va_astqO (r := (RX4, TX4, 3)) c1 c2 hK hP hD hS 5 3 q0 4 (ga_5 cy A σ) rfl (c7.2.1 (RX4, RX9) (by decide)) he rfl hin hdg (fun H1 locs1 hP1 hD1 hS1 => h H1 locs1 hP1 hD1 hS1 ls hl)
  · exact va_astqO (r := (RX5, TX5, 3)) c1 c2 hK hP hD hS 5 3 q0 5 (ga_5 cy A σ) rfl (c7.2.1 (RX5, RX9) (by decide)) he rfl hin hdg (fun H1 locs1 hP1 hD1 hS1 => h H1 locs1 hP1 hD1 hS1 ls hl)
  · exact va_astq (r := (RX9, TX9, 3)) c1 c2 hK hP hD hS 5 3 q0 9 (ga_5 cy A σ) rfl he rfl hin hdg (fun H1 locs1 hP1 hD1 hS1 => h H1 locs1 hP1 hD1 hS1 ls hl)
end GC
end
section
/-! further rows: Object's constructor, instanceof's answers, the two rows of EVEN -/
def isQ (q : Nat) : Prop := q = 11 ∨ q = 12
theorem hQ11 : isQ 11 := Or.inl rfl
theorem hQ12 : isQ 12 := Or.inr rfl
theorem hC3 : isC 3 := Or.inl rfl
theorem hC16 : isC 16 := Or.inr (Or.inl rfl)
theorem hC17 : isC 17 := Or.inr (Or.inr rfl)
theorem ga_q (cy : Nat → ClassId) (A : Nat → Nat) (σ : St) {q : Nat} (h : isQ q) : (gW cy A σ)[q]? = some (A q, .inl (cy 2, 6, .inl (σ.1 q))) := by
  rcases h with rfl | rfl <;> rfl
section GM
variable {κ : qC} {cc : ByteArray} {own : String} {Rm : Room} {k n : Nat} {ws : va_W} {pc : Nat} {lv : List (Nat × Value)} {st : List Value}
theorem g_objInit (C : Cx κ cc own gL Rm) {idx a : Nat} (hroom : 1 ≤ Rm.frames ∧ (st.map fun v => v.category).sum + 12 ≤ Rm.locals) (h1 : Cond.methodLink own idx objectInit ∈ gL) (h2 : Cond.instanceMethod objectInit ∈ gL) (h3 : Cond.code objectInit object_method_1_code 1 (none : Option FieldType) ∈ gL) (hdg : decode cc pc = .ok (.invokespecial idx, 3)) (h : GW κ k n ws (pc + 3) lv st) : GW κ k n ws pc lv (.ref a :: st) := by
  intro H locs hP hD hS ls hl
  obtain ⟨c1, c2, c3, c4, c5, c6, c7, c8, c9⟩ := C
  rw [← c9] at hroom
  refine W.objInit c1 c2 c4 (c5 _ h1) (c5 _ h2) (c5 _ h3) rfl (hl.1.trans c3.symm) rfl hdg hroom.1 (by show 2 * 0 + _ + 12 ≤ _; omega) ?_
  exact h H locs hP hD hS ls hl
end GM
def instR (nm : String) (ct : Nat) (v : Int32) (kd : Nat) (Cn : String) : Prop := (v = 1 ∧ (Cn = nm ∧ kd = ct ∨ (Cn, nm) ∈ nwC)) ∨ (v = 0 ∧ (Cn, nm) ∈ nwN)
section GI
variable {κ : qC} {cc : ByteArray} {own : String} {Rm : Room} {k n : Nat} {cy : Nat → ClassId} {A : Nat → Nat} {σ : St} {pc a idx : Nat} {lv : List (Nat × Value)} {st : List Value}
theorem g_instT (C : Cx κ cc own gL Rm) (hK : va_K (q_D κ) vwCl (gty cy) (q_s κ)) {ct : Nat} {nm : String} {T : u_T} (hct : vwCl[ct]? = some (nm, T, 3)) (hlk : Cond.classLink own idx nm ∈ gL) (hT : isT σ a) (v : Int32)
    (hv : (σ.2.2.2.2.1 a = 1 → instR nm ct v 1 RX1) ∧ (σ.2.2.2.2.1 a = 3 → instR nm ct v 3 RX3) ∧ (σ.2.2.2.2.1 a = 4 → instR nm ct v 4 RX4) ∧ (σ.2.2.2.2.1 a = 5 → instR nm ct v 5 RX5) ∧ (σ.2.2.2.2.1 a = 9 → instR nm ct v 9 RX9)) (hdg : decode cc pc = .ok (.instanceof idx, 3)) (h : GW κ k n (gW cy A σ) (pc + 3) lv (.int v :: st)) : GW κ k n (gW cy A σ) pc lv (.ref a :: st) := by
  intro H locs hP hD hS ls hl
  obtain ⟨c1, c2, c3, c4, c5, c6, c7, c8, c9⟩ := C
  obtain ⟨ha, hk⟩ := hT
  have key : ∀ kd Cn Tn, σ.2.2.2.2.1 a = kd → vwCl[kd]? = some (Cn, Tn, 3) → instR nm ct v kd Cn → W (q_p κ) (q_l κ) (q_e κ) (q_R κ) (q_s κ) (q_m κ) (q_a κ) (q_b κ) (q_M κ) (q_c κ) H locs k n (q_Q κ) (F0 (q_m κ) pc ls (.ref a :: st)) := by
    intro kd Cn Tn hkd hcl hR
    obtain ⟨q0, -, he⟩ := ga_T cy A σ ha hkd
    have hr := va_recv hK hP hcl he
    rcases hR with ⟨rfl, h1⟩ | ⟨rfl, h1⟩
    · rcases h1 with ⟨rfl, rfl⟩ | h1
      · exact va_instS c1 c2 c4 (c5 _ hlk) (hK.1 _ _ hct).2 hr hdg (h H locs hP hD hS ls hl)
      · exact va_instY c1 c2 c4 (c5 _ hlk) (c7.2.1 _ h1) hr hdg (h H locs hP hD hS ls hl)
    · exact va_instNo c1 c2 c4 (c5 _ hlk) (c7.2.2.1 _ h1) hr hdg (h H locs hP hD hS ls hl)
  rcases hk with hk | hk | hk | hk | hk
  · exact key 1 RX1 TX1 hk rfl (hv.1 hk)
  · exact key 3 RX3 TX3 hk rfl (hv.2.1 hk)
  · exact key 4 RX4 TX4 hk rfl (hv.2.2.1 hk)
  · exact key 5 RX5 TX5 hk rfl (hv.2.2.2.1 hk)
  · exact key 9 RX9 TX9 hk rfl (hv.2.2.2.2 hk)
end GI
theorem inst_1 (σ : St) (a : Nat) : (σ.2.2.2.2.1 a = 1 → instR RX1 1 (if σ.2.2.2.2.1 a = 1 then (1 : Int32) else 0) 1 RX1) ∧ (σ.2.2.2.2.1 a = 3 → instR RX1 1 (if σ.2.2.2.2.1 a = 1 then (1 : Int32) else 0) 3 RX3) ∧ (σ.2.2.2.2.1 a = 4 → instR RX1 1 (if σ.2.2.2.2.1 a = 1 then (1 : Int32) else 0) 4 RX4) ∧ (σ.2.2.2.2.1 a = 5 → instR RX1 1 (if σ.2.2.2.2.1 a = 1 then (1 : Int32) else 0) 5 RX5) ∧ (σ.2.2.2.2.1 a = 9 → instR RX1 1 (if σ.2.2.2.2.1 a = 1 then (1 : Int32) else 0) 9 RX9) := ⟨fun e => Or.inl ⟨by rw [e]; rfl, Or.inl ⟨rfl, rfl⟩⟩, fun e => Or.inr ⟨by rw [e]; rfl, by decide⟩, fun e => Or.inr ⟨by rw [e]; rfl, by decide⟩, fun e => Or.inr ⟨by rw [e]; rfl, by decide⟩, fun e => Or.inr ⟨by rw [e]; rfl, by decide⟩⟩
theorem inst_3 (σ : St) (a : Nat) : (σ.2.2.2.2.1 a = 1 → instR RX3 3 (if σ.2.2.2.2.1 a = 3 then (1 : Int32) else 0) 1 RX1) ∧ (σ.2.2.2.2.1 a = 3 → instR RX3 3 (if σ.2.2.2.2.1 a = 3 then (1 : Int32) else 0) 3 RX3) ∧ (σ.2.2.2.2.1 a = 4 → instR RX3 3 (if σ.2.2.2.2.1 a = 3 then (1 : Int32) else 0) 4 RX4) ∧ (σ.2.2.2.2.1 a = 5 → instR RX3 3 (if σ.2.2.2.2.1 a = 3 then (1 : Int32) else 0) 5 RX5) ∧ (σ.2.2.2.2.1 a = 9 → instR RX3 3 (if σ.2.2.2.2.1 a = 3 then (1 : Int32) else 0) 9 RX9) := ⟨fun e => Or.inr ⟨by rw [e]; rfl, by decide⟩, fun e => Or.inl ⟨by rw [e]; rfl, Or.inl ⟨rfl, rfl⟩⟩, fun e => Or.inr ⟨by rw [e]; rfl, by decide⟩, fun e => Or.inr ⟨by rw [e]; rfl, by decide⟩, fun e => Or.inr ⟨by rw [e]; rfl, by decide⟩⟩
theorem inst_5 (σ : St) (a : Nat) : (σ.2.2.2.2.1 a = 1 → instR RX5 5 (if σ.2.2.2.2.1 a = 5 ∨ σ.2.2.2.2.1 a = 4 then (1 : Int32) else 0) 1 RX1) ∧ (σ.2.2.2.2.1 a = 3 → instR RX5 5 (if σ.2.2.2.2.1 a = 5 ∨ σ.2.2.2.2.1 a = 4 then (1 : Int32) else 0) 3 RX3) ∧ (σ.2.2.2.2.1 a = 4 → instR RX5 5 (if σ.2.2.2.2.1 a = 5 ∨ σ.2.2.2.2.1 a = 4 then (1 : Int32) else 0) 4 RX4) ∧ (σ.2.2.2.2.1 a = 5 → instR RX5 5 (if σ.2.2.2.2.1 a = 5 ∨ σ.2.2.2.2.1 a = 4 then (1 : Int32) else 0) 5 RX5) ∧ (σ.2.2.2.2.1 a = 9 → instR RX5 5 (if σ.2.2.2.2.1 a = 5 ∨ σ.2.2.2.2.1 a = 4 then (1 : Int32) else 0) 9 RX9) := ⟨fun e => Or.inr ⟨by rw [e]; rfl, by decide⟩, fun e => Or.inr ⟨by rw [e]; rfl, by decide⟩, fun e => Or.inl ⟨by rw [e]; rfl, Or.inr (by decide)⟩, fun e => Or.inl ⟨by rw [e]; rfl, Or.inl ⟨rfl, rfl⟩⟩, fun e => Or.inr ⟨by rw [e]; rfl, by decide⟩⟩
theorem inst_4 (σ : St) (a : Nat) : (σ.2.2.2.2.1 a = 1 → instR RX4 4 (if σ.2.2.2.2.1 a = 4 then (1 : Int32) else 0) 1 RX1) ∧ (σ.2.2.2.2.1 a = 3 → instR RX4 4 (if σ.2.2.2.2.1 a = 4 then (1 : Int32) else 0) 3 RX3) ∧ (σ.2.2.2.2.1 a = 4 → instR RX4 4 (if σ.2.2.2.2.1 a = 4 then (1 : Int32) else 0) 4 RX4) ∧ (σ.2.2.2.2.1 a = 5 → instR RX4 4 (if σ.2.2.2.2.1 a = 4 then (1 : Int32) else 0) 5 RX5) ∧ (σ.2.2.2.2.1 a = 9 → instR RX4 4 (if σ.2.2.2.2.1 a = 4 then (1 : Int32) else 0) 9 RX9) := ⟨fun e => Or.inr ⟨by rw [e]; rfl, by decide⟩, fun e => Or.inr ⟨by rw [e]; rfl, by decide⟩, fun e => Or.inl ⟨by rw [e]; rfl, Or.inl ⟨rfl, rfl⟩⟩, fun e => Or.inr ⟨by rw [e]; rfl, by decide⟩, fun e => Or.inr ⟨by rw [e]; rfl, by decide⟩⟩
end
section
/-! the weakest preconditions of the methods, by program out of the bytecode (gen.py) -/
def wX7_at (σ : St) (v1 : Int32) (Φ : Int32 → St → Prop) : Prop := (if v1 < 0 then Φ (0 : Int32) σ else (if (σ.1 1 1) ≤ v1 then Φ (0 : Int32) σ else (if (12 : Int32) ≤ v1 then Φ (0 : Int32) σ else vp_in v1 12 ∧ Φ (σ.1 2 v1.toNatClampNeg) σ)))
def wX7_digitAt (σ : St) (v1 : Int32) (Φ : Int32 → St → Prop) : Prop := wX7_at σ v1 (fun r2 σ1 => Φ (r2 - (48 : Int32)) σ1)
def wX0_hang_81 (k : Nat) (Φ : St → Prop) (σ : St) (s0 : Int32) : Prop := (s0 = 0 ∨ s0 = 1) ∧ ((0 : Int32) = 0 ∨ (0 : Int32) = 1) ∧ Φ (sV (sV (sV (sV σ k 5 s0) k 3 (0 : Int32)) k 4 (0 : Int32)) k 6 (0 : Int32))
def wX0_hang (σ : St) (k : Nat) (Φ : St → Prop) : Prop := wX7_digitAt σ (0 : Int32) (fun r2 σ1 => wX7_digitAt σ1 (1 : Int32) (fun r4 σ3 => wX7_digitAt (sV σ3 k 0 (((10 : Int32) * r2) + r4)) (3 : Int32) (fun r6 σ5 => wX7_digitAt (sV σ5 k 1 ((((sV σ3 k 0 (((10 : Int32) * r2) + r4)).1 k 0) * ((sV σ3 k 0 (((10 : Int32) * r2) + r4)).1 k 0)) * r6)) (5 : Int32) (fun r8 σ7 => wX7_digitAt σ7 (6 : Int32) (fun r10 σ9 => wX7_digitAt σ9 (7 : Int32) (fun r12 σ11 => (if ((sV σ11 k 2 ((((100 : Int32) * r8) + ((10 : Int32) * r10)) + r12)).1 1 1) ≤ (8 : Int32) then wX0_hang_81 k Φ (sV σ11 k 2 ((((100 : Int32) * r8) + ((10 : Int32) * r10)) + r12)) (0 : Int32) else wX0_hang_81 k Φ (sV σ11 k 2 ((((100 : Int32) * r8) + ((10 : Int32) * r10)) + r12)) (1 : Int32))))))))
def wX0_becomeLike (σ : St) (k : Nat) (k2 : Nat) (Φ : St → Prop) : Prop := (((sV (sV (sV (sV (sV σ k 0 (σ.1 k2 0)) k 1 ((sV σ k 0 (σ.1 k2 0)).1 k2 1)) k 2 ((sV (sV σ k 0 (σ.1 k2 0)) k 1 ((sV σ k 0 (σ.1 k2 0)).1 k2 1)).1 k2 2)) k 3 ((sV (sV (sV σ k 0 (σ.1 k2 0)) k 1 ((sV σ k 0 (σ.1 k2 0)).1 k2 1)) k 2 ((sV (sV σ k 0 (σ.1 k2 0)) k 1 ((sV σ k 0 (σ.1 k2 0)).1 k2 1)).1 k2 2)).1 k2 3)) k 4 ((sV (sV (sV (sV σ k 0 (σ.1 k2 0)) k 1 ((sV σ k 0 (σ.1 k2 0)).1 k2 1)) k 2 ((sV (sV σ k 0 (σ.1 k2 0)) k 1 ((sV σ k 0 (σ.1 k2 0)).1 k2 1)).1 k2 2)) k 3 ((sV (sV (sV σ k 0 (σ.1 k2 0)) k 1 ((sV σ k 0 (σ.1 k2 0)).1 k2 1)) k 2 ((sV (sV σ k 0 (σ.1 k2 0)) k 1 ((sV σ k 0 (σ.1 k2 0)).1 k2 1)).1 k2 2)).1 k2 3)).1 k2 4)).1 k2 5) = 0 ∨ ((sV (sV (sV (sV (sV σ k 0 (σ.1 k2 0)) k 1 ((sV σ k 0 (σ.1 k2 0)).1 k2 1)) k 2 ((sV (sV σ k 0 (σ.1 k2 0)) k 1 ((sV σ k 0 (σ.1 k2 0)).1 k2 1)).1 k2 2)) k 3 ((sV (sV (sV σ k 0 (σ.1 k2 0)) k 1 ((sV σ k 0 (σ.1 k2 0)).1 k2 1)) k 2 ((sV (sV σ k 0 (σ.1 k2 0)) k 1 ((sV σ k 0 (σ.1 k2 0)).1 k2 1)).1 k2 2)).1 k2 3)) k 4 ((sV (sV (sV (sV σ k 0 (σ.1 k2 0)) k 1 ((sV σ k 0 (σ.1 k2 0)).1 k2 1)) k 2 ((sV (sV σ k 0 (σ.1 k2 0)) k 1 ((sV σ k 0 (σ.1 k2 0)).1 k2 1)).1 k2 2)) k 3 ((sV (sV (sV σ k 0 (σ.1 k2 0)) k 1 ((sV σ k 0 (σ.1 k2 0)).1 k2 1)) k 2 ((sV (sV σ k 0 (σ.1 k2 0)) k 1 ((sV σ k 0 (σ.1 k2 0)).1 k2 1)).1 k2 2)).1 k2 3)).1 k2 4)).1 k2 5) = 1) ∧ (((sV (sV (sV (sV (sV (sV σ k 0 (σ.1 k2 0)) k 1 ((sV σ k 0 (σ.1 k2 0)).1 k2 1)) k 2 ((sV (sV σ k 0 (σ.1 k2 0)) k 1 ((sV σ k 0 (σ.1 k2 0)).1 k2 1)).1 k2 2)) k 3 ((sV (sV (sV σ k 0 (σ.1 k2 0)) k 1 ((sV σ k 0 (σ.1 k2 0)).1 k2 1)) k 2 ((sV (sV σ k 0 (σ.1 k2 0)) k 1 ((sV σ k 0 (σ.1 k2 0)).1 k2 1)).1 k2 2)).1 k2 3)) k 4 ((sV (sV (sV (sV σ k 0 (σ.1 k2 0)) k 1 ((sV σ k 0 (σ.1 k2 0)).1 k2 1)) k 2 ((sV (sV σ k 0 (σ.1 k2 0)) k 1 ((sV σ k 0 (σ.1 k2 0)).1 k2 1)).1 k2 2)) k 3 ((sV (sV (sV σ k 0 (σ.1 k2 0)) k 1 ((sV σ k 0 (σ.1 k2 0)).1 k2 1)) k 2 ((sV (sV σ k 0 (σ.1 k2 0)) k 1 ((sV σ k 0 (σ.1 k2 0)).1 k2 1)).1 k2 2)).1 k2 3)).1 k2 4)) k 5 ((sV (sV (sV (sV (sV σ k 0 (σ.1 k2 0)) k 1 ((sV σ k 0 (σ.1 k2 0)).1 k2 1)) k 2 ((sV (sV σ k 0 (σ.1 k2 0)) k 1 ((sV σ k 0 (σ.1 k2 0)).1 k2 1)).1 k2 2)) k 3 ((sV (sV (sV σ k 0 (σ.1 k2 0)) k 1 ((sV σ k 0 (σ.1 k2 0)).1 k2 1)) k 2 ((sV (sV σ k 0 (σ.1 k2 0)) k 1 ((sV σ k 0 (σ.1 k2 0)).1 k2 1)).1 k2 2)).1 k2 3)) k 4 ((sV (sV (sV (sV σ k 0 (σ.1 k2 0)) k 1 ((sV σ k 0 (σ.1 k2 0)).1 k2 1)) k 2 ((sV (sV σ k 0 (σ.1 k2 0)) k 1 ((sV σ k 0 (σ.1 k2 0)).1 k2 1)).1 k2 2)) k 3 ((sV (sV (sV σ k 0 (σ.1 k2 0)) k 1 ((sV σ k 0 (σ.1 k2 0)).1 k2 1)) k 2 ((sV (sV σ k 0 (σ.1 k2 0)) k 1 ((sV σ k 0 (σ.1 k2 0)).1 k2 1)).1 k2 2)).1 k2 3)).1 k2 4)).1 k2 5)).1 k2 6) = 0 ∨ ((sV (sV (sV (sV (sV (sV σ k 0 (σ.1 k2 0)) k 1 ((sV σ k 0 (σ.1 k2 0)).1 k2 1)) k 2 ((sV (sV σ k 0 (σ.1 k2 0)) k 1 ((sV σ k 0 (σ.1 k2 0)).1 k2 1)).1 k2 2)) k 3 ((sV (sV (sV σ k 0 (σ.1 k2 0)) k 1 ((sV σ k 0 (σ.1 k2 0)).1 k2 1)) k 2 ((sV (sV σ k 0 (σ.1 k2 0)) k 1 ((sV σ k 0 (σ.1 k2 0)).1 k2 1)).1 k2 2)).1 k2 3)) k 4 ((sV (sV (sV (sV σ k 0 (σ.1 k2 0)) k 1 ((sV σ k 0 (σ.1 k2 0)).1 k2 1)) k 2 ((sV (sV σ k 0 (σ.1 k2 0)) k 1 ((sV σ k 0 (σ.1 k2 0)).1 k2 1)).1 k2 2)) k 3 ((sV (sV (sV σ k 0 (σ.1 k2 0)) k 1 ((sV σ k 0 (σ.1 k2 0)).1 k2 1)) k 2 ((sV (sV σ k 0 (σ.1 k2 0)) k 1 ((sV σ k 0 (σ.1 k2 0)).1 k2 1)).1 k2 2)).1 k2 3)).1 k2 4)) k 5 ((sV (sV (sV (sV (sV σ k 0 (σ.1 k2 0)) k 1 ((sV σ k 0 (σ.1 k2 0)).1 k2 1)) k 2 ((sV (sV σ k 0 (σ.1 k2 0)) k 1 ((sV σ k 0 (σ.1 k2 0)).1 k2 1)).1 k2 2)) k 3 ((sV (sV (sV σ k 0 (σ.1 k2 0)) k 1 ((sV σ k 0 (σ.1 k2 0)).1 k2 1)) k 2 ((sV (sV σ k 0 (σ.1 k2 0)) k 1 ((sV σ k 0 (σ.1 k2 0)).1 k2 1)).1 k2 2)).1 k2 3)) k 4 ((sV (sV (sV (sV σ k 0 (σ.1 k2 0)) k 1 ((sV σ k 0 (σ.1 k2 0)).1 k2 1)) k 2 ((sV (sV σ k 0 (σ.1 k2 0)) k 1 ((sV σ k 0 (σ.1 k2 0)).1 k2 1)).1 k2 2)) k 3 ((sV (sV (sV σ k 0 (σ.1 k2 0)) k 1 ((sV σ k 0 (σ.1 k2 0)).1 k2 1)) k 2 ((sV (sV σ k 0 (σ.1 k2 0)) k 1 ((sV σ k 0 (σ.1 k2 0)).1 k2 1)).1 k2 2)).1 k2 3)).1 k2 4)).1 k2 5)).1 k2 6) = 1) ∧ Φ (sV (sV (sV (sV (sV (sV (sV σ k 0 (σ.1 k2 0)) k 1 ((sV σ k 0 (σ.1 k2 0)).1 k2 1)) k 2 ((sV (sV σ k 0 (σ.1 k2 0)) k 1 ((sV σ k 0 (σ.1 k2 0)).1 k2 1)).1 k2 2)) k 3 ((sV (sV (sV σ k 0 (σ.1 k2 0)) k 1 ((sV σ k 0 (σ.1 k2 0)).1 k2 1)) k 2 ((sV (sV σ k 0 (σ.1 k2 0)) k 1 ((sV σ k 0 (σ.1 k2 0)).1 k2 1)).1 k2 2)).1 k2 3)) k 4 ((sV (sV (sV (sV σ k 0 (σ.1 k2 0)) k 1 ((sV σ k 0 (σ.1 k2 0)).1 k2 1)) k 2 ((sV (sV σ k 0 (σ.1 k2 0)) k 1 ((sV σ k 0 (σ.1 k2 0)).1 k2 1)).1 k2 2)) k 3 ((sV (sV (sV σ k 0 (σ.1 k2 0)) k 1 ((sV σ k 0 (σ.1 k2 0)).1 k2 1)) k 2 ((sV (sV σ k 0 (σ.1 k2 0)) k 1 ((sV σ k 0 (σ.1 k2 0)).1 k2 1)).1 k2 2)).1 k2 3)).1 k2 4)) k 5 ((sV (sV (sV (sV (sV σ k 0 (σ.1 k2 0)) k 1 ((sV σ k 0 (σ.1 k2 0)).1 k2 1)) k 2 ((sV (sV σ k 0 (σ.1 k2 0)) k 1 ((sV σ k 0 (σ.1 k2 0)).1 k2 1)).1 k2 2)) k 3 ((sV (sV (sV σ k 0 (σ.1 k2 0)) k 1 ((sV σ k 0 (σ.1 k2 0)).1 k2 1)) k 2 ((sV (sV σ k 0 (σ.1 k2 0)) k 1 ((sV σ k 0 (σ.1 k2 0)).1 k2 1)).1 k2 2)).1 k2 3)) k 4 ((sV (sV (sV (sV σ k 0 (σ.1 k2 0)) k 1 ((sV σ k 0 (σ.1 k2 0)).1 k2 1)) k 2 ((sV (sV σ k 0 (σ.1 k2 0)) k 1 ((sV σ k 0 (σ.1 k2 0)).1 k2 1)).1 k2 2)) k 3 ((sV (sV (sV σ k 0 (σ.1 k2 0)) k 1 ((sV σ k 0 (σ.1 k2 0)).1 k2 1)) k 2 ((sV (sV σ k 0 (σ.1 k2 0)) k 1 ((sV σ k 0 (σ.1 k2 0)).1 k2 1)).1 k2 2)).1 k2 3)).1 k2 4)).1 k2 5)) k 6 ((sV (sV (sV (sV (sV (sV σ k 0 (σ.1 k2 0)) k 1 ((sV σ k 0 (σ.1 k2 0)).1 k2 1)) k 2 ((sV (sV σ k 0 (σ.1 k2 0)) k 1 ((sV σ k 0 (σ.1 k2 0)).1 k2 1)).1 k2 2)) k 3 ((sV (sV (sV σ k 0 (σ.1 k2 0)) k 1 ((sV σ k 0 (σ.1 k2 0)).1 k2 1)) k 2 ((sV (sV σ k 0 (σ.1 k2 0)) k 1 ((sV σ k 0 (σ.1 k2 0)).1 k2 1)).1 k2 2)).1 k2 3)) k 4 ((sV (sV (sV (sV σ k 0 (σ.1 k2 0)) k 1 ((sV σ k 0 (σ.1 k2 0)).1 k2 1)) k 2 ((sV (sV σ k 0 (σ.1 k2 0)) k 1 ((sV σ k 0 (σ.1 k2 0)).1 k2 1)).1 k2 2)) k 3 ((sV (sV (sV σ k 0 (σ.1 k2 0)) k 1 ((sV σ k 0 (σ.1 k2 0)).1 k2 1)) k 2 ((sV (sV σ k 0 (σ.1 k2 0)) k 1 ((sV σ k 0 (σ.1 k2 0)).1 k2 1)).1 k2 2)).1 k2 3)).1 k2 4)) k 5 ((sV (sV (sV (sV (sV σ k 0 (σ.1 k2 0)) k 1 ((sV σ k 0 (σ.1 k2 0)).1 k2 1)) k 2 ((sV (sV σ k 0 (σ.1 k2 0)) k 1 ((sV σ k 0 (σ.1 k2 0)).1 k2 1)).1 k2 2)) k 3 ((sV (sV (sV σ k 0 (σ.1 k2 0)) k 1 ((sV σ k 0 (σ.1 k2 0)).1 k2 1)) k 2 ((sV (sV σ k 0 (σ.1 k2 0)) k 1 ((sV σ k 0 (σ.1 k2 0)).1 k2 1)).1 k2 2)).1 k2 3)) k 4 ((sV (sV (sV (sV σ k 0 (σ.1 k2 0)) k 1 ((sV σ k 0 (σ.1 k2 0)).1 k2 1)) k 2 ((sV (sV σ k 0 (σ.1 k2 0)) k 1 ((sV σ k 0 (σ.1 k2 0)).1 k2 1)).1 k2 2)) k 3 ((sV (sV (sV σ k 0 (σ.1 k2 0)) k 1 ((sV σ k 0 (σ.1 k2 0)).1 k2 1)) k 2 ((sV (sV σ k 0 (σ.1 k2 0)) k 1 ((sV σ k 0 (σ.1 k2 0)).1 k2 1)).1 k2 2)).1 k2 3)).1 k2 4)).1 k2 5)).1 k2 6))
def wX0_isThere (σ : St) (k : Nat) (Φ : Int32 → St → Prop) : Prop := (if (σ.1 k 0) ≤ 0 then (((0 : Int32) = 0 ∨ (0 : Int32) = 1) ∧ Φ (0 : Int32) σ) else (((1 : Int32) = 0 ∨ (1 : Int32) = 1) ∧ Φ (1 : Int32) σ))
def wX0_isWhole (σ : St) (k : Nat) (Φ : Int32 → St → Prop) : Prop := (if (σ.1 k 0) ≤ 0 then (((0 : Int32) = 0 ∨ (0 : Int32) = 1) ∧ Φ (0 : Int32) σ) else (if (σ.1 k 6) = 0 then (((1 : Int32) = 0 ∨ (1 : Int32) = 1) ∧ Φ (1 : Int32) σ) else (((0 : Int32) = 0 ∨ (0 : Int32) = 1) ∧ Φ (0 : Int32) σ)))
def wX11_isLength (σ : St) (v0 : Int32) (Φ : Int32 → St → Prop) : Prop := (if v0 < (10 : Int32) then (((0 : Int32) = 0 ∨ (0 : Int32) = 1) ∧ Φ (0 : Int32) σ) else (if (40 : Int32) < v0 then (((0 : Int32) = 0 ∨ (0 : Int32) = 1) ∧ Φ (0 : Int32) σ) else (((1 : Int32) = 0 ∨ (1 : Int32) = 1) ∧ Φ (1 : Int32) σ)))
def wX0_turnsAt (σ : St) (k : Nat) (v1 : Int32) (Φ : Int32 → St → Prop) : Prop := wX11_isLength σ v1 (fun r2 σ1 => (if r2 = 0 then Φ (0 : Int32) σ1 else (¬ (v1 * v1) = 0) ∧ Φ ((σ1.1 k 1) / (v1 * v1)) σ1))
def wX0_turnsNow (σ : St) (k : Nat) (Φ : Int32 → St → Prop) : Prop := wX0_turnsAt σ k (σ.1 k 0) (fun r2 σ1 => Φ r2 σ1)
def wX0_armAt_22 (k : Nat) (Φ : Int32 → St → Prop) (σ : St) (v1 : Int32) (v2 : Int32) (s0 : Int32) : Prop := (if v1 = 0 then Φ s0 σ else Φ (v2 - s0) σ)
def wX0_armAt (σ : St) (k : Nat) (v1 : Int32) (v2 : Int32) (v3 : Int32) (v4 : Int32) (Φ : Int32 → St → Prop) : Prop := (if (v3 + v4) ≤ 0 then wX0_armAt_22 k Φ σ v1 v2 (0 : Int32) else (¬ (v3 + v4) = 0) ∧ wX0_armAt_22 k Φ σ v1 v2 ((v2 * v4) / (v3 + v4)))
def wX0_floorAt (σ : St) (k : Nat) (v1 : Int32) (v2 : Int32) (v3 : Int32) (v4 : Int32) (Φ : Int32 → St → Prop) : Prop := wX0_turnsAt σ k v2 (fun r2 σ1 => wX0_armAt σ1 k v1 v2 v3 v4 (fun r4 σ3 => Φ ((r4 * r2) * r2) σ3))
def wX0_strainAt (σ : St) (k : Nat) (v1 : Int32) (v2 : Int32) (v3 : Int32) (Φ : Int32 → St → Prop) : Prop := wX0_floorAt σ k (0 : Int32) v1 v2 v3 (fun r2 σ1 => (¬ (100 : Int32) = 0) ∧ Φ ((v2 * r2) / (100 : Int32)) σ1)
def wX1_weighs (σ : St) (a0 : Nat) (v1 : Int32) (Φ : Int32 → St → Prop) : Prop := isT σ a0 ∧ Φ ((σ.2.2.2.2.2 a0 0) + (2 : Int32)) σ
def wX9_hoursHere (σ : St) (a0 : Nat) (v1 : Int32) (Φ : Int32 → St → Prop) : Prop := isT σ a0 ∧ Φ (v1 - (σ.2.2.2.2.2 a0 1)) σ
def wT_hoursHere_45 (σ : St) (a : Nat) (v1 : Int32) (Φ : Int32 → St → Prop) : Prop := a ∈ σ.2.2.2.1 ∧ ((σ.2.2.2.2.1 a = 4 ∧ wX9_hoursHere σ a v1 Φ) ∨ (σ.2.2.2.2.1 a = 5 ∧ wX9_hoursHere σ a v1 Φ))
def wT_hoursHere_13459 (σ : St) (a : Nat) (v1 : Int32) (Φ : Int32 → St → Prop) : Prop := a ∈ σ.2.2.2.1 ∧ ((σ.2.2.2.2.1 a = 1 ∧ wX9_hoursHere σ a v1 Φ) ∨ (σ.2.2.2.2.1 a = 3 ∧ wX9_hoursHere σ a v1 Φ) ∨ (σ.2.2.2.2.1 a = 4 ∧ wX9_hoursHere σ a v1 Φ) ∨ (σ.2.2.2.2.1 a = 5 ∧ wX9_hoursHere σ a v1 Φ) ∨ (σ.2.2.2.2.1 a = 9 ∧ wX9_hoursHere σ a v1 Φ))
def wX5_grown (σ : St) (a0 : Nat) (v1 : Int32) (Φ : Int32 → St → Prop) : Prop := wT_hoursHere_45 σ a0 v1 (fun r1 σ2 => (¬ (6 : Int32) = 0) ∧ Φ (r1 / (6 : Int32)) σ2)
def wT_grown_4 (σ : St) (a : Nat) (v1 : Int32) (Φ : Int32 → St → Prop) : Prop := a ∈ σ.2.2.2.1 ∧ ((σ.2.2.2.2.1 a = 4 ∧ wX5_grown σ a v1 Φ))
def wT_grown_5 (σ : St) (a : Nat) (v1 : Int32) (Φ : Int32 → St → Prop) : Prop := a ∈ σ.2.2.2.1 ∧ ((σ.2.2.2.2.1 a = 5 ∧ wX5_grown σ a v1 Φ))
def wX4_weighs (σ : St) (a0 : Nat) (v1 : Int32) (Φ : Int32 → St → Prop) : Prop := isT σ a0 ∧ wT_grown_4 σ a0 v1 (fun r1 σ2 => Φ ((σ.2.2.2.2.2 a0 0) + ((2 : Int32) * r1)) σ2)
def wX5_weighs (σ : St) (a0 : Nat) (v1 : Int32) (Φ : Int32 → St → Prop) : Prop := isT σ a0 ∧ wT_grown_5 σ a0 v1 (fun r1 σ2 => Φ ((σ.2.2.2.2.2 a0 0) + r1) σ2)
def wX6_at (σ : St) (v1 : Int32) (Φ : Option Nat → St → Prop) : Prop := (if v1 < 0 then Φ none σ else (if (σ.1 4 2) ≤ v1 then Φ none σ else (if (6 : Int32) ≤ v1 then Φ none σ else vp_in v1 6 ∧ Φ (σ.2.2.1 v1.toNatClampNeg) σ)))
def wX9_weighs (σ : St) (a0 : Nat) (v1 : Int32) (Φ : Int32 → St → Prop) : Prop := isT σ a0 ∧ Φ (σ.2.2.2.2.2 a0 0) σ
def wT_weighs_13459 (σ : St) (a : Nat) (v1 : Int32) (Φ : Int32 → St → Prop) : Prop := a ∈ σ.2.2.2.1 ∧ ((σ.2.2.2.2.1 a = 1 ∧ wX1_weighs σ a v1 Φ) ∨ (σ.2.2.2.2.1 a = 3 ∧ wX9_weighs σ a v1 Φ) ∨ (σ.2.2.2.2.1 a = 4 ∧ wX4_weighs σ a v1 Φ) ∨ (σ.2.2.2.2.1 a = 5 ∧ wX5_weighs σ a v1 Φ) ∨ (σ.2.2.2.2.1 a = 9 ∧ wX9_weighs σ a v1 Φ))
def wX6_weighsIn_46 (K6 : St → Int32 → Int32 → Int32 → Int32 → Prop) (Φ : Int32 → St → Prop) (σ : St) (v1 : Int32) (v2 : Int32) (v3 : Int32) (v4 : Int32) : Prop := K6 σ v1 v2 v3 (v4 + 1)
def wX6_weighsIn_6 (Φ : Int32 → St → Prop) : Nat → St → Int32 → Int32 → Int32 → Int32 → Prop
  | 0, _, _, _, _, _ => False
  | n + 1, σ, v1, v2, v3, v4 => (if (σ.1 4 2) ≤ v4 then Φ v3 σ else wX6_at σ v4 (fun r2 σ1 => ((r2 = none → wX6_weighsIn_46 (wX6_weighsIn_6 Φ n) Φ σ1 v1 v2 v3 v4) ∧ ∀ b3, r2 = some b3 → isT σ1 b3 ∧ (if (σ1.2.2.2.2.2 b3 2) = v1 then wT_weighs_13459 σ1 b3 v2 (fun r4 σ5 => wX6_weighsIn_46 (wX6_weighsIn_6 Φ n) Φ σ5 v1 v2 (v3 + r4) v4) else wX6_weighsIn_46 (wX6_weighsIn_6 Φ n) Φ σ1 v1 v2 v3 v4))))
def wX6_weighsIn (σ : St) (v1 : Int32) (v2 : Int32) (Φ : Int32 → St → Prop) : Prop := ∃ n0, wX6_weighsIn_6 Φ n0 σ v1 v2 (10 : Int32) (0 : Int32)
def wX0_armNow (σ : St) (k : Nat) (v1 : Int32) (Φ : Int32 → St → Prop) : Prop := wX6_weighsIn σ (0 : Int32) (σ.1 k 4) (fun r2 σ1 => wX6_weighsIn σ1 (1 : Int32) (σ1.1 k 4) (fun r4 σ3 => wX0_armAt σ3 k v1 (σ.1 k 0) r2 r4 (fun r6 σ5 => Φ r6 σ5)))
def wX0_floorNow (σ : St) (k : Nat) (v1 : Int32) (Φ : Int32 → St → Prop) : Prop := wX6_weighsIn σ (0 : Int32) (σ.1 k 4) (fun r2 σ1 => wX6_weighsIn σ1 (1 : Int32) (σ1.1 k 4) (fun r4 σ3 => wX0_floorAt σ3 k v1 (σ.1 k 0) r2 r4 (fun r6 σ5 => Φ r6 σ5)))
def wX0_strainNow (σ : St) (k : Nat) (Φ : Int32 → St → Prop) : Prop := wX6_weighsIn σ (0 : Int32) (σ.1 k 4) (fun r2 σ1 => wX6_weighsIn σ1 (1 : Int32) (σ1.1 k 4) (fun r4 σ3 => wX0_strainAt σ3 k (σ.1 k 0) r2 r4 (fun r6 σ5 => Φ r6 σ5)))
def wJ9_floorMod_7cf53 (σ : St) (v0 : Int32) (v1 : Int32) (Φ : Int32 → St → Prop) : Prop := (¬ v1 = 0) ∧ (if 0 ≤ (v0 ^^^ v1) then Φ (v0 - v0 / v1 * v1) σ else (if (v0 - v0 / v1 * v1) = 0 then Φ (v0 - v0 / v1 * v1) σ else Φ ((v0 - v0 / v1 * v1) + v1) σ))
def wX0_placeAfter (σ : St) (k : Nat) (v1 : Int32) (Φ : Int32 → St → Prop) : Prop := wX0_turnsNow σ k (fun r2 σ1 => wJ9_floorMod_7cf53 σ1 ((σ.1 k 3) + ((v1 * r2) * (10 : Int32))) (360 : Int32) (fun r4 σ3 => Φ r4 σ3))
def wX0_goHour (σ : St) (k : Nat) (v1 : Int32) (Φ : St → Prop) : Prop := wX0_placeAfter (sV (sV σ k 0 ((σ.1 k 0) - v1)) k 4 (((sV σ k 0 ((σ.1 k 0) - v1)).1 k 4) + (1 : Int32))) k (1 : Int32) (fun r2 σ1 => wX0_strainNow (sV σ1 k 3 r2) k (fun r4 σ3 => (if r4 ≤ (σ3.1 k 2) then ((0 : Int32) = 0 ∨ (0 : Int32) = 1) ∧ Φ (sV σ3 k 6 (0 : Int32)) else ((1 : Int32) = 0 ∨ (1 : Int32) = 1) ∧ Φ (sV σ3 k 6 (1 : Int32)))))
def wJ9_min_7cf53 (σ : St) (v0 : Int32) (v1 : Int32) (Φ : Int32 → St → Prop) : Prop := (if v1 < v0 then Φ v1 σ else Φ v0 σ)
def wX0_breakingHundredths_21 (k : Nat) (Φ : Int32 → St → Prop) (σ : St) (v2 : Int32) : Prop := (if v2 ≤ (σ.1 k 2) then Φ (0 : Int32) σ else Φ (100 : Int32) σ)
def wX0_breakingHundredths (σ : St) (k : Nat) (Φ : Int32 → St → Prop) : Prop := wX0_strainNow σ k (fun r2 σ1 => (if (σ1.1 k 5) = 0 then wX0_breakingHundredths_21 k Φ σ1 r2 else (if (1 : Int32) ≤ (σ1.1 k 2) then (¬ (σ1.1 k 2) = 0) ∧ wJ9_min_7cf53 σ1 (100 : Int32) ((r2 * (100 : Int32)) / (σ1.1 k 2)) (fun r4 σ3 => Φ r4 σ3) else wX0_breakingHundredths_21 k Φ σ1 r2)))
def wX9_init (σ : St) (a0 : Nat) (v1 : Int32) (v2 : Int32) (v3 : Int32) (Φ : St → Prop) : Prop := isT σ a0 ∧ isT (sT σ a0 0 v1) a0 ∧ isT (sT (sT σ a0 0 v1) a0 2 v2) a0 ∧ Φ (sT (sT (sT σ a0 0 v1) a0 2 v2) a0 1 v3)
def wX1_init (σ : St) (a0 : Nat) (v1 : Int32) (v2 : Int32) (v3 : Int32) (Φ : St → Prop) : Prop := wX9_init σ a0 v1 v2 v3 (fun σ1 => Φ σ1)
def wX1_kind (σ : St) (a0 : Nat) (Φ : Int32 → St → Prop) : Prop := Φ (1 : Int32) σ
def wJ9_abs_0f7a4 (σ : St) (v0 : Int32) (Φ : Int32 → St → Prop) : Prop := (if 0 ≤ v0 then Φ v0 σ else Φ (-v0) σ)
def wX2_summed_24 (q : Nat) (K4 : St → Int32 → Int32 → Int32 → Prop) (Φ : Int32 → St → Prop) (σ : St) (v1 : Int32) (v2 : Int32) (v3 : Int32) : Prop := K4 σ v1 v2 (v3 + 1)
def wX2_summed_4 (q : Nat) (Φ : Int32 → St → Prop) : Nat → St → Int32 → Int32 → Int32 → Prop
  | 0, _, _, _, _ => False
  | n + 1, σ, v1, v2, v3 => (if (6 : Int32) ≤ v3 then Φ v2 σ else (if ((v1 >>> (v3 &&& 31)) &&& (1 : Int32)) = 0 then wX2_summed_24 q (wX2_summed_4 q Φ n) Φ σ v1 v2 v3 else vp_in v3 6 ∧ wX2_summed_24 q (wX2_summed_4 q Φ n) Φ σ v1 (v2 + (σ.1 q v3.toNatClampNeg)) v3))
def wX2_summed (σ : St) (q : Nat) (v1 : Int32) (Φ : Int32 → St → Prop) : Prop := ∃ n0, wX2_summed_4 q Φ n0 σ v1 (0 : Int32) (0 : Int32)
def wX2_gapWith (σ : St) (v1 : Int32) (Φ : Int32 → St → Prop) : Prop := wX2_summed σ 12 v1 (fun r2 σ1 => wX0_floorAt σ1 3 (0 : Int32) (σ1.1 3 0) ((σ.1 10 5) + r2) ((σ1.1 10 6) - ((σ.1 10 5) + r2)) (fun r4 σ3 => wX0_floorAt σ3 3 (1 : Int32) (σ3.1 3 0) ((σ.1 10 5) + r2) ((σ1.1 10 6) - ((σ.1 10 5) + r2)) (fun r6 σ5 => wJ9_abs_0f7a4 σ5 (r4 - r6) (fun r8 σ7 => Φ r8 σ7))))
def wX3_goesAcross (σ : St) (a0 : Nat) (v1 : Int32) (Φ : Int32 → St → Prop) : Prop := (if (2 : Int32) < v1 then (((0 : Int32) = 0 ∨ (0 : Int32) = 1) ∧ Φ (0 : Int32) σ) else (((1 : Int32) = 0 ∨ (1 : Int32) = 1) ∧ Φ (1 : Int32) σ))
def wX9_goesAcross (σ : St) (a0 : Nat) (v1 : Int32) (Φ : Int32 → St → Prop) : Prop := (((1 : Int32) = 0 ∨ (1 : Int32) = 1) ∧ Φ (1 : Int32) σ)
def wT_goesAcross_13459 (σ : St) (a : Nat) (v1 : Int32) (Φ : Int32 → St → Prop) : Prop := a ∈ σ.2.2.2.1 ∧ ((σ.2.2.2.2.1 a = 1 ∧ wX9_goesAcross σ a v1 Φ) ∨ (σ.2.2.2.2.1 a = 3 ∧ wX3_goesAcross σ a v1 Φ) ∨ (σ.2.2.2.2.1 a = 4 ∧ wX9_goesAcross σ a v1 Φ) ∨ (σ.2.2.2.2.1 a = 5 ∧ wX9_goesAcross σ a v1 Φ) ∨ (σ.2.2.2.2.1 a = 9 ∧ wX9_goesAcross σ a v1 Φ))
def wX2_setUp_151 (K44 : St → Int32 → Int32 → Prop) (Φ : St → Prop) (σ : St) (v3 : Int32) (v4 : Int32) : Prop := K44 σ v3 (v4 + 1)
def wX2_setUp_150 (K44 : St → Int32 → Int32 → Prop) (Φ : St → Prop) (σ : St) (v3 : Int32) (v4 : Int32) (s0 : Int32) (s1 : Int32) : Prop := vp_in s1 6 ∧ wX2_setUp_151 K44 Φ (sV σ 12 s1.toNatClampNeg s0) v3 v4
def wX2_setUp_86 (K44 : St → Int32 → Int32 → Prop) (Φ : St → Prop) (σ : St) (v3 : Int32) (v4 : Int32) : Prop := wX2_setUp_151 K44 Φ (sV σ 10 4 ((σ.1 10 4) ||| ((1 : Int32) <<< (v4 &&& 31)))) v3 v4
def wX2_setUp_44 (Φ : St → Prop) : Nat → St → Int32 → Int32 → Prop
  | 0, _, _, _ => False
  | n + 1, σ, v3, v4 => (if (6 : Int32) ≤ v4 then Φ σ else (if (6 : Int32) ≤ v4 then Φ σ else wX6_at σ v4 (fun r8 σ7 => ((r8 = none → wX2_setUp_86 (wX2_setUp_44 Φ n) Φ σ7 v3 v4) ∧ ∀ b9, r8 = some b9 → wT_goesAcross_13459 σ7 b9 v3 (fun r10 σ11 => (if r10 = 0 then wX2_setUp_86 (wX2_setUp_44 Φ n) Φ σ11 v3 v4 else wT_weighs_13459 σ11 b9 (σ11.1 3 4) (fun r12 σ13 => vp_in v4 6 ∧ isT (sV σ13 11 v4.toNatClampNeg r12) b9 ∧ (if ((sV σ13 11 v4.toNatClampNeg r12).2.2.2.2.2 b9 2) = 0 then vp_in v4 6 ∧ wX2_setUp_150 (wX2_setUp_44 Φ n) Φ (sV σ13 11 v4.toNatClampNeg r12) v3 v4 (-((sV σ13 11 v4.toNatClampNeg r12).1 11 v4.toNatClampNeg)) v4 else vp_in v4 6 ∧ wX2_setUp_150 (wX2_setUp_44 Φ n) Φ (sV σ13 11 v4.toNatClampNeg r12) v3 v4 ((sV σ13 11 v4.toNatClampNeg r12).1 11 v4.toNatClampNeg) v4))))))))
def wX2_setUp (σ : St) (Φ : St → Prop) : Prop := wX0_turnsNow σ 3 (fun r2 σ1 => wX6_weighsIn σ1 (0 : Int32) (σ1.1 3 4) (fun r4 σ3 => wX6_weighsIn (sV σ3 10 5 r4) (1 : Int32) ((sV σ3 10 5 r4).1 3 4) (fun r6 σ5 => ∃ n0, wX2_setUp_44 Φ n0 (sV (sV σ5 10 6 (((sV σ3 10 5 r4).1 10 5) + r6)) 10 4 (0 : Int32)) r2 (0 : Int32))))
def wX2_find_95 (K11 : St → Int32 → Int32 → Prop) (Φ : St → Prop) (σ : St) (v3 : Int32) (v4 : Int32) : Prop := K11 σ v3 (v4 + 1)
def wX2_find_80 (K11 : St → Int32 → Int32 → Prop) (Φ : St → Prop) (σ : St) (v4 : Int32) (v5 : Int32) (v6 : Int32) : Prop := wX2_find_95 K11 Φ (sV (sV σ 10 2 v5) 10 3 v4) v6 v4
def wX2_find_11 (Φ : St → Prop) : Nat → St → Int32 → Int32 → Prop
  | 0, _, _, _ => False
  | n + 1, σ, v3, v4 => (if (64 : Int32) ≤ v4 then Φ σ else (if (v4 &&& (σ.1 10 4)) = 0 then wX2_gapWith σ v4 (fun r3 σ2 => wX2_summed σ2 11 v4 (fun r5 σ4 => (if v4 = 0 then wX2_find_80 (wX2_find_11 Φ n) Φ σ4 v4 r3 r5 else (if r3 < (σ4.1 10 2) then wX2_find_80 (wX2_find_11 Φ n) Φ σ4 v4 r3 r5 else (if r3 = (σ4.1 10 2) then (if v3 ≤ r5 then wX2_find_95 (wX2_find_11 Φ n) Φ σ4 v3 v4 else wX2_find_80 (wX2_find_11 Φ n) Φ σ4 v4 r3 r5) else wX2_find_95 (wX2_find_11 Φ n) Φ σ4 v3 v4))))) else wX2_find_95 (wX2_find_11 Φ n) Φ σ v3 v4))
def wX2_find (σ : St) (Φ : St → Prop) : Prop := wX2_setUp σ (fun σ1 => ∃ n0, wX2_find_11 Φ n0 σ1 (0 : Int32) (0 : Int32))
def wX3_init (σ : St) (a0 : Nat) (v1 : Int32) (v2 : Int32) (v3 : Int32) (Φ : St → Prop) : Prop := wX9_init σ a0 v1 v2 v3 (fun σ1 => Φ σ1)
def wX3_kind (σ : St) (a0 : Nat) (Φ : Int32 → St → Prop) : Prop := Φ (2 : Int32) σ
def wX5_init (σ : St) (a0 : Nat) (v1 : Int32) (v2 : Int32) (v3 : Int32) (Φ : St → Prop) : Prop := wX9_init σ a0 v1 v2 v3 (fun σ1 => Φ σ1)
def wX4_init (σ : St) (a0 : Nat) (v1 : Int32) (v2 : Int32) (v3 : Int32) (Φ : St → Prop) : Prop := wX5_init σ a0 v1 v2 v3 (fun σ1 => Φ σ1)
def wX4_kind (σ : St) (a0 : Nat) (Φ : Int32 → St → Prop) : Prop := Φ (4 : Int32) σ
def wX5_kind (σ : St) (a0 : Nat) (Φ : Int32 → St → Prop) : Prop := Φ (3 : Int32) σ
def wX6_isFull (σ : St) (Φ : Int32 → St → Prop) : Prop := (if (σ.1 4 2) < (6 : Int32) then (((0 : Int32) = 0 ∨ (0 : Int32) = 1) ∧ Φ (0 : Int32) σ) else (((1 : Int32) = 0 ∨ (1 : Int32) = 1) ∧ Φ (1 : Int32) σ))
def wX6_put (σ : St) (a1 : Nat) (Φ : Int32 → St → Prop) : Prop := (if (σ.1 4 2) < 0 then Φ (-104 : Int32) σ else (if (σ.1 4 2) < (6 : Int32) then isT σ a1 ∧ vp_in (σ.1 4 2) 6 ∧ Φ (((sV (sH σ (σ.1 4 2).toNatClampNeg (some a1)) 4 2 (((sH σ (σ.1 4 2).toNatClampNeg (some a1)).1 4 2) + (1 : Int32))).1 4 2) - (1 : Int32)) (sV (sH σ (σ.1 4 2).toNatClampNeg (some a1)) 4 2 (((sH σ (σ.1 4 2).toNatClampNeg (some a1)).1 4 2) + (1 : Int32))) else Φ (-104 : Int32) σ))
def wX6_cutTo_23 (K2 : St → Int32 → Int32 → Prop) (Φ : St → Prop) (σ : St) (v1 : Int32) (v2 : Int32) : Prop := K2 σ v1 (v2 + 1)
def wX6_cutTo_2 (Φ : St → Prop) : Nat → St → Int32 → Int32 → Prop
  | 0, _, _, _ => False
  | n + 1, σ, v1, v2 => (if (6 : Int32) ≤ v2 then wJ9_min_7cf53 σ (σ.1 4 2) v1 (fun r2 σ1 => Φ (sV σ1 4 2 r2)) else (if v2 < v1 then wX6_cutTo_23 (wX6_cutTo_2 Φ n) Φ σ v1 v2 else vp_in v2 6 ∧ wX6_cutTo_23 (wX6_cutTo_2 Φ n) Φ (sH σ v2.toNatClampNeg none) v1 v2))
def wX6_cutTo (σ : St) (v1 : Int32) (Φ : St → Prop) : Prop := ∃ n0, wX6_cutTo_2 Φ n0 σ v1 (0 : Int32)
def wX6_keepPlaces_42 (K10 : St → Int32 → Prop) (Φ : St → Prop) (σ : St) (v1 : Int32) (s0 : Int32) (s1 : Int32) : Prop := vp_in s1 6 ∧ K10 (sV σ 6 s1.toNatClampNeg s0) (v1 + 1)
def wX6_keepPlaces_10 (Φ : St → Prop) : Nat → St → Int32 → Prop
  | 0, _, _ => False
  | n + 1, σ, v1 => (if (6 : Int32) ≤ v1 then Φ σ else wX6_at σ v1 (fun r2 σ1 => ((r2 = none → wX6_keepPlaces_42 (wX6_keepPlaces_10 Φ n) Φ σ1 v1 (0 : Int32) v1) ∧ ∀ b3, r2 = some b3 → isT σ1 b3 ∧ wX6_keepPlaces_42 (wX6_keepPlaces_10 Φ n) Φ σ1 v1 (σ1.2.2.2.2.2 b3 2) v1)))
def wX6_keepPlaces (σ : St) (Φ : St → Prop) : Prop := ∃ n0, wX6_keepPlaces_10 Φ n0 (sV σ 4 3 (σ.1 4 2)) (0 : Int32)
def wX6_goBack_39 (K10 : St → Int32 → Prop) (Φ : St → Prop) (σ : St) (v1 : Int32) : Prop := K10 σ (v1 + 1)
def wX6_goBack_10 (Φ : St → Prop) : Nat → St → Int32 → Prop
  | 0, _, _ => False
  | n + 1, σ, v1 => (if (6 : Int32) ≤ v1 then Φ σ else wX6_at σ v1 (fun r3 σ2 => ((r3 = none → wX6_goBack_39 (wX6_goBack_10 Φ n) Φ σ2 v1) ∧ ∀ b4, r3 = some b4 → vp_in v1 6 ∧ isT σ2 b4 ∧ wX6_goBack_39 (wX6_goBack_10 Φ n) Φ (sT σ2 b4 2 (σ2.1 6 v1.toNatClampNeg)) v1)))
def wX6_goBack (σ : St) (Φ : St → Prop) : Prop := wX6_cutTo σ (σ.1 4 3) (fun σ1 => ∃ n0, wX6_goBack_10 Φ n0 σ1 (0 : Int32))
def wX6_sizeIn_36 (K4 : St → Int32 → Int32 → Int32 → Prop) (Φ : Int32 → St → Prop) (σ : St) (v1 : Int32) (v2 : Int32) (v3 : Int32) : Prop := K4 σ v1 v2 (v3 + 1)
def wX6_sizeIn_4 (Φ : Int32 → St → Prop) : Nat → St → Int32 → Int32 → Int32 → Prop
  | 0, _, _, _, _ => False
  | n + 1, σ, v1, v2, v3 => (if (σ.1 4 2) ≤ v3 then Φ v2 σ else wX6_at σ v3 (fun r2 σ1 => ((r2 = none → wX6_sizeIn_36 (wX6_sizeIn_4 Φ n) Φ σ1 v1 v2 v3) ∧ ∀ b3, r2 = some b3 → isT σ1 b3 ∧ (if (σ1.2.2.2.2.2 b3 2) = v1 then wX6_sizeIn_36 (wX6_sizeIn_4 Φ n) Φ σ1 v1 (v2 + 1) v3 else wX6_sizeIn_36 (wX6_sizeIn_4 Φ n) Φ σ1 v1 v2 v3))))
def wX6_sizeIn (σ : St) (v1 : Int32) (Φ : Int32 → St → Prop) : Prop := ∃ n0, wX6_sizeIn_4 Φ n0 σ v1 (0 : Int32) (0 : Int32)
def wX7_hasRoomFor (σ : St) (v1 : Int32) (Φ : Int32 → St → Prop) : Prop := (if (12 : Int32) < ((σ.1 1 1) + v1) then (((0 : Int32) = 0 ∨ (0 : Int32) = 1) ∧ Φ (0 : Int32) σ) else (((1 : Int32) = 0 ∨ (1 : Int32) = 1) ∧ Φ (1 : Int32) σ))
def wX7_put (σ : St) (v1 : Int32) (Φ : St → Prop) : Prop := (if (σ.1 1 1) < 0 then Φ σ else (if (12 : Int32) ≤ (σ.1 1 1) then Φ σ else vp_in (σ.1 1 1) 12 ∧ Φ (sV (sV σ 2 (σ.1 1 1).toNatClampNeg (vp_nar .char v1)) 1 1 (((sV σ 2 (σ.1 1 1).toNatClampNeg (vp_nar .char v1)).1 1 1) + (1 : Int32)))))
def wX7_emptied (σ : St) (Φ : Int32 → St → Prop) : Prop := Φ (σ.1 1 1) (sV σ 1 1 (0 : Int32))
def wX7_isBetween (σ : St) (v1 : Int32) (v2 : Int32) (v3 : Int32) (Φ : Int32 → St → Prop) : Prop := wX7_at σ v1 (fun r2 σ1 => (if r2 < v2 then (((0 : Int32) = 0 ∨ (0 : Int32) = 1) ∧ Φ (0 : Int32) σ1) else wX7_at σ1 v1 (fun r4 σ3 => (if v3 < r4 then (((0 : Int32) = 0 ∨ (0 : Int32) = 1) ∧ Φ (0 : Int32) σ3) else (((1 : Int32) = 0 ∨ (1 : Int32) = 1) ∧ Φ (1 : Int32) σ3)))))
def wX7_isWireLetter_113 (Φ : Int32 → St → Prop) (σ : St) (v1 : Int32) : Prop := wX7_isBetween σ v1 (48 : Int32) (57 : Int32) (fun r14 σ13 => ((r14 = 0 ∨ r14 = 1) ∧ Φ r14 σ13))
def wX7_isWireLetter_103 (Φ : Int32 → St → Prop) (σ : St) (v1 : Int32) : Prop := wX7_isBetween σ v1 (49 : Int32) (57 : Int32) (fun r12 σ11 => ((r12 = 0 ∨ r12 = 1) ∧ Φ r12 σ11))
def wX7_isWireLetter_87 (Φ : Int32 → St → Prop) (σ : St) (v1 : Int32) : Prop := wX7_at σ v1 (fun r10 σ9 => (if r10 = (58 : Int32) then (((1 : Int32) = 0 ∨ (1 : Int32) = 1) ∧ Φ (1 : Int32) σ9) else (((0 : Int32) = 0 ∨ (0 : Int32) = 1) ∧ Φ (0 : Int32) σ9)))
def wX7_isWireLetter_83 (Φ : Int32 → St → Prop) (σ : St) (s0 : Int32) (s1 : Int32) (s2 : Int32) : Prop := wX7_isBetween σ s2 s1 s0 (fun r8 σ7 => ((r8 = 0 ∨ r8 = 1) ∧ Φ r8 σ7))
def wX7_isWireLetter (σ : St) (v1 : Int32) (Φ : Int32 → St → Prop) : Prop := ((v1 = 0 → wX7_isBetween σ v1 (49 : Int32) (52 : Int32) (fun r2 σ1 => ((r2 = 0 ∨ r2 = 1) ∧ Φ r2 σ1))) ∧ (v1 = 1 → wX7_at σ (0 : Int32) (fun r4 σ3 => (if r4 = (52 : Int32) then wX7_isWireLetter_83 Φ σ3 (48 : Int32) (48 : Int32) v1 else wX7_isWireLetter_83 Φ σ3 (57 : Int32) (48 : Int32) v1))) ∧ (v1 = 2 → wX7_isWireLetter_87 Φ σ v1) ∧ (v1 = 3 → wX7_isWireLetter_103 Φ σ v1) ∧ (v1 = 4 → wX7_isWireLetter_87 Φ σ v1) ∧ (v1 = 5 → wX7_isWireLetter_103 Φ σ v1) ∧ (v1 = 6 → wX7_isWireLetter_113 Φ σ v1) ∧ (v1 = 7 → wX7_isWireLetter_113 Φ σ v1) ∧ (v1 = 8 → wX7_at σ v1 (fun r6 σ5 => (if r6 = (111 : Int32) then (((1 : Int32) = 0 ∨ (1 : Int32) = 1) ∧ Φ (1 : Int32) σ5) else (((0 : Int32) = 0 ∨ (0 : Int32) = 1) ∧ Φ (0 : Int32) σ5)))) ∧ ((v1.toInt < 0 ∨ 8 < v1.toInt) → (((0 : Int32) = 0 ∨ (0 : Int32) = 1) ∧ Φ (0 : Int32) σ)))
def wX7_firstWrong_2 (Φ : Int32 → St → Prop) : Nat → St → Int32 → Prop
  | 0, _, _ => False
  | n + 1, σ, v1 => (if (σ.1 1 1) ≤ v1 then Φ (σ.1 1 1) σ else wX7_isWireLetter σ v1 (fun r2 σ1 => (if r2 = 0 then Φ v1 σ1 else wX7_firstWrong_2 Φ n σ1 (v1 + 1))))
def wX7_firstWrong (σ : St) (Φ : Int32 → St → Prop) : Prop := ∃ n0, wX7_firstWrong_2 Φ n0 σ (0 : Int32)
def wX7_isWire (σ : St) (Φ : Int32 → St → Prop) : Prop := (if (σ.1 1 1) < (8 : Int32) then (((0 : Int32) = 0 ∨ (0 : Int32) = 1) ∧ Φ (0 : Int32) σ) else wX7_firstWrong σ (fun r2 σ1 => (if r2 = (σ1.1 1 1) then (((1 : Int32) = 0 ∨ (1 : Int32) = 1) ∧ Φ (1 : Int32) σ1) else (((0 : Int32) = 0 ∨ (0 : Int32) = 1) ∧ Φ (0 : Int32) σ1))))
def wX8_begin_27 (K2 : St → Int32 → Int32 → Prop) (Φ : St → Prop) (σ : St) (v1 : Int32) (v2 : Int32) (s0 : Int32) (s1 : Int32) : Prop := vp_in s1 41 ∧ K2 (sV σ 14 s1.toNatClampNeg s0) v1 (v2 + 1)
def wX8_begin_2 (Φ : St → Prop) : Nat → St → Int32 → Int32 → Prop
  | 0, _, _, _ => False
  | n + 1, σ, v1, v2 => (if (41 : Int32) ≤ v2 then Φ σ else (if v2 = v1 then wX8_begin_27 (wX8_begin_2 Φ n) Φ σ v1 v2 (0 : Int32) v2 else wX8_begin_27 (wX8_begin_2 Φ n) Φ σ v1 v2 (7 : Int32) v2))
def wX8_begin (σ : St) (v1 : Int32) (Φ : St → Prop) : Prop := ∃ n0, wX8_begin_2 Φ n0 σ v1 (0 : Int32)
def wX8_dropBroken_49 (K3 : St → Int32 → Int32 → Int32 → Prop) (Φ : St → Prop) (σ : St) (v2 : Int32) (v3 : Int32) (v4 : Int32) : Prop := K3 σ v2 v3 (v4 + 1)
def wX8_dropBroken_3 (Φ : St → Prop) : Nat → St → Int32 → Int32 → Int32 → Prop
  | 0, _, _, _, _ => False
  | n + 1, σ, v2, v3, v4 => (if (41 : Int32) ≤ v4 then Φ σ else vp_in v4 41 ∧ (if (7 : Int32) ≤ (σ.1 14 v4.toNatClampNeg) then wX8_dropBroken_49 (wX8_dropBroken_3 Φ n) Φ σ v2 v3 v4 else wX0_strainAt σ 3 v4 v2 v3 (fun r2 σ1 => (if r2 ≤ (σ1.1 3 2) then wX8_dropBroken_49 (wX8_dropBroken_3 Φ n) Φ σ1 v2 v3 v4 else vp_in v4 41 ∧ wX8_dropBroken_49 (wX8_dropBroken_3 Φ n) Φ (sV σ1 14 v4.toNatClampNeg (7 : Int32)) v2 v3 v4))))
def wX8_dropBroken (σ : St) (v2 : Int32) (v3 : Int32) (Φ : St → Prop) : Prop := ∃ n0, wX8_dropBroken_3 Φ n0 σ v2 v3 (0 : Int32)
def wX8_leastWay_66 (K7 : St → Int32 → Int32 → Int32 → Int32 → Int32 → Prop) (Φ : Int32 → St → Prop) (σ : St) (v2 : Int32) (v3 : Int32) (v4 : Int32) (v5 : Int32) (v6 : Int32) : Prop := K7 σ v2 v3 v4 v5 (v6 + 1)
def wX8_leastWay_7 (Φ : Int32 → St → Prop) : Nat → St → Int32 → Int32 → Int32 → Int32 → Int32 → Prop
  | 0, _, _, _, _, _, _ => False
  | n + 1, σ, v2, v3, v4, v5, v6 => (if (41 : Int32) ≤ v6 then Φ v5 σ else vp_in v6 41 ∧ (if v5 ≤ (σ.1 14 v6.toNatClampNeg) then wX8_leastWay_66 (wX8_leastWay_7 Φ n) Φ σ v2 v3 v4 v5 v6 else wX0_floorAt σ 3 (0 : Int32) v6 v3 v4 (fun r2 σ1 => (if r2 < v2 then wX8_leastWay_66 (wX8_leastWay_7 Φ n) Φ σ1 v2 v3 v4 v5 v6 else (¬ (2 : Int32) = 0) ∧ (if (v2 + (v2 / (2 : Int32))) < r2 then wX8_leastWay_66 (wX8_leastWay_7 Φ n) Φ σ1 v2 v3 v4 v5 v6 else vp_in v6 41 ∧ wX8_leastWay_66 (wX8_leastWay_7 Φ n) Φ σ1 v2 v3 v4 (σ1.1 14 v6.toNatClampNeg) v6)))))
def wX8_leastWay (σ : St) (v2 : Int32) (v3 : Int32) (v4 : Int32) (Φ : Int32 → St → Prop) : Prop := ∃ n0, wX8_leastWay_7 Φ n0 σ v2 v3 v4 (7 : Int32) (0 : Int32)
def wX11_windingOf (σ : St) (v0 : Int32) (Φ : Int32 → St → Prop) : Prop := (if (3 : Int32) < v0 then Φ ((3 : Int32) - v0) σ else Φ v0 σ)
def wX8_stepFrom_64 (K3 : St → Int32 → Int32 → Int32 → Int32 → Prop) (Φ : St → Prop) (σ : St) (v1 : Int32) (v2 : Int32) (v3 : Int32) (v4 : Int32) : Prop := K3 σ v1 v2 v3 (v4 + 1)
def wX8_stepFrom_60 (K3 : St → Int32 → Int32 → Int32 → Int32 → Prop) (Φ : St → Prop) (σ : St) (v1 : Int32) (v2 : Int32) (v3 : Int32) (v4 : Int32) (s0 : Int32) (s1 : Int32) (s2 : Int32) : Prop := wJ9_min_7cf53 σ s1 s0 (fun r6 σ5 => vp_in s2 41 ∧ wX8_stepFrom_64 K3 Φ (sV σ5 15 s2.toNatClampNeg r6) v1 v2 v3 v4)
def wX8_stepFrom_3 (Φ : St → Prop) : Nat → St → Int32 → Int32 → Int32 → Int32 → Prop
  | 0, _, _, _, _, _ => False
  | n + 1, σ, v1, v2, v3, v4 => (if (7 : Int32) ≤ v4 then Φ σ else wX11_windingOf σ v4 (fun r2 σ1 => wX11_isLength σ1 (v1 - r2) (fun r4 σ3 => (if r4 = 0 then wX8_stepFrom_64 (wX8_stepFrom_3 Φ n) Φ σ3 v1 v2 v3 v4 else (if (41 : Int32) ≤ (v1 - r2) then wX8_stepFrom_64 (wX8_stepFrom_3 Φ n) Φ σ3 v1 v2 v3 v4 else vp_in (v1 - r2) 41 ∧ (if v2 = 0 then wX8_stepFrom_60 (wX8_stepFrom_3 Φ n) Φ σ3 v1 v2 v3 v4 v3 (σ3.1 15 (v1 - r2).toNatClampNeg) (v1 - r2) else wX8_stepFrom_60 (wX8_stepFrom_3 Φ n) Φ σ3 v1 v2 v3 v4 v4 (σ3.1 15 (v1 - r2).toNatClampNeg) (v1 - r2)))))))
def wX8_stepFrom (σ : St) (v1 : Int32) (v2 : Int32) (v3 : Int32) (Φ : St → Prop) : Prop := ∃ n0, wX8_stepFrom_3 Φ n0 σ v1 v2 v3 (0 : Int32)
def wX8_step_67 (Φ : St → Prop) : Nat → St → Int32 → Prop
  | 0, _, _ => False
  | n + 1, σ, v2 => (if (41 : Int32) ≤ v2 then Φ σ else (if (41 : Int32) ≤ v2 then Φ σ else vp_in v2 41 ∧ vp_in v2 41 ∧ wX8_step_67 Φ n (sV σ 14 v2.toNatClampNeg (σ.1 15 v2.toNatClampNeg)) (v2 + 1)))
def wX8_step_59 (K27 : St → Int32 → Int32 → Prop) (Φ : St → Prop) (σ : St) (v1 : Int32) (v2 : Int32) : Prop := K27 σ v1 (v2 + 1)
def wX8_step_27 (Φ : St → Prop) : Nat → St → Int32 → Int32 → Prop
  | 0, _, _, _ => False
  | n + 1, σ, v1, v2 => (if (41 : Int32) ≤ v2 then ∃ n0, wX8_step_67 Φ n0 σ (0 : Int32) else vp_in v2 41 ∧ (if (7 : Int32) ≤ (σ.1 14 v2.toNatClampNeg) then wX8_step_59 (wX8_step_27 Φ n) Φ σ v1 v2 else vp_in v2 41 ∧ wX8_stepFrom σ v2 v1 (σ.1 14 v2.toNatClampNeg) (fun σ1 => wX8_step_59 (wX8_step_27 Φ n) Φ σ1 v1 v2)))
def wX8_step_2 (Φ : St → Prop) : Nat → St → Int32 → Int32 → Prop
  | 0, _, _, _ => False
  | n + 1, σ, v1, v2 => (if (41 : Int32) ≤ v2 then ∃ n0, wX8_step_27 Φ n0 σ v1 (0 : Int32) else vp_in v2 41 ∧ wX8_step_2 Φ n (sV σ 15 v2.toNatClampNeg (7 : Int32)) v1 (v2 + 1))
def wX8_step (σ : St) (v1 : Int32) (Φ : St → Prop) : Prop := ∃ n0, wX8_step_2 Φ n0 σ v1 (0 : Int32)
def wX8_find_85 (K21 : St → Int32 → Int32 → Prop) (Φ : St → Prop) (σ : St) (v3 : Int32) (v4 : Int32) (v5 : Int32) (v6 : Int32) : Prop := wX8_leastWay σ v3 v5 v6 (fun r9 σ8 => (if (7 : Int32) ≤ r9 then K21 σ8 v3 (v4 + 1) else (if v4 = 0 then Φ (sV (sV σ8 13 2 v4) 13 3 (-1 : Int32)) else Φ (sV (sV σ8 13 2 v4) 13 3 r9))))
def wX8_find_73 (K21 : St → Int32 → Int32 → Prop) (Φ : St → Prop) (σ : St) (v3 : Int32) (v4 : Int32) (v5 : Int32) (v6 : Int32) (s0 : Int32) : Prop := wX8_step σ s0 (fun σ6 => wX8_dropBroken σ6 v5 v6 (fun σ7 => wX8_find_85 K21 Φ σ7 v3 v4 v5 v6))
def wX8_find_21 (Φ : St → Prop) : Nat → St → Int32 → Int32 → Prop
  | 0, _, _, _ => False
  | n + 1, σ, v3, v4 => (if (12 : Int32) < v4 then Φ σ else wX6_weighsIn σ (0 : Int32) ((σ.1 3 4) + v4) (fun r3 σ2 => wX6_weighsIn σ2 (1 : Int32) ((σ2.1 3 4) + v4) (fun r5 σ4 => (if v4 ≤ 0 then wX8_find_85 (wX8_find_21 Φ n) Φ σ4 v3 v4 r3 r5 else (if v4 = (1 : Int32) then wX8_find_73 (wX8_find_21 Φ n) Φ σ4 v3 v4 r3 r5 (1 : Int32) else wX8_find_73 (wX8_find_21 Φ n) Φ σ4 v3 v4 r3 r5 (0 : Int32))))))
def wX8_find (σ : St) (v3 : Int32) (Φ : St → Prop) : Prop := wX8_begin σ (σ.1 3 0) (fun σ1 => ∃ n0, wX8_find_21 Φ n0 (sV (sV σ1 13 2 (-1 : Int32)) 13 3 (-1 : Int32)) v3 (0 : Int32))
def wX9_kind (σ : St) (a0 : Nat) (Φ : Int32 → St → Prop) : Prop := Φ (0 : Int32) σ
def wT_kind_13459 (σ : St) (a : Nat) (Φ : Int32 → St → Prop) : Prop := a ∈ σ.2.2.2.1 ∧ ((σ.2.2.2.2.1 a = 1 ∧ wX1_kind σ a Φ) ∨ (σ.2.2.2.2.1 a = 3 ∧ wX3_kind σ a Φ) ∨ (σ.2.2.2.2.1 a = 4 ∧ wX4_kind σ a Φ) ∨ (σ.2.2.2.2.1 a = 5 ∧ wX5_kind σ a Φ) ∨ (σ.2.2.2.2.1 a = 9 ∧ wX9_kind σ a Φ))
def wX10_isFull (σ : St) (Φ : Int32 → St → Prop) : Prop := (if (σ.1 7 2) < (6 : Int32) then (((0 : Int32) = 0 ∨ (0 : Int32) = 1) ∧ Φ (0 : Int32) σ) else (((1 : Int32) = 0 ∨ (1 : Int32) = 1) ∧ Φ (1 : Int32) σ))
def wX10_put (σ : St) (v1 : Int32) (v2 : Int32) (Φ : Int32 → St → Prop) : Prop := (if (σ.1 7 2) < 0 then Φ (σ.1 7 2) σ else (if (6 : Int32) ≤ (σ.1 7 2) then Φ (σ.1 7 2) σ else (if (6 : Int32) ≤ (σ.1 7 2) then Φ (σ.1 7 2) σ else vp_in (σ.1 7 2) 6 ∧ vp_in ((sV σ 8 (σ.1 7 2).toNatClampNeg v1).1 7 2) 6 ∧ Φ ((sV (sV (sV σ 8 (σ.1 7 2).toNatClampNeg v1) 9 ((sV σ 8 (σ.1 7 2).toNatClampNeg v1).1 7 2).toNatClampNeg v2) 7 2 (((sV (sV σ 8 (σ.1 7 2).toNatClampNeg v1) 9 ((sV σ 8 (σ.1 7 2).toNatClampNeg v1).1 7 2).toNatClampNeg v2).1 7 2) + (1 : Int32))).1 7 2) (sV (sV (sV σ 8 (σ.1 7 2).toNatClampNeg v1) 9 ((sV σ 8 (σ.1 7 2).toNatClampNeg v1).1 7 2).toNatClampNeg v2) 7 2 (((sV (sV σ 8 (σ.1 7 2).toNatClampNeg v1) 9 ((sV σ 8 (σ.1 7 2).toNatClampNeg v1).1 7 2).toNatClampNeg v2).1 7 2) + (1 : Int32))))))
def wX10_emptied (σ : St) (Φ : Int32 → St → Prop) : Prop := Φ (σ.1 7 2) (sV σ 7 2 (0 : Int32))
def wJ9_max_7cf53 (σ : St) (v0 : Int32) (v1 : Int32) (Φ : Int32 → St → Prop) : Prop := (if v0 < v1 then Φ v1 σ else Φ v0 σ)
def wX10_leastSpin_4 (Φ : Int32 → St → Prop) : Nat → St → Int32 → Int32 → Prop
  | 0, _, _, _ => False
  | n + 1, σ, v1, v2 => (if (σ.1 7 2) ≤ v2 then Φ v1 σ else (if (6 : Int32) ≤ v2 then Φ v1 σ else (if (6 : Int32) ≤ v2 then Φ v1 σ else vp_in v2 6 ∧ vp_in v2 6 ∧ vp_in v2 6 ∧ wJ9_max_7cf53 σ v1 (((σ.1 9 v2.toNatClampNeg) * (σ.1 8 v2.toNatClampNeg)) * (σ.1 8 v2.toNatClampNeg)) (fun r2 σ1 => wX10_leastSpin_4 Φ n σ1 r2 (v2 + 1)))))
def wX10_leastSpin (σ : St) (Φ : Int32 → St → Prop) : Prop := ∃ n0, wX10_leastSpin_4 Φ n0 σ (1 : Int32) (0 : Int32)
def wX10_greatestSpin_6 (Φ : Int32 → St → Prop) : Nat → St → Int32 → Int32 → Prop
  | 0, _, _, _ => False
  | n + 1, σ, v1, v2 => (if (σ.1 7 2) ≤ v2 then Φ v1 σ else (if (6 : Int32) ≤ v2 then Φ v1 σ else (if (6 : Int32) ≤ v2 then Φ v1 σ else vp_in v2 6 ∧ vp_in v2 6 ∧ vp_in v2 6 ∧ wJ9_min_7cf53 σ v1 (((((σ.1 9 v2.toNatClampNeg) + (1 : Int32)) * (σ.1 8 v2.toNatClampNeg)) * (σ.1 8 v2.toNatClampNeg)) - (1 : Int32)) (fun r2 σ1 => wX10_greatestSpin_6 Φ n σ1 r2 (v2 + 1)))))
def wX10_greatestSpin (σ : St) (Φ : Int32 → St → Prop) : Prop := ∃ n0, wX10_greatestSpin_6 Φ n0 σ (14400 : Int32) (0 : Int32)
def wX11_byteOf (σ : St) (v0 : Int64) (v2 : Int32) (Φ : Int32 → St → Prop) : Prop := Φ ((v0.toUInt64 >>> (((8 : Int32) * v2).toInt64.toUInt64 &&& Int64.toUInt64 63)).toInt64.toInt32 &&& (255 : Int32)) σ
def wX11_lettersIn_53 (K7 : St → Int64 → Int32 → Int32 → Int32 → Prop) (Φ : Int32 → St → Prop) (σ : St) (v0 : Int64) (v2 : Int32) (v3 : Int32) (v4 : Int32) : Prop := K7 σ v0 v2 v3 (v4 + 1)
def wX11_lettersIn_40 (K7 : St → Int64 → Int32 → Int32 → Int32 → Prop) (Φ : Int32 → St → Prop) (σ : St) (v0 : Int64) (v2 : Int32) (v3 : Int32) (v4 : Int32) (v5 : Int32) : Prop := (if v5 = 0 then wX11_lettersIn_53 K7 Φ σ v0 v2 (1 : Int32) v4 else wX11_lettersIn_53 K7 Φ σ v0 (v2 + 1) v3 v4)
def wX11_lettersIn_7 (Φ : Int32 → St → Prop) : Nat → St → Int64 → Int32 → Int32 → Int32 → Prop
  | 0, _, _, _, _, _ => False
  | n + 1, σ, v0, v2, v3, v4 => (if (8 : Int32) ≤ v4 then Φ v2 σ else wX11_byteOf σ v0 v4 (fun r2 σ1 => (if (126 : Int32) < r2 then Φ (-1 : Int32) σ1 else (if v3 = 0 then wX11_lettersIn_40 (wX11_lettersIn_7 Φ n) Φ σ1 v0 v2 v3 v4 r2 else (if r2 = 0 then wX11_lettersIn_40 (wX11_lettersIn_7 Φ n) Φ σ1 v0 v2 v3 v4 r2 else Φ (-1 : Int32) σ1)))))
def wX11_lettersIn (σ : St) (v0 : Int64) (Φ : Int32 → St → Prop) : Prop := ∃ n0, wX11_lettersIn_7 Φ n0 σ v0 (0 : Int32) (0 : Int32) (0 : Int32)
def wX11_letters_29 (Φ : Int32 → St → Prop) : Nat → St → Int64 → Int32 → Int32 → Prop
  | 0, _, _, _, _ => False
  | n + 1, σ, v1, v3, v4 => (if v3 ≤ v4 then Φ (σ.1 1 1) σ else wX11_byteOf σ v1 v4 (fun r6 σ5 => wX7_put σ5 (r6.toUInt32 % 65536).toInt32 (fun σ7 => wX11_letters_29 Φ n σ7 v1 v3 (v4 + 1))))
def wX11_letters (σ : St) (v1 : Int64) (Φ : Int32 → St → Prop) : Prop := wX11_lettersIn σ v1 (fun r2 σ1 => (if 0 ≤ r2 then wX7_hasRoomFor σ1 r2 (fun r4 σ3 => (if r4 = 0 then Φ (-104 : Int32) σ3 else ∃ n0, wX11_letters_29 Φ n0 σ3 v1 r2 (0 : Int32))) else Φ (-102 : Int32) σ1))
def wX11_blank (σ : St) (Φ : Int32 → St → Prop) : Prop := wX7_emptied σ (fun r2 σ1 => Φ r2 σ1)
def wX11_fault (σ : St) (Φ : Int32 → St → Prop) : Prop := wX7_firstWrong σ (fun r2 σ1 => Φ r2 σ1)
def wX11_wire (σ : St) (Φ : Int32 → St → Prop) : Prop := wX7_isWire σ (fun r2 σ1 => (if r2 = 0 then Φ (-103 : Int32) σ1 else wX0_hang σ1 3 (fun σ3 => wX7_emptied σ3 (fun r5 σ4 => wX6_cutTo σ4 (0 : Int32) (fun σ6 => wX10_emptied σ6 (fun r8 σ7 => ((0 : Int32) = 0 ∨ (0 : Int32) = 1) ∧ Φ ((sV (sV σ7 0 8 (0 : Int32)) 0 9 (((sV σ7 0 8 (0 : Int32)).1 0 9) + (1 : Int32))).1 3 1) (sV (sV σ7 0 8 (0 : Int32)) 0 9 (((sV σ7 0 8 (0 : Int32)).1 0 9) + (1 : Int32)))))))))
def wX11_isCabin (σ : St) (v0 : Int32) (Φ : Int32 → St → Prop) : Prop := (if v0 < 0 then (((0 : Int32) = 0 ∨ (0 : Int32) = 1) ∧ Φ (0 : Int32) σ) else (if (2 : Int32) ≤ v0 then (((0 : Int32) = 0 ∨ (0 : Int32) = 1) ∧ Φ (0 : Int32) σ) else (((1 : Int32) = 0 ∨ (1 : Int32) = 1) ∧ Φ (1 : Int32) σ)))
def wX11_cabin (σ : St) (v1 : Int32) (v2 : Int32) (Φ : Int32 → St → Prop) : Prop := wX11_isCabin σ v1 (fun r2 σ1 => (if r2 = 0 then Φ (-101 : Int32) σ1 else (if v2 < 0 then Φ (-102 : Int32) σ1 else (if v2 ≤ (3 : Int32) then wX0_isThere σ1 3 (fun r4 σ3 => (if r4 = 0 then Φ (-103 : Int32) σ3 else ((v2 = 0 → wX6_weighsIn σ3 v1 (σ3.1 3 4) (fun r6 σ5 => Φ r6 σ5)) ∧ (v2 = 1 → wX0_armNow σ3 3 v1 (fun r8 σ7 => Φ r8 σ7)) ∧ (v2 = 2 → wX0_floorNow σ3 3 v1 (fun r10 σ9 => Φ r10 σ9)) ∧ ((v2.toInt < 0 ∨ 2 < v2.toInt) → wX6_sizeIn σ3 v1 (fun r12 σ11 => Φ r12 σ11))))) else Φ (-102 : Int32) σ1))))
def wX11_isKind (σ : St) (v0 : Int32) (Φ : Int32 → St → Prop) : Prop := (if v0 < 0 then (((0 : Int32) = 0 ∨ (0 : Int32) = 1) ∧ Φ (0 : Int32) σ) else (if (4 : Int32) < v0 then (((0 : Int32) = 0 ∨ (0 : Int32) = 1) ∧ Φ (0 : Int32) σ) else (((1 : Int32) = 0 ∨ (1 : Int32) = 1) ∧ Φ (1 : Int32) σ)))
def wX11_newThing (σ : St) (v0 : Int32) (v1 : Int32) (v2 : Int32) (v3 : Int32) (Φ : Option Nat → St → Prop) : Prop := ((v0 = 1 → (∀ b1, b1 ∉ σ.2.2.2.1 → wX1_init (sN σ b1 1) b1 v1 v2 v3 (fun σ2 => Φ (some b1) σ2))) ∧ (v0 = 2 → (∀ b3, b3 ∉ σ.2.2.2.1 → wX3_init (sN σ b3 3) b3 v1 v2 v3 (fun σ4 => Φ (some b3) σ4))) ∧ (v0 = 3 → (∀ b5, b5 ∉ σ.2.2.2.1 → wX5_init (sN σ b5 5) b5 v1 v2 v3 (fun σ6 => Φ (some b5) σ6))) ∧ (v0 = 4 → (∀ b7, b7 ∉ σ.2.2.2.1 → wX4_init (sN σ b7 4) b7 v1 v2 v3 (fun σ8 => Φ (some b7) σ8))) ∧ ((v0.toInt < 1 ∨ 4 < v0.toInt) → (∀ b9, b9 ∉ σ.2.2.2.1 → wX9_init (sN σ b9 9) b9 v1 v2 v3 (fun σ10 => Φ (some b9) σ10))))
def wX11_thing (σ : St) (v1 : Int32) (v2 : Int32) (v3 : Int32) (Φ : Int32 → St → Prop) : Prop := wX11_isCabin σ v3 (fun r2 σ1 => (if r2 = 0 then Φ (-101 : Int32) σ1 else wX11_isKind σ1 v1 (fun r4 σ3 => (if r4 = 0 then Φ (-102 : Int32) σ3 else (if v2 < (1 : Int32) then Φ (-102 : Int32) σ3 else (if v2 ≤ (20 : Int32) then wX0_isThere σ3 3 (fun r6 σ5 => (if r6 = 0 then Φ (-103 : Int32) σ5 else wX6_isFull σ5 (fun r8 σ7 => (if r8 = 0 then wX11_newThing σ7 v1 v2 v3 (σ7.1 3 4) (fun r10 σ9 => ∃ b11, r10 = some b11 ∧ wX6_put σ9 b11 (fun r13 σ12 => Φ r13 σ12)) else Φ (-104 : Int32) σ7)))) else Φ (-102 : Int32) σ3))))))
def wX11_about (σ : St) (v1 : Int32) (v2 : Int32) (Φ : Int32 → St → Prop) : Prop := wX6_at σ v1 (fun r2 σ1 => ((r2 = none → Φ (-101 : Int32) σ1) ∧ ∀ b3, r2 = some b3 → ((v2 = 0 → wT_kind_13459 σ1 b3 (fun r4 σ5 => Φ r4 σ5)) ∧ (v2 = 1 → isT σ1 b3 ∧ Φ (σ1.2.2.2.2.2 b3 0) σ1) ∧ (v2 = 2 → isT σ1 b3 ∧ Φ (σ1.2.2.2.2.2 b3 2) σ1) ∧ (v2 = 3 → wT_weighs_13459 σ1 b3 (σ1.1 3 4) (fun r6 σ7 => Φ r6 σ7)) ∧ (v2 = 4 → wT_hoursHere_13459 σ1 b3 (σ1.1 3 4) (fun r8 σ9 => Φ r8 σ9)) ∧ ((v2.toInt < 0 ∨ 4 < v2.toInt) → Φ (-102 : Int32) σ1))))
def wX11_isOfKind (σ : St) (a0 : Nat) (v1 : Int32) (Φ : Int32 → St → Prop) : Prop := ((v1 = 1 → isT σ a0 ∧ (((if σ.2.2.2.2.1 a0 = 1 then (1 : Int32) else 0) = 0 ∨ (if σ.2.2.2.2.1 a0 = 1 then (1 : Int32) else 0) = 1) ∧ Φ (if σ.2.2.2.2.1 a0 = 1 then (1 : Int32) else 0) σ)) ∧ (v1 = 2 → isT σ a0 ∧ (((if σ.2.2.2.2.1 a0 = 3 then (1 : Int32) else 0) = 0 ∨ (if σ.2.2.2.2.1 a0 = 3 then (1 : Int32) else 0) = 1) ∧ Φ (if σ.2.2.2.2.1 a0 = 3 then (1 : Int32) else 0) σ)) ∧ (v1 = 3 → isT σ a0 ∧ (((if σ.2.2.2.2.1 a0 = 5 ∨ σ.2.2.2.2.1 a0 = 4 then (1 : Int32) else 0) = 0 ∨ (if σ.2.2.2.2.1 a0 = 5 ∨ σ.2.2.2.2.1 a0 = 4 then (1 : Int32) else 0) = 1) ∧ Φ (if σ.2.2.2.2.1 a0 = 5 ∨ σ.2.2.2.2.1 a0 = 4 then (1 : Int32) else 0) σ)) ∧ (v1 = 4 → isT σ a0 ∧ (((if σ.2.2.2.2.1 a0 = 4 then (1 : Int32) else 0) = 0 ∨ (if σ.2.2.2.2.1 a0 = 4 then (1 : Int32) else 0) = 1) ∧ Φ (if σ.2.2.2.2.1 a0 = 4 then (1 : Int32) else 0) σ)) ∧ ((v1.toInt < 1 ∨ 4 < v1.toInt) → (if v1 = 0 then (((1 : Int32) = 0 ∨ (1 : Int32) = 1) ∧ Φ (1 : Int32) σ) else (((0 : Int32) = 0 ∨ (0 : Int32) = 1) ∧ Φ (0 : Int32) σ))))
def wX11_as (σ : St) (v1 : Int32) (v2 : Int32) (Φ : Int32 → St → Prop) : Prop := wX6_at σ v1 (fun r2 σ1 => ((r2 = none → Φ (-101 : Int32) σ1) ∧ ∀ b3, r2 = some b3 → wX11_isKind σ1 v2 (fun r5 σ4 => (if r5 = 0 then Φ (-102 : Int32) σ4 else wX11_isOfKind σ4 b3 v2 (fun r7 σ6 => (if r7 = 0 then Φ (-1 : Int32) σ6 else Φ v1 σ6))))))
def wX11_carry (σ : St) (v1 : Int32) (Φ : Int32 → St → Prop) : Prop := wX6_at σ v1 (fun r2 σ1 => ((r2 = none → Φ (-101 : Int32) σ1) ∧ ∀ b3, r2 = some b3 → wX0_isWhole σ1 3 (fun r5 σ4 => (if r5 = 0 then Φ (-103 : Int32) σ4 else wX0_turnsNow σ4 3 (fun r7 σ6 => wT_goesAcross_13459 σ6 b3 r7 (fun r8 σ9 => (if r8 = 0 then Φ (-103 : Int32) σ9 else isT σ9 b3 ∧ isT σ9 b3 ∧ isT (sT σ9 b3 2 ((1 : Int32) - (σ9.2.2.2.2.2 b3 2))) b3 ∧ Φ ((sT σ9 b3 2 ((1 : Int32) - (σ9.2.2.2.2.2 b3 2))).2.2.2.2.2 b3 2) (sT σ9 b3 2 ((1 : Int32) - (σ9.2.2.2.2.2 b3 2))))))))))
def wX11_hour (σ : St) (v1 : Int32) (Φ : Int32 → St → Prop) : Prop := (if v1 < (-3 : Int32) then Φ (-102 : Int32) σ else (if v1 ≤ (3 : Int32) then wX0_isWhole σ 3 (fun r2 σ1 => (if r2 = 0 then Φ (-103 : Int32) σ1 else wX11_isLength σ1 ((σ1.1 3 0) - v1) (fun r4 σ3 => (if r4 = 0 then Φ (-103 : Int32) σ3 else wX0_goHour σ3 3 v1 (fun σ5 => (if (σ5.1 3 6) = 0 then Φ (σ5.1 3 0) σ5 else Φ (-1 : Int32) σ5)))))) else Φ (-102 : Int32) σ))
def wX11_even (σ : St) (v1 : Int32) (Φ : Int32 → St → Prop) : Prop := (if v1 < 0 then Φ (-102 : Int32) σ else (if v1 ≤ (1 : Int32) then wX0_isWhole σ 3 (fun r2 σ1 => (if r2 = 0 then Φ (-103 : Int32) σ1 else wX2_find σ1 (fun σ3 => (if v1 = 0 then Φ (σ3.1 10 2) σ3 else Φ (σ3.1 10 3) σ3)))) else Φ (-102 : Int32) σ))
def wX11_soonest (σ : St) (v1 : Int32) (v2 : Int32) (Φ : Int32 → St → Prop) : Prop := (if v1 < (1 : Int32) then Φ (-102 : Int32) σ else (if (9999 : Int32) < v1 then Φ (-102 : Int32) σ else (if v2 < 0 then Φ (-102 : Int32) σ else (if v2 ≤ (1 : Int32) then wX0_isWhole σ 3 (fun r2 σ1 => (if r2 = 0 then Φ (-103 : Int32) σ1 else wX8_find σ1 v1 (fun σ3 => (if v2 = 0 then Φ (σ3.1 13 2) σ3 else Φ (σ3.1 13 3) σ3)))) else Φ (-102 : Int32) σ))))
def wX11_apartOnCircle (σ : St) (v0 : Int32) (v1 : Int32) (Φ : Int32 → St → Prop) : Prop := wJ9_floorMod_7cf53 σ (v0 - v1) (360 : Int32) (fun r2 σ1 => wJ9_min_7cf53 σ1 r2 ((360 : Int32) - r2) (fun r4 σ3 => Φ r4 σ3))
def wX11_caught_51 (Φ : Int32 → St → Prop) : Nat → St → Int32 → Int32 → Prop
  | 0, _, _, _ => False
  | n + 1, σ, v3, v4 => (if (98 : Int32) < v4 then Φ (-1 : Int32) σ else wX0_placeAfter σ 3 v4 (fun r8 σ7 => wX11_apartOnCircle σ7 r8 v3 (fun r10 σ9 => (if (5 : Int32) < r10 then wX11_caught_51 Φ n σ9 v3 (v4 + 1) else Φ v4 σ9))))
def wX11_caught (σ : St) (v1 : Int32) (Φ : Int32 → St → Prop) : Prop := (if v1 < (1 : Int32) then Φ (-102 : Int32) σ else (if v1 ≤ (99 : Int32) then wX0_isWhole σ 3 (fun r2 σ1 => (if r2 = 0 then Φ (-103 : Int32) σ1 else wX0_turnsNow σ1 3 (fun r4 σ3 => wJ9_floorMod_7cf53 σ3 ((90 : Int32) - (v1 * r4)) (360 : Int32) (fun r6 σ5 => ∃ n0, wX11_caught_51 Φ n0 σ5 r6 (0 : Int32))))) else Φ (-102 : Int32) σ))
def wX11_weighed (σ : St) (v1 : Int32) (v2 : Int32) (Φ : Int32 → St → Prop) : Prop := wX11_isLength σ v1 (fun r2 σ1 => (if r2 = 0 then Φ (-102 : Int32) σ1 else (if v2 < 0 then Φ (-102 : Int32) σ1 else (if v2 ≤ (99 : Int32) then wX0_isThere σ1 3 (fun r4 σ3 => (if r4 = 0 then Φ (-103 : Int32) σ3 else wX10_isFull σ3 (fun r6 σ5 => (if r6 = 0 then wX10_put σ5 v1 v2 (fun r8 σ7 => Φ r8 σ7) else Φ (-104 : Int32) σ5)))) else Φ (-102 : Int32) σ1))))
def wX11_forget (σ : St) (Φ : Int32 → St → Prop) : Prop := wX10_emptied σ (fun r2 σ1 => Φ r2 σ1)
def wX11_fits (σ : St) (v1 : Int32) (Φ : Int32 → St → Prop) : Prop := (if v1 < 0 then Φ (-102 : Int32) σ else (if v1 ≤ (2 : Int32) then wX10_leastSpin σ (fun r2 σ1 => wX10_greatestSpin σ1 (fun r4 σ3 => (if v1 = 0 then (if r2 ≤ r4 then Φ ((r4 - r2) + (1 : Int32)) σ3 else Φ (0 : Int32) σ3) else (if r2 ≤ r4 then (if v1 = (1 : Int32) then Φ r2 σ3 else Φ r4 σ3) else Φ (-1 : Int32) σ3)))) else Φ (-102 : Int32) σ))
def wX11_power_5 (Φ : Int64 → St → Prop) : Nat → St → Int32 → Int32 → Int64 → Int32 → Prop
  | 0, _, _, _, _, _ => False
  | n + 1, σ, v0, v1, v2, v4 => (if v1 ≤ v4 then Φ v2 σ else wX11_power_5 Φ n σ v0 v1 (v2 * v0.toInt64) (v4 + 1))
def wX11_power (σ : St) (v0 : Int32) (v1 : Int32) (Φ : Int64 → St → Prop) : Prop := ∃ n0, wX11_power_5 Φ n0 σ v0 v1 (1 : Int64) (0 : Int32)
def wX11_reduced_24 (K3 : St → Int32 → Int32 → Int32 → Prop) (Φ : Int32 → St → Prop) (σ : St) (v0 : Int32) (v1 : Int32) (v2 : Int32) : Prop := K3 σ v0 v1 (v2 + (-1))
def wX11_reduced_3 (Φ : Int32 → St → Prop) : Nat → St → Int32 → Int32 → Int32 → Prop
  | 0, _, _, _, _ => False
  | n + 1, σ, v0, v1, v2 => (if v2 ≤ (1 : Int32) then Φ v0 σ else (¬ v2 = 0) ∧ (if (v0 - v0 / v2 * v2) = 0 then (¬ v2 = 0) ∧ (if (v1 - v1 / v2 * v2) = 0 then (¬ v2 = 0) ∧ Φ (v0 / v2) σ else wX11_reduced_24 (wX11_reduced_3 Φ n) Φ σ v0 v1 v2) else wX11_reduced_24 (wX11_reduced_3 Φ n) Φ σ v0 v1 v2))
def wX11_reduced (σ : St) (v0 : Int32) (v1 : Int32) (Φ : Int32 → St → Prop) : Prop := ∃ n0, wX11_reduced_3 Φ n0 σ v0 v1 (100 : Int32)
def wX11_lasts_71 (Φ : Int64 → St → Prop) (σ : St) (v1 : Int32) (s0 : Int32) : Prop := wX11_power σ s0 v1 (fun r10 σ9 => Φ r10 σ9)
def wX11_lasts (σ : St) (v1 : Int32) (v2 : Int32) (Φ : Int64 → St → Prop) : Prop := (if v1 < (1 : Int32) then Φ (-102 : Int64) σ else (if (4 : Int32) < v1 then Φ (-102 : Int64) σ else (if v2 < 0 then Φ (-102 : Int64) σ else (if v2 ≤ (1 : Int32) then wX0_isWhole σ 3 (fun r2 σ1 => (if r2 = 0 then Φ (-103 : Int64) σ1 else wX0_breakingHundredths σ1 3 (fun r4 σ3 => (if v2 = 0 then wX11_reduced σ3 ((100 : Int32) - r4) (100 : Int32) (fun r8 σ7 => wX11_lasts_71 Φ σ7 v1 r8) else wX11_reduced σ3 (100 : Int32) ((100 : Int32) - r4) (fun r6 σ5 => wX11_lasts_71 Φ σ5 v1 r6))))) else Φ (-102 : Int64) σ))))
def wX11_nextSeed (σ : St) (v0 : Int32) (Φ : Int32 → St → Prop) : Prop := (¬ (2147483648 : Int64) = 0) ∧ Φ ((((1103515245 : Int64) * v0.toInt64) + (12345 : Int64)) - (((1103515245 : Int64) * v0.toInt64) + (12345 : Int64)) / (2147483648 : Int64) * (2147483648 : Int64)).toInt32 σ
def wX11_tryHours_76 (K16 : St → Int32 → Int32 → Int32 → Prop) (Φ : Int32 → St → Prop) (σ : St) (v1 : Int32) (v3 : Int32) (v4 : Int32) (s0 : Int32) : Prop := wX0_goHour σ 16 s0 (fun σ8 => K16 σ8 v1 v3 (v4 + 1))
def wX11_tryHours_16 (Φ : Int32 → St → Prop) : Nat → St → Int32 → Int32 → Int32 → Prop
  | 0, _, _, _, _ => False
  | n + 1, σ, v1, v3, v4 => (if v1 ≤ v4 then Φ v3 σ else (if (σ.1 16 6) = 0 then wX11_nextSeed σ v3 (fun r3 σ2 => (¬ (65536 : Int32) = 0) ∧ (¬ (7 : Int32) = 0) ∧ wX11_windingOf σ2 ((r3 / (65536 : Int32)) - (r3 / (65536 : Int32)) / (7 : Int32) * (7 : Int32)) (fun r5 σ4 => wX11_isLength σ4 ((σ4.1 16 0) - r5) (fun r7 σ6 => (if r7 = 0 then wX11_tryHours_76 (wX11_tryHours_16 Φ n) Φ σ6 v1 r3 v4 (0 : Int32) else wX11_tryHours_76 (wX11_tryHours_16 Φ n) Φ σ6 v1 r3 v4 r5)))) else Φ v3 σ))
def wX11_tryHours (σ : St) (v1 : Int32) (v2 : Int32) (Φ : Int32 → St → Prop) : Prop := wX0_becomeLike σ 16 3 (fun σ1 => ∃ n0, wX11_tryHours_16 Φ n0 σ1 v1 v2 (0 : Int32))
def wX11_whirls (σ : St) (v1 : Int32) (v2 : Int32) (v3 : Int32) (Φ : Int32 → St → Prop) : Prop := (if v1 < (1 : Int32) then Φ (-102 : Int32) σ else (if (60 : Int32) < v1 then Φ (-102 : Int32) σ else (if v2 < 0 then Φ (-102 : Int32) σ else (if v3 < 0 then Φ (-102 : Int32) σ else (if v3 ≤ (3 : Int32) then wX0_isWhole σ 3 (fun r2 σ1 => (if r2 = 0 then Φ (-103 : Int32) σ1 else wX11_tryHours σ1 v1 v2 (fun r4 σ3 => ((v3 = 0 → Φ (σ3.1 16 0) σ3) ∧ (v3 = 1 → Φ (σ3.1 16 3) σ3) ∧ (v3 = 2 → Φ ((σ3.1 16 4) - (σ3.1 3 4)) σ3) ∧ ((v3.toInt < 0 ∨ 2 < v3.toInt) → Φ r4 σ3))))) else Φ (-102 : Int32) σ)))))
def wX11_image (σ : St) (Φ : Int32 → St → Prop) : Prop := wX0_isThere σ 3 (fun r2 σ1 => (if r2 = 0 then Φ (-103 : Int32) σ1 else wX0_becomeLike σ1 17 3 (fun σ3 => wX6_keepPlaces σ3 (fun σ4 => ((1 : Int32) = 0 ∨ (1 : Int32) = 1) ∧ Φ ((sV σ4 0 8 (1 : Int32)).1 3 4) (sV σ4 0 8 (1 : Int32))))))
def wX11_restore (σ : St) (Φ : Int32 → St → Prop) : Prop := (if (σ.1 0 8) = 0 then Φ (-103 : Int32) σ else wX0_becomeLike σ 3 17 (fun σ1 => wX6_goBack σ1 (fun σ2 => Φ (σ2.1 3 4) σ2)))
def wX11_count (σ : St) (v1 : Int32) (Φ : Int32 → St → Prop) : Prop := ((v1 = 0 → Φ (σ.1 3 0) σ) ∧ (v1 = 1 → wX0_turnsNow σ 3 (fun r2 σ1 => Φ r2 σ1)) ∧ (v1 = 2 → Φ (σ.1 3 1) σ) ∧ (v1 = 3 → wX0_strainNow σ 3 (fun r4 σ3 => Φ r4 σ3)) ∧ (v1 = 4 → Φ (σ.1 3 2) σ) ∧ (v1 = 5 → (if (σ.1 3 5) = 0 then Φ (0 : Int32) σ else Φ (1 : Int32) σ)) ∧ (v1 = 6 → Φ (σ.1 3 3) σ) ∧ (v1 = 7 → Φ (σ.1 3 4) σ) ∧ (v1 = 8 → (if (σ.1 3 6) = 0 then Φ (0 : Int32) σ else Φ (1 : Int32) σ)) ∧ (v1 = 9 → Φ (σ.1 4 2) σ) ∧ (v1 = 10 → Φ (σ.1 1 1) σ) ∧ (v1 = 11 → Φ (σ.1 0 9) σ) ∧ (v1 = 12 → Φ (σ.1 7 2) σ) ∧ ((v1.toInt < 0 ∨ 12 < v1.toInt) → Φ (-102 : Int32) σ))
def wX11_mixed (σ : St) (v0 : Int64) (v2 : Int64) (Φ : Int64 → St → Prop) : Prop := Φ (((31 : Int64) * v0) + v2) σ
def wX11_withCabins_14 (K5 : St → Int64 → Int32 → Prop) (Φ : Int64 → St → Prop) : Nat → St → Int64 → Int32 → Int32 → Prop
  | 0, _, _, _, _ => False
  | n + 1, σ, v3, v5, v6 => (if (3 : Int32) < v6 then K5 σ v3 (v5 + 1) else wX11_cabin σ v5 v6 (fun r2 σ1 => wX11_mixed σ1 v3 r2.toInt64 (fun r4 σ3 => wX11_withCabins_14 K5 Φ n σ3 r4 v5 (v6 + 1))))
def wX11_withCabins_5 (Φ : Int64 → St → Prop) : Nat → St → Int64 → Int32 → Prop
  | 0, _, _, _ => False
  | n + 1, σ, v3, v5 => (if (2 : Int32) ≤ v5 then Φ v3 σ else ∃ n0, wX11_withCabins_14 (wX11_withCabins_5 Φ n) Φ n0 σ v3 v5 (0 : Int32))
def wX11_withCabins (σ : St) (v1 : Int64) (Φ : Int64 → St → Prop) : Prop := ∃ n0, wX11_withCabins_5 Φ n0 σ v1 (0 : Int32)
def wX11_withOutlook_61 (Φ : Int64 → St → Prop) : Nat → St → Int64 → Int32 → Prop
  | 0, _, _, _ => False
  | n + 1, σ, v3, v5 => (if (1 : Int32) < v5 then Φ v3 σ else wX11_lasts σ (2 : Int32) v5 (fun r10 σ9 => wX11_mixed σ9 v3 r10 (fun r12 σ11 => wX11_withOutlook_61 Φ n σ11 r12 (v5 + 1))))
def wX11_withOutlook_32 (Φ : Int64 → St → Prop) : Nat → St → Int64 → Int32 → Prop
  | 0, _, _, _ => False
  | n + 1, σ, v3, v5 => (if (1 : Int32) < v5 then ∃ n0, wX11_withOutlook_61 Φ n0 σ v3 (0 : Int32) else wX11_soonest σ (100 : Int32) v5 (fun r6 σ5 => wX11_mixed σ5 v3 r6.toInt64 (fun r8 σ7 => wX11_withOutlook_32 Φ n σ7 r8 (v5 + 1))))
def wX11_withOutlook_5 (Φ : Int64 → St → Prop) : Nat → St → Int64 → Int32 → Prop
  | 0, _, _, _ => False
  | n + 1, σ, v3, v5 => (if (1 : Int32) < v5 then ∃ n0, wX11_withOutlook_32 Φ n0 σ v3 (0 : Int32) else wX11_even σ v5 (fun r2 σ1 => wX11_mixed σ1 v3 r2.toInt64 (fun r4 σ3 => wX11_withOutlook_5 Φ n σ3 r4 (v5 + 1))))
def wX11_withOutlook (σ : St) (v1 : Int64) (Φ : Int64 → St → Prop) : Prop := ∃ n0, wX11_withOutlook_5 Φ n0 σ v1 (0 : Int32)
def wX11_withThings_20 (K5 : St → Int64 → Int32 → Prop) (Φ : Int64 → St → Prop) : Nat → St → Int64 → Int32 → Int32 → Prop
  | 0, _, _, _, _ => False
  | n + 1, σ, v3, v5, v6 => (if (4 : Int32) < v6 then K5 σ v3 (v5 + 1) else wX11_about σ v5 v6 (fun r2 σ1 => wX11_mixed σ1 v3 r2.toInt64 (fun r4 σ3 => wX11_withThings_20 K5 Φ n σ3 r4 v5 (v6 + 1))))
def wX11_withThings_5 (Φ : Int64 → St → Prop) : Nat → St → Int64 → Int32 → Prop
  | 0, _, _, _ => False
  | n + 1, σ, v3, v5 => (if (σ.1 4 2) ≤ v5 then Φ v3 σ else ∃ n0, wX11_withThings_20 (wX11_withThings_5 Φ n) Φ n0 σ v3 v5 (0 : Int32))
def wX11_withThings (σ : St) (v1 : Int64) (Φ : Int64 → St → Prop) : Prop := ∃ n0, wX11_withThings_5 Φ n0 σ v1 (0 : Int32)
def wX11_digest_101 (Φ : Int64 → St → Prop) : Nat → St → Int64 → Int32 → Prop
  | 0, _, _, _ => False
  | n + 1, σ, v1, v3 => (if (13 : Int32) ≤ v3 then Φ v1 σ else wX11_count σ v3 (fun r20 σ19 => wX11_mixed σ19 v1 r20.toInt64 (fun r22 σ21 => wX11_digest_101 Φ n σ21 r22 (v3 + 1))))
def wX11_digest_68 (Φ : Int64 → St → Prop) : Nat → St → Int64 → Int32 → Prop
  | 0, _, _, _ => False
  | n + 1, σ, v1, v3 => (if (σ.1 1 1) ≤ v3 then ∃ n0, wX11_digest_101 Φ n0 σ v1 (0 : Int32) else wX7_at σ v3 (fun r16 σ15 => wX11_mixed σ15 v1 r16.toInt64 (fun r18 σ17 => wX11_digest_68 Φ n σ17 r18 (v3 + 1))))
def wX11_digest_44 (Φ : Int64 → St → Prop) : Nat → St → Int64 → Int32 → Prop
  | 0, _, _, _ => False
  | n + 1, σ, v1, v3 => (if (2 : Int32) < v3 then ∃ n0, wX11_digest_68 Φ n0 σ v1 (0 : Int32) else wX11_fits σ v3 (fun r12 σ11 => wX11_mixed σ11 v1 r12.toInt64 (fun r14 σ13 => wX11_digest_44 Φ n σ13 r14 (v3 + 1))))
def wX11_digest_42 (Φ : Int64 → St → Prop) (σ : St) (v1 : Int64) : Prop := ∃ n0, wX11_digest_44 Φ n0 σ v1 (0 : Int32)
def wX11_digest_20 (Φ : Int64 → St → Prop) (σ : St) (v1 : Int64) : Prop := wX11_withThings σ v1 (fun r6 σ5 => wX0_isWhole σ5 3 (fun r8 σ7 => (if r8 = 0 then wX11_digest_42 Φ σ7 r6 else wX11_withOutlook σ7 r6 (fun r10 σ9 => wX11_digest_42 Φ σ9 r10))))
def wX11_digest (σ : St) (Φ : Int64 → St → Prop) : Prop := wX0_isThere σ 3 (fun r2 σ1 => (if r2 = 0 then wX11_digest_20 Φ σ1 (683 : Int64) else wX11_withCabins σ1 (683 : Int64) (fun r4 σ3 => wX11_digest_20 Φ σ3 r4)))
def wX12_within (σ : St) (v0 : Int32) (v1 : Int32) (v2 : Int32) (Φ : Int32 → St → Prop) : Prop := (if v0 < v1 then (((0 : Int32) = 0 ∨ (0 : Int32) = 1) ∧ Φ (0 : Int32) σ) else (if v2 < v0 then (((0 : Int32) = 0 ∨ (0 : Int32) = 1) ∧ Φ (0 : Int32) σ) else (((1 : Int32) = 0 ∨ (1 : Int32) = 1) ∧ Φ (1 : Int32) σ)))
def wX12_has (σ : St) (v0 : Int32) (v1 : Int32) (Φ : Int32 → St → Prop) : Prop := (if ((v0 >>> (v1 &&& 31)) &&& (1 : Int32)) = (1 : Int32) then (((1 : Int32) = 0 ∨ (1 : Int32) = 1) ∧ Φ (1 : Int32) σ) else (((0 : Int32) = 0 ∨ (0 : Int32) = 1) ∧ Φ (0 : Int32) σ))
def wX12_letters_102 (Φ : Int32 → St → Prop) : Nat → St → Int64 → Int32 → Int32 → Prop
  | 0, _, _, _, _ => False
  | n + 1, σ, v1, v3, v5 => (if v3 ≤ v5 then Φ ((sV σ 18 17 ((σ.1 18 17) + v3)).1 18 17) (sV σ 18 17 ((σ.1 18 17) + v3)) else vp_in ((σ.1 18 17) + v5) 12 ∧ wX12_letters_102 Φ n (sV σ 25 ((σ.1 18 17) + v5).toNatClampNeg (vp_nar .byte (v1 >>> (((8 : Int32) * v5).toInt64 &&& 63)).toInt32.toInt8.toInt32)) v1 v3 (v5 + 1))
def wX12_letters_77 (K8 : St → Int64 → Int32 → Int32 → Int32 → Prop) (Φ : Int32 → St → Prop) (σ : St) (v1 : Int64) (v4 : Int32) (v5 : Int32) (s0 : Int32) (s1 : Int32) : Prop := K8 σ v1 (s1 + s0) v4 (v5 + 1)
def wX12_letters_64 (K8 : St → Int64 → Int32 → Int32 → Int32 → Prop) (Φ : Int32 → St → Prop) (σ : St) (v1 : Int64) (v3 : Int32) (v5 : Int32) (v6 : Int32) (s0 : Int32) : Prop := (if v6 = 0 then wX12_letters_77 K8 Φ σ v1 s0 v5 (0 : Int32) v3 else wX12_letters_77 K8 Φ σ v1 s0 v5 (1 : Int32) v3)
def wX12_letters_59 (K8 : St → Int64 → Int32 → Int32 → Int32 → Prop) (Φ : Int32 → St → Prop) (σ : St) (v1 : Int64) (v3 : Int32) (v5 : Int32) (v6 : Int32) : Prop := wX12_letters_64 K8 Φ σ v1 v3 v5 v6 (1 : Int32)
def wX12_letters_49 (K8 : St → Int64 → Int32 → Int32 → Int32 → Prop) (Φ : Int32 → St → Prop) (σ : St) (v1 : Int64) (v3 : Int32) (v4 : Int32) (v5 : Int32) (v6 : Int32) : Prop := (if v4 = 0 then (if v6 = 0 then wX12_letters_59 K8 Φ σ v1 v3 v5 v6 else wX12_letters_64 K8 Φ σ v1 v3 v5 v6 (0 : Int32)) else wX12_letters_59 K8 Φ σ v1 v3 v5 v6)
def wX12_letters_8 (Φ : Int32 → St → Prop) : Nat → St → Int64 → Int32 → Int32 → Int32 → Prop
  | 0, _, _, _, _, _ => False
  | n + 1, σ, v1, v3, v4, v5 => (if (8 : Int32) ≤ v5 then (if ((σ.1 18 17) + v3) ≤ (12 : Int32) then ∃ n0, wX12_letters_102 Φ n0 σ v1 v3 (0 : Int32) else Φ (-104 : Int32) σ) else (if (126 : Int32) < ((v1 >>> (((8 : Int32) * v5).toInt64 &&& 63)) &&& (255 : Int64)).toInt32 then Φ (-102 : Int32) σ else (if v4 = 0 then wX12_letters_49 (wX12_letters_8 Φ n) Φ σ v1 v3 v4 v5 ((v1 >>> (((8 : Int32) * v5).toInt64 &&& 63)) &&& (255 : Int64)).toInt32 else (if ((v1 >>> (((8 : Int32) * v5).toInt64 &&& 63)) &&& (255 : Int64)).toInt32 = 0 then wX12_letters_49 (wX12_letters_8 Φ n) Φ σ v1 v3 v4 v5 ((v1 >>> (((8 : Int32) * v5).toInt64 &&& 63)) &&& (255 : Int64)).toInt32 else Φ (-102 : Int32) σ))))
def wX12_letters (σ : St) (v1 : Int64) (Φ : Int32 → St → Prop) : Prop := ∃ n0, wX12_letters_8 Φ n0 σ v1 (0 : Int32) (0 : Int32) (0 : Int32)
def wX12_blank (σ : St) (Φ : Int32 → St → Prop) : Prop := Φ (σ.1 18 17) (sV σ 18 17 (0 : Int32))
def wX12_takes_140 (Φ : Int32 → St → Prop) (σ : St) (v3 : Int32) : Prop := wX12_within (sV σ 18 23 (((10 : Int32) * (σ.1 18 23)) + v3)) v3 (0 : Int32) (9 : Int32) (fun r10 σ9 => ((r10 = 0 ∨ r10 = 1) ∧ Φ r10 σ9))
def wX12_takes_102 (Φ : Int32 → St → Prop) (σ : St) (v2 : Int32) : Prop := (if v2 = (58 : Int32) then (((1 : Int32) = 0 ∨ (1 : Int32) = 1) ∧ Φ (1 : Int32) σ) else (((0 : Int32) = 0 ∨ (0 : Int32) = 1) ∧ Φ (0 : Int32) σ))
def wX12_takes (σ : St) (v1 : Int32) (v2 : Int32) (Φ : Int32 → St → Prop) : Prop := ((v1 = 0 → wX12_within (sV σ 18 21 (v2 - (48 : Int32))) (v2 - (48 : Int32)) (1 : Int32) (4 : Int32) (fun r2 σ1 => ((r2 = 0 ∨ r2 = 1) ∧ Φ r2 σ1))) ∧ (v1 = 1 → wX12_within (sV σ 18 21 (((10 : Int32) * (σ.1 18 21)) + (v2 - (48 : Int32)))) (v2 - (48 : Int32)) (0 : Int32) (9 : Int32) (fun r4 σ3 => (if r4 = 0 then (((0 : Int32) = 0 ∨ (0 : Int32) = 1) ∧ Φ (0 : Int32) σ3) else (if (40 : Int32) < (σ3.1 18 21) then (((0 : Int32) = 0 ∨ (0 : Int32) = 1) ∧ Φ (0 : Int32) σ3) else (((1 : Int32) = 0 ∨ (1 : Int32) = 1) ∧ Φ (1 : Int32) σ3))))) ∧ (v1 = 2 → wX12_takes_102 Φ σ v2) ∧ (v1 = 3 → wX12_within (sV σ 18 22 (v2 - (48 : Int32))) (v2 - (48 : Int32)) (1 : Int32) (9 : Int32) (fun r6 σ5 => ((r6 = 0 ∨ r6 = 1) ∧ Φ r6 σ5))) ∧ (v1 = 4 → wX12_takes_102 Φ σ v2) ∧ (v1 = 5 → wX12_within (sV σ 18 23 (v2 - (48 : Int32))) (v2 - (48 : Int32)) (1 : Int32) (9 : Int32) (fun r8 σ7 => ((r8 = 0 ∨ r8 = 1) ∧ Φ r8 σ7))) ∧ (v1 = 6 → wX12_takes_140 Φ σ (v2 - (48 : Int32))) ∧ (v1 = 7 → wX12_takes_140 Φ σ (v2 - (48 : Int32))) ∧ ((v1.toInt < 0 ∨ 7 < v1.toInt) → (if v1 = (8 : Int32) then (if v2 = (111 : Int32) then ((1 : Int32) = 0 ∨ (1 : Int32) = 1) ∧ ((((sV σ 18 24 (1 : Int32)).1 18 24) = 0 ∨ ((sV σ 18 24 (1 : Int32)).1 18 24) = 1) ∧ Φ ((sV σ 18 24 (1 : Int32)).1 18 24) (sV σ 18 24 (1 : Int32))) else ((0 : Int32) = 0 ∨ (0 : Int32) = 1) ∧ ((((sV σ 18 24 (0 : Int32)).1 18 24) = 0 ∨ ((sV σ 18 24 (0 : Int32)).1 18 24) = 1) ∧ Φ ((sV σ 18 24 (0 : Int32)).1 18 24) (sV σ 18 24 (0 : Int32)))) else ((0 : Int32) = 0 ∨ (0 : Int32) = 1) ∧ ((((sV σ 18 24 (0 : Int32)).1 18 24) = 0 ∨ ((sV σ 18 24 (0 : Int32)).1 18 24) = 1) ∧ Φ ((sV σ 18 24 (0 : Int32)).1 18 24) (sV σ 18 24 (0 : Int32))))))
def wX12_readWire_35 (Φ : St → Prop) (σ : St) (v1 : Int32) : Prop := (if v1 = ((sV σ 18 19 v1).1 18 17) then (if v1 ≤ (7 : Int32) then ((0 : Int32) = 0 ∨ (0 : Int32) = 1) ∧ Φ (sV (sV σ 18 19 v1) 18 20 (0 : Int32)) else ((1 : Int32) = 0 ∨ (1 : Int32) = 1) ∧ Φ (sV (sV σ 18 19 v1) 18 20 (1 : Int32))) else ((0 : Int32) = 0 ∨ (0 : Int32) = 1) ∧ Φ (sV (sV σ 18 19 v1) 18 20 (0 : Int32)))
def wX12_readWire_7 (Φ : St → Prop) : Nat → St → Int32 → Prop
  | 0, _, _ => False
  | n + 1, σ, v1 => (if (σ.1 18 17) ≤ v1 then wX12_readWire_35 Φ σ v1 else vp_in v1 12 ∧ wX12_takes σ v1 (σ.1 25 v1.toNatClampNeg) (fun r2 σ1 => (if r2 = 0 then wX12_readWire_35 Φ σ1 v1 else wX12_readWire_7 Φ n σ1 (v1 + 1))))
def wX12_readWire (σ : St) (Φ : St → Prop) : Prop := ((0 : Int32) = 0 ∨ (0 : Int32) = 1) ∧ ∃ n0, wX12_readWire_7 Φ n0 (sV σ 18 24 (0 : Int32)) (0 : Int32)
def wX12_fault (σ : St) (Φ : Int32 → St → Prop) : Prop := wX12_readWire σ (fun σ1 => Φ (σ1.1 18 19) σ1)
def wX12_wire (σ : St) (Φ : Int32 → St → Prop) : Prop := wX12_readWire σ (fun σ1 => (if (σ1.1 18 20) = 0 then Φ (-103 : Int32) σ1 else (((sV (sV (sV σ1 18 2 (σ1.1 18 21)) 18 3 ((((sV σ1 18 2 (σ1.1 18 21)).1 18 21) * ((sV σ1 18 2 (σ1.1 18 21)).1 18 21)) * ((sV σ1 18 2 (σ1.1 18 21)).1 18 22))) 18 4 ((sV (sV σ1 18 2 (σ1.1 18 21)) 18 3 ((((sV σ1 18 2 (σ1.1 18 21)).1 18 21) * ((sV σ1 18 2 (σ1.1 18 21)).1 18 21)) * ((sV σ1 18 2 (σ1.1 18 21)).1 18 22))).1 18 23)).1 18 24) = 0 ∨ ((sV (sV (sV σ1 18 2 (σ1.1 18 21)) 18 3 ((((sV σ1 18 2 (σ1.1 18 21)).1 18 21) * ((sV σ1 18 2 (σ1.1 18 21)).1 18 21)) * ((sV σ1 18 2 (σ1.1 18 21)).1 18 22))) 18 4 ((sV (sV σ1 18 2 (σ1.1 18 21)) 18 3 ((((sV σ1 18 2 (σ1.1 18 21)).1 18 21) * ((sV σ1 18 2 (σ1.1 18 21)).1 18 21)) * ((sV σ1 18 2 (σ1.1 18 21)).1 18 22))).1 18 23)).1 18 24) = 1) ∧ ((0 : Int32) = 0 ∨ (0 : Int32) = 1) ∧ ((1 : Int32) = 0 ∨ (1 : Int32) = 1) ∧ Φ ((sV (sV (sV (sV (sV (sV (sV (sV (sV (sV (sV (sV σ1 18 2 (σ1.1 18 21)) 18 3 ((((sV σ1 18 2 (σ1.1 18 21)).1 18 21) * ((sV σ1 18 2 (σ1.1 18 21)).1 18 21)) * ((sV σ1 18 2 (σ1.1 18 21)).1 18 22))) 18 4 ((sV (sV σ1 18 2 (σ1.1 18 21)) 18 3 ((((sV σ1 18 2 (σ1.1 18 21)).1 18 21) * ((sV σ1 18 2 (σ1.1 18 21)).1 18 21)) * ((sV σ1 18 2 (σ1.1 18 21)).1 18 22))).1 18 23)) 18 5 ((sV (sV (sV σ1 18 2 (σ1.1 18 21)) 18 3 ((((sV σ1 18 2 (σ1.1 18 21)).1 18 21) * ((sV σ1 18 2 (σ1.1 18 21)).1 18 21)) * ((sV σ1 18 2 (σ1.1 18 21)).1 18 22))) 18 4 ((sV (sV σ1 18 2 (σ1.1 18 21)) 18 3 ((((sV σ1 18 2 (σ1.1 18 21)).1 18 21) * ((sV σ1 18 2 (σ1.1 18 21)).1 18 21)) * ((sV σ1 18 2 (σ1.1 18 21)).1 18 22))).1 18 23)).1 18 24)) 18 6 (0 : Int32)) 18 0 (1 : Int32)) 18 1 (((sV (sV (sV (sV (sV (sV σ1 18 2 (σ1.1 18 21)) 18 3 ((((sV σ1 18 2 (σ1.1 18 21)).1 18 21) * ((sV σ1 18 2 (σ1.1 18 21)).1 18 21)) * ((sV σ1 18 2 (σ1.1 18 21)).1 18 22))) 18 4 ((sV (sV σ1 18 2 (σ1.1 18 21)) 18 3 ((((sV σ1 18 2 (σ1.1 18 21)).1 18 21) * ((sV σ1 18 2 (σ1.1 18 21)).1 18 21)) * ((sV σ1 18 2 (σ1.1 18 21)).1 18 22))).1 18 23)) 18 5 ((sV (sV (sV σ1 18 2 (σ1.1 18 21)) 18 3 ((((sV σ1 18 2 (σ1.1 18 21)).1 18 21) * ((sV σ1 18 2 (σ1.1 18 21)).1 18 21)) * ((sV σ1 18 2 (σ1.1 18 21)).1 18 22))) 18 4 ((sV (sV σ1 18 2 (σ1.1 18 21)) 18 3 ((((sV σ1 18 2 (σ1.1 18 21)).1 18 21) * ((sV σ1 18 2 (σ1.1 18 21)).1 18 21)) * ((sV σ1 18 2 (σ1.1 18 21)).1 18 22))).1 18 23)).1 18 24)) 18 6 (0 : Int32)) 18 0 (1 : Int32)).1 18 1) + (1 : Int32))) 18 7 (0 : Int32)) 18 8 (0 : Int32)) 18 9 (0 : Int32)) 18 14 (0 : Int32)) 18 17 (0 : Int32)).1 18 3) (sV (sV (sV (sV (sV (sV (sV (sV (sV (sV (sV (sV σ1 18 2 (σ1.1 18 21)) 18 3 ((((sV σ1 18 2 (σ1.1 18 21)).1 18 21) * ((sV σ1 18 2 (σ1.1 18 21)).1 18 21)) * ((sV σ1 18 2 (σ1.1 18 21)).1 18 22))) 18 4 ((sV (sV σ1 18 2 (σ1.1 18 21)) 18 3 ((((sV σ1 18 2 (σ1.1 18 21)).1 18 21) * ((sV σ1 18 2 (σ1.1 18 21)).1 18 21)) * ((sV σ1 18 2 (σ1.1 18 21)).1 18 22))).1 18 23)) 18 5 ((sV (sV (sV σ1 18 2 (σ1.1 18 21)) 18 3 ((((sV σ1 18 2 (σ1.1 18 21)).1 18 21) * ((sV σ1 18 2 (σ1.1 18 21)).1 18 21)) * ((sV σ1 18 2 (σ1.1 18 21)).1 18 22))) 18 4 ((sV (sV σ1 18 2 (σ1.1 18 21)) 18 3 ((((sV σ1 18 2 (σ1.1 18 21)).1 18 21) * ((sV σ1 18 2 (σ1.1 18 21)).1 18 21)) * ((sV σ1 18 2 (σ1.1 18 21)).1 18 22))).1 18 23)).1 18 24)) 18 6 (0 : Int32)) 18 0 (1 : Int32)) 18 1 (((sV (sV (sV (sV (sV (sV σ1 18 2 (σ1.1 18 21)) 18 3 ((((sV σ1 18 2 (σ1.1 18 21)).1 18 21) * ((sV σ1 18 2 (σ1.1 18 21)).1 18 21)) * ((sV σ1 18 2 (σ1.1 18 21)).1 18 22))) 18 4 ((sV (sV σ1 18 2 (σ1.1 18 21)) 18 3 ((((sV σ1 18 2 (σ1.1 18 21)).1 18 21) * ((sV σ1 18 2 (σ1.1 18 21)).1 18 21)) * ((sV σ1 18 2 (σ1.1 18 21)).1 18 22))).1 18 23)) 18 5 ((sV (sV (sV σ1 18 2 (σ1.1 18 21)) 18 3 ((((sV σ1 18 2 (σ1.1 18 21)).1 18 21) * ((sV σ1 18 2 (σ1.1 18 21)).1 18 21)) * ((sV σ1 18 2 (σ1.1 18 21)).1 18 22))) 18 4 ((sV (sV σ1 18 2 (σ1.1 18 21)) 18 3 ((((sV σ1 18 2 (σ1.1 18 21)).1 18 21) * ((sV σ1 18 2 (σ1.1 18 21)).1 18 21)) * ((sV σ1 18 2 (σ1.1 18 21)).1 18 22))).1 18 23)).1 18 24)) 18 6 (0 : Int32)) 18 0 (1 : Int32)).1 18 1) + (1 : Int32))) 18 7 (0 : Int32)) 18 8 (0 : Int32)) 18 9 (0 : Int32)) 18 14 (0 : Int32)) 18 17 (0 : Int32))))
def wX12_weighs (σ : St) (v1 : Int32) (v2 : Int32) (Φ : Int32 → St → Prop) : Prop := vp_in v1 6 ∧ (¬ (6 : Int32) = 0) ∧ vp_in v1 6 ∧ vp_in v1 6 ∧ (if (σ.1 19 v1.toNatClampNeg) = (1 : Int32) then Φ ((σ.1 20 v1.toNatClampNeg) + (2 : Int32)) σ else vp_in v1 6 ∧ (if (σ.1 19 v1.toNatClampNeg) = (3 : Int32) then Φ ((σ.1 20 v1.toNatClampNeg) + ((v2 - (σ.1 22 v1.toNatClampNeg)) / (6 : Int32))) σ else vp_in v1 6 ∧ (if (σ.1 19 v1.toNatClampNeg) = (4 : Int32) then Φ ((σ.1 20 v1.toNatClampNeg) + ((2 : Int32) * ((v2 - (σ.1 22 v1.toNatClampNeg)) / (6 : Int32)))) σ else Φ ((σ.1 20 v1.toNatClampNeg) + (0 : Int32)) σ)))
def wX12_cabinWeighs_66 (K7 : St → Int32 → Int32 → Int32 → Int32 → Int32 → Prop) (Φ : Int32 → St → Prop) (σ : St) (v1 : Int32) (v2 : Int32) (v3 : Int32) (v5 : Int32) (s0 : Int32) (s1 : Int32) : Prop := K7 σ v1 v2 v3 (s1 + s0) (v5 + 1)
def wX12_cabinWeighs_46 (K7 : St → Int32 → Int32 → Int32 → Int32 → Int32 → Prop) (Φ : Int32 → St → Prop) (σ : St) (v1 : Int32) (v2 : Int32) (v3 : Int32) (v4 : Int32) (v5 : Int32) (s0 : Int32) : Prop := (if s0 = 0 then wX12_cabinWeighs_66 K7 Φ σ v1 v2 v3 v5 (0 : Int32) v4 else wX12_weighs σ v5 v2 (fun r4 σ3 => wX12_cabinWeighs_66 K7 Φ σ3 v1 v2 v3 v5 r4 v4))
def wX12_cabinWeighs_32 (K7 : St → Int32 → Int32 → Int32 → Int32 → Int32 → Prop) (Φ : Int32 → St → Prop) (σ : St) (v1 : Int32) (v2 : Int32) (v3 : Int32) (v4 : Int32) (v5 : Int32) (s0 : Int32) : Prop := wX12_has σ v3 v5 (fun r2 σ1 => (if s0 = r2 then wX12_cabinWeighs_46 K7 Φ σ1 v1 v2 v3 v4 v5 (0 : Int32) else wX12_cabinWeighs_46 K7 Φ σ1 v1 v2 v3 v4 v5 (1 : Int32)))
def wX12_cabinWeighs_7 (Φ : Int32 → St → Prop) : Nat → St → Int32 → Int32 → Int32 → Int32 → Int32 → Prop
  | 0, _, _, _, _, _, _ => False
  | n + 1, σ, v1, v2, v3, v4, v5 => (if (σ.1 18 9) ≤ v5 then Φ v4 σ else vp_in v5 6 ∧ (if (σ.1 21 v5.toNatClampNeg) = v1 then wX12_cabinWeighs_32 (wX12_cabinWeighs_7 Φ n) Φ σ v1 v2 v3 v4 v5 (1 : Int32) else wX12_cabinWeighs_32 (wX12_cabinWeighs_7 Φ n) Φ σ v1 v2 v3 v4 v5 (0 : Int32)))
def wX12_cabinWeighs (σ : St) (v1 : Int32) (v2 : Int32) (v3 : Int32) (Φ : Int32 → St → Prop) : Prop := ∃ n0, wX12_cabinWeighs_7 Φ n0 σ v1 v2 v3 (10 : Int32) (0 : Int32)
def wX12_turnsAt (σ : St) (v1 : Int32) (Φ : Int32 → St → Prop) : Prop := (if v1 = 0 then Φ (0 : Int32) σ else (¬ (v1 * v1) = 0) ∧ Φ ((σ.1 18 3) / (v1 * v1)) σ)
def wX12_armBy (σ : St) (v1 : Int32) (v2 : Int32) (v3 : Int32) (v4 : Int32) (Φ : Int32 → St → Prop) : Prop := wX12_cabinWeighs σ (0 : Int32) v3 v4 (fun r2 σ1 => wX12_cabinWeighs σ1 (1 : Int32) v3 v4 (fun r4 σ3 => (¬ (r2 + r4) = 0) ∧ (if v1 = 0 then Φ ((v2 * r4) / (r2 + r4)) σ3 else Φ (v2 - ((v2 * r4) / (r2 + r4))) σ3)))
def wX12_floorBy (σ : St) (v1 : Int32) (v2 : Int32) (v3 : Int32) (v4 : Int32) (Φ : Int32 → St → Prop) : Prop := wX12_armBy σ v1 v2 v3 v4 (fun r2 σ1 => wX12_turnsAt σ1 v2 (fun r4 σ3 => wX12_turnsAt σ3 v2 (fun r6 σ5 => Φ ((r2 * r4) * r6) σ5)))
def wX12_strainAt (σ : St) (v1 : Int32) (v2 : Int32) (Φ : Int32 → St → Prop) : Prop := wX12_cabinWeighs σ (0 : Int32) v2 (0 : Int32) (fun r2 σ1 => wX12_floorBy σ1 (0 : Int32) v1 v2 (0 : Int32) (fun r4 σ3 => (¬ (100 : Int32) = 0) ∧ Φ ((r2 * r4) / (100 : Int32)) σ3))
def wX12_inCabin_28 (K4 : St → Int32 → Int32 → Int32 → Prop) (Φ : Int32 → St → Prop) (σ : St) (v1 : Int32) (v3 : Int32) (s0 : Int32) (s1 : Int32) : Prop := K4 σ v1 (s1 + s0) (v3 + 1)
def wX12_inCabin_4 (Φ : Int32 → St → Prop) : Nat → St → Int32 → Int32 → Int32 → Prop
  | 0, _, _, _, _ => False
  | n + 1, σ, v1, v2, v3 => (if (σ.1 18 9) ≤ v3 then Φ v2 σ else vp_in v3 6 ∧ (if (σ.1 21 v3.toNatClampNeg) = v1 then wX12_inCabin_28 (wX12_inCabin_4 Φ n) Φ σ v1 v3 (1 : Int32) v2 else wX12_inCabin_28 (wX12_inCabin_4 Φ n) Φ σ v1 v3 (0 : Int32) v2))
def wX12_inCabin (σ : St) (v1 : Int32) (Φ : Int32 → St → Prop) : Prop := ∃ n0, wX12_inCabin_4 Φ n0 σ v1 (0 : Int32) (0 : Int32)
def wX12_cabinNow (σ : St) (v1 : Int32) (v2 : Int32) (Φ : Int32 → St → Prop) : Prop := ((v2 = 0 → wX12_cabinWeighs σ v1 (σ.1 18 8) (0 : Int32) (fun r2 σ1 => Φ r2 σ1)) ∧ (v2 = 1 → wX12_armBy σ v1 (σ.1 18 2) (σ.1 18 8) (0 : Int32) (fun r4 σ3 => Φ r4 σ3)) ∧ (v2 = 2 → wX12_floorBy σ v1 (σ.1 18 2) (σ.1 18 8) (0 : Int32) (fun r6 σ5 => Φ r6 σ5)) ∧ ((v2.toInt < 0 ∨ 2 < v2.toInt) → wX12_inCabin σ v1 (fun r8 σ7 => Φ r8 σ7)))
def wX12_cabin (σ : St) (v1 : Int32) (v2 : Int32) (Φ : Int32 → St → Prop) : Prop := wX12_within σ v1 (0 : Int32) (1 : Int32) (fun r2 σ1 => (if r2 = 0 then Φ (-101 : Int32) σ1 else wX12_within σ1 v2 (0 : Int32) (3 : Int32) (fun r4 σ3 => (if r4 = 0 then Φ (-102 : Int32) σ3 else (if (σ3.1 18 0) = 0 then Φ (-103 : Int32) σ3 else wX12_cabinNow σ3 v1 v2 (fun r6 σ5 => Φ r6 σ5))))))
def wX12_isThing (σ : St) (v1 : Int32) (Φ : Int32 → St → Prop) : Prop := wX12_within σ v1 (0 : Int32) ((σ.1 18 9) - (1 : Int32)) (fun r2 σ1 => ((r2 = 0 ∨ r2 = 1) ∧ Φ r2 σ1))
def wX12_thing (σ : St) (v1 : Int32) (v2 : Int32) (v3 : Int32) (Φ : Int32 → St → Prop) : Prop := wX12_within σ v3 (0 : Int32) (1 : Int32) (fun r2 σ1 => (if r2 = 0 then Φ (-101 : Int32) σ1 else wX12_within σ1 v1 (0 : Int32) (4 : Int32) (fun r4 σ3 => (if r4 = 0 then Φ (-102 : Int32) σ3 else wX12_within σ3 v2 (1 : Int32) (20 : Int32) (fun r6 σ5 => (if r6 = 0 then Φ (-102 : Int32) σ5 else (if (σ5.1 18 0) = 0 then Φ (-103 : Int32) σ5 else (if (σ5.1 18 9) = (6 : Int32) then Φ (-104 : Int32) σ5 else vp_in (σ5.1 18 9) 6 ∧ vp_in ((sV σ5 19 (σ5.1 18 9).toNatClampNeg v1).1 18 9) 6 ∧ vp_in ((sV (sV σ5 19 (σ5.1 18 9).toNatClampNeg v1) 20 ((sV σ5 19 (σ5.1 18 9).toNatClampNeg v1).1 18 9).toNatClampNeg v2).1 18 9) 6 ∧ vp_in ((sV (sV (sV σ5 19 (σ5.1 18 9).toNatClampNeg v1) 20 ((sV σ5 19 (σ5.1 18 9).toNatClampNeg v1).1 18 9).toNatClampNeg v2) 21 ((sV (sV σ5 19 (σ5.1 18 9).toNatClampNeg v1) 20 ((sV σ5 19 (σ5.1 18 9).toNatClampNeg v1).1 18 9).toNatClampNeg v2).1 18 9).toNatClampNeg v3).1 18 9) 6 ∧ Φ (((sV (sV (sV (sV (sV σ5 19 (σ5.1 18 9).toNatClampNeg v1) 20 ((sV σ5 19 (σ5.1 18 9).toNatClampNeg v1).1 18 9).toNatClampNeg v2) 21 ((sV (sV σ5 19 (σ5.1 18 9).toNatClampNeg v1) 20 ((sV σ5 19 (σ5.1 18 9).toNatClampNeg v1).1 18 9).toNatClampNeg v2).1 18 9).toNatClampNeg v3) 22 ((sV (sV (sV σ5 19 (σ5.1 18 9).toNatClampNeg v1) 20 ((sV σ5 19 (σ5.1 18 9).toNatClampNeg v1).1 18 9).toNatClampNeg v2) 21 ((sV (sV σ5 19 (σ5.1 18 9).toNatClampNeg v1) 20 ((sV σ5 19 (σ5.1 18 9).toNatClampNeg v1).1 18 9).toNatClampNeg v2).1 18 9).toNatClampNeg v3).1 18 9).toNatClampNeg ((sV (sV (sV σ5 19 (σ5.1 18 9).toNatClampNeg v1) 20 ((sV σ5 19 (σ5.1 18 9).toNatClampNeg v1).1 18 9).toNatClampNeg v2) 21 ((sV (sV σ5 19 (σ5.1 18 9).toNatClampNeg v1) 20 ((sV σ5 19 (σ5.1 18 9).toNatClampNeg v1).1 18 9).toNatClampNeg v2).1 18 9).toNatClampNeg v3).1 18 8)) 18 9 (((sV (sV (sV (sV σ5 19 (σ5.1 18 9).toNatClampNeg v1) 20 ((sV σ5 19 (σ5.1 18 9).toNatClampNeg v1).1 18 9).toNatClampNeg v2) 21 ((sV (sV σ5 19 (σ5.1 18 9).toNatClampNeg v1) 20 ((sV σ5 19 (σ5.1 18 9).toNatClampNeg v1).1 18 9).toNatClampNeg v2).1 18 9).toNatClampNeg v3) 22 ((sV (sV (sV σ5 19 (σ5.1 18 9).toNatClampNeg v1) 20 ((sV σ5 19 (σ5.1 18 9).toNatClampNeg v1).1 18 9).toNatClampNeg v2) 21 ((sV (sV σ5 19 (σ5.1 18 9).toNatClampNeg v1) 20 ((sV σ5 19 (σ5.1 18 9).toNatClampNeg v1).1 18 9).toNatClampNeg v2).1 18 9).toNatClampNeg v3).1 18 9).toNatClampNeg ((sV (sV (sV σ5 19 (σ5.1 18 9).toNatClampNeg v1) 20 ((sV σ5 19 (σ5.1 18 9).toNatClampNeg v1).1 18 9).toNatClampNeg v2) 21 ((sV (sV σ5 19 (σ5.1 18 9).toNatClampNeg v1) 20 ((sV σ5 19 (σ5.1 18 9).toNatClampNeg v1).1 18 9).toNatClampNeg v2).1 18 9).toNatClampNeg v3).1 18 8)).1 18 9) + (1 : Int32))).1 18 9) - (1 : Int32)) (sV (sV (sV (sV (sV σ5 19 (σ5.1 18 9).toNatClampNeg v1) 20 ((sV σ5 19 (σ5.1 18 9).toNatClampNeg v1).1 18 9).toNatClampNeg v2) 21 ((sV (sV σ5 19 (σ5.1 18 9).toNatClampNeg v1) 20 ((sV σ5 19 (σ5.1 18 9).toNatClampNeg v1).1 18 9).toNatClampNeg v2).1 18 9).toNatClampNeg v3) 22 ((sV (sV (sV σ5 19 (σ5.1 18 9).toNatClampNeg v1) 20 ((sV σ5 19 (σ5.1 18 9).toNatClampNeg v1).1 18 9).toNatClampNeg v2) 21 ((sV (sV σ5 19 (σ5.1 18 9).toNatClampNeg v1) 20 ((sV σ5 19 (σ5.1 18 9).toNatClampNeg v1).1 18 9).toNatClampNeg v2).1 18 9).toNatClampNeg v3).1 18 9).toNatClampNeg ((sV (sV (sV σ5 19 (σ5.1 18 9).toNatClampNeg v1) 20 ((sV σ5 19 (σ5.1 18 9).toNatClampNeg v1).1 18 9).toNatClampNeg v2) 21 ((sV (sV σ5 19 (σ5.1 18 9).toNatClampNeg v1) 20 ((sV σ5 19 (σ5.1 18 9).toNatClampNeg v1).1 18 9).toNatClampNeg v2).1 18 9).toNatClampNeg v3).1 18 8)) 18 9 (((sV (sV (sV (sV σ5 19 (σ5.1 18 9).toNatClampNeg v1) 20 ((sV σ5 19 (σ5.1 18 9).toNatClampNeg v1).1 18 9).toNatClampNeg v2) 21 ((sV (sV σ5 19 (σ5.1 18 9).toNatClampNeg v1) 20 ((sV σ5 19 (σ5.1 18 9).toNatClampNeg v1).1 18 9).toNatClampNeg v2).1 18 9).toNatClampNeg v3) 22 ((sV (sV (sV σ5 19 (σ5.1 18 9).toNatClampNeg v1) 20 ((sV σ5 19 (σ5.1 18 9).toNatClampNeg v1).1 18 9).toNatClampNeg v2) 21 ((sV (sV σ5 19 (σ5.1 18 9).toNatClampNeg v1) 20 ((sV σ5 19 (σ5.1 18 9).toNatClampNeg v1).1 18 9).toNatClampNeg v2).1 18 9).toNatClampNeg v3).1 18 9).toNatClampNeg ((sV (sV (sV σ5 19 (σ5.1 18 9).toNatClampNeg v1) 20 ((sV σ5 19 (σ5.1 18 9).toNatClampNeg v1).1 18 9).toNatClampNeg v2) 21 ((sV (sV σ5 19 (σ5.1 18 9).toNatClampNeg v1) 20 ((sV σ5 19 (σ5.1 18 9).toNatClampNeg v1).1 18 9).toNatClampNeg v2).1 18 9).toNatClampNeg v3).1 18 8)).1 18 9) + (1 : Int32)))))))))))
def wX12_thingNow (σ : St) (v1 : Int32) (v2 : Int32) (Φ : Int32 → St → Prop) : Prop := ((v2 = 0 → vp_in v1 6 ∧ Φ (σ.1 19 v1.toNatClampNeg) σ) ∧ (v2 = 1 → vp_in v1 6 ∧ Φ (σ.1 20 v1.toNatClampNeg) σ) ∧ (v2 = 2 → vp_in v1 6 ∧ Φ (σ.1 21 v1.toNatClampNeg) σ) ∧ (v2 = 3 → wX12_weighs σ v1 (σ.1 18 8) (fun r2 σ1 => Φ r2 σ1)) ∧ ((v2.toInt < 0 ∨ 3 < v2.toInt) → vp_in v1 6 ∧ Φ ((σ.1 18 8) - (σ.1 22 v1.toNatClampNeg)) σ))
def wX12_about (σ : St) (v1 : Int32) (v2 : Int32) (Φ : Int32 → St → Prop) : Prop := wX12_isThing σ v1 (fun r2 σ1 => (if r2 = 0 then Φ (-101 : Int32) σ1 else wX12_within σ1 v2 (0 : Int32) (4 : Int32) (fun r4 σ3 => (if r4 = 0 then Φ (-102 : Int32) σ3 else wX12_thingNow σ3 v1 v2 (fun r6 σ5 => Φ r6 σ5)))))
def wX12_as (σ : St) (v1 : Int32) (v2 : Int32) (Φ : Int32 → St → Prop) : Prop := wX12_isThing σ v1 (fun r2 σ1 => (if r2 = 0 then Φ (-101 : Int32) σ1 else wX12_within σ1 v2 (0 : Int32) (4 : Int32) (fun r4 σ3 => (if r4 = 0 then Φ (-102 : Int32) σ3 else vp_in v1 6 ∧ (if v2 = 0 then Φ v1 σ3 else (if (σ3.1 19 v1.toNatClampNeg) = v2 then Φ v1 σ3 else (if v2 = (3 : Int32) then (if (σ3.1 19 v1.toNatClampNeg) = (4 : Int32) then Φ v1 σ3 else Φ (-1 : Int32) σ3) else Φ (-1 : Int32) σ3)))))))
def wX12_mayCarry (σ : St) (v1 : Int32) (Φ : Int32 → St → Prop) : Prop := vp_in v1 6 ∧ (if (σ.1 19 v1.toNatClampNeg) = (2 : Int32) then wX12_turnsAt σ (σ.1 18 2) (fun r2 σ1 => (if (2 : Int32) < r2 then (((0 : Int32) = 0 ∨ (0 : Int32) = 1) ∧ Φ (0 : Int32) σ1) else (((1 : Int32) = 0 ∨ (1 : Int32) = 1) ∧ Φ (1 : Int32) σ1))) else (((1 : Int32) = 0 ∨ (1 : Int32) = 1) ∧ Φ (1 : Int32) σ))
def wX12_carry (σ : St) (v1 : Int32) (Φ : Int32 → St → Prop) : Prop := wX12_isThing σ v1 (fun r2 σ1 => (if r2 = 0 then Φ (-101 : Int32) σ1 else (if (σ1.1 18 6) = 0 then wX12_mayCarry σ1 v1 (fun r4 σ3 => (if r4 = 0 then Φ (-103 : Int32) σ3 else vp_in v1 6 ∧ vp_in v1 6 ∧ vp_in v1 6 ∧ Φ ((sV σ3 21 v1.toNatClampNeg ((1 : Int32) - (σ3.1 21 v1.toNatClampNeg))).1 21 v1.toNatClampNeg) (sV σ3 21 v1.toNatClampNeg ((1 : Int32) - (σ3.1 21 v1.toNatClampNeg))))) else Φ (-103 : Int32) σ1)))
def wX12_isLength (σ : St) (v0 : Int32) (Φ : Int32 → St → Prop) : Prop := wX12_within σ v0 (10 : Int32) (40 : Int32) (fun r2 σ1 => ((r2 = 0 ∨ r2 = 1) ∧ Φ r2 σ1))
def wX12_mayBe (σ : St) (v0 : Int32) (Φ : Int32 → St → Prop) : Prop := wX12_within σ v0 (10 : Int32) (40 : Int32) (fun r2 σ1 => ((r2 = 0 ∨ r2 = 1) ∧ Φ r2 σ1))
def wX12_goHour_58 (Φ : Int32 → St → Prop) (σ : St) (s0 : Int32) : Prop := (s0 = 0 ∨ s0 = 1) ∧ (if ((sV σ 18 6 s0).1 18 6) = 0 then (((1 : Int32) = 0 ∨ (1 : Int32) = 1) ∧ Φ (1 : Int32) (sV σ 18 6 s0)) else (((0 : Int32) = 0 ∨ (0 : Int32) = 1) ∧ Φ (0 : Int32) (sV σ 18 6 s0)))
def wX12_goHour (σ : St) (v1 : Int32) (Φ : Int32 → St → Prop) : Prop := wX12_turnsAt (sV (sV σ 18 2 v1) 18 8 (((sV σ 18 2 v1).1 18 8) + (1 : Int32))) v1 (fun r2 σ1 => (¬ (360 : Int32) = 0) ∧ wX12_strainAt (sV σ1 18 7 ((((sV (sV σ 18 2 v1) 18 8 (((sV σ 18 2 v1).1 18 8) + (1 : Int32))).1 18 7) + ((10 : Int32) * r2)) - (((sV (sV σ 18 2 v1) 18 8 (((sV σ 18 2 v1).1 18 8) + (1 : Int32))).1 18 7) + ((10 : Int32) * r2)) / (360 : Int32) * (360 : Int32))) v1 ((sV σ1 18 7 ((((sV (sV σ 18 2 v1) 18 8 (((sV σ 18 2 v1).1 18 8) + (1 : Int32))).1 18 7) + ((10 : Int32) * r2)) - (((sV (sV σ 18 2 v1) 18 8 (((sV σ 18 2 v1).1 18 8) + (1 : Int32))).1 18 7) + ((10 : Int32) * r2)) / (360 : Int32) * (360 : Int32))).1 18 8) (fun r4 σ3 => (if r4 ≤ (σ3.1 18 4) then wX12_goHour_58 Φ σ3 (0 : Int32) else wX12_goHour_58 Φ σ3 (1 : Int32))))
def wX12_hour (σ : St) (v1 : Int32) (Φ : Int32 → St → Prop) : Prop := wX12_within σ v1 (-3 : Int32) (3 : Int32) (fun r2 σ1 => (if r2 = 0 then Φ (-102 : Int32) σ1 else (if (σ1.1 18 0) = 0 then Φ (-103 : Int32) σ1 else (if (σ1.1 18 6) = 0 then wX12_mayBe σ1 ((σ1.1 18 2) - v1) (fun r4 σ3 => (if r4 = 0 then Φ (-103 : Int32) σ3 else wX12_goHour σ3 ((σ3.1 18 2) - v1) (fun r6 σ5 => (if r6 = 0 then Φ (-1 : Int32) σ5 else Φ (σ5.1 18 2) σ5)))) else Φ (-103 : Int32) σ1))))
def wX12_sized (σ : St) (v0 : Int32) (Φ : Int32 → St → Prop) : Prop := (if 0 ≤ v0 then Φ v0 σ else Φ (-v0) σ)
def wX12_layEven_190 (K51 : St → Int32 → Int32 → Int32 → Prop) (Φ : St → Prop) (σ : St) (v1 : Int32) (v2 : Int32) (v3 : Int32) : Prop := K51 σ v1 v2 (v3 + 1)
def wX12_layEven_176 (K51 : St → Int32 → Int32 → Int32 → Prop) (Φ : St → Prop) (σ : St) (v1 : Int32) (v3 : Int32) (v4 : Int32) (v5 : Int32) : Prop := wX12_layEven_190 K51 Φ (sV (sV σ 18 25 v4) 18 26 v3) v1 v5 v3
def wX12_layEven_135 (K51 : St → Int32 → Int32 → Int32 → Prop) (K101 : St → Int32 → Int32 → Int32 → Int32 → Int32 → Int32 → Prop) (Φ : St → Prop) (σ : St) (v1 : Int32) (v2 : Int32) (v3 : Int32) (v4 : Int32) (v6 : Int32) (s0 : Int32) (s1 : Int32) : Prop := K101 σ v1 v2 v3 v4 (s1 + s0) (v6 + 1)
def wX12_layEven_101 (K51 : St → Int32 → Int32 → Int32 → Prop) (Φ : St → Prop) : Nat → St → Int32 → Int32 → Int32 → Int32 → Int32 → Int32 → Prop
  | 0, _, _, _, _, _, _, _ => False
  | n + 1, σ, v1, v2, v3, v4, v5, v6 => (if (σ.1 18 9) ≤ v6 then (if (v3 &&& (v1 ^^^ (-1 : Int32))) = 0 then (if v4 < (σ.1 18 25) then wX12_layEven_176 K51 Φ σ v1 v3 v4 v5 else (if v4 = (σ.1 18 25) then (if v2 ≤ v5 then wX12_layEven_190 K51 Φ σ v1 v2 v3 else wX12_layEven_176 K51 Φ σ v1 v3 v4 v5) else wX12_layEven_190 K51 Φ σ v1 v2 v3)) else wX12_layEven_190 K51 Φ σ v1 v2 v3) else wX12_has σ v3 v6 (fun r10 σ9 => (if r10 = 0 then wX12_layEven_135 K51 (wX12_layEven_101 K51 Φ n) Φ σ9 v1 v2 v3 v4 v6 (0 : Int32) v5 else wX12_weighs σ9 v6 (σ9.1 18 8) (fun r12 σ11 => wX12_layEven_135 K51 (wX12_layEven_101 K51 Φ n) Φ σ11 v1 v2 v3 v4 v6 r12 v5))))
def wX12_layEven_51 (Φ : St → Prop) : Nat → St → Int32 → Int32 → Int32 → Prop
  | 0, _, _, _, _ => False
  | n + 1, σ, v1, v2, v3 => (if ((1 : Int32) <<< ((σ.1 18 9) &&& 31)) ≤ v3 then Φ σ else wX12_floorBy σ (0 : Int32) (σ.1 18 2) (σ.1 18 8) v3 (fun r4 σ3 => wX12_floorBy σ3 (1 : Int32) (σ3.1 18 2) (σ3.1 18 8) v3 (fun r6 σ5 => wX12_sized σ5 (r4 - r6) (fun r8 σ7 => ∃ n0, wX12_layEven_101 (wX12_layEven_51 Φ n) Φ n0 σ7 v1 v2 v3 r8 (0 : Int32) (0 : Int32)))))
def wX12_layEven_28 (K4 : St → Int32 → Int32 → Prop) (Φ : St → Prop) (σ : St) (v2 : Int32) (s0 : Int32) (s1 : Int32) : Prop := K4 σ (s1 ||| s0) (v2 + 1)
def wX12_layEven_4 (Φ : St → Prop) : Nat → St → Int32 → Int32 → Prop
  | 0, _, _, _ => False
  | n + 1, σ, v1, v2 => (if (σ.1 18 9) ≤ v2 then ∃ n0, wX12_layEven_51 Φ n0 (sV (sV σ 18 25 (1073741824 : Int32)) 18 26 (0 : Int32)) v1 (0 : Int32) (0 : Int32) else wX12_mayCarry σ v2 (fun r2 σ1 => (if r2 = 0 then wX12_layEven_28 (wX12_layEven_4 Φ n) Φ σ1 v2 (0 : Int32) v1 else wX12_layEven_28 (wX12_layEven_4 Φ n) Φ σ1 v2 ((1 : Int32) <<< (v2 &&& 31)) v1)))
def wX12_layEven (σ : St) (Φ : St → Prop) : Prop := ∃ n0, wX12_layEven_4 Φ n0 σ (0 : Int32) (0 : Int32)
def wX12_evenNow (σ : St) (v1 : Int32) (Φ : Int32 → St → Prop) : Prop := wX12_layEven σ (fun σ1 => (if v1 = 0 then Φ (σ1.1 18 25) σ1 else Φ (σ1.1 18 26) σ1))
def wX12_even (σ : St) (v1 : Int32) (Φ : Int32 → St → Prop) : Prop := wX12_within σ v1 (0 : Int32) (1 : Int32) (fun r2 σ1 => (if r2 = 0 then Φ (-102 : Int32) σ1 else (if (σ1.1 18 0) = 0 then Φ (-103 : Int32) σ1 else (if (σ1.1 18 6) = 0 then wX12_evenNow σ1 v1 (fun r4 σ3 => Φ r4 σ3) else Φ (-103 : Int32) σ1))))
def wX12_by (σ : St) (v0 : Int32) (Φ : Int32 → St → Prop) : Prop := (if (4 : Int32) ≤ v0 then Φ ((3 : Int32) - v0) σ else Φ v0 σ)
def wX12_goLengths_157 (Φ : St → Prop) : Nat → St → Int32 → Prop
  | 0, _, _ => False
  | n + 1, σ, v2 => (if (40 : Int32) < v2 then Φ σ else vp_in v2 41 ∧ vp_in v2 41 ∧ wX12_goLengths_157 Φ n (sV σ 26 v2.toNatClampNeg (σ.1 27 v2.toNatClampNeg)) (v2 + 1))
def wX12_goLengths_149 (K24 : St → Int32 → Int32 → Prop) (Φ : St → Prop) (σ : St) (v1 : Int32) (v2 : Int32) : Prop := K24 σ v1 (v2 + 1)
def wX12_goLengths_143 (K24 : St → Int32 → Int32 → Prop) (K32 : St → Int32 → Int32 → Int32 → Prop) (Φ : St → Prop) (σ : St) (v1 : Int32) (v2 : Int32) (v3 : Int32) : Prop := K32 σ v1 v2 (v3 + 1)
def wX12_goLengths_142 (K24 : St → Int32 → Int32 → Prop) (K32 : St → Int32 → Int32 → Int32 → Prop) (Φ : St → Prop) (σ : St) (v1 : Int32) (v2 : Int32) (v3 : Int32) (s0 : Int32) (s1 : Int32) : Prop := vp_in s1 41 ∧ wX12_goLengths_143 K24 K32 Φ (sV σ 27 s1.toNatClampNeg s0) v1 v2 v3
def wX12_goLengths_130 (K24 : St → Int32 → Int32 → Prop) (K32 : St → Int32 → Int32 → Int32 → Prop) (Φ : St → Prop) (σ : St) (v1 : Int32) (v2 : Int32) (v3 : Int32) (v5 : Int32) (s0 : Int32) : Prop := wX12_goLengths_142 K24 K32 Φ σ v1 v2 v3 v5 s0
def wX12_goLengths_99 (K24 : St → Int32 → Int32 → Prop) (K32 : St → Int32 → Int32 → Int32 → Prop) (Φ : St → Prop) (σ : St) (v1 : Int32) (v2 : Int32) (v3 : Int32) (v4 : Int32) (s0 : Int32) : Prop := vp_in v4 41 ∧ (if (σ.1 27 v4.toNatClampNeg) = (-1 : Int32) then wX12_goLengths_130 K24 K32 Φ σ v1 v2 v3 s0 v4 else vp_in v4 41 ∧ (if (σ.1 27 v4.toNatClampNeg) ≤ s0 then vp_in v4 41 ∧ wX12_goLengths_142 K24 K32 Φ σ v1 v2 v3 (σ.1 27 v4.toNatClampNeg) v4 else wX12_goLengths_130 K24 K32 Φ σ v1 v2 v3 s0 v4))
def wX12_goLengths_32 (K24 : St → Int32 → Int32 → Prop) (Φ : St → Prop) : Nat → St → Int32 → Int32 → Int32 → Prop
  | 0, _, _, _, _ => False
  | n + 1, σ, v1, v2, v3 => (if (7 : Int32) ≤ v3 then wX12_goLengths_149 K24 Φ σ v1 v2 else vp_in v2 41 ∧ (if (σ.1 26 v2.toNatClampNeg) = (-1 : Int32) then wX12_goLengths_149 K24 Φ σ v1 v2 else wX12_by σ v3 (fun r2 σ1 => wX12_mayBe σ1 (v2 - r2) (fun r4 σ3 => (if r4 = 0 then wX12_goLengths_143 K24 (wX12_goLengths_32 K24 Φ n) Φ σ3 v1 v2 v3 else wX12_strainAt σ3 (v2 - r2) v1 (fun r6 σ5 => (if (σ5.1 18 4) < r6 then wX12_goLengths_143 K24 (wX12_goLengths_32 K24 Φ n) Φ σ5 v1 v2 v3 else vp_in v2 41 ∧ (if (σ5.1 26 v2.toNatClampNeg) = (9 : Int32) then wX12_goLengths_99 K24 (wX12_goLengths_32 K24 Φ n) Φ σ5 v1 v2 v3 (v2 - r2) v3 else vp_in v2 41 ∧ wX12_goLengths_99 K24 (wX12_goLengths_32 K24 Φ n) Φ σ5 v1 v2 v3 (v2 - r2) (σ5.1 26 v2.toNatClampNeg)))))))))
def wX12_goLengths_24 (Φ : St → Prop) : Nat → St → Int32 → Int32 → Prop
  | 0, _, _, _ => False
  | n + 1, σ, v1, v2 => (if (40 : Int32) < v2 then ∃ n0, wX12_goLengths_157 Φ n0 σ (0 : Int32) else ∃ n0, wX12_goLengths_32 (wX12_goLengths_24 Φ n) Φ n0 σ v1 v2 (0 : Int32))
def wX12_goLengths_2 (Φ : St → Prop) : Nat → St → Int32 → Int32 → Prop
  | 0, _, _, _ => False
  | n + 1, σ, v1, v2 => (if (40 : Int32) < v2 then ∃ n0, wX12_goLengths_24 Φ n0 σ v1 (10 : Int32) else vp_in v2 41 ∧ wX12_goLengths_2 Φ n (sV σ 27 v2.toNatClampNeg (-1 : Int32)) v1 (v2 + 1))
def wX12_goLengths (σ : St) (v1 : Int32) (Φ : St → Prop) : Prop := ∃ n0, wX12_goLengths_2 Φ n0 σ v1 (0 : Int32)
def wX12_firstBy_84 (K6 : St → Int32 → Int32 → Int32 → Int32 → Prop) (Φ : Int32 → St → Prop) (σ : St) (v1 : Int32) (v2 : Int32) (v4 : Int32) (s0 : Int32) : Prop := K6 σ v1 v2 s0 (v4 + 1)
def wX12_firstBy_83 (K6 : St → Int32 → Int32 → Int32 → Int32 → Prop) (Φ : Int32 → St → Prop) (σ : St) (v1 : Int32) (v2 : Int32) (v3 : Int32) (v4 : Int32) : Prop := wX12_firstBy_84 K6 Φ σ v1 v2 v4 v3
def wX12_firstBy_73 (K6 : St → Int32 → Int32 → Int32 → Int32 → Prop) (Φ : Int32 → St → Prop) (σ : St) (v1 : Int32) (v2 : Int32) (v4 : Int32) : Prop := vp_in v4 41 ∧ wX12_firstBy_84 K6 Φ σ v1 v2 v4 (σ.1 26 v4.toNatClampNeg)
def wX12_firstBy_50 (K6 : St → Int32 → Int32 → Int32 → Int32 → Prop) (Φ : Int32 → St → Prop) (σ : St) (v1 : Int32) (v2 : Int32) (v3 : Int32) (v4 : Int32) (s0 : Int32) : Prop := (if s0 = 0 then wX12_firstBy_83 K6 Φ σ v1 v2 v3 v4 else (if v3 = (-1 : Int32) then wX12_firstBy_73 K6 Φ σ v1 v2 v4 else vp_in v4 41 ∧ (if v3 ≤ (σ.1 26 v4.toNatClampNeg) then wX12_firstBy_83 K6 Φ σ v1 v2 v3 v4 else wX12_firstBy_73 K6 Φ σ v1 v2 v4)))
def wX12_firstBy_49 (K6 : St → Int32 → Int32 → Int32 → Int32 → Prop) (Φ : Int32 → St → Prop) (σ : St) (v1 : Int32) (v2 : Int32) (v3 : Int32) (v4 : Int32) : Prop := wX12_firstBy_50 K6 Φ σ v1 v2 v3 v4 (0 : Int32)
def wX12_firstBy_6 (Φ : Int32 → St → Prop) : Nat → St → Int32 → Int32 → Int32 → Int32 → Prop
  | 0, _, _, _, _, _ => False
  | n + 1, σ, v1, v2, v3, v4 => (if (40 : Int32) < v4 then Φ v3 σ else vp_in v4 41 ∧ (if (σ.1 26 v4.toNatClampNeg) = (-1 : Int32) then wX12_firstBy_49 (wX12_firstBy_6 Φ n) Φ σ v1 v2 v3 v4 else wX12_floorBy σ (0 : Int32) v4 v2 (0 : Int32) (fun r2 σ1 => (¬ (2 : Int32) = 0) ∧ wX12_within σ1 r2 v1 (v1 + (v1 / (2 : Int32))) (fun r4 σ3 => (if r4 = 0 then wX12_firstBy_49 (wX12_firstBy_6 Φ n) Φ σ3 v1 v2 v3 v4 else wX12_firstBy_50 (wX12_firstBy_6 Φ n) Φ σ3 v1 v2 v3 v4 (1 : Int32))))))
def wX12_firstBy (σ : St) (v1 : Int32) (v2 : Int32) (Φ : Int32 → St → Prop) : Prop := ∃ n0, wX12_firstBy_6 Φ n0 σ v1 v2 (-1 : Int32) (10 : Int32)
def wX12_soonestNow_36 (Φ : Int32 → St → Prop) : Nat → St → Int32 → Int32 → Int32 → Prop
  | 0, _, _, _, _ => False
  | n + 1, σ, v1, v2, v3 => (if (12 : Int32) < v3 then Φ (-1 : Int32) σ else wX12_firstBy σ v1 ((σ.1 18 8) + v3) (fun r2 σ1 => (if r2 = (-1 : Int32) then wX12_goLengths σ1 (((σ1.1 18 8) + v3) + (1 : Int32)) (fun σ3 => wX12_soonestNow_36 Φ n σ3 v1 v2 (v3 + 1)) else (if v2 = 0 then Φ v3 σ1 else (if v3 = 0 then Φ (-1 : Int32) σ1 else Φ r2 σ1)))))
def wX12_soonestNow_27 (K2 : St → Int32 → Int32 → Int32 → Prop) (Φ : Int32 → St → Prop) (σ : St) (v1 : Int32) (v2 : Int32) (v3 : Int32) (s0 : Int32) (s1 : Int32) : Prop := vp_in s1 41 ∧ K2 (sV σ 26 s1.toNatClampNeg s0) v1 v2 (v3 + 1)
def wX12_soonestNow_2 (Φ : Int32 → St → Prop) : Nat → St → Int32 → Int32 → Int32 → Prop
  | 0, _, _, _, _ => False
  | n + 1, σ, v1, v2, v3 => (if (40 : Int32) < v3 then ∃ n0, wX12_soonestNow_36 Φ n0 σ v1 v2 (0 : Int32) else (if v3 = (σ.1 18 2) then wX12_soonestNow_27 (wX12_soonestNow_2 Φ n) Φ σ v1 v2 v3 (9 : Int32) v3 else wX12_soonestNow_27 (wX12_soonestNow_2 Φ n) Φ σ v1 v2 v3 (-1 : Int32) v3))
def wX12_soonestNow (σ : St) (v1 : Int32) (v2 : Int32) (Φ : Int32 → St → Prop) : Prop := ∃ n0, wX12_soonestNow_2 Φ n0 σ v1 v2 (0 : Int32)
def wX12_soonest (σ : St) (v1 : Int32) (v2 : Int32) (Φ : Int32 → St → Prop) : Prop := wX12_within σ v1 (1 : Int32) (9999 : Int32) (fun r2 σ1 => (if r2 = 0 then Φ (-102 : Int32) σ1 else wX12_within σ1 v2 (0 : Int32) (1 : Int32) (fun r4 σ3 => (if r4 = 0 then Φ (-102 : Int32) σ3 else (if (σ3.1 18 0) = 0 then Φ (-103 : Int32) σ3 else (if (σ3.1 18 6) = 0 then wX12_soonestNow σ3 v1 v2 (fun r6 σ5 => Φ r6 σ5) else Φ (-103 : Int32) σ3))))))
def wX12_caughtNow_87 (K31 : St → Int32 → Int32 → Int32 → Prop) (Φ : Int32 → St → Prop) (σ : St) (v2 : Int32) (v3 : Int32) (v4 : Int32) (s0 : Int32) : Prop := (if (5 : Int32) < s0 then K31 σ v2 v3 (v4 + 1) else Φ v4 σ)
def wX12_caughtNow_31 (Φ : Int32 → St → Prop) : Nat → St → Int32 → Int32 → Int32 → Prop
  | 0, _, _, _, _ => False
  | n + 1, σ, v2, v3, v4 => (if (99 : Int32) ≤ v4 then Φ (-1 : Int32) σ else (¬ (360 : Int32) = 0) ∧ wX12_sized σ ((((σ.1 18 7) + (((10 : Int32) * v2) * v4)) - ((σ.1 18 7) + (((10 : Int32) * v2) * v4)) / (360 : Int32) * (360 : Int32)) - v3) (fun r4 σ3 => (if r4 ≤ ((360 : Int32) - r4) then wX12_caughtNow_87 (wX12_caughtNow_31 Φ n) Φ σ3 v2 v3 v4 r4 else wX12_caughtNow_87 (wX12_caughtNow_31 Φ n) Φ σ3 v2 v3 v4 ((360 : Int32) - r4))))
def wX12_caughtNow (σ : St) (v1 : Int32) (Φ : Int32 → St → Prop) : Prop := wX12_turnsAt σ (σ.1 18 2) (fun r2 σ1 => (¬ (360 : Int32) = 0) ∧ (¬ (360 : Int32) = 0) ∧ ∃ n0, wX12_caughtNow_31 Φ n0 σ1 r2 (((((90 : Int32) - (v1 * r2)) - ((90 : Int32) - (v1 * r2)) / (360 : Int32) * (360 : Int32)) + (360 : Int32)) - ((((90 : Int32) - (v1 * r2)) - ((90 : Int32) - (v1 * r2)) / (360 : Int32) * (360 : Int32)) + (360 : Int32)) / (360 : Int32) * (360 : Int32)) (0 : Int32))
def wX12_caught (σ : St) (v1 : Int32) (Φ : Int32 → St → Prop) : Prop := wX12_within σ v1 (1 : Int32) (99 : Int32) (fun r2 σ1 => (if r2 = 0 then Φ (-102 : Int32) σ1 else (if (σ1.1 18 0) = 0 then Φ (-103 : Int32) σ1 else (if (σ1.1 18 6) = 0 then wX12_caughtNow σ1 v1 (fun r4 σ3 => Φ r4 σ3) else Φ (-103 : Int32) σ1))))
def wX12_weighed (σ : St) (v1 : Int32) (v2 : Int32) (Φ : Int32 → St → Prop) : Prop := wX12_isLength σ v1 (fun r2 σ1 => (if r2 = 0 then Φ (-102 : Int32) σ1 else wX12_within σ1 v2 (0 : Int32) (99 : Int32) (fun r4 σ3 => (if r4 = 0 then Φ (-102 : Int32) σ3 else (if (σ3.1 18 0) = 0 then Φ (-103 : Int32) σ3 else (if (σ3.1 18 14) = (6 : Int32) then Φ (-104 : Int32) σ3 else vp_in (σ3.1 18 14) 6 ∧ vp_in ((sV σ3 23 (σ3.1 18 14).toNatClampNeg v1).1 18 14) 6 ∧ Φ ((sV (sV (sV σ3 23 (σ3.1 18 14).toNatClampNeg v1) 24 ((sV σ3 23 (σ3.1 18 14).toNatClampNeg v1).1 18 14).toNatClampNeg v2) 18 14 (((sV (sV σ3 23 (σ3.1 18 14).toNatClampNeg v1) 24 ((sV σ3 23 (σ3.1 18 14).toNatClampNeg v1).1 18 14).toNatClampNeg v2).1 18 14) + (1 : Int32))).1 18 14) (sV (sV (sV σ3 23 (σ3.1 18 14).toNatClampNeg v1) 24 ((sV σ3 23 (σ3.1 18 14).toNatClampNeg v1).1 18 14).toNatClampNeg v2) 18 14 (((sV (sV σ3 23 (σ3.1 18 14).toNatClampNeg v1) 24 ((sV σ3 23 (σ3.1 18 14).toNatClampNeg v1).1 18 14).toNatClampNeg v2).1 18 14) + (1 : Int32)))))))))
def wX12_forget (σ : St) (Φ : Int32 → St → Prop) : Prop := Φ (σ.1 18 14) (sV σ 18 14 (0 : Int32))
def wX12_fitsNow_121 (K10 : St → Int32 → Int32 → Int32 → Int32 → Int32 → Prop) (Φ : Int32 → St → Prop) (σ : St) (v1 : Int32) (v2 : Int32) (v3 : Int32) (v5 : Int32) (s0 : Int32) : Prop := K10 σ v1 v2 v3 s0 (v5 + 1)
def wX12_fitsNow_108 (K10 : St → Int32 → Int32 → Int32 → Int32 → Int32 → Prop) (Φ : Int32 → St → Prop) (σ : St) (v1 : Int32) (v2 : Int32) (v4 : Int32) (v5 : Int32) (v6 : Int32) (s0 : Int32) : Prop := (if v6 = 0 then wX12_fitsNow_121 K10 Φ σ v1 v2 s0 v5 v4 else wX12_fitsNow_121 K10 Φ σ v1 v2 s0 v5 v5)
def wX12_fitsNow_107 (K10 : St → Int32 → Int32 → Int32 → Int32 → Int32 → Prop) (Φ : Int32 → St → Prop) (σ : St) (v1 : Int32) (v2 : Int32) (v3 : Int32) (v4 : Int32) (v5 : Int32) (v6 : Int32) : Prop := wX12_fitsNow_108 K10 Φ σ v1 v2 v4 v5 v6 v3
def wX12_fitsNow_90 (K10 : St → Int32 → Int32 → Int32 → Int32 → Int32 → Prop) (Φ : Int32 → St → Prop) (σ : St) (v1 : Int32) (v3 : Int32) (v4 : Int32) (v5 : Int32) (v6 : Int32) (s0 : Int32) (s1 : Int32) : Prop := (if v6 = 0 then wX12_fitsNow_107 K10 Φ σ v1 (s1 + s0) v3 v4 v5 v6 else (if v3 = (-1 : Int32) then wX12_fitsNow_108 K10 Φ σ v1 (s1 + s0) v4 v5 v6 v5 else wX12_fitsNow_107 K10 Φ σ v1 (s1 + s0) v3 v4 v5 v6))
def wX12_fitsNow_71 (K10 : St → Int32 → Int32 → Int32 → Int32 → Int32 → Prop) (K24 : St → Int32 → Int32 → Int32 → Int32 → Int32 → Int32 → Int32 → Prop) (Φ : Int32 → St → Prop) (σ : St) (v1 : Int32) (v2 : Int32) (v3 : Int32) (v4 : Int32) (v5 : Int32) (v7 : Int32) (s0 : Int32) : Prop := K24 σ v1 v2 v3 v4 v5 s0 (v7 + 1)
def wX12_fitsNow_70 (K10 : St → Int32 → Int32 → Int32 → Int32 → Int32 → Prop) (K24 : St → Int32 → Int32 → Int32 → Int32 → Int32 → Int32 → Int32 → Prop) (Φ : Int32 → St → Prop) (σ : St) (v1 : Int32) (v2 : Int32) (v3 : Int32) (v4 : Int32) (v5 : Int32) (v7 : Int32) : Prop := wX12_fitsNow_71 K10 K24 Φ σ v1 v2 v3 v4 v5 v7 (0 : Int32)
def wX12_fitsNow_24 (K10 : St → Int32 → Int32 → Int32 → Int32 → Int32 → Prop) (Φ : Int32 → St → Prop) : Nat → St → Int32 → Int32 → Int32 → Int32 → Int32 → Int32 → Int32 → Prop
  | 0, _, _, _, _, _, _, _, _ => False
  | n + 1, σ, v1, v2, v3, v4, v5, v6, v7 => (if (σ.1 18 14) ≤ v7 then (if v6 = 0 then wX12_fitsNow_90 K10 Φ σ v1 v3 v4 v5 v6 (0 : Int32) v2 else wX12_fitsNow_90 K10 Φ σ v1 v3 v4 v5 v6 (1 : Int32) v2) else (if v6 = 0 then wX12_fitsNow_70 K10 (wX12_fitsNow_24 K10 Φ n) Φ σ v1 v2 v3 v4 v5 v7 else vp_in v7 6 ∧ vp_in v7 6 ∧ (¬ ((σ.1 23 v7.toNatClampNeg) * (σ.1 23 v7.toNatClampNeg)) = 0) ∧ vp_in v7 6 ∧ (if (v5 / ((σ.1 23 v7.toNatClampNeg) * (σ.1 23 v7.toNatClampNeg))) = (σ.1 24 v7.toNatClampNeg) then wX12_fitsNow_71 K10 (wX12_fitsNow_24 K10 Φ n) Φ σ v1 v2 v3 v4 v5 v7 (1 : Int32) else wX12_fitsNow_70 K10 (wX12_fitsNow_24 K10 Φ n) Φ σ v1 v2 v3 v4 v5 v7)))
def wX12_fitsNow_10 (Φ : Int32 → St → Prop) : Nat → St → Int32 → Int32 → Int32 → Int32 → Int32 → Prop
  | 0, _, _, _, _, _, _ => False
  | n + 1, σ, v1, v2, v3, v4, v5 => (if (14400 : Int32) < v5 then (if v1 = 0 then Φ v2 σ else (if v1 = (1 : Int32) then Φ v3 σ else Φ v4 σ)) else ∃ n0, wX12_fitsNow_24 (wX12_fitsNow_10 Φ n) Φ n0 σ v1 v2 v3 v4 v5 (1 : Int32) (0 : Int32))
def wX12_fitsNow (σ : St) (v1 : Int32) (Φ : Int32 → St → Prop) : Prop := ∃ n0, wX12_fitsNow_10 Φ n0 σ v1 (0 : Int32) (-1 : Int32) (-1 : Int32) (1 : Int32)
def wX12_fits (σ : St) (v1 : Int32) (Φ : Int32 → St → Prop) : Prop := wX12_within σ v1 (0 : Int32) (2 : Int32) (fun r2 σ1 => (if r2 = 0 then Φ (-102 : Int32) σ1 else wX12_fitsNow σ1 v1 (fun r4 σ3 => Φ r4 σ3)))
def wX12_lowest_6 (Φ : Int64 → St → Prop) : Nat → St → Int64 → Int64 → Int32 → Int64 → Int64 → Prop
  | 0, _, _, _, _, _, _ => False
  | n + 1, σ, v0, v2, v4, v5, v7 => (if (lg_cmp v7 (0 : Int64)) = 0 then (if v4 = 0 then (¬ v5 = 0) ∧ Φ (v0 / v5) σ else (¬ v5 = 0) ∧ Φ (v2 / v5) σ) else (¬ v7 = 0) ∧ wX12_lowest_6 Φ n σ v0 v2 v4 v7 (v5 - v5 / v7 * v7))
def wX12_lowest (σ : St) (v0 : Int64) (v2 : Int64) (v4 : Int32) (Φ : Int64 → St → Prop) : Prop := ∃ n0, wX12_lowest_6 Φ n0 σ v0 v2 v4 v0 v2
def wX12_breaksBy (σ : St) (Φ : Int32 → St → Prop) : Prop := wX12_strainAt σ (σ.1 18 2) (σ.1 18 8) (fun r2 σ1 => (if (σ1.1 18 5) = 0 then (if r2 ≤ (σ1.1 18 4) then Φ (0 : Int32) σ1 else Φ (100 : Int32) σ1) else (¬ (σ1.1 18 4).toInt64 = 0) ∧ (if (lg_cmp (((100 : Int64) * r2.toInt64) / (σ1.1 18 4).toInt64) (100 : Int64)) ≤ 0 then Φ (((100 : Int64) * r2.toInt64) / (σ1.1 18 4).toInt64).toInt32 σ1 else Φ (100 : Int32) σ1)))
def wX12_lastsNow_8 (Φ : Int64 → St → Prop) : Nat → St → Int32 → Int32 → Int64 → Int64 → Int32 → Prop
  | 0, _, _, _, _, _, _ => False
  | n + 1, σ, v1, v2, v3, v5, v7 => (if v1 ≤ v7 then wX12_lowest σ v3 v5 v2 (fun r2 σ1 => Φ r2 σ1) else wX12_breaksBy σ (fun r4 σ3 => wX12_lastsNow_8 Φ n σ3 v1 v2 (v3 * ((100 : Int32) - r4).toInt64) (v5 * (100 : Int64)) (v7 + 1)))
def wX12_lastsNow (σ : St) (v1 : Int32) (v2 : Int32) (Φ : Int64 → St → Prop) : Prop := ∃ n0, wX12_lastsNow_8 Φ n0 σ v1 v2 (1 : Int64) (1 : Int64) (0 : Int32)
def wX12_lasts (σ : St) (v1 : Int32) (v2 : Int32) (Φ : Int64 → St → Prop) : Prop := wX12_within σ v1 (1 : Int32) (4 : Int32) (fun r2 σ1 => (if r2 = 0 then Φ (-102 : Int64) σ1 else wX12_within σ1 v2 (0 : Int32) (1 : Int32) (fun r4 σ3 => (if r4 = 0 then Φ (-102 : Int64) σ3 else (if (σ3.1 18 0) = 0 then Φ (-103 : Int64) σ3 else (if (σ3.1 18 6) = 0 then wX12_lastsNow σ3 v1 v2 (fun r6 σ5 => Φ r6 σ5) else Φ (-103 : Int64) σ3))))))
def wX12_draw (σ : St) (v1 : Int32) (Φ : Int32 → St → Prop) : Prop := (¬ (65536 : Int64) = 0) ∧ (¬ v1.toInt64 = 0) ∧ Φ ((((sJ σ 0 ((((1103515245 : Int64) * (σ.2.1 0)) + (12345 : Int64)) &&& (2147483647 : Int64))).2.1 0) / (65536 : Int64)) - (((sJ σ 0 ((((1103515245 : Int64) * (σ.2.1 0)) + (12345 : Int64)) &&& (2147483647 : Int64))).2.1 0) / (65536 : Int64)) / v1.toInt64 * v1.toInt64).toInt32 (sJ σ 0 ((((1103515245 : Int64) * (σ.2.1 0)) + (12345 : Int64)) &&& (2147483647 : Int64)))
def wX12_whirlsNow_129 (Φ : Int32 → St → Prop) (σ : St) (v4 : Int32) (v5 : Int32) (v6 : Int32) (s0 : Int32) : Prop := ((0 : Int32) = 0 ∨ (0 : Int32) = 1) ∧ Φ s0 (sV (sV (sV (sV σ 18 2 v4) 18 7 v5) 18 8 v6) 18 6 (0 : Int32))
def wX12_whirlsNow_86 (Φ : Int32 → St → Prop) (σ : St) (v3 : Int32) (v4 : Int32) (v5 : Int32) (v6 : Int32) : Prop := (if v3 = 0 then wX12_whirlsNow_129 Φ σ v4 v5 v6 (σ.1 18 2) else (if v3 = (1 : Int32) then wX12_whirlsNow_129 Φ σ v4 v5 v6 (σ.1 18 7) else (if v3 = (2 : Int32) then wX12_whirlsNow_129 Φ σ v4 v5 v6 ((σ.1 18 8) - v6) else wX12_whirlsNow_129 Φ σ v4 v5 v6 (σ.2.1 0).toInt32)))
def wX12_whirlsNow_75 (K30 : St → Int32 → Int32 → Int32 → Int32 → Int32 → Int32 → Int32 → Prop) (Φ : Int32 → St → Prop) (σ : St) (v1 : Int32) (v3 : Int32) (v4 : Int32) (v5 : Int32) (v6 : Int32) (v8 : Int32) (s0 : Int32) : Prop := wX12_goHour σ s0 (fun r8 σ7 => K30 σ7 v1 v3 v4 v5 v6 r8 (v8 + 1))
def wX12_whirlsNow_30 (Φ : Int32 → St → Prop) : Nat → St → Int32 → Int32 → Int32 → Int32 → Int32 → Int32 → Int32 → Prop
  | 0, _, _, _, _, _, _, _, _ => False
  | n + 1, σ, v1, v3, v4, v5, v6, v7, v8 => (if v1 ≤ v8 then wX12_whirlsNow_86 Φ σ v3 v4 v5 v6 else (if v7 = 0 then wX12_whirlsNow_86 Φ σ v3 v4 v5 v6 else wX12_draw σ (7 : Int32) (fun r2 σ1 => wX12_by σ1 r2 (fun r4 σ3 => wX12_mayBe σ3 ((σ.1 18 2) - r4) (fun r6 σ5 => (if r6 = 0 then wX12_whirlsNow_75 (wX12_whirlsNow_30 Φ n) Φ σ5 v1 v3 v4 v5 v6 v8 (σ5.1 18 2) else wX12_whirlsNow_75 (wX12_whirlsNow_30 Φ n) Φ σ5 v1 v3 v4 v5 v6 v8 ((σ.1 18 2) - r4)))))))
def wX12_whirlsNow (σ : St) (v1 : Int32) (v2 : Int32) (v3 : Int32) (Φ : Int32 → St → Prop) : Prop := ∃ n0, wX12_whirlsNow_30 Φ n0 (sJ σ 0 v2.toInt64) v1 v3 (σ.1 18 2) (σ.1 18 7) (σ.1 18 8) (1 : Int32) (0 : Int32)
def wX12_whirls (σ : St) (v1 : Int32) (v2 : Int32) (v3 : Int32) (Φ : Int32 → St → Prop) : Prop := wX12_within σ v1 (1 : Int32) (60 : Int32) (fun r2 σ1 => (if r2 = 0 then Φ (-102 : Int32) σ1 else (if v2 < 0 then Φ (-102 : Int32) σ1 else wX12_within σ1 v3 (0 : Int32) (3 : Int32) (fun r4 σ3 => (if r4 = 0 then Φ (-102 : Int32) σ3 else (if (σ3.1 18 0) = 0 then Φ (-103 : Int32) σ3 else (if (σ3.1 18 6) = 0 then wX12_whirlsNow σ3 v1 v2 v3 (fun r6 σ5 => Φ r6 σ5) else Φ (-103 : Int32) σ3)))))))
def wX12_image_65 (Φ : Int32 → St → Prop) : Nat → St → Int32 → Prop
  | 0, _, _ => False
  | n + 1, σ, v1 => (if (6 : Int32) ≤ v1 then Φ (σ.1 18 8) σ else vp_in v1 6 ∧ vp_in v1 6 ∧ vp_in v1 6 ∧ vp_in v1 6 ∧ wX12_image_65 Φ n (sV (sV σ 28 v1.toNatClampNeg (σ.1 21 v1.toNatClampNeg)) 29 v1.toNatClampNeg ((sV σ 28 v1.toNatClampNeg (σ.1 21 v1.toNatClampNeg)).1 22 v1.toNatClampNeg)) (v1 + 1))
def wX12_image (σ : St) (Φ : Int32 → St → Prop) : Prop := (if (σ.1 18 0) = 0 then Φ (-103 : Int32) σ else ((1 : Int32) = 0 ∨ (1 : Int32) = 1) ∧ (((sV (sV (sV (sV (sV σ 18 30 (1 : Int32)) 18 31 ((sV σ 18 30 (1 : Int32)).1 18 1)) 18 32 ((sV (sV σ 18 30 (1 : Int32)) 18 31 ((sV σ 18 30 (1 : Int32)).1 18 1)).1 18 2)) 18 33 ((sV (sV (sV σ 18 30 (1 : Int32)) 18 31 ((sV σ 18 30 (1 : Int32)).1 18 1)) 18 32 ((sV (sV σ 18 30 (1 : Int32)) 18 31 ((sV σ 18 30 (1 : Int32)).1 18 1)).1 18 2)).1 18 7)) 18 34 ((sV (sV (sV (sV σ 18 30 (1 : Int32)) 18 31 ((sV σ 18 30 (1 : Int32)).1 18 1)) 18 32 ((sV (sV σ 18 30 (1 : Int32)) 18 31 ((sV σ 18 30 (1 : Int32)).1 18 1)).1 18 2)) 18 33 ((sV (sV (sV σ 18 30 (1 : Int32)) 18 31 ((sV σ 18 30 (1 : Int32)).1 18 1)) 18 32 ((sV (sV σ 18 30 (1 : Int32)) 18 31 ((sV σ 18 30 (1 : Int32)).1 18 1)).1 18 2)).1 18 7)).1 18 8)).1 18 6) = 0 ∨ ((sV (sV (sV (sV (sV σ 18 30 (1 : Int32)) 18 31 ((sV σ 18 30 (1 : Int32)).1 18 1)) 18 32 ((sV (sV σ 18 30 (1 : Int32)) 18 31 ((sV σ 18 30 (1 : Int32)).1 18 1)).1 18 2)) 18 33 ((sV (sV (sV σ 18 30 (1 : Int32)) 18 31 ((sV σ 18 30 (1 : Int32)).1 18 1)) 18 32 ((sV (sV σ 18 30 (1 : Int32)) 18 31 ((sV σ 18 30 (1 : Int32)).1 18 1)).1 18 2)).1 18 7)) 18 34 ((sV (sV (sV (sV σ 18 30 (1 : Int32)) 18 31 ((sV σ 18 30 (1 : Int32)).1 18 1)) 18 32 ((sV (sV σ 18 30 (1 : Int32)) 18 31 ((sV σ 18 30 (1 : Int32)).1 18 1)).1 18 2)) 18 33 ((sV (sV (sV σ 18 30 (1 : Int32)) 18 31 ((sV σ 18 30 (1 : Int32)).1 18 1)) 18 32 ((sV (sV σ 18 30 (1 : Int32)) 18 31 ((sV σ 18 30 (1 : Int32)).1 18 1)).1 18 2)).1 18 7)).1 18 8)).1 18 6) = 1) ∧ ∃ n0, wX12_image_65 Φ n0 (sV (sV (sV (sV (sV (sV (sV σ 18 30 (1 : Int32)) 18 31 ((sV σ 18 30 (1 : Int32)).1 18 1)) 18 32 ((sV (sV σ 18 30 (1 : Int32)) 18 31 ((sV σ 18 30 (1 : Int32)).1 18 1)).1 18 2)) 18 33 ((sV (sV (sV σ 18 30 (1 : Int32)) 18 31 ((sV σ 18 30 (1 : Int32)).1 18 1)) 18 32 ((sV (sV σ 18 30 (1 : Int32)) 18 31 ((sV σ 18 30 (1 : Int32)).1 18 1)).1 18 2)).1 18 7)) 18 34 ((sV (sV (sV (sV σ 18 30 (1 : Int32)) 18 31 ((sV σ 18 30 (1 : Int32)).1 18 1)) 18 32 ((sV (sV σ 18 30 (1 : Int32)) 18 31 ((sV σ 18 30 (1 : Int32)).1 18 1)).1 18 2)) 18 33 ((sV (sV (sV σ 18 30 (1 : Int32)) 18 31 ((sV σ 18 30 (1 : Int32)).1 18 1)) 18 32 ((sV (sV σ 18 30 (1 : Int32)) 18 31 ((sV σ 18 30 (1 : Int32)).1 18 1)).1 18 2)).1 18 7)).1 18 8)) 18 35 ((sV (sV (sV (sV (sV σ 18 30 (1 : Int32)) 18 31 ((sV σ 18 30 (1 : Int32)).1 18 1)) 18 32 ((sV (sV σ 18 30 (1 : Int32)) 18 31 ((sV σ 18 30 (1 : Int32)).1 18 1)).1 18 2)) 18 33 ((sV (sV (sV σ 18 30 (1 : Int32)) 18 31 ((sV σ 18 30 (1 : Int32)).1 18 1)) 18 32 ((sV (sV σ 18 30 (1 : Int32)) 18 31 ((sV σ 18 30 (1 : Int32)).1 18 1)).1 18 2)).1 18 7)) 18 34 ((sV (sV (sV (sV σ 18 30 (1 : Int32)) 18 31 ((sV σ 18 30 (1 : Int32)).1 18 1)) 18 32 ((sV (sV σ 18 30 (1 : Int32)) 18 31 ((sV σ 18 30 (1 : Int32)).1 18 1)).1 18 2)) 18 33 ((sV (sV (sV σ 18 30 (1 : Int32)) 18 31 ((sV σ 18 30 (1 : Int32)).1 18 1)) 18 32 ((sV (sV σ 18 30 (1 : Int32)) 18 31 ((sV σ 18 30 (1 : Int32)).1 18 1)).1 18 2)).1 18 7)).1 18 8)).1 18 6)) 18 36 ((sV (sV (sV (sV (sV (sV σ 18 30 (1 : Int32)) 18 31 ((sV σ 18 30 (1 : Int32)).1 18 1)) 18 32 ((sV (sV σ 18 30 (1 : Int32)) 18 31 ((sV σ 18 30 (1 : Int32)).1 18 1)).1 18 2)) 18 33 ((sV (sV (sV σ 18 30 (1 : Int32)) 18 31 ((sV σ 18 30 (1 : Int32)).1 18 1)) 18 32 ((sV (sV σ 18 30 (1 : Int32)) 18 31 ((sV σ 18 30 (1 : Int32)).1 18 1)).1 18 2)).1 18 7)) 18 34 ((sV (sV (sV (sV σ 18 30 (1 : Int32)) 18 31 ((sV σ 18 30 (1 : Int32)).1 18 1)) 18 32 ((sV (sV σ 18 30 (1 : Int32)) 18 31 ((sV σ 18 30 (1 : Int32)).1 18 1)).1 18 2)) 18 33 ((sV (sV (sV σ 18 30 (1 : Int32)) 18 31 ((sV σ 18 30 (1 : Int32)).1 18 1)) 18 32 ((sV (sV σ 18 30 (1 : Int32)) 18 31 ((sV σ 18 30 (1 : Int32)).1 18 1)).1 18 2)).1 18 7)).1 18 8)) 18 35 ((sV (sV (sV (sV (sV σ 18 30 (1 : Int32)) 18 31 ((sV σ 18 30 (1 : Int32)).1 18 1)) 18 32 ((sV (sV σ 18 30 (1 : Int32)) 18 31 ((sV σ 18 30 (1 : Int32)).1 18 1)).1 18 2)) 18 33 ((sV (sV (sV σ 18 30 (1 : Int32)) 18 31 ((sV σ 18 30 (1 : Int32)).1 18 1)) 18 32 ((sV (sV σ 18 30 (1 : Int32)) 18 31 ((sV σ 18 30 (1 : Int32)).1 18 1)).1 18 2)).1 18 7)) 18 34 ((sV (sV (sV (sV σ 18 30 (1 : Int32)) 18 31 ((sV σ 18 30 (1 : Int32)).1 18 1)) 18 32 ((sV (sV σ 18 30 (1 : Int32)) 18 31 ((sV σ 18 30 (1 : Int32)).1 18 1)).1 18 2)) 18 33 ((sV (sV (sV σ 18 30 (1 : Int32)) 18 31 ((sV σ 18 30 (1 : Int32)).1 18 1)) 18 32 ((sV (sV σ 18 30 (1 : Int32)) 18 31 ((sV σ 18 30 (1 : Int32)).1 18 1)).1 18 2)).1 18 7)).1 18 8)).1 18 6)).1 18 9)) (0 : Int32))
def wX12_restore_63 (Φ : Int32 → St → Prop) : Nat → St → Int32 → Prop
  | 0, _, _ => False
  | n + 1, σ, v1 => (if (6 : Int32) ≤ v1 then Φ (σ.1 18 8) σ else vp_in v1 6 ∧ vp_in v1 6 ∧ vp_in v1 6 ∧ vp_in v1 6 ∧ wX12_restore_63 Φ n (sV (sV σ 21 v1.toNatClampNeg (σ.1 28 v1.toNatClampNeg)) 22 v1.toNatClampNeg ((sV σ 21 v1.toNatClampNeg (σ.1 28 v1.toNatClampNeg)).1 29 v1.toNatClampNeg)) (v1 + 1))
def wX12_restore (σ : St) (Φ : Int32 → St → Prop) : Prop := (if (σ.1 18 30) = 0 then Φ (-103 : Int32) σ else (if (σ.1 18 31) = (σ.1 18 1) then (((sV (sV (sV σ 18 2 (σ.1 18 32)) 18 7 ((sV σ 18 2 (σ.1 18 32)).1 18 33)) 18 8 ((sV (sV σ 18 2 (σ.1 18 32)) 18 7 ((sV σ 18 2 (σ.1 18 32)).1 18 33)).1 18 34)).1 18 35) = 0 ∨ ((sV (sV (sV σ 18 2 (σ.1 18 32)) 18 7 ((sV σ 18 2 (σ.1 18 32)).1 18 33)) 18 8 ((sV (sV σ 18 2 (σ.1 18 32)) 18 7 ((sV σ 18 2 (σ.1 18 32)).1 18 33)).1 18 34)).1 18 35) = 1) ∧ ∃ n0, wX12_restore_63 Φ n0 (sV (sV (sV (sV (sV σ 18 2 (σ.1 18 32)) 18 7 ((sV σ 18 2 (σ.1 18 32)).1 18 33)) 18 8 ((sV (sV σ 18 2 (σ.1 18 32)) 18 7 ((sV σ 18 2 (σ.1 18 32)).1 18 33)).1 18 34)) 18 6 ((sV (sV (sV σ 18 2 (σ.1 18 32)) 18 7 ((sV σ 18 2 (σ.1 18 32)).1 18 33)) 18 8 ((sV (sV σ 18 2 (σ.1 18 32)) 18 7 ((sV σ 18 2 (σ.1 18 32)).1 18 33)).1 18 34)).1 18 35)) 18 9 ((sV (sV (sV (sV σ 18 2 (σ.1 18 32)) 18 7 ((sV σ 18 2 (σ.1 18 32)).1 18 33)) 18 8 ((sV (sV σ 18 2 (σ.1 18 32)) 18 7 ((sV σ 18 2 (σ.1 18 32)).1 18 33)).1 18 34)) 18 6 ((sV (sV (sV σ 18 2 (σ.1 18 32)) 18 7 ((sV σ 18 2 (σ.1 18 32)).1 18 33)) 18 8 ((sV (sV σ 18 2 (σ.1 18 32)) 18 7 ((sV σ 18 2 (σ.1 18 32)).1 18 33)).1 18 34)).1 18 35)).1 18 36)) (0 : Int32) else Φ (-103 : Int32) σ))
def wX12_one (σ : St) (v0 : Int32) (Φ : Int32 → St → Prop) : Prop := (if v0 = 0 then Φ (0 : Int32) σ else Φ (1 : Int32) σ)
def wX12_howMany (σ : St) (v1 : Int32) (Φ : Int32 → St → Prop) : Prop := ((v1 = 0 → Φ (σ.1 18 2) σ) ∧ (v1 = 1 → wX12_turnsAt σ (σ.1 18 2) (fun r2 σ1 => Φ r2 σ1)) ∧ (v1 = 2 → Φ (σ.1 18 3) σ) ∧ (v1 = 3 → wX12_strainAt σ (σ.1 18 2) (σ.1 18 8) (fun r4 σ3 => Φ r4 σ3)) ∧ (v1 = 4 → Φ (σ.1 18 4) σ) ∧ (v1 = 5 → wX12_one σ (σ.1 18 5) (fun r6 σ5 => Φ r6 σ5)) ∧ (v1 = 6 → Φ (σ.1 18 7) σ) ∧ (v1 = 7 → Φ (σ.1 18 8) σ) ∧ (v1 = 8 → wX12_one σ (σ.1 18 6) (fun r8 σ7 => Φ r8 σ7)) ∧ (v1 = 9 → Φ (σ.1 18 9) σ) ∧ (v1 = 10 → Φ (σ.1 18 17) σ) ∧ (v1 = 11 → Φ (σ.1 18 1) σ) ∧ (v1 = 12 → Φ (σ.1 18 14) σ) ∧ ((v1.toInt < 0 ∨ 12 < v1.toInt) → Φ (-102 : Int32) σ))
def wX12_count (σ : St) (v1 : Int32) (Φ : Int32 → St → Prop) : Prop := wX12_howMany σ v1 (fun r2 σ1 => Φ r2 σ1)
def wX12_mix (σ : St) (v1 : Int64) (Φ : St → Prop) : Prop := Φ (sJ σ 1 (((31 : Int64) * (σ.2.1 1)) + v1))
def wX12_digest_221 (Φ : Int64 → St → Prop) : Nat → St → Int32 → Prop
  | 0, _, _ => False
  | n + 1, σ, v1 => (if (13 : Int32) ≤ v1 then Φ (σ.2.1 1) σ else wX12_howMany σ v1 (fun r30 σ29 => wX12_mix σ29 r30.toInt64 (fun σ31 => wX12_digest_221 Φ n σ31 (v1 + 1))))
def wX12_digest_194 (Φ : Int64 → St → Prop) : Nat → St → Int32 → Prop
  | 0, _, _ => False
  | n + 1, σ, v1 => (if (σ.1 18 17) ≤ v1 then ∃ n0, wX12_digest_221 Φ n0 σ (0 : Int32) else vp_in v1 12 ∧ wX12_mix σ (σ.1 25 v1.toNatClampNeg).toInt64 (fun σ28 => wX12_digest_194 Φ n σ28 (v1 + 1)))
def wX12_digest_171 (Φ : Int64 → St → Prop) : Nat → St → Int32 → Prop
  | 0, _, _ => False
  | n + 1, σ, v1 => (if (3 : Int32) ≤ v1 then ∃ n0, wX12_digest_194 Φ n0 σ (0 : Int32) else wX12_fitsNow σ v1 (fun r26 σ25 => wX12_mix σ25 r26.toInt64 (fun σ27 => wX12_digest_171 Φ n σ27 (v1 + 1))))
def wX12_digest_169 (Φ : Int64 → St → Prop) (σ : St) : Prop := ∃ n0, wX12_digest_171 Φ n0 σ (0 : Int32)
def wX12_digest_63 (K53 : St → Int32 → Prop) (Φ : Int64 → St → Prop) : Nat → St → Int32 → Int32 → Prop
  | 0, _, _, _ => False
  | n + 1, σ, v1, v2 => (if (5 : Int32) ≤ v2 then K53 σ (v1 + 1) else wX12_thingNow σ v1 v2 (fun r23 σ22 => wX12_mix σ22 r23.toInt64 (fun σ24 => wX12_digest_63 K53 Φ n σ24 v1 (v2 + 1))))
def wX12_digest_53 (Φ : Int64 → St → Prop) : Nat → St → Int32 → Prop
  | 0, _, _ => False
  | n + 1, σ, v1 => (if (σ.1 18 9) ≤ v1 then (if (σ.1 18 0) = 0 then wX12_digest_169 Φ σ else (if (σ.1 18 6) = 0 then wX12_evenNow σ (0 : Int32) (fun r5 σ4 => wX12_mix σ4 r5.toInt64 (fun σ6 => wX12_evenNow σ6 (1 : Int32) (fun r8 σ7 => wX12_mix σ7 r8.toInt64 (fun σ9 => wX12_soonestNow σ9 (100 : Int32) (0 : Int32) (fun r11 σ10 => wX12_mix σ10 r11.toInt64 (fun σ12 => wX12_soonestNow σ12 (100 : Int32) (1 : Int32) (fun r14 σ13 => wX12_mix σ13 r14.toInt64 (fun σ15 => wX12_lastsNow σ15 (2 : Int32) (0 : Int32) (fun r17 σ16 => wX12_mix σ16 r17 (fun σ18 => wX12_lastsNow σ18 (2 : Int32) (1 : Int32) (fun r20 σ19 => wX12_mix σ19 r20 (fun σ21 => wX12_digest_169 Φ σ21)))))))))))) else wX12_digest_169 Φ σ)) else ∃ n0, wX12_digest_63 (wX12_digest_53 Φ n) Φ n0 σ v1 (0 : Int32))
def wX12_digest_51 (Φ : Int64 → St → Prop) (σ : St) : Prop := ∃ n0, wX12_digest_53 Φ n0 σ (0 : Int32)
def wX12_digest_23 (K9 : St → Int32 → Prop) (Φ : Int64 → St → Prop) : Nat → St → Int32 → Int32 → Prop
  | 0, _, _, _ => False
  | n + 1, σ, v1, v2 => (if (4 : Int32) ≤ v2 then K9 σ (v1 + 1) else wX12_cabinNow σ v1 v2 (fun r2 σ1 => wX12_mix σ1 r2.toInt64 (fun σ3 => wX12_digest_23 K9 Φ n σ3 v1 (v2 + 1))))
def wX12_digest_9 (Φ : Int64 → St → Prop) : Nat → St → Int32 → Prop
  | 0, _, _ => False
  | n + 1, σ, v1 => (if (2 : Int32) ≤ v1 then wX12_digest_51 Φ σ else (if (σ.1 18 0) = 0 then wX12_digest_51 Φ σ else ∃ n0, wX12_digest_23 (wX12_digest_9 Φ n) Φ n0 σ v1 (0 : Int32)))
def wX12_digest (σ : St) (Φ : Int64 → St → Prop) : Prop := ∃ n0, wX12_digest_9 Φ n0 (sJ σ 1 (683 : Int64)) (0 : Int32)
end
section
theorem hs_X7_at : yX7_at.cls ≠ "java/lang/invoke/MethodHandle" ∧ yX7_at.cls ≠ "java/lang/invoke/VarHandle" ∧ (parseMethodDescriptor yX7_at.desc).map (fun d => d.parameters.length) = some 1 := by decide +kernel
theorem hs_X7_digitAt : yX7_digitAt.cls ≠ "java/lang/invoke/MethodHandle" ∧ yX7_digitAt.cls ≠ "java/lang/invoke/VarHandle" ∧ (parseMethodDescriptor yX7_digitAt.desc).map (fun d => d.parameters.length) = some 1 := by decide +kernel
theorem hs_X0_hang : yX0_hang.cls ≠ "java/lang/invoke/MethodHandle" ∧ yX0_hang.cls ≠ "java/lang/invoke/VarHandle" ∧ (parseMethodDescriptor yX0_hang.desc).map (fun d => d.parameters.length) = some 1 := by decide +kernel
theorem hs_X0_becomeLike : yX0_becomeLike.cls ≠ "java/lang/invoke/MethodHandle" ∧ yX0_becomeLike.cls ≠ "java/lang/invoke/VarHandle" ∧ (parseMethodDescriptor yX0_becomeLike.desc).map (fun d => d.parameters.length) = some 1 := by decide +kernel
theorem hs_X0_isThere : yX0_isThere.cls ≠ "java/lang/invoke/MethodHandle" ∧ yX0_isThere.cls ≠ "java/lang/invoke/VarHandle" ∧ (parseMethodDescriptor yX0_isThere.desc).map (fun d => d.parameters.length) = some 0 := by decide +kernel
theorem hs_X0_isWhole : yX0_isWhole.cls ≠ "java/lang/invoke/MethodHandle" ∧ yX0_isWhole.cls ≠ "java/lang/invoke/VarHandle" ∧ (parseMethodDescriptor yX0_isWhole.desc).map (fun d => d.parameters.length) = some 0 := by decide +kernel
theorem hs_X11_isLength : yX11_isLength.cls ≠ "java/lang/invoke/MethodHandle" ∧ yX11_isLength.cls ≠ "java/lang/invoke/VarHandle" ∧ (parseMethodDescriptor yX11_isLength.desc).map (fun d => d.parameters.length) = some 1 := by decide +kernel
theorem hs_X0_turnsAt : yX0_turnsAt.cls ≠ "java/lang/invoke/MethodHandle" ∧ yX0_turnsAt.cls ≠ "java/lang/invoke/VarHandle" ∧ (parseMethodDescriptor yX0_turnsAt.desc).map (fun d => d.parameters.length) = some 1 := by decide +kernel
theorem hs_X0_turnsNow : yX0_turnsNow.cls ≠ "java/lang/invoke/MethodHandle" ∧ yX0_turnsNow.cls ≠ "java/lang/invoke/VarHandle" ∧ (parseMethodDescriptor yX0_turnsNow.desc).map (fun d => d.parameters.length) = some 0 := by decide +kernel
theorem hs_X0_armAt : yX0_armAt.cls ≠ "java/lang/invoke/MethodHandle" ∧ yX0_armAt.cls ≠ "java/lang/invoke/VarHandle" ∧ (parseMethodDescriptor yX0_armAt.desc).map (fun d => d.parameters.length) = some 4 := by decide +kernel
theorem hs_X0_floorAt : yX0_floorAt.cls ≠ "java/lang/invoke/MethodHandle" ∧ yX0_floorAt.cls ≠ "java/lang/invoke/VarHandle" ∧ (parseMethodDescriptor yX0_floorAt.desc).map (fun d => d.parameters.length) = some 4 := by decide +kernel
theorem hs_X0_strainAt : yX0_strainAt.cls ≠ "java/lang/invoke/MethodHandle" ∧ yX0_strainAt.cls ≠ "java/lang/invoke/VarHandle" ∧ (parseMethodDescriptor yX0_strainAt.desc).map (fun d => d.parameters.length) = some 3 := by decide +kernel
theorem hs_X1_weighs : yX1_weighs.cls ≠ "java/lang/invoke/MethodHandle" ∧ yX1_weighs.cls ≠ "java/lang/invoke/VarHandle" ∧ (parseMethodDescriptor yX1_weighs.desc).map (fun d => d.parameters.length) = some 1 := by decide +kernel
theorem hs_X9_hoursHere : yX9_hoursHere.cls ≠ "java/lang/invoke/MethodHandle" ∧ yX9_hoursHere.cls ≠ "java/lang/invoke/VarHandle" ∧ (parseMethodDescriptor yX9_hoursHere.desc).map (fun d => d.parameters.length) = some 1 := by decide +kernel
theorem hs_X5_grown : yX5_grown.cls ≠ "java/lang/invoke/MethodHandle" ∧ yX5_grown.cls ≠ "java/lang/invoke/VarHandle" ∧ (parseMethodDescriptor yX5_grown.desc).map (fun d => d.parameters.length) = some 1 := by decide +kernel
theorem hs_X4_weighs : yX4_weighs.cls ≠ "java/lang/invoke/MethodHandle" ∧ yX4_weighs.cls ≠ "java/lang/invoke/VarHandle" ∧ (parseMethodDescriptor yX4_weighs.desc).map (fun d => d.parameters.length) = some 1 := by decide +kernel
theorem hs_X5_weighs : yX5_weighs.cls ≠ "java/lang/invoke/MethodHandle" ∧ yX5_weighs.cls ≠ "java/lang/invoke/VarHandle" ∧ (parseMethodDescriptor yX5_weighs.desc).map (fun d => d.parameters.length) = some 1 := by decide +kernel
theorem hs_X6_at : yX6_at.cls ≠ "java/lang/invoke/MethodHandle" ∧ yX6_at.cls ≠ "java/lang/invoke/VarHandle" ∧ (parseMethodDescriptor yX6_at.desc).map (fun d => d.parameters.length) = some 1 := by decide +kernel
theorem hs_X9_weighs : yX9_weighs.cls ≠ "java/lang/invoke/MethodHandle" ∧ yX9_weighs.cls ≠ "java/lang/invoke/VarHandle" ∧ (parseMethodDescriptor yX9_weighs.desc).map (fun d => d.parameters.length) = some 1 := by decide +kernel
theorem hs_X6_weighsIn : yX6_weighsIn.cls ≠ "java/lang/invoke/MethodHandle" ∧ yX6_weighsIn.cls ≠ "java/lang/invoke/VarHandle" ∧ (parseMethodDescriptor yX6_weighsIn.desc).map (fun d => d.parameters.length) = some 2 := by decide +kernel
theorem hs_X0_armNow : yX0_armNow.cls ≠ "java/lang/invoke/MethodHandle" ∧ yX0_armNow.cls ≠ "java/lang/invoke/VarHandle" ∧ (parseMethodDescriptor yX0_armNow.desc).map (fun d => d.parameters.length) = some 2 := by decide +kernel
theorem hs_X0_floorNow : yX0_floorNow.cls ≠ "java/lang/invoke/MethodHandle" ∧ yX0_floorNow.cls ≠ "java/lang/invoke/VarHandle" ∧ (parseMethodDescriptor yX0_floorNow.desc).map (fun d => d.parameters.length) = some 2 := by decide +kernel
theorem hs_X0_strainNow : yX0_strainNow.cls ≠ "java/lang/invoke/MethodHandle" ∧ yX0_strainNow.cls ≠ "java/lang/invoke/VarHandle" ∧ (parseMethodDescriptor yX0_strainNow.desc).map (fun d => d.parameters.length) = some 1 := by decide +kernel
theorem hs_J9_floorMod_7cf53 : yJ9_floorMod_7cf53.cls ≠ "java/lang/invoke/MethodHandle" ∧ yJ9_floorMod_7cf53.cls ≠ "java/lang/invoke/VarHandle" ∧ (parseMethodDescriptor yJ9_floorMod_7cf53.desc).map (fun d => d.parameters.length) = some 2 := by decide +kernel
theorem hs_X0_placeAfter : yX0_placeAfter.cls ≠ "java/lang/invoke/MethodHandle" ∧ yX0_placeAfter.cls ≠ "java/lang/invoke/VarHandle" ∧ (parseMethodDescriptor yX0_placeAfter.desc).map (fun d => d.parameters.length) = some 1 := by decide +kernel
theorem hs_X0_goHour : yX0_goHour.cls ≠ "java/lang/invoke/MethodHandle" ∧ yX0_goHour.cls ≠ "java/lang/invoke/VarHandle" ∧ (parseMethodDescriptor yX0_goHour.desc).map (fun d => d.parameters.length) = some 2 := by decide +kernel
theorem hs_J9_min_7cf53 : yJ9_min_7cf53.cls ≠ "java/lang/invoke/MethodHandle" ∧ yJ9_min_7cf53.cls ≠ "java/lang/invoke/VarHandle" ∧ (parseMethodDescriptor yJ9_min_7cf53.desc).map (fun d => d.parameters.length) = some 2 := by decide +kernel
theorem hs_X0_breakingHundredths : yX0_breakingHundredths.cls ≠ "java/lang/invoke/MethodHandle" ∧ yX0_breakingHundredths.cls ≠ "java/lang/invoke/VarHandle" ∧ (parseMethodDescriptor yX0_breakingHundredths.desc).map (fun d => d.parameters.length) = some 1 := by decide +kernel
theorem hs_X9_init : yX9_init.cls ≠ "java/lang/invoke/MethodHandle" ∧ yX9_init.cls ≠ "java/lang/invoke/VarHandle" ∧ (parseMethodDescriptor yX9_init.desc).map (fun d => d.parameters.length) = some 3 := by decide +kernel
theorem hs_X1_init : yX1_init.cls ≠ "java/lang/invoke/MethodHandle" ∧ yX1_init.cls ≠ "java/lang/invoke/VarHandle" ∧ (parseMethodDescriptor yX1_init.desc).map (fun d => d.parameters.length) = some 3 := by decide +kernel
theorem hs_X1_kind : yX1_kind.cls ≠ "java/lang/invoke/MethodHandle" ∧ yX1_kind.cls ≠ "java/lang/invoke/VarHandle" ∧ (parseMethodDescriptor yX1_kind.desc).map (fun d => d.parameters.length) = some 0 := by decide +kernel
theorem hs_J9_abs_0f7a4 : yJ9_abs_0f7a4.cls ≠ "java/lang/invoke/MethodHandle" ∧ yJ9_abs_0f7a4.cls ≠ "java/lang/invoke/VarHandle" ∧ (parseMethodDescriptor yJ9_abs_0f7a4.desc).map (fun d => d.parameters.length) = some 1 := by decide +kernel
theorem hs_X2_summed : yX2_summed.cls ≠ "java/lang/invoke/MethodHandle" ∧ yX2_summed.cls ≠ "java/lang/invoke/VarHandle" ∧ (parseMethodDescriptor yX2_summed.desc).map (fun d => d.parameters.length) = some 2 := by decide +kernel
theorem hs_X2_gapWith : yX2_gapWith.cls ≠ "java/lang/invoke/MethodHandle" ∧ yX2_gapWith.cls ≠ "java/lang/invoke/VarHandle" ∧ (parseMethodDescriptor yX2_gapWith.desc).map (fun d => d.parameters.length) = some 2 := by decide +kernel
theorem hs_X3_goesAcross : yX3_goesAcross.cls ≠ "java/lang/invoke/MethodHandle" ∧ yX3_goesAcross.cls ≠ "java/lang/invoke/VarHandle" ∧ (parseMethodDescriptor yX3_goesAcross.desc).map (fun d => d.parameters.length) = some 1 := by decide +kernel
theorem hs_X9_goesAcross : yX9_goesAcross.cls ≠ "java/lang/invoke/MethodHandle" ∧ yX9_goesAcross.cls ≠ "java/lang/invoke/VarHandle" ∧ (parseMethodDescriptor yX9_goesAcross.desc).map (fun d => d.parameters.length) = some 1 := by decide +kernel
theorem hs_X2_setUp : yX2_setUp.cls ≠ "java/lang/invoke/MethodHandle" ∧ yX2_setUp.cls ≠ "java/lang/invoke/VarHandle" ∧ (parseMethodDescriptor yX2_setUp.desc).map (fun d => d.parameters.length) = some 2 := by decide +kernel
theorem hs_X2_find : yX2_find.cls ≠ "java/lang/invoke/MethodHandle" ∧ yX2_find.cls ≠ "java/lang/invoke/VarHandle" ∧ (parseMethodDescriptor yX2_find.desc).map (fun d => d.parameters.length) = some 2 := by decide +kernel
theorem hs_X3_init : yX3_init.cls ≠ "java/lang/invoke/MethodHandle" ∧ yX3_init.cls ≠ "java/lang/invoke/VarHandle" ∧ (parseMethodDescriptor yX3_init.desc).map (fun d => d.parameters.length) = some 3 := by decide +kernel
theorem hs_X3_kind : yX3_kind.cls ≠ "java/lang/invoke/MethodHandle" ∧ yX3_kind.cls ≠ "java/lang/invoke/VarHandle" ∧ (parseMethodDescriptor yX3_kind.desc).map (fun d => d.parameters.length) = some 0 := by decide +kernel
theorem hs_X5_init : yX5_init.cls ≠ "java/lang/invoke/MethodHandle" ∧ yX5_init.cls ≠ "java/lang/invoke/VarHandle" ∧ (parseMethodDescriptor yX5_init.desc).map (fun d => d.parameters.length) = some 3 := by decide +kernel
theorem hs_X4_init : yX4_init.cls ≠ "java/lang/invoke/MethodHandle" ∧ yX4_init.cls ≠ "java/lang/invoke/VarHandle" ∧ (parseMethodDescriptor yX4_init.desc).map (fun d => d.parameters.length) = some 3 := by decide +kernel
theorem hs_X4_kind : yX4_kind.cls ≠ "java/lang/invoke/MethodHandle" ∧ yX4_kind.cls ≠ "java/lang/invoke/VarHandle" ∧ (parseMethodDescriptor yX4_kind.desc).map (fun d => d.parameters.length) = some 0 := by decide +kernel
theorem hs_X5_kind : yX5_kind.cls ≠ "java/lang/invoke/MethodHandle" ∧ yX5_kind.cls ≠ "java/lang/invoke/VarHandle" ∧ (parseMethodDescriptor yX5_kind.desc).map (fun d => d.parameters.length) = some 0 := by decide +kernel
theorem hs_X6_isFull : yX6_isFull.cls ≠ "java/lang/invoke/MethodHandle" ∧ yX6_isFull.cls ≠ "java/lang/invoke/VarHandle" ∧ (parseMethodDescriptor yX6_isFull.desc).map (fun d => d.parameters.length) = some 0 := by decide +kernel
theorem hs_X6_put : yX6_put.cls ≠ "java/lang/invoke/MethodHandle" ∧ yX6_put.cls ≠ "java/lang/invoke/VarHandle" ∧ (parseMethodDescriptor yX6_put.desc).map (fun d => d.parameters.length) = some 1 := by decide +kernel
theorem hs_X6_cutTo : yX6_cutTo.cls ≠ "java/lang/invoke/MethodHandle" ∧ yX6_cutTo.cls ≠ "java/lang/invoke/VarHandle" ∧ (parseMethodDescriptor yX6_cutTo.desc).map (fun d => d.parameters.length) = some 1 := by decide +kernel
theorem hs_X6_keepPlaces : yX6_keepPlaces.cls ≠ "java/lang/invoke/MethodHandle" ∧ yX6_keepPlaces.cls ≠ "java/lang/invoke/VarHandle" ∧ (parseMethodDescriptor yX6_keepPlaces.desc).map (fun d => d.parameters.length) = some 0 := by decide +kernel
theorem hs_X6_goBack : yX6_goBack.cls ≠ "java/lang/invoke/MethodHandle" ∧ yX6_goBack.cls ≠ "java/lang/invoke/VarHandle" ∧ (parseMethodDescriptor yX6_goBack.desc).map (fun d => d.parameters.length) = some 0 := by decide +kernel
theorem hs_X6_sizeIn : yX6_sizeIn.cls ≠ "java/lang/invoke/MethodHandle" ∧ yX6_sizeIn.cls ≠ "java/lang/invoke/VarHandle" ∧ (parseMethodDescriptor yX6_sizeIn.desc).map (fun d => d.parameters.length) = some 1 := by decide +kernel
theorem hs_X7_hasRoomFor : yX7_hasRoomFor.cls ≠ "java/lang/invoke/MethodHandle" ∧ yX7_hasRoomFor.cls ≠ "java/lang/invoke/VarHandle" ∧ (parseMethodDescriptor yX7_hasRoomFor.desc).map (fun d => d.parameters.length) = some 1 := by decide +kernel
theorem hs_X7_put : yX7_put.cls ≠ "java/lang/invoke/MethodHandle" ∧ yX7_put.cls ≠ "java/lang/invoke/VarHandle" ∧ (parseMethodDescriptor yX7_put.desc).map (fun d => d.parameters.length) = some 1 := by decide +kernel
theorem hs_X7_emptied : yX7_emptied.cls ≠ "java/lang/invoke/MethodHandle" ∧ yX7_emptied.cls ≠ "java/lang/invoke/VarHandle" ∧ (parseMethodDescriptor yX7_emptied.desc).map (fun d => d.parameters.length) = some 0 := by decide +kernel
theorem hs_X7_isBetween : yX7_isBetween.cls ≠ "java/lang/invoke/MethodHandle" ∧ yX7_isBetween.cls ≠ "java/lang/invoke/VarHandle" ∧ (parseMethodDescriptor yX7_isBetween.desc).map (fun d => d.parameters.length) = some 3 := by decide +kernel
theorem hs_X7_isWireLetter : yX7_isWireLetter.cls ≠ "java/lang/invoke/MethodHandle" ∧ yX7_isWireLetter.cls ≠ "java/lang/invoke/VarHandle" ∧ (parseMethodDescriptor yX7_isWireLetter.desc).map (fun d => d.parameters.length) = some 1 := by decide +kernel
theorem hs_X7_firstWrong : yX7_firstWrong.cls ≠ "java/lang/invoke/MethodHandle" ∧ yX7_firstWrong.cls ≠ "java/lang/invoke/VarHandle" ∧ (parseMethodDescriptor yX7_firstWrong.desc).map (fun d => d.parameters.length) = some 0 := by decide +kernel
theorem hs_X7_isWire : yX7_isWire.cls ≠ "java/lang/invoke/MethodHandle" ∧ yX7_isWire.cls ≠ "java/lang/invoke/VarHandle" ∧ (parseMethodDescriptor yX7_isWire.desc).map (fun d => d.parameters.length) = some 0 := by decide +kernel
theorem hs_X8_begin : yX8_begin.cls ≠ "java/lang/invoke/MethodHandle" ∧ yX8_begin.cls ≠ "java/lang/invoke/VarHandle" ∧ (parseMethodDescriptor yX8_begin.desc).map (fun d => d.parameters.length) = some 1 := by decide +kernel
theorem hs_X8_dropBroken : yX8_dropBroken.cls ≠ "java/lang/invoke/MethodHandle" ∧ yX8_dropBroken.cls ≠ "java/lang/invoke/VarHandle" ∧ (parseMethodDescriptor yX8_dropBroken.desc).map (fun d => d.parameters.length) = some 3 := by decide +kernel
theorem hs_X8_leastWay : yX8_leastWay.cls ≠ "java/lang/invoke/MethodHandle" ∧ yX8_leastWay.cls ≠ "java/lang/invoke/VarHandle" ∧ (parseMethodDescriptor yX8_leastWay.desc).map (fun d => d.parameters.length) = some 4 := by decide +kernel
theorem hs_X11_windingOf : yX11_windingOf.cls ≠ "java/lang/invoke/MethodHandle" ∧ yX11_windingOf.cls ≠ "java/lang/invoke/VarHandle" ∧ (parseMethodDescriptor yX11_windingOf.desc).map (fun d => d.parameters.length) = some 1 := by decide +kernel
theorem hs_X8_stepFrom : yX8_stepFrom.cls ≠ "java/lang/invoke/MethodHandle" ∧ yX8_stepFrom.cls ≠ "java/lang/invoke/VarHandle" ∧ (parseMethodDescriptor yX8_stepFrom.desc).map (fun d => d.parameters.length) = some 3 := by decide +kernel
theorem hs_X8_step : yX8_step.cls ≠ "java/lang/invoke/MethodHandle" ∧ yX8_step.cls ≠ "java/lang/invoke/VarHandle" ∧ (parseMethodDescriptor yX8_step.desc).map (fun d => d.parameters.length) = some 1 := by decide +kernel
theorem hs_X8_find : yX8_find.cls ≠ "java/lang/invoke/MethodHandle" ∧ yX8_find.cls ≠ "java/lang/invoke/VarHandle" ∧ (parseMethodDescriptor yX8_find.desc).map (fun d => d.parameters.length) = some 3 := by decide +kernel
theorem hs_X9_kind : yX9_kind.cls ≠ "java/lang/invoke/MethodHandle" ∧ yX9_kind.cls ≠ "java/lang/invoke/VarHandle" ∧ (parseMethodDescriptor yX9_kind.desc).map (fun d => d.parameters.length) = some 0 := by decide +kernel
theorem hs_X10_isFull : yX10_isFull.cls ≠ "java/lang/invoke/MethodHandle" ∧ yX10_isFull.cls ≠ "java/lang/invoke/VarHandle" ∧ (parseMethodDescriptor yX10_isFull.desc).map (fun d => d.parameters.length) = some 0 := by decide +kernel
theorem hs_X10_put : yX10_put.cls ≠ "java/lang/invoke/MethodHandle" ∧ yX10_put.cls ≠ "java/lang/invoke/VarHandle" ∧ (parseMethodDescriptor yX10_put.desc).map (fun d => d.parameters.length) = some 2 := by decide +kernel
theorem hs_X10_emptied : yX10_emptied.cls ≠ "java/lang/invoke/MethodHandle" ∧ yX10_emptied.cls ≠ "java/lang/invoke/VarHandle" ∧ (parseMethodDescriptor yX10_emptied.desc).map (fun d => d.parameters.length) = some 0 := by decide +kernel
theorem hs_J9_max_7cf53 : yJ9_max_7cf53.cls ≠ "java/lang/invoke/MethodHandle" ∧ yJ9_max_7cf53.cls ≠ "java/lang/invoke/VarHandle" ∧ (parseMethodDescriptor yJ9_max_7cf53.desc).map (fun d => d.parameters.length) = some 2 := by decide +kernel
theorem hs_X10_leastSpin : yX10_leastSpin.cls ≠ "java/lang/invoke/MethodHandle" ∧ yX10_leastSpin.cls ≠ "java/lang/invoke/VarHandle" ∧ (parseMethodDescriptor yX10_leastSpin.desc).map (fun d => d.parameters.length) = some 0 := by decide +kernel
theorem hs_X10_greatestSpin : yX10_greatestSpin.cls ≠ "java/lang/invoke/MethodHandle" ∧ yX10_greatestSpin.cls ≠ "java/lang/invoke/VarHandle" ∧ (parseMethodDescriptor yX10_greatestSpin.desc).map (fun d => d.parameters.length) = some 0 := by decide +kernel
theorem hs_X11_byteOf : yX11_byteOf.cls ≠ "java/lang/invoke/MethodHandle" ∧ yX11_byteOf.cls ≠ "java/lang/invoke/VarHandle" ∧ (parseMethodDescriptor yX11_byteOf.desc).map (fun d => d.parameters.length) = some 2 := by decide +kernel
theorem hs_X11_lettersIn : yX11_lettersIn.cls ≠ "java/lang/invoke/MethodHandle" ∧ yX11_lettersIn.cls ≠ "java/lang/invoke/VarHandle" ∧ (parseMethodDescriptor yX11_lettersIn.desc).map (fun d => d.parameters.length) = some 1 := by decide +kernel
theorem hs_X11_letters : yX11_letters.cls ≠ "java/lang/invoke/MethodHandle" ∧ yX11_letters.cls ≠ "java/lang/invoke/VarHandle" ∧ (parseMethodDescriptor yX11_letters.desc).map (fun d => d.parameters.length) = some 1 := by decide +kernel
theorem hs_X11_blank : yX11_blank.cls ≠ "java/lang/invoke/MethodHandle" ∧ yX11_blank.cls ≠ "java/lang/invoke/VarHandle" ∧ (parseMethodDescriptor yX11_blank.desc).map (fun d => d.parameters.length) = some 0 := by decide +kernel
theorem hs_X11_fault : yX11_fault.cls ≠ "java/lang/invoke/MethodHandle" ∧ yX11_fault.cls ≠ "java/lang/invoke/VarHandle" ∧ (parseMethodDescriptor yX11_fault.desc).map (fun d => d.parameters.length) = some 0 := by decide +kernel
theorem hs_X11_wire : yX11_wire.cls ≠ "java/lang/invoke/MethodHandle" ∧ yX11_wire.cls ≠ "java/lang/invoke/VarHandle" ∧ (parseMethodDescriptor yX11_wire.desc).map (fun d => d.parameters.length) = some 0 := by decide +kernel
theorem hs_X11_isCabin : yX11_isCabin.cls ≠ "java/lang/invoke/MethodHandle" ∧ yX11_isCabin.cls ≠ "java/lang/invoke/VarHandle" ∧ (parseMethodDescriptor yX11_isCabin.desc).map (fun d => d.parameters.length) = some 1 := by decide +kernel
theorem hs_X11_cabin : yX11_cabin.cls ≠ "java/lang/invoke/MethodHandle" ∧ yX11_cabin.cls ≠ "java/lang/invoke/VarHandle" ∧ (parseMethodDescriptor yX11_cabin.desc).map (fun d => d.parameters.length) = some 2 := by decide +kernel
theorem hs_X11_isKind : yX11_isKind.cls ≠ "java/lang/invoke/MethodHandle" ∧ yX11_isKind.cls ≠ "java/lang/invoke/VarHandle" ∧ (parseMethodDescriptor yX11_isKind.desc).map (fun d => d.parameters.length) = some 1 := by decide +kernel
theorem hs_X11_newThing : yX11_newThing.cls ≠ "java/lang/invoke/MethodHandle" ∧ yX11_newThing.cls ≠ "java/lang/invoke/VarHandle" ∧ (parseMethodDescriptor yX11_newThing.desc).map (fun d => d.parameters.length) = some 4 := by decide +kernel
theorem hs_X11_thing : yX11_thing.cls ≠ "java/lang/invoke/MethodHandle" ∧ yX11_thing.cls ≠ "java/lang/invoke/VarHandle" ∧ (parseMethodDescriptor yX11_thing.desc).map (fun d => d.parameters.length) = some 3 := by decide +kernel
theorem hs_X11_about : yX11_about.cls ≠ "java/lang/invoke/MethodHandle" ∧ yX11_about.cls ≠ "java/lang/invoke/VarHandle" ∧ (parseMethodDescriptor yX11_about.desc).map (fun d => d.parameters.length) = some 2 := by decide +kernel
theorem hs_X11_isOfKind : yX11_isOfKind.cls ≠ "java/lang/invoke/MethodHandle" ∧ yX11_isOfKind.cls ≠ "java/lang/invoke/VarHandle" ∧ (parseMethodDescriptor yX11_isOfKind.desc).map (fun d => d.parameters.length) = some 2 := by decide +kernel
theorem hs_X11_as : yX11_as.cls ≠ "java/lang/invoke/MethodHandle" ∧ yX11_as.cls ≠ "java/lang/invoke/VarHandle" ∧ (parseMethodDescriptor yX11_as.desc).map (fun d => d.parameters.length) = some 2 := by decide +kernel
theorem hs_X11_carry : yX11_carry.cls ≠ "java/lang/invoke/MethodHandle" ∧ yX11_carry.cls ≠ "java/lang/invoke/VarHandle" ∧ (parseMethodDescriptor yX11_carry.desc).map (fun d => d.parameters.length) = some 1 := by decide +kernel
theorem hs_X11_hour : yX11_hour.cls ≠ "java/lang/invoke/MethodHandle" ∧ yX11_hour.cls ≠ "java/lang/invoke/VarHandle" ∧ (parseMethodDescriptor yX11_hour.desc).map (fun d => d.parameters.length) = some 1 := by decide +kernel
theorem hs_X11_even : yX11_even.cls ≠ "java/lang/invoke/MethodHandle" ∧ yX11_even.cls ≠ "java/lang/invoke/VarHandle" ∧ (parseMethodDescriptor yX11_even.desc).map (fun d => d.parameters.length) = some 1 := by decide +kernel
theorem hs_X11_soonest : yX11_soonest.cls ≠ "java/lang/invoke/MethodHandle" ∧ yX11_soonest.cls ≠ "java/lang/invoke/VarHandle" ∧ (parseMethodDescriptor yX11_soonest.desc).map (fun d => d.parameters.length) = some 2 := by decide +kernel
theorem hs_X11_apartOnCircle : yX11_apartOnCircle.cls ≠ "java/lang/invoke/MethodHandle" ∧ yX11_apartOnCircle.cls ≠ "java/lang/invoke/VarHandle" ∧ (parseMethodDescriptor yX11_apartOnCircle.desc).map (fun d => d.parameters.length) = some 2 := by decide +kernel
theorem hs_X11_caught : yX11_caught.cls ≠ "java/lang/invoke/MethodHandle" ∧ yX11_caught.cls ≠ "java/lang/invoke/VarHandle" ∧ (parseMethodDescriptor yX11_caught.desc).map (fun d => d.parameters.length) = some 1 := by decide +kernel
theorem hs_X11_weighed : yX11_weighed.cls ≠ "java/lang/invoke/MethodHandle" ∧ yX11_weighed.cls ≠ "java/lang/invoke/VarHandle" ∧ (parseMethodDescriptor yX11_weighed.desc).map (fun d => d.parameters.length) = some 2 := by decide +kernel
theorem hs_X11_forget : yX11_forget.cls ≠ "java/lang/invoke/MethodHandle" ∧ yX11_forget.cls ≠ "java/lang/invoke/VarHandle" ∧ (parseMethodDescriptor yX11_forget.desc).map (fun d => d.parameters.length) = some 0 := by decide +kernel
theorem hs_X11_fits : yX11_fits.cls ≠ "java/lang/invoke/MethodHandle" ∧ yX11_fits.cls ≠ "java/lang/invoke/VarHandle" ∧ (parseMethodDescriptor yX11_fits.desc).map (fun d => d.parameters.length) = some 1 := by decide +kernel
theorem hs_X11_power : yX11_power.cls ≠ "java/lang/invoke/MethodHandle" ∧ yX11_power.cls ≠ "java/lang/invoke/VarHandle" ∧ (parseMethodDescriptor yX11_power.desc).map (fun d => d.parameters.length) = some 2 := by decide +kernel
theorem hs_X11_reduced : yX11_reduced.cls ≠ "java/lang/invoke/MethodHandle" ∧ yX11_reduced.cls ≠ "java/lang/invoke/VarHandle" ∧ (parseMethodDescriptor yX11_reduced.desc).map (fun d => d.parameters.length) = some 2 := by decide +kernel
theorem hs_X11_lasts : yX11_lasts.cls ≠ "java/lang/invoke/MethodHandle" ∧ yX11_lasts.cls ≠ "java/lang/invoke/VarHandle" ∧ (parseMethodDescriptor yX11_lasts.desc).map (fun d => d.parameters.length) = some 2 := by decide +kernel
theorem hs_X11_nextSeed : yX11_nextSeed.cls ≠ "java/lang/invoke/MethodHandle" ∧ yX11_nextSeed.cls ≠ "java/lang/invoke/VarHandle" ∧ (parseMethodDescriptor yX11_nextSeed.desc).map (fun d => d.parameters.length) = some 1 := by decide +kernel
theorem hs_X11_tryHours : yX11_tryHours.cls ≠ "java/lang/invoke/MethodHandle" ∧ yX11_tryHours.cls ≠ "java/lang/invoke/VarHandle" ∧ (parseMethodDescriptor yX11_tryHours.desc).map (fun d => d.parameters.length) = some 2 := by decide +kernel
theorem hs_X11_whirls : yX11_whirls.cls ≠ "java/lang/invoke/MethodHandle" ∧ yX11_whirls.cls ≠ "java/lang/invoke/VarHandle" ∧ (parseMethodDescriptor yX11_whirls.desc).map (fun d => d.parameters.length) = some 3 := by decide +kernel
theorem hs_X11_image : yX11_image.cls ≠ "java/lang/invoke/MethodHandle" ∧ yX11_image.cls ≠ "java/lang/invoke/VarHandle" ∧ (parseMethodDescriptor yX11_image.desc).map (fun d => d.parameters.length) = some 0 := by decide +kernel
theorem hs_X11_restore : yX11_restore.cls ≠ "java/lang/invoke/MethodHandle" ∧ yX11_restore.cls ≠ "java/lang/invoke/VarHandle" ∧ (parseMethodDescriptor yX11_restore.desc).map (fun d => d.parameters.length) = some 0 := by decide +kernel
theorem hs_X11_count : yX11_count.cls ≠ "java/lang/invoke/MethodHandle" ∧ yX11_count.cls ≠ "java/lang/invoke/VarHandle" ∧ (parseMethodDescriptor yX11_count.desc).map (fun d => d.parameters.length) = some 1 := by decide +kernel
theorem hs_X11_mixed : yX11_mixed.cls ≠ "java/lang/invoke/MethodHandle" ∧ yX11_mixed.cls ≠ "java/lang/invoke/VarHandle" ∧ (parseMethodDescriptor yX11_mixed.desc).map (fun d => d.parameters.length) = some 2 := by decide +kernel
theorem hs_X11_withCabins : yX11_withCabins.cls ≠ "java/lang/invoke/MethodHandle" ∧ yX11_withCabins.cls ≠ "java/lang/invoke/VarHandle" ∧ (parseMethodDescriptor yX11_withCabins.desc).map (fun d => d.parameters.length) = some 1 := by decide +kernel
theorem hs_X11_withOutlook : yX11_withOutlook.cls ≠ "java/lang/invoke/MethodHandle" ∧ yX11_withOutlook.cls ≠ "java/lang/invoke/VarHandle" ∧ (parseMethodDescriptor yX11_withOutlook.desc).map (fun d => d.parameters.length) = some 1 := by decide +kernel
theorem hs_X11_withThings : yX11_withThings.cls ≠ "java/lang/invoke/MethodHandle" ∧ yX11_withThings.cls ≠ "java/lang/invoke/VarHandle" ∧ (parseMethodDescriptor yX11_withThings.desc).map (fun d => d.parameters.length) = some 1 := by decide +kernel
theorem hs_X11_digest : yX11_digest.cls ≠ "java/lang/invoke/MethodHandle" ∧ yX11_digest.cls ≠ "java/lang/invoke/VarHandle" ∧ (parseMethodDescriptor yX11_digest.desc).map (fun d => d.parameters.length) = some 0 := by decide +kernel
theorem hs_X12_within : yX12_within.cls ≠ "java/lang/invoke/MethodHandle" ∧ yX12_within.cls ≠ "java/lang/invoke/VarHandle" ∧ (parseMethodDescriptor yX12_within.desc).map (fun d => d.parameters.length) = some 3 := by decide +kernel
theorem hs_X12_has : yX12_has.cls ≠ "java/lang/invoke/MethodHandle" ∧ yX12_has.cls ≠ "java/lang/invoke/VarHandle" ∧ (parseMethodDescriptor yX12_has.desc).map (fun d => d.parameters.length) = some 2 := by decide +kernel
theorem hs_X12_letters : yX12_letters.cls ≠ "java/lang/invoke/MethodHandle" ∧ yX12_letters.cls ≠ "java/lang/invoke/VarHandle" ∧ (parseMethodDescriptor yX12_letters.desc).map (fun d => d.parameters.length) = some 1 := by decide +kernel
theorem hs_X12_blank : yX12_blank.cls ≠ "java/lang/invoke/MethodHandle" ∧ yX12_blank.cls ≠ "java/lang/invoke/VarHandle" ∧ (parseMethodDescriptor yX12_blank.desc).map (fun d => d.parameters.length) = some 0 := by decide +kernel
theorem hs_X12_takes : yX12_takes.cls ≠ "java/lang/invoke/MethodHandle" ∧ yX12_takes.cls ≠ "java/lang/invoke/VarHandle" ∧ (parseMethodDescriptor yX12_takes.desc).map (fun d => d.parameters.length) = some 2 := by decide +kernel
theorem hs_X12_readWire : yX12_readWire.cls ≠ "java/lang/invoke/MethodHandle" ∧ yX12_readWire.cls ≠ "java/lang/invoke/VarHandle" ∧ (parseMethodDescriptor yX12_readWire.desc).map (fun d => d.parameters.length) = some 0 := by decide +kernel
theorem hs_X12_fault : yX12_fault.cls ≠ "java/lang/invoke/MethodHandle" ∧ yX12_fault.cls ≠ "java/lang/invoke/VarHandle" ∧ (parseMethodDescriptor yX12_fault.desc).map (fun d => d.parameters.length) = some 0 := by decide +kernel
theorem hs_X12_wire : yX12_wire.cls ≠ "java/lang/invoke/MethodHandle" ∧ yX12_wire.cls ≠ "java/lang/invoke/VarHandle" ∧ (parseMethodDescriptor yX12_wire.desc).map (fun d => d.parameters.length) = some 0 := by decide +kernel
theorem hs_X12_weighs : yX12_weighs.cls ≠ "java/lang/invoke/MethodHandle" ∧ yX12_weighs.cls ≠ "java/lang/invoke/VarHandle" ∧ (parseMethodDescriptor yX12_weighs.desc).map (fun d => d.parameters.length) = some 2 := by decide +kernel
theorem hs_X12_cabinWeighs : yX12_cabinWeighs.cls ≠ "java/lang/invoke/MethodHandle" ∧ yX12_cabinWeighs.cls ≠ "java/lang/invoke/VarHandle" ∧ (parseMethodDescriptor yX12_cabinWeighs.desc).map (fun d => d.parameters.length) = some 3 := by decide +kernel
theorem hs_X12_turnsAt : yX12_turnsAt.cls ≠ "java/lang/invoke/MethodHandle" ∧ yX12_turnsAt.cls ≠ "java/lang/invoke/VarHandle" ∧ (parseMethodDescriptor yX12_turnsAt.desc).map (fun d => d.parameters.length) = some 1 := by decide +kernel
theorem hs_X12_armBy : yX12_armBy.cls ≠ "java/lang/invoke/MethodHandle" ∧ yX12_armBy.cls ≠ "java/lang/invoke/VarHandle" ∧ (parseMethodDescriptor yX12_armBy.desc).map (fun d => d.parameters.length) = some 4 := by decide +kernel
theorem hs_X12_floorBy : yX12_floorBy.cls ≠ "java/lang/invoke/MethodHandle" ∧ yX12_floorBy.cls ≠ "java/lang/invoke/VarHandle" ∧ (parseMethodDescriptor yX12_floorBy.desc).map (fun d => d.parameters.length) = some 4 := by decide +kernel
theorem hs_X12_strainAt : yX12_strainAt.cls ≠ "java/lang/invoke/MethodHandle" ∧ yX12_strainAt.cls ≠ "java/lang/invoke/VarHandle" ∧ (parseMethodDescriptor yX12_strainAt.desc).map (fun d => d.parameters.length) = some 2 := by decide +kernel
theorem hs_X12_inCabin : yX12_inCabin.cls ≠ "java/lang/invoke/MethodHandle" ∧ yX12_inCabin.cls ≠ "java/lang/invoke/VarHandle" ∧ (parseMethodDescriptor yX12_inCabin.desc).map (fun d => d.parameters.length) = some 1 := by decide +kernel
theorem hs_X12_cabinNow : yX12_cabinNow.cls ≠ "java/lang/invoke/MethodHandle" ∧ yX12_cabinNow.cls ≠ "java/lang/invoke/VarHandle" ∧ (parseMethodDescriptor yX12_cabinNow.desc).map (fun d => d.parameters.length) = some 2 := by decide +kernel
theorem hs_X12_cabin : yX12_cabin.cls ≠ "java/lang/invoke/MethodHandle" ∧ yX12_cabin.cls ≠ "java/lang/invoke/VarHandle" ∧ (parseMethodDescriptor yX12_cabin.desc).map (fun d => d.parameters.length) = some 2 := by decide +kernel
theorem hs_X12_isThing : yX12_isThing.cls ≠ "java/lang/invoke/MethodHandle" ∧ yX12_isThing.cls ≠ "java/lang/invoke/VarHandle" ∧ (parseMethodDescriptor yX12_isThing.desc).map (fun d => d.parameters.length) = some 1 := by decide +kernel
theorem hs_X12_thing : yX12_thing.cls ≠ "java/lang/invoke/MethodHandle" ∧ yX12_thing.cls ≠ "java/lang/invoke/VarHandle" ∧ (parseMethodDescriptor yX12_thing.desc).map (fun d => d.parameters.length) = some 3 := by decide +kernel
theorem hs_X12_thingNow : yX12_thingNow.cls ≠ "java/lang/invoke/MethodHandle" ∧ yX12_thingNow.cls ≠ "java/lang/invoke/VarHandle" ∧ (parseMethodDescriptor yX12_thingNow.desc).map (fun d => d.parameters.length) = some 2 := by decide +kernel
theorem hs_X12_about : yX12_about.cls ≠ "java/lang/invoke/MethodHandle" ∧ yX12_about.cls ≠ "java/lang/invoke/VarHandle" ∧ (parseMethodDescriptor yX12_about.desc).map (fun d => d.parameters.length) = some 2 := by decide +kernel
theorem hs_X12_as : yX12_as.cls ≠ "java/lang/invoke/MethodHandle" ∧ yX12_as.cls ≠ "java/lang/invoke/VarHandle" ∧ (parseMethodDescriptor yX12_as.desc).map (fun d => d.parameters.length) = some 2 := by decide +kernel
theorem hs_X12_mayCarry : yX12_mayCarry.cls ≠ "java/lang/invoke/MethodHandle" ∧ yX12_mayCarry.cls ≠ "java/lang/invoke/VarHandle" ∧ (parseMethodDescriptor yX12_mayCarry.desc).map (fun d => d.parameters.length) = some 1 := by decide +kernel
theorem hs_X12_carry : yX12_carry.cls ≠ "java/lang/invoke/MethodHandle" ∧ yX12_carry.cls ≠ "java/lang/invoke/VarHandle" ∧ (parseMethodDescriptor yX12_carry.desc).map (fun d => d.parameters.length) = some 1 := by decide +kernel
theorem hs_X12_isLength : yX12_isLength.cls ≠ "java/lang/invoke/MethodHandle" ∧ yX12_isLength.cls ≠ "java/lang/invoke/VarHandle" ∧ (parseMethodDescriptor yX12_isLength.desc).map (fun d => d.parameters.length) = some 1 := by decide +kernel
theorem hs_X12_mayBe : yX12_mayBe.cls ≠ "java/lang/invoke/MethodHandle" ∧ yX12_mayBe.cls ≠ "java/lang/invoke/VarHandle" ∧ (parseMethodDescriptor yX12_mayBe.desc).map (fun d => d.parameters.length) = some 1 := by decide +kernel
theorem hs_X12_goHour : yX12_goHour.cls ≠ "java/lang/invoke/MethodHandle" ∧ yX12_goHour.cls ≠ "java/lang/invoke/VarHandle" ∧ (parseMethodDescriptor yX12_goHour.desc).map (fun d => d.parameters.length) = some 1 := by decide +kernel
theorem hs_X12_hour : yX12_hour.cls ≠ "java/lang/invoke/MethodHandle" ∧ yX12_hour.cls ≠ "java/lang/invoke/VarHandle" ∧ (parseMethodDescriptor yX12_hour.desc).map (fun d => d.parameters.length) = some 1 := by decide +kernel
theorem hs_X12_sized : yX12_sized.cls ≠ "java/lang/invoke/MethodHandle" ∧ yX12_sized.cls ≠ "java/lang/invoke/VarHandle" ∧ (parseMethodDescriptor yX12_sized.desc).map (fun d => d.parameters.length) = some 1 := by decide +kernel
theorem hs_X12_layEven : yX12_layEven.cls ≠ "java/lang/invoke/MethodHandle" ∧ yX12_layEven.cls ≠ "java/lang/invoke/VarHandle" ∧ (parseMethodDescriptor yX12_layEven.desc).map (fun d => d.parameters.length) = some 0 := by decide +kernel
theorem hs_X12_evenNow : yX12_evenNow.cls ≠ "java/lang/invoke/MethodHandle" ∧ yX12_evenNow.cls ≠ "java/lang/invoke/VarHandle" ∧ (parseMethodDescriptor yX12_evenNow.desc).map (fun d => d.parameters.length) = some 1 := by decide +kernel
theorem hs_X12_even : yX12_even.cls ≠ "java/lang/invoke/MethodHandle" ∧ yX12_even.cls ≠ "java/lang/invoke/VarHandle" ∧ (parseMethodDescriptor yX12_even.desc).map (fun d => d.parameters.length) = some 1 := by decide +kernel
theorem hs_X12_by : yX12_by.cls ≠ "java/lang/invoke/MethodHandle" ∧ yX12_by.cls ≠ "java/lang/invoke/VarHandle" ∧ (parseMethodDescriptor yX12_by.desc).map (fun d => d.parameters.length) = some 1 := by decide +kernel
theorem hs_X12_goLengths : yX12_goLengths.cls ≠ "java/lang/invoke/MethodHandle" ∧ yX12_goLengths.cls ≠ "java/lang/invoke/VarHandle" ∧ (parseMethodDescriptor yX12_goLengths.desc).map (fun d => d.parameters.length) = some 1 := by decide +kernel
theorem hs_X12_firstBy : yX12_firstBy.cls ≠ "java/lang/invoke/MethodHandle" ∧ yX12_firstBy.cls ≠ "java/lang/invoke/VarHandle" ∧ (parseMethodDescriptor yX12_firstBy.desc).map (fun d => d.parameters.length) = some 2 := by decide +kernel
theorem hs_X12_soonestNow : yX12_soonestNow.cls ≠ "java/lang/invoke/MethodHandle" ∧ yX12_soonestNow.cls ≠ "java/lang/invoke/VarHandle" ∧ (parseMethodDescriptor yX12_soonestNow.desc).map (fun d => d.parameters.length) = some 2 := by decide +kernel
theorem hs_X12_soonest : yX12_soonest.cls ≠ "java/lang/invoke/MethodHandle" ∧ yX12_soonest.cls ≠ "java/lang/invoke/VarHandle" ∧ (parseMethodDescriptor yX12_soonest.desc).map (fun d => d.parameters.length) = some 2 := by decide +kernel
theorem hs_X12_caughtNow : yX12_caughtNow.cls ≠ "java/lang/invoke/MethodHandle" ∧ yX12_caughtNow.cls ≠ "java/lang/invoke/VarHandle" ∧ (parseMethodDescriptor yX12_caughtNow.desc).map (fun d => d.parameters.length) = some 1 := by decide +kernel
theorem hs_X12_caught : yX12_caught.cls ≠ "java/lang/invoke/MethodHandle" ∧ yX12_caught.cls ≠ "java/lang/invoke/VarHandle" ∧ (parseMethodDescriptor yX12_caught.desc).map (fun d => d.parameters.length) = some 1 := by decide +kernel
theorem hs_X12_weighed : yX12_weighed.cls ≠ "java/lang/invoke/MethodHandle" ∧ yX12_weighed.cls ≠ "java/lang/invoke/VarHandle" ∧ (parseMethodDescriptor yX12_weighed.desc).map (fun d => d.parameters.length) = some 2 := by decide +kernel
theorem hs_X12_forget : yX12_forget.cls ≠ "java/lang/invoke/MethodHandle" ∧ yX12_forget.cls ≠ "java/lang/invoke/VarHandle" ∧ (parseMethodDescriptor yX12_forget.desc).map (fun d => d.parameters.length) = some 0 := by decide +kernel
theorem hs_X12_fitsNow : yX12_fitsNow.cls ≠ "java/lang/invoke/MethodHandle" ∧ yX12_fitsNow.cls ≠ "java/lang/invoke/VarHandle" ∧ (parseMethodDescriptor yX12_fitsNow.desc).map (fun d => d.parameters.length) = some 1 := by decide +kernel
theorem hs_X12_fits : yX12_fits.cls ≠ "java/lang/invoke/MethodHandle" ∧ yX12_fits.cls ≠ "java/lang/invoke/VarHandle" ∧ (parseMethodDescriptor yX12_fits.desc).map (fun d => d.parameters.length) = some 1 := by decide +kernel
theorem hs_X12_lowest : yX12_lowest.cls ≠ "java/lang/invoke/MethodHandle" ∧ yX12_lowest.cls ≠ "java/lang/invoke/VarHandle" ∧ (parseMethodDescriptor yX12_lowest.desc).map (fun d => d.parameters.length) = some 3 := by decide +kernel
theorem hs_X12_breaksBy : yX12_breaksBy.cls ≠ "java/lang/invoke/MethodHandle" ∧ yX12_breaksBy.cls ≠ "java/lang/invoke/VarHandle" ∧ (parseMethodDescriptor yX12_breaksBy.desc).map (fun d => d.parameters.length) = some 0 := by decide +kernel
theorem hs_X12_lastsNow : yX12_lastsNow.cls ≠ "java/lang/invoke/MethodHandle" ∧ yX12_lastsNow.cls ≠ "java/lang/invoke/VarHandle" ∧ (parseMethodDescriptor yX12_lastsNow.desc).map (fun d => d.parameters.length) = some 2 := by decide +kernel
theorem hs_X12_lasts : yX12_lasts.cls ≠ "java/lang/invoke/MethodHandle" ∧ yX12_lasts.cls ≠ "java/lang/invoke/VarHandle" ∧ (parseMethodDescriptor yX12_lasts.desc).map (fun d => d.parameters.length) = some 2 := by decide +kernel
theorem hs_X12_draw : yX12_draw.cls ≠ "java/lang/invoke/MethodHandle" ∧ yX12_draw.cls ≠ "java/lang/invoke/VarHandle" ∧ (parseMethodDescriptor yX12_draw.desc).map (fun d => d.parameters.length) = some 1 := by decide +kernel
theorem hs_X12_whirlsNow : yX12_whirlsNow.cls ≠ "java/lang/invoke/MethodHandle" ∧ yX12_whirlsNow.cls ≠ "java/lang/invoke/VarHandle" ∧ (parseMethodDescriptor yX12_whirlsNow.desc).map (fun d => d.parameters.length) = some 3 := by decide +kernel
theorem hs_X12_whirls : yX12_whirls.cls ≠ "java/lang/invoke/MethodHandle" ∧ yX12_whirls.cls ≠ "java/lang/invoke/VarHandle" ∧ (parseMethodDescriptor yX12_whirls.desc).map (fun d => d.parameters.length) = some 3 := by decide +kernel
theorem hs_X12_image : yX12_image.cls ≠ "java/lang/invoke/MethodHandle" ∧ yX12_image.cls ≠ "java/lang/invoke/VarHandle" ∧ (parseMethodDescriptor yX12_image.desc).map (fun d => d.parameters.length) = some 0 := by decide +kernel
theorem hs_X12_restore : yX12_restore.cls ≠ "java/lang/invoke/MethodHandle" ∧ yX12_restore.cls ≠ "java/lang/invoke/VarHandle" ∧ (parseMethodDescriptor yX12_restore.desc).map (fun d => d.parameters.length) = some 0 := by decide +kernel
theorem hs_X12_one : yX12_one.cls ≠ "java/lang/invoke/MethodHandle" ∧ yX12_one.cls ≠ "java/lang/invoke/VarHandle" ∧ (parseMethodDescriptor yX12_one.desc).map (fun d => d.parameters.length) = some 1 := by decide +kernel
theorem hs_X12_howMany : yX12_howMany.cls ≠ "java/lang/invoke/MethodHandle" ∧ yX12_howMany.cls ≠ "java/lang/invoke/VarHandle" ∧ (parseMethodDescriptor yX12_howMany.desc).map (fun d => d.parameters.length) = some 1 := by decide +kernel
theorem hs_X12_count : yX12_count.cls ≠ "java/lang/invoke/MethodHandle" ∧ yX12_count.cls ≠ "java/lang/invoke/VarHandle" ∧ (parseMethodDescriptor yX12_count.desc).map (fun d => d.parameters.length) = some 1 := by decide +kernel
theorem hs_X12_mix : yX12_mix.cls ≠ "java/lang/invoke/MethodHandle" ∧ yX12_mix.cls ≠ "java/lang/invoke/VarHandle" ∧ (parseMethodDescriptor yX12_mix.desc).map (fun d => d.parameters.length) = some 1 := by decide +kernel
theorem hs_X12_digest : yX12_digest.cls ≠ "java/lang/invoke/MethodHandle" ∧ yX12_digest.cls ≠ "java/lang/invoke/VarHandle" ∧ (parseMethodDescriptor yX12_digest.desc).map (fun d => d.parameters.length) = some 0 := by decide +kernel
abbrev rm_X7_at : Room := { frames := 0, cells := 0, slots := 0, locals := 0 }
abbrev rm_X7_digitAt : Room := { frames := 1, cells := 0, slots := 0, locals := 21 }
abbrev rm_X0_hang : Room := { frames := 2, cells := 0, slots := 0, locals := 42 }
abbrev rm_X0_becomeLike : Room := { frames := 0, cells := 0, slots := 0, locals := 0 }
abbrev rm_X0_isThere : Room := { frames := 0, cells := 0, slots := 0, locals := 0 }
abbrev rm_X0_isWhole : Room := { frames := 0, cells := 0, slots := 0, locals := 0 }
abbrev rm_X11_isLength : Room := { frames := 0, cells := 0, slots := 0, locals := 0 }
abbrev rm_X0_turnsAt : Room := { frames := 1, cells := 0, slots := 0, locals := 20 }
abbrev rm_X0_turnsNow : Room := { frames := 2, cells := 0, slots := 0, locals := 41 }
abbrev rm_X0_armAt : Room := { frames := 0, cells := 0, slots := 0, locals := 0 }
abbrev rm_X0_floorAt : Room := { frames := 2, cells := 0, slots := 0, locals := 41 }
abbrev rm_X0_strainAt : Room := { frames := 3, cells := 0, slots := 0, locals := 66 }
abbrev rm_X1_weighs : Room := { frames := 0, cells := 0, slots := 0, locals := 0 }
abbrev rm_X9_hoursHere : Room := { frames := 0, cells := 0, slots := 0, locals := 0 }
abbrev rm_X5_grown : Room := { frames := 1, cells := 0, slots := 0, locals := 21 }
abbrev rm_X4_weighs : Room := { frames := 2, cells := 0, slots := 0, locals := 42 }
abbrev rm_X5_weighs : Room := { frames := 2, cells := 0, slots := 0, locals := 42 }
abbrev rm_X6_at : Room := { frames := 0, cells := 0, slots := 0, locals := 0 }
abbrev rm_X9_weighs : Room := { frames := 0, cells := 0, slots := 0, locals := 0 }
abbrev rm_X6_weighsIn : Room := { frames := 3, cells := 0, slots := 0, locals := 63 }
abbrev rm_X0_armNow : Room := { frames := 4, cells := 0, slots := 0, locals := 88 }
abbrev rm_X0_floorNow : Room := { frames := 4, cells := 0, slots := 0, locals := 88 }
abbrev rm_X0_strainNow : Room := { frames := 4, cells := 0, slots := 0, locals := 89 }
abbrev rm_J9_floorMod_7cf53 : Room := { frames := 0, cells := 0, slots := 0, locals := 0 }
abbrev rm_X0_placeAfter : Room := { frames := 3, cells := 0, slots := 0, locals := 61 }
abbrev rm_X0_goHour : Room := { frames := 5, cells := 0, slots := 0, locals := 110 }
abbrev rm_J9_min_7cf53 : Room := { frames := 0, cells := 0, slots := 0, locals := 0 }
abbrev rm_X0_breakingHundredths : Room := { frames := 5, cells := 0, slots := 0, locals := 110 }
abbrev rm_X9_init : Room := { frames := 1, cells := 0, slots := 0, locals := 12 }
abbrev rm_X1_init : Room := { frames := 2, cells := 0, slots := 0, locals := 35 }
abbrev rm_X1_kind : Room := { frames := 0, cells := 0, slots := 0, locals := 0 }
abbrev rm_J9_abs_0f7a4 : Room := { frames := 0, cells := 0, slots := 0, locals := 0 }
abbrev rm_X2_summed : Room := { frames := 0, cells := 0, slots := 0, locals := 0 }
abbrev rm_X2_gapWith : Room := { frames := 3, cells := 0, slots := 0, locals := 66 }
abbrev rm_X3_goesAcross : Room := { frames := 0, cells := 0, slots := 0, locals := 0 }
abbrev rm_X9_goesAcross : Room := { frames := 0, cells := 0, slots := 0, locals := 0 }
abbrev rm_X2_setUp : Room := { frames := 4, cells := 0, slots := 0, locals := 88 }
abbrev rm_X2_find : Room := { frames := 5, cells := 0, slots := 0, locals := 113 }
abbrev rm_X3_init : Room := { frames := 2, cells := 0, slots := 0, locals := 35 }
abbrev rm_X3_kind : Room := { frames := 0, cells := 0, slots := 0, locals := 0 }
abbrev rm_X5_init : Room := { frames := 2, cells := 0, slots := 0, locals := 35 }
abbrev rm_X4_init : Room := { frames := 3, cells := 0, slots := 0, locals := 58 }
abbrev rm_X4_kind : Room := { frames := 0, cells := 0, slots := 0, locals := 0 }
abbrev rm_X5_kind : Room := { frames := 0, cells := 0, slots := 0, locals := 0 }
abbrev rm_X6_isFull : Room := { frames := 0, cells := 0, slots := 0, locals := 0 }
abbrev rm_X6_put : Room := { frames := 0, cells := 0, slots := 0, locals := 0 }
abbrev rm_X6_cutTo : Room := { frames := 1, cells := 0, slots := 0, locals := 21 }
abbrev rm_X6_keepPlaces : Room := { frames := 1, cells := 0, slots := 0, locals := 21 }
abbrev rm_X6_goBack : Room := { frames := 2, cells := 0, slots := 0, locals := 43 }
abbrev rm_X6_sizeIn : Room := { frames := 1, cells := 0, slots := 0, locals := 21 }
abbrev rm_X7_hasRoomFor : Room := { frames := 0, cells := 0, slots := 0, locals := 0 }
abbrev rm_X7_put : Room := { frames := 0, cells := 0, slots := 0, locals := 0 }
abbrev rm_X7_emptied : Room := { frames := 0, cells := 0, slots := 0, locals := 0 }
abbrev rm_X7_isBetween : Room := { frames := 1, cells := 0, slots := 0, locals := 21 }
abbrev rm_X7_isWireLetter : Room := { frames := 2, cells := 0, slots := 0, locals := 44 }
abbrev rm_X7_firstWrong : Room := { frames := 3, cells := 0, slots := 0, locals := 65 }
abbrev rm_X7_isWire : Room := { frames := 4, cells := 0, slots := 0, locals := 86 }
abbrev rm_X8_begin : Room := { frames := 0, cells := 0, slots := 0, locals := 0 }
abbrev rm_X8_dropBroken : Room := { frames := 4, cells := 0, slots := 0, locals := 89 }
abbrev rm_X8_leastWay : Room := { frames := 3, cells := 0, slots := 0, locals := 66 }
abbrev rm_X11_windingOf : Room := { frames := 0, cells := 0, slots := 0, locals := 0 }
abbrev rm_X8_stepFrom : Room := { frames := 1, cells := 0, slots := 0, locals := 21 }
abbrev rm_X8_step : Room := { frames := 2, cells := 0, slots := 0, locals := 46 }
abbrev rm_X8_find : Room := { frames := 5, cells := 0, slots := 0, locals := 113 }
abbrev rm_X9_kind : Room := { frames := 0, cells := 0, slots := 0, locals := 0 }
abbrev rm_X10_isFull : Room := { frames := 0, cells := 0, slots := 0, locals := 0 }
abbrev rm_X10_put : Room := { frames := 0, cells := 0, slots := 0, locals := 0 }
abbrev rm_X10_emptied : Room := { frames := 0, cells := 0, slots := 0, locals := 0 }
abbrev rm_J9_max_7cf53 : Room := { frames := 0, cells := 0, slots := 0, locals := 0 }
abbrev rm_X10_leastSpin : Room := { frames := 1, cells := 0, slots := 0, locals := 21 }
abbrev rm_X10_greatestSpin : Room := { frames := 1, cells := 0, slots := 0, locals := 21 }
abbrev rm_X11_byteOf : Room := { frames := 0, cells := 0, slots := 0, locals := 0 }
abbrev rm_X11_lettersIn : Room := { frames := 1, cells := 0, slots := 0, locals := 22 }
abbrev rm_X11_letters : Room := { frames := 2, cells := 0, slots := 0, locals := 47 }
abbrev rm_X11_blank : Room := { frames := 1, cells := 0, slots := 0, locals := 21 }
abbrev rm_X11_fault : Room := { frames := 4, cells := 0, slots := 0, locals := 86 }
abbrev rm_X11_wire : Room := { frames := 5, cells := 0, slots := 0, locals := 106 }
abbrev rm_X11_isCabin : Room := { frames := 0, cells := 0, slots := 0, locals := 0 }
abbrev rm_X11_cabin : Room := { frames := 5, cells := 0, slots := 0, locals := 110 }
abbrev rm_X11_isKind : Room := { frames := 0, cells := 0, slots := 0, locals := 0 }
abbrev rm_X11_newThing : Room := { frames := 4, cells := 1, slots := 3, locals := 81 }
abbrev rm_X11_thing : Room := { frames := 5, cells := 1, slots := 3, locals := 104 }
abbrev rm_X11_about : Room := { frames := 3, cells := 0, slots := 0, locals := 63 }
abbrev rm_X11_isOfKind : Room := { frames := 0, cells := 0, slots := 0, locals := 0 }
abbrev rm_X11_as : Room := { frames := 1, cells := 0, slots := 0, locals := 21 }
abbrev rm_X11_carry : Room := { frames := 3, cells := 0, slots := 0, locals := 61 }
abbrev rm_X11_hour : Room := { frames := 6, cells := 0, slots := 0, locals := 132 }
abbrev rm_X11_even : Room := { frames := 6, cells := 0, slots := 0, locals := 139 }
abbrev rm_X11_soonest : Room := { frames := 6, cells := 0, slots := 0, locals := 140 }
abbrev rm_X11_apartOnCircle : Room := { frames := 1, cells := 0, slots := 0, locals := 22 }
abbrev rm_X11_caught : Room := { frames := 4, cells := 0, slots := 0, locals := 82 }
abbrev rm_X11_weighed : Room := { frames := 1, cells := 0, slots := 0, locals := 22 }
abbrev rm_X11_forget : Room := { frames := 1, cells := 0, slots := 0, locals := 21 }
abbrev rm_X11_fits : Room := { frames := 2, cells := 0, slots := 0, locals := 43 }
abbrev rm_X11_power : Room := { frames := 0, cells := 0, slots := 0, locals := 0 }
abbrev rm_X11_reduced : Room := { frames := 0, cells := 0, slots := 0, locals := 0 }
abbrev rm_X11_lasts : Room := { frames := 6, cells := 0, slots := 0, locals := 132 }
abbrev rm_X11_nextSeed : Room := { frames := 0, cells := 0, slots := 0, locals := 0 }
abbrev rm_X11_tryHours : Room := { frames := 6, cells := 0, slots := 0, locals := 132 }
abbrev rm_X11_whirls : Room := { frames := 7, cells := 0, slots := 0, locals := 157 }
abbrev rm_X11_image : Room := { frames := 2, cells := 0, slots := 0, locals := 43 }
abbrev rm_X11_restore : Room := { frames := 3, cells := 0, slots := 0, locals := 65 }
abbrev rm_X11_count : Room := { frames := 5, cells := 0, slots := 0, locals := 110 }
abbrev rm_X11_mixed : Room := { frames := 0, cells := 0, slots := 0, locals := 0 }
abbrev rm_X11_withCabins : Room := { frames := 6, cells := 0, slots := 0, locals := 132 }
abbrev rm_X11_withOutlook : Room := { frames := 7, cells := 0, slots := 0, locals := 162 }
abbrev rm_X11_withThings : Room := { frames := 4, cells := 0, slots := 0, locals := 86 }
abbrev rm_X11_digest : Room := { frames := 8, cells := 0, slots := 0, locals := 187 }
abbrev rm_X12_within : Room := { frames := 0, cells := 0, slots := 0, locals := 0 }
abbrev rm_X12_has : Room := { frames := 0, cells := 0, slots := 0, locals := 0 }
abbrev rm_X12_letters : Room := { frames := 0, cells := 0, slots := 0, locals := 0 }
abbrev rm_X12_blank : Room := { frames := 0, cells := 0, slots := 0, locals := 0 }
abbrev rm_X12_takes : Room := { frames := 1, cells := 0, slots := 0, locals := 22 }
abbrev rm_X12_readWire : Room := { frames := 2, cells := 0, slots := 0, locals := 45 }
abbrev rm_X12_fault : Room := { frames := 3, cells := 0, slots := 0, locals := 66 }
abbrev rm_X12_wire : Room := { frames := 3, cells := 0, slots := 0, locals := 66 }
abbrev rm_X12_weighs : Room := { frames := 0, cells := 0, slots := 0, locals := 0 }
abbrev rm_X12_cabinWeighs : Room := { frames := 1, cells := 0, slots := 0, locals := 23 }
abbrev rm_X12_turnsAt : Room := { frames := 0, cells := 0, slots := 0, locals := 0 }
abbrev rm_X12_armBy : Room := { frames := 2, cells := 0, slots := 0, locals := 49 }
abbrev rm_X12_floorBy : Room := { frames := 3, cells := 0, slots := 0, locals := 76 }
abbrev rm_X12_strainAt : Room := { frames := 4, cells := 0, slots := 0, locals := 100 }
abbrev rm_X12_inCabin : Room := { frames := 0, cells := 0, slots := 0, locals := 0 }
abbrev rm_X12_cabinNow : Room := { frames := 4, cells := 0, slots := 0, locals := 100 }
abbrev rm_X12_cabin : Room := { frames := 5, cells := 0, slots := 0, locals := 122 }
abbrev rm_X12_isThing : Room := { frames := 1, cells := 0, slots := 0, locals := 22 }
abbrev rm_X12_thing : Room := { frames := 1, cells := 0, slots := 0, locals := 22 }
abbrev rm_X12_thingNow : Room := { frames := 1, cells := 0, slots := 0, locals := 23 }
abbrev rm_X12_about : Room := { frames := 2, cells := 0, slots := 0, locals := 45 }
abbrev rm_X12_as : Room := { frames := 2, cells := 0, slots := 0, locals := 43 }
abbrev rm_X12_mayCarry : Room := { frames := 1, cells := 0, slots := 0, locals := 21 }
abbrev rm_X12_carry : Room := { frames := 2, cells := 0, slots := 0, locals := 43 }
abbrev rm_X12_isLength : Room := { frames := 1, cells := 0, slots := 0, locals := 22 }
abbrev rm_X12_mayBe : Room := { frames := 1, cells := 0, slots := 0, locals := 22 }
abbrev rm_X12_goHour : Room := { frames := 5, cells := 0, slots := 0, locals := 122 }
abbrev rm_X12_hour : Room := { frames := 6, cells := 0, slots := 0, locals := 143 }
abbrev rm_X12_sized : Room := { frames := 0, cells := 0, slots := 0, locals := 0 }
abbrev rm_X12_layEven : Room := { frames := 4, cells := 0, slots := 0, locals := 100 }
abbrev rm_X12_evenNow : Room := { frames := 5, cells := 0, slots := 0, locals := 126 }
abbrev rm_X12_even : Room := { frames := 6, cells := 0, slots := 0, locals := 147 }
abbrev rm_X12_by : Room := { frames := 0, cells := 0, slots := 0, locals := 0 }
abbrev rm_X12_goLengths : Room := { frames := 5, cells := 0, slots := 0, locals := 122 }
abbrev rm_X12_firstBy : Room := { frames := 4, cells := 0, slots := 0, locals := 100 }
abbrev rm_X12_soonestNow : Room := { frames := 6, cells := 0, slots := 0, locals := 147 }
abbrev rm_X12_soonest : Room := { frames := 7, cells := 0, slots := 0, locals := 171 }
abbrev rm_X12_caughtNow : Room := { frames := 1, cells := 0, slots := 0, locals := 21 }
abbrev rm_X12_caught : Room := { frames := 2, cells := 0, slots := 0, locals := 47 }
abbrev rm_X12_weighed : Room := { frames := 2, cells := 0, slots := 0, locals := 42 }
abbrev rm_X12_forget : Room := { frames := 0, cells := 0, slots := 0, locals := 0 }
abbrev rm_X12_fitsNow : Room := { frames := 0, cells := 0, slots := 0, locals := 0 }
abbrev rm_X12_fits : Room := { frames := 1, cells := 0, slots := 0, locals := 27 }
abbrev rm_X12_lowest : Room := { frames := 0, cells := 0, slots := 0, locals := 0 }
abbrev rm_X12_breaksBy : Room := { frames := 5, cells := 0, slots := 0, locals := 122 }
abbrev rm_X12_lastsNow : Room := { frames := 6, cells := 0, slots := 0, locals := 145 }
abbrev rm_X12_lasts : Room := { frames := 7, cells := 0, slots := 0, locals := 172 }
abbrev rm_X12_draw : Room := { frames := 0, cells := 0, slots := 0, locals := 0 }
abbrev rm_X12_whirlsNow : Room := { frames := 6, cells := 0, slots := 0, locals := 143 }
abbrev rm_X12_whirls : Room := { frames := 7, cells := 0, slots := 0, locals := 172 }
abbrev rm_X12_image : Room := { frames := 0, cells := 0, slots := 0, locals := 0 }
abbrev rm_X12_restore : Room := { frames := 0, cells := 0, slots := 0, locals := 0 }
abbrev rm_X12_one : Room := { frames := 0, cells := 0, slots := 0, locals := 0 }
abbrev rm_X12_howMany : Room := { frames := 5, cells := 0, slots := 0, locals := 122 }
abbrev rm_X12_count : Room := { frames := 6, cells := 0, slots := 0, locals := 143 }
abbrev rm_X12_mix : Room := { frames := 0, cells := 0, slots := 0, locals := 0 }
abbrev rm_X12_digest : Room := { frames := 7, cells := 0, slots := 0, locals := 172 }
set_option maxHeartbeats 4000000 in
set_option maxRecDepth 100000 in
theorem c_X7_at (l : Launch) (D : va_G) (cy : Nat → ClassId) (A : Nat → Nat) {σ : St} {v1 : Int32} {Φ : Int32 → St → Prop} (hw : wX7_at σ v1 Φ) : CtI l yX7_at (.code yX7_at cX7_at 2 (some .int) :: gL) rm_X7_at 0 0 [.ref (A 1), .int v1] D cy A σ Φ := by
  refine ct_any (fun sz => va_Qi Φ (HE D cy A (gZ cy A σ sz)) (gZ cy A σ sz)) (by decide +kernel) rfl rfl [(0, .ref (A 1)), (1, .int v1)] rfl (Nat.le_of_ble_eq_true rfl) ?_
  intro κ hκl hnm C hK sz F
  subst hκl
  unfold wX7_at at hw
  refine g_iload_n C 1 rfl rfl dX7_at_0 ?_
  refine g_if_lt C 30 (by decide) hw dX7_at_1 (fun hw => ?_) (fun hw => ?_)
  · refine g_iconst (v := (0 : Int32)) C dX7_at_30 (by decide) ?_
    exact gq_I C F (by decide) (by decide) hw dX7_at_31
  · refine g_iload_n C 1 rfl rfl dX7_at_4 ?_
    refine g_aload_n C 0 rfl rfl dX7_at_5 ?_
    refine g_get C hK inX7 rfl 1 (ga_1 cy A _) 1 (by decide) (fun _ h => h) wt_29 rfl dX7_at_6 ?_
    refine g_icmp_ge C 30 (by decide) hw dX7_at_9 (fun hw => ?_) (fun hw => ?_)
    · refine g_iconst (v := (0 : Int32)) C dX7_at_30 (by decide) ?_
      exact gq_I C F (by decide) (by decide) hw dX7_at_31
    · refine g_iload_n C 1 rfl rfl dX7_at_12 ?_
      refine g_aload_n C 0 rfl rfl dX7_at_13 ?_
      refine g_get C hK inX7 rfl 1 (ga_1 cy A _) 0 (by decide) (fun _ h => h) wt_28 rfl dX7_at_14 ?_
      refine g_alen (v := 12) C hK 2 1 (ga_2 cy A _) rfl rfl dX7_at_17 ?_
      refine g_icmp_ge C 30 (by decide) hw dX7_at_18 (fun hw => ?_) (fun hw => ?_)
      · refine g_iconst (v := (0 : Int32)) C dX7_at_30 (by decide) ?_
        exact gq_I C F (by decide) (by decide) hw dX7_at_31
      · refine g_aload_n C 0 rfl rfl dX7_at_21 ?_
        refine g_get C hK inX7 rfl 1 (ga_1 cy A _) 0 (by decide) (fun _ h => h) wt_28 rfl dX7_at_22 ?_
        refine g_iload_n C 1 rfl rfl dX7_at_25 ?_
        refine g_cald C hK 2 1 (ga_2 cy A _) rfl hw.1 dX7_at_26 ?_
        replace hw := hw.2
        refine g_goto C 31 (by decide) dX7_at_27 ?_
        exact gq_I C F (by decide) (by decide) hw dX7_at_31
set_option maxHeartbeats 4000000 in
set_option maxRecDepth 100000 in
theorem c_X7_digitAt (l : Launch) (D : va_G) (cy : Nat → ClassId) (A : Nat → Nat) {σ : St} {v1 : Int32} {Φ : Int32 → St → Prop} (hw : wX7_digitAt σ v1 Φ) : CtI l yX7_digitAt (.code yX7_digitAt cX7_digitAt 2 (some .int) :: gL) rm_X7_digitAt 0 0 [.ref (A 1), .int v1] D cy A σ Φ := by
  refine ct_any (fun sz => va_Qi Φ (HE D cy A (gZ cy A σ sz)) (gZ cy A σ sz)) (by decide +kernel) rfl rfl [(0, .ref (A 1)), (1, .int v1)] rfl (Nat.le_of_ble_eq_true rfl) ?_
  intro κ hκl hnm C hK sz F
  subst hκl
  unfold wX7_digitAt at hw
  refine g_aload_n C 0 rfl rfl dX7_digitAt_0 ?_
  refine g_iload_n C 1 rfl rfl dX7_digitAt_1 ?_
  refine gc_I C (gr_V (As := [.int v1]) (rest := []) C hK 1 (gd_V wt_153 wt_154 wt_155 wt_2 wt_156) rfl rfl rfl ⟨rfl, hs_X7_at⟩ ⟨⟨Nat.le_of_ble_eq_true rfl, Nat.le_of_ble_eq_true rfl⟩, Nat.le_of_ble_eq_true rfl, Nat.le_of_ble_eq_true rfl⟩ rfl 1 (ga_1 cy A _) rfl rfl (Nat.le_of_ble_eq_true rfl) dX7_digitAt_2 (c_X7_at (q_l κ) (q_D κ) cy A hw)) (fun r2 σ1 hw => ?_)
  refine g_bipush (v := (48 : Int32)) C dX7_digitAt_5 (by decide) ?_
  refine g_isub C dX7_digitAt_7 ?_
  exact gq_I C F (by decide) (by decide) hw dX7_digitAt_8
set_option maxHeartbeats 4000000 in
set_option maxRecDepth 100000 in
theorem c_X0_hang (l : Launch) (D : va_G) (cy : Nat → ClassId) (A : Nat → Nat) {σ : St} {k : Nat} (hk : isC k) {Φ : St → Prop} (hw : wX0_hang σ k Φ) : CtV l yX0_hang (.code yX0_hang cX0_hang 2 none :: gL) rm_X0_hang 0 0 [.ref (A k), .ref (A 1)] D cy A σ Φ := by
  refine ct_any (fun sz => va_Qv Φ (HE D cy A (gZ cy A σ sz)) (gZ cy A σ sz)) (by decide +kernel) rfl rfl [(0, .ref (A k)), (1, .ref (A 1))] rfl (Nat.le_of_ble_eq_true rfl) ?_
  intro κ hκl hnm C hK sz F
  subst hκl
  have J81 : ∀ (σ : St) (s0 : Int32), wX0_hang_81 k Φ σ s0 → GW κ 0 0 (gW cy A σ) 81 [(0, .ref (A k))] [.int s0, .ref (A k)] := by
    intro σ s0 hw
    unfold wX0_hang_81 at hw
    refine g_put (v := .int s0) C hK inX0 rfl tyX0 tyX0_ok nmX0 k (ga_c cy A _ hk) 5 (by decide) (fun _ h => h) wt_53 rfl (by rcases hw.1 with e | e <;> rw [e] <;> rfl) (by rcases hw.1 with e | e <;> rw [e] <;> rfl) (Nat.le_of_ble_eq_true rfl) (gp_c_5 cy A _ _ hk) dX0_hang_81 ?_
    replace hw := hw.2
    refine g_aload_n C 0 rfl rfl dX0_hang_84 ?_
    refine g_iconst (v := (0 : Int32)) C dX0_hang_85 (by decide) ?_
    refine g_put (v := .int (0 : Int32)) C hK inX0 rfl tyX0 tyX0_ok nmX0 k (ga_c cy A _ hk) 3 (by decide) (fun _ h => h) wt_47 rfl rfl rfl (Nat.le_of_ble_eq_true rfl) (gp_c_3 cy A _ _ hk) dX0_hang_86 ?_
    refine g_aload_n C 0 rfl rfl dX0_hang_89 ?_
    refine g_iconst (v := (0 : Int32)) C dX0_hang_90 (by decide) ?_
    refine g_put (v := .int (0 : Int32)) C hK inX0 rfl tyX0 tyX0_ok nmX0 k (ga_c cy A _ hk) 4 (by decide) (fun _ h => h) wt_50 rfl rfl rfl (Nat.le_of_ble_eq_true rfl) (gp_c_4 cy A _ _ hk) dX0_hang_91 ?_
    refine g_aload_n C 0 rfl rfl dX0_hang_94 ?_
    refine g_iconst (v := (0 : Int32)) C dX0_hang_95 (by decide) ?_
    refine g_put (v := .int (0 : Int32)) C hK inX0 rfl tyX0 tyX0_ok nmX0 k (ga_c cy A _ hk) 6 (by decide) (fun _ h => h) wt_55 rfl (by rcases hw.1 with e | e <;> rw [e] <;> rfl) (by rcases hw.1 with e | e <;> rw [e] <;> rfl) (Nat.le_of_ble_eq_true rfl) (gp_c_6 cy A _ _ hk) dX0_hang_96 ?_
    replace hw := hw.2
    exact gq_V C F (by decide) (by decide) hw dX0_hang_99
  unfold wX0_hang at hw
  refine g_aload_n C 0 rfl rfl dX0_hang_0 ?_
  refine g_bipush (v := (10 : Int32)) C dX0_hang_1 (by decide) ?_
  refine g_aload_n C 1 rfl rfl dX0_hang_3 ?_
  refine g_iconst (v := (0 : Int32)) C dX0_hang_4 (by decide) ?_
  refine gc_I C (gr_V (As := [.int (0 : Int32)]) (rest := [.int (10 : Int32), .ref (A k)]) C hK 1 (gd_V wt_170 wt_171 wt_172 wt_2 wt_173) rfl rfl rfl ⟨rfl, hs_X7_digitAt⟩ ⟨⟨Nat.le_of_ble_eq_true rfl, Nat.le_of_ble_eq_true rfl⟩, Nat.le_of_ble_eq_true rfl, Nat.le_of_ble_eq_true rfl⟩ rfl 1 (ga_1 cy A _) rfl rfl (Nat.le_of_ble_eq_true rfl) dX0_hang_5 (c_X7_digitAt (q_l κ) (q_D κ) cy A hw)) (fun r2 σ1 hw => ?_)
  refine g_imul C dX0_hang_8 ?_
  refine g_aload_n C 1 rfl rfl dX0_hang_9 ?_
  refine g_iconst (v := (1 : Int32)) C dX0_hang_10 (by decide) ?_
  refine gc_I C (gr_V (As := [.int (1 : Int32)]) (rest := [.int ((10 : Int32) * r2), .ref (A k)]) C hK 1 (gd_V wt_170 wt_171 wt_172 wt_2 wt_173) rfl rfl rfl ⟨rfl, hs_X7_digitAt⟩ ⟨⟨Nat.le_of_ble_eq_true rfl, Nat.le_of_ble_eq_true rfl⟩, Nat.le_of_ble_eq_true rfl, Nat.le_of_ble_eq_true rfl⟩ rfl 1 (ga_1 cy A _) rfl rfl (Nat.le_of_ble_eq_true rfl) dX0_hang_11 (c_X7_digitAt (q_l κ) (q_D κ) cy A hw)) (fun r4 σ3 hw => ?_)
  refine g_iadd C dX0_hang_14 ?_
  refine g_put (v := .int (((10 : Int32) * r2) + r4)) C hK inX0 rfl tyX0 tyX0_ok nmX0 k (ga_c cy A _ hk) 0 (by decide) (fun _ h => h) wt_39 rfl rfl rfl (Nat.le_of_ble_eq_true rfl) (gp_c_0 cy A _ _ hk) dX0_hang_15 ?_
  refine g_aload_n C 0 rfl rfl dX0_hang_18 ?_
  refine g_aload_n C 0 rfl rfl dX0_hang_19 ?_
  refine g_get C hK inX0 rfl k (ga_c cy A _ hk) 0 (by decide) (fun _ h => h) wt_39 rfl dX0_hang_20 ?_
  refine g_aload_n C 0 rfl rfl dX0_hang_23 ?_
  refine g_get C hK inX0 rfl k (ga_c cy A _ hk) 0 (by decide) (fun _ h => h) wt_39 rfl dX0_hang_24 ?_
  refine g_imul C dX0_hang_27 ?_
  refine g_aload_n C 1 rfl rfl dX0_hang_28 ?_
  refine g_iconst (v := (3 : Int32)) C dX0_hang_29 (by decide) ?_
  refine gc_I C (gr_V (As := [.int (3 : Int32)]) (rest := [.int (((sV σ3 k 0 (((10 : Int32) * r2) + r4)).1 k 0) * ((sV σ3 k 0 (((10 : Int32) * r2) + r4)).1 k 0)), .ref (A k)]) C hK 1 (gd_V wt_170 wt_171 wt_172 wt_2 wt_173) rfl rfl rfl ⟨rfl, hs_X7_digitAt⟩ ⟨⟨Nat.le_of_ble_eq_true rfl, Nat.le_of_ble_eq_true rfl⟩, Nat.le_of_ble_eq_true rfl, Nat.le_of_ble_eq_true rfl⟩ rfl 1 (ga_1 cy A _) rfl rfl (Nat.le_of_ble_eq_true rfl) dX0_hang_30 (c_X7_digitAt (q_l κ) (q_D κ) cy A hw)) (fun r6 σ5 hw => ?_)
  refine g_imul C dX0_hang_33 ?_
  refine g_put (v := .int ((((sV σ3 k 0 (((10 : Int32) * r2) + r4)).1 k 0) * ((sV σ3 k 0 (((10 : Int32) * r2) + r4)).1 k 0)) * r6)) C hK inX0 rfl tyX0 tyX0_ok nmX0 k (ga_c cy A _ hk) 1 (by decide) (fun _ h => h) wt_42 rfl rfl rfl (Nat.le_of_ble_eq_true rfl) (gp_c_1 cy A _ _ hk) dX0_hang_34 ?_
  refine g_aload_n C 0 rfl rfl dX0_hang_37 ?_
  refine g_bipush (v := (100 : Int32)) C dX0_hang_38 (by decide) ?_
  refine g_aload_n C 1 rfl rfl dX0_hang_40 ?_
  refine g_iconst (v := (5 : Int32)) C dX0_hang_41 (by decide) ?_
  refine gc_I C (gr_V (As := [.int (5 : Int32)]) (rest := [.int (100 : Int32), .ref (A k)]) C hK 1 (gd_V wt_170 wt_171 wt_172 wt_2 wt_173) rfl rfl rfl ⟨rfl, hs_X7_digitAt⟩ ⟨⟨Nat.le_of_ble_eq_true rfl, Nat.le_of_ble_eq_true rfl⟩, Nat.le_of_ble_eq_true rfl, Nat.le_of_ble_eq_true rfl⟩ rfl 1 (ga_1 cy A _) rfl rfl (Nat.le_of_ble_eq_true rfl) dX0_hang_42 (c_X7_digitAt (q_l κ) (q_D κ) cy A hw)) (fun r8 σ7 hw => ?_)
  refine g_imul C dX0_hang_45 ?_
  refine g_bipush (v := (10 : Int32)) C dX0_hang_46 (by decide) ?_
  refine g_aload_n C 1 rfl rfl dX0_hang_48 ?_
  refine g_bipush (v := (6 : Int32)) C dX0_hang_49 (by decide) ?_
  refine gc_I C (gr_V (As := [.int (6 : Int32)]) (rest := [.int (10 : Int32), .int ((100 : Int32) * r8), .ref (A k)]) C hK 1 (gd_V wt_170 wt_171 wt_172 wt_2 wt_173) rfl rfl rfl ⟨rfl, hs_X7_digitAt⟩ ⟨⟨Nat.le_of_ble_eq_true rfl, Nat.le_of_ble_eq_true rfl⟩, Nat.le_of_ble_eq_true rfl, Nat.le_of_ble_eq_true rfl⟩ rfl 1 (ga_1 cy A _) rfl rfl (Nat.le_of_ble_eq_true rfl) dX0_hang_51 (c_X7_digitAt (q_l κ) (q_D κ) cy A hw)) (fun r10 σ9 hw => ?_)
  refine g_imul C dX0_hang_54 ?_
  refine g_iadd C dX0_hang_55 ?_
  refine g_aload_n C 1 rfl rfl dX0_hang_56 ?_
  refine g_bipush (v := (7 : Int32)) C dX0_hang_57 (by decide) ?_
  refine gc_I C (gr_V (As := [.int (7 : Int32)]) (rest := [.int (((100 : Int32) * r8) + ((10 : Int32) * r10)), .ref (A k)]) C hK 1 (gd_V wt_170 wt_171 wt_172 wt_2 wt_173) rfl rfl rfl ⟨rfl, hs_X7_digitAt⟩ ⟨⟨Nat.le_of_ble_eq_true rfl, Nat.le_of_ble_eq_true rfl⟩, Nat.le_of_ble_eq_true rfl, Nat.le_of_ble_eq_true rfl⟩ rfl 1 (ga_1 cy A _) rfl rfl (Nat.le_of_ble_eq_true rfl) dX0_hang_59 (c_X7_digitAt (q_l κ) (q_D κ) cy A hw)) (fun r12 σ11 hw => ?_)
  refine g_iadd C dX0_hang_62 ?_
  refine g_put (v := .int ((((100 : Int32) * r8) + ((10 : Int32) * r10)) + r12)) C hK inX0 rfl tyX0 tyX0_ok nmX0 k (ga_c cy A _ hk) 2 (by decide) (fun _ h => h) wt_44 rfl rfl rfl (Nat.le_of_ble_eq_true rfl) (gp_c_2 cy A _ _ hk) dX0_hang_63 ?_
  refine g_aload_n C 0 rfl rfl dX0_hang_66 ?_
  refine g_aload_n C 1 rfl rfl dX0_hang_67 ?_
  refine g_get C hK inX7 rfl 1 (ga_1 cy A _) 1 (by decide) (fun _ h => h) wt_31 rfl dX0_hang_68 ?_
  refine g_bipush (v := (8 : Int32)) C dX0_hang_71 (by decide) ?_
  refine g_icmp_le C 80 (by decide) hw dX0_hang_73 (fun hw => ?_) (fun hw => ?_)
  · refine g_iconst (v := (0 : Int32)) C dX0_hang_80 (by decide) ?_
    refine g_eql (lv' := [(0, .ref (A k))]) [0] rfl ?_
    exact J81 (sV σ11 k 2 ((((100 : Int32) * r8) + ((10 : Int32) * r10)) + r12)) (0 : Int32) hw
  · refine g_iconst (v := (1 : Int32)) C dX0_hang_76 (by decide) ?_
    refine g_goto C 81 (by decide) dX0_hang_77 ?_
    refine g_eql (lv' := [(0, .ref (A k))]) [0] rfl ?_
    exact J81 (sV σ11 k 2 ((((100 : Int32) * r8) + ((10 : Int32) * r10)) + r12)) (1 : Int32) hw
set_option maxHeartbeats 4000000 in
set_option maxRecDepth 100000 in
theorem c_X0_becomeLike (l : Launch) (D : va_G) (cy : Nat → ClassId) (A : Nat → Nat) {σ : St} {k : Nat} (hk : isC k) {k2 : Nat} (hk2 : isC k2) {Φ : St → Prop} (hw : wX0_becomeLike σ k k2 Φ) : CtV l yX0_becomeLike (.code yX0_becomeLike cX0_becomeLike 2 none :: gL) rm_X0_becomeLike 0 0 [.ref (A k), .ref (A k2)] D cy A σ Φ := by
  refine ct_any (fun sz => va_Qv Φ (HE D cy A (gZ cy A σ sz)) (gZ cy A σ sz)) (by decide +kernel) rfl rfl [(0, .ref (A k)), (1, .ref (A k2))] rfl (Nat.le_of_ble_eq_true rfl) ?_
  intro κ hκl hnm C hK sz F
  subst hκl
  unfold wX0_becomeLike at hw
  refine g_aload_n C 0 rfl rfl dX0_becomeLike_0 ?_
  refine g_aload_n C 1 rfl rfl dX0_becomeLike_1 ?_
  refine g_get C hK inX0 rfl k2 (ga_c cy A _ hk2) 0 (by decide) (fun _ h => h) wt_39 rfl dX0_becomeLike_2 ?_
  refine g_put (v := .int (σ.1 k2 0)) C hK inX0 rfl tyX0 tyX0_ok nmX0 k (ga_c cy A _ hk) 0 (by decide) (fun _ h => h) wt_39 rfl rfl rfl (Nat.le_of_ble_eq_true rfl) (gp_c_0 cy A _ _ hk) dX0_becomeLike_5 ?_
  refine g_aload_n C 0 rfl rfl dX0_becomeLike_8 ?_
  refine g_aload_n C 1 rfl rfl dX0_becomeLike_9 ?_
  refine g_get C hK inX0 rfl k2 (ga_c cy A _ hk2) 1 (by decide) (fun _ h => h) wt_42 rfl dX0_becomeLike_10 ?_
  refine g_put (v := .int ((sV σ k 0 (σ.1 k2 0)).1 k2 1)) C hK inX0 rfl tyX0 tyX0_ok nmX0 k (ga_c cy A _ hk) 1 (by decide) (fun _ h => h) wt_42 rfl rfl rfl (Nat.le_of_ble_eq_true rfl) (gp_c_1 cy A _ _ hk) dX0_becomeLike_13 ?_
  refine g_aload_n C 0 rfl rfl dX0_becomeLike_16 ?_
  refine g_aload_n C 1 rfl rfl dX0_becomeLike_17 ?_
  refine g_get C hK inX0 rfl k2 (ga_c cy A _ hk2) 2 (by decide) (fun _ h => h) wt_44 rfl dX0_becomeLike_18 ?_
  refine g_put (v := .int ((sV (sV σ k 0 (σ.1 k2 0)) k 1 ((sV σ k 0 (σ.1 k2 0)).1 k2 1)).1 k2 2)) C hK inX0 rfl tyX0 tyX0_ok nmX0 k (ga_c cy A _ hk) 2 (by decide) (fun _ h => h) wt_44 rfl rfl rfl (Nat.le_of_ble_eq_true rfl) (gp_c_2 cy A _ _ hk) dX0_becomeLike_21 ?_
  refine g_aload_n C 0 rfl rfl dX0_becomeLike_24 ?_
  refine g_aload_n C 1 rfl rfl dX0_becomeLike_25 ?_
  refine g_get C hK inX0 rfl k2 (ga_c cy A _ hk2) 3 (by decide) (fun _ h => h) wt_47 rfl dX0_becomeLike_26 ?_
  refine g_put (v := .int ((sV (sV (sV σ k 0 (σ.1 k2 0)) k 1 ((sV σ k 0 (σ.1 k2 0)).1 k2 1)) k 2 ((sV (sV σ k 0 (σ.1 k2 0)) k 1 ((sV σ k 0 (σ.1 k2 0)).1 k2 1)).1 k2 2)).1 k2 3)) C hK inX0 rfl tyX0 tyX0_ok nmX0 k (ga_c cy A _ hk) 3 (by decide) (fun _ h => h) wt_47 rfl rfl rfl (Nat.le_of_ble_eq_true rfl) (gp_c_3 cy A _ _ hk) dX0_becomeLike_29 ?_
  refine g_aload_n C 0 rfl rfl dX0_becomeLike_32 ?_
  refine g_aload_n C 1 rfl rfl dX0_becomeLike_33 ?_
  refine g_get C hK inX0 rfl k2 (ga_c cy A _ hk2) 4 (by decide) (fun _ h => h) wt_50 rfl dX0_becomeLike_34 ?_
  refine g_put (v := .int ((sV (sV (sV (sV σ k 0 (σ.1 k2 0)) k 1 ((sV σ k 0 (σ.1 k2 0)).1 k2 1)) k 2 ((sV (sV σ k 0 (σ.1 k2 0)) k 1 ((sV σ k 0 (σ.1 k2 0)).1 k2 1)).1 k2 2)) k 3 ((sV (sV (sV σ k 0 (σ.1 k2 0)) k 1 ((sV σ k 0 (σ.1 k2 0)).1 k2 1)) k 2 ((sV (sV σ k 0 (σ.1 k2 0)) k 1 ((sV σ k 0 (σ.1 k2 0)).1 k2 1)).1 k2 2)).1 k2 3)).1 k2 4)) C hK inX0 rfl tyX0 tyX0_ok nmX0 k (ga_c cy A _ hk) 4 (by decide) (fun _ h => h) wt_50 rfl rfl rfl (Nat.le_of_ble_eq_true rfl) (gp_c_4 cy A _ _ hk) dX0_becomeLike_37 ?_
  refine g_aload_n C 0 rfl rfl dX0_becomeLike_40 ?_
  refine g_aload_n C 1 rfl rfl dX0_becomeLike_41 ?_
  refine g_get C hK inX0 rfl k2 (ga_c cy A _ hk2) 5 (by decide) (fun _ h => h) wt_53 rfl dX0_becomeLike_42 ?_
  refine g_put (v := .int ((sV (sV (sV (sV (sV σ k 0 (σ.1 k2 0)) k 1 ((sV σ k 0 (σ.1 k2 0)).1 k2 1)) k 2 ((sV (sV σ k 0 (σ.1 k2 0)) k 1 ((sV σ k 0 (σ.1 k2 0)).1 k2 1)).1 k2 2)) k 3 ((sV (sV (sV σ k 0 (σ.1 k2 0)) k 1 ((sV σ k 0 (σ.1 k2 0)).1 k2 1)) k 2 ((sV (sV σ k 0 (σ.1 k2 0)) k 1 ((sV σ k 0 (σ.1 k2 0)).1 k2 1)).1 k2 2)).1 k2 3)) k 4 ((sV (sV (sV (sV σ k 0 (σ.1 k2 0)) k 1 ((sV σ k 0 (σ.1 k2 0)).1 k2 1)) k 2 ((sV (sV σ k 0 (σ.1 k2 0)) k 1 ((sV σ k 0 (σ.1 k2 0)).1 k2 1)).1 k2 2)) k 3 ((sV (sV (sV σ k 0 (σ.1 k2 0)) k 1 ((sV σ k 0 (σ.1 k2 0)).1 k2 1)) k 2 ((sV (sV σ k 0 (σ.1 k2 0)) k 1 ((sV σ k 0 (σ.1 k2 0)).1 k2 1)).1 k2 2)).1 k2 3)).1 k2 4)).1 k2 5)) C hK inX0 rfl tyX0 tyX0_ok nmX0 k (ga_c cy A _ hk) 5 (by decide) (fun _ h => h) wt_53 rfl (by rcases hw.1 with e | e <;> rw [e] <;> rfl) (by rcases hw.1 with e | e <;> rw [e] <;> rfl) (Nat.le_of_ble_eq_true rfl) (gp_c_5 cy A _ _ hk) dX0_becomeLike_45 ?_
  replace hw := hw.2
  refine g_aload_n C 0 rfl rfl dX0_becomeLike_48 ?_
  refine g_aload_n C 1 rfl rfl dX0_becomeLike_49 ?_
  refine g_get C hK inX0 rfl k2 (ga_c cy A _ hk2) 6 (by decide) (fun _ h => h) wt_55 rfl dX0_becomeLike_50 ?_
  refine g_put (v := .int ((sV (sV (sV (sV (sV (sV σ k 0 (σ.1 k2 0)) k 1 ((sV σ k 0 (σ.1 k2 0)).1 k2 1)) k 2 ((sV (sV σ k 0 (σ.1 k2 0)) k 1 ((sV σ k 0 (σ.1 k2 0)).1 k2 1)).1 k2 2)) k 3 ((sV (sV (sV σ k 0 (σ.1 k2 0)) k 1 ((sV σ k 0 (σ.1 k2 0)).1 k2 1)) k 2 ((sV (sV σ k 0 (σ.1 k2 0)) k 1 ((sV σ k 0 (σ.1 k2 0)).1 k2 1)).1 k2 2)).1 k2 3)) k 4 ((sV (sV (sV (sV σ k 0 (σ.1 k2 0)) k 1 ((sV σ k 0 (σ.1 k2 0)).1 k2 1)) k 2 ((sV (sV σ k 0 (σ.1 k2 0)) k 1 ((sV σ k 0 (σ.1 k2 0)).1 k2 1)).1 k2 2)) k 3 ((sV (sV (sV σ k 0 (σ.1 k2 0)) k 1 ((sV σ k 0 (σ.1 k2 0)).1 k2 1)) k 2 ((sV (sV σ k 0 (σ.1 k2 0)) k 1 ((sV σ k 0 (σ.1 k2 0)).1 k2 1)).1 k2 2)).1 k2 3)).1 k2 4)) k 5 ((sV (sV (sV (sV (sV σ k 0 (σ.1 k2 0)) k 1 ((sV σ k 0 (σ.1 k2 0)).1 k2 1)) k 2 ((sV (sV σ k 0 (σ.1 k2 0)) k 1 ((sV σ k 0 (σ.1 k2 0)).1 k2 1)).1 k2 2)) k 3 ((sV (sV (sV σ k 0 (σ.1 k2 0)) k 1 ((sV σ k 0 (σ.1 k2 0)).1 k2 1)) k 2 ((sV (sV σ k 0 (σ.1 k2 0)) k 1 ((sV σ k 0 (σ.1 k2 0)).1 k2 1)).1 k2 2)).1 k2 3)) k 4 ((sV (sV (sV (sV σ k 0 (σ.1 k2 0)) k 1 ((sV σ k 0 (σ.1 k2 0)).1 k2 1)) k 2 ((sV (sV σ k 0 (σ.1 k2 0)) k 1 ((sV σ k 0 (σ.1 k2 0)).1 k2 1)).1 k2 2)) k 3 ((sV (sV (sV σ k 0 (σ.1 k2 0)) k 1 ((sV σ k 0 (σ.1 k2 0)).1 k2 1)) k 2 ((sV (sV σ k 0 (σ.1 k2 0)) k 1 ((sV σ k 0 (σ.1 k2 0)).1 k2 1)).1 k2 2)).1 k2 3)).1 k2 4)).1 k2 5)).1 k2 6)) C hK inX0 rfl tyX0 tyX0_ok nmX0 k (ga_c cy A _ hk) 6 (by decide) (fun _ h => h) wt_55 rfl (by rcases hw.1 with e | e <;> rw [e] <;> rfl) (by rcases hw.1 with e | e <;> rw [e] <;> rfl) (Nat.le_of_ble_eq_true rfl) (gp_c_6 cy A _ _ hk) dX0_becomeLike_53 ?_
  replace hw := hw.2
  exact gq_V C F (by decide) (by decide) hw dX0_becomeLike_56
set_option maxHeartbeats 4000000 in
set_option maxRecDepth 100000 in
theorem c_X0_isThere (l : Launch) (D : va_G) (cy : Nat → ClassId) (A : Nat → Nat) {σ : St} {k : Nat} (hk : isC k) {Φ : Int32 → St → Prop} (hw : wX0_isThere σ k Φ) : CtI l yX0_isThere (.code yX0_isThere cX0_isThere 1 (some .boolean) :: gL) rm_X0_isThere 0 0 [.ref (A k)] D cy A σ Φ := by
  refine ct_any (fun sz => va_Qi Φ (HE D cy A (gZ cy A σ sz)) (gZ cy A σ sz)) (by decide +kernel) rfl rfl [(0, .ref (A k))] rfl (Nat.le_of_ble_eq_true rfl) ?_
  intro κ hκl hnm C hK sz F
  subst hκl
  unfold wX0_isThere at hw
  refine g_aload_n C 0 rfl rfl dX0_isThere_0 ?_
  refine g_get C hK inX0 rfl k (ga_c cy A _ hk) 0 (by decide) (fun _ h => h) wt_39 rfl dX0_isThere_1 ?_
  refine g_if_le C 11 (by decide) hw dX0_isThere_4 (fun hw => ?_) (fun hw => ?_)
  · refine g_iconst (v := (0 : Int32)) C dX0_isThere_11 (by decide) ?_
    exact gq_Z C F (by decide) (by decide) hw dX0_isThere_12
  · refine g_iconst (v := (1 : Int32)) C dX0_isThere_7 (by decide) ?_
    refine g_goto C 12 (by decide) dX0_isThere_8 ?_
    exact gq_Z C F (by decide) (by decide) hw dX0_isThere_12
set_option maxHeartbeats 4000000 in
set_option maxRecDepth 100000 in
theorem c_X0_isWhole (l : Launch) (D : va_G) (cy : Nat → ClassId) (A : Nat → Nat) {σ : St} {k : Nat} (hk : isC k) {Φ : Int32 → St → Prop} (hw : wX0_isWhole σ k Φ) : CtI l yX0_isWhole (.code yX0_isWhole cX0_isWhole 1 (some .boolean) :: gL) rm_X0_isWhole 0 0 [.ref (A k)] D cy A σ Φ := by
  refine ct_any (fun sz => va_Qi Φ (HE D cy A (gZ cy A σ sz)) (gZ cy A σ sz)) (by decide +kernel) rfl rfl [(0, .ref (A k))] rfl (Nat.le_of_ble_eq_true rfl) ?_
  intro κ hκl hnm C hK sz F
  subst hκl
  unfold wX0_isWhole at hw
  refine g_aload_n C 0 rfl rfl dX0_isWhole_0 ?_
  refine g_get C hK inX0 rfl k (ga_c cy A _ hk) 0 (by decide) (fun _ h => h) wt_39 rfl dX0_isWhole_1 ?_
  refine g_if_le C 18 (by decide) hw dX0_isWhole_4 (fun hw => ?_) (fun hw => ?_)
  · refine g_iconst (v := (0 : Int32)) C dX0_isWhole_18 (by decide) ?_
    exact gq_Z C F (by decide) (by decide) hw dX0_isWhole_19
  · refine g_aload_n C 0 rfl rfl dX0_isWhole_7 ?_
    refine g_get C hK inX0 rfl k (ga_c cy A _ hk) 6 (by decide) (fun _ h => h) wt_55 rfl dX0_isWhole_8 ?_
    refine g_if_ne C 18 (by decide) hw dX0_isWhole_11 (fun hw => ?_) (fun hw => ?_)
    · refine g_iconst (v := (0 : Int32)) C dX0_isWhole_18 (by decide) ?_
      exact gq_Z C F (by decide) (by decide) hw dX0_isWhole_19
    · refine g_iconst (v := (1 : Int32)) C dX0_isWhole_14 (by decide) ?_
      refine g_goto C 19 (by decide) dX0_isWhole_15 ?_
      exact gq_Z C F (by decide) (by decide) hw dX0_isWhole_19
set_option maxHeartbeats 4000000 in
set_option maxRecDepth 100000 in
theorem c_X11_isLength (l : Launch) (D : va_G) (cy : Nat → ClassId) (A : Nat → Nat) {σ : St} {v0 : Int32} {Φ : Int32 → St → Prop} (hw : wX11_isLength σ v0 Φ) : CtI l yX11_isLength (.code yX11_isLength cX11_isLength 1 (some .boolean) :: gL) rm_X11_isLength 0 0 [.int v0] D cy A σ Φ := by
  refine ct_any (fun sz => va_Qi Φ (HE D cy A (gZ cy A σ sz)) (gZ cy A σ sz)) (by decide +kernel) rfl rfl [(0, .int v0)] rfl (Nat.le_of_ble_eq_true rfl) ?_
  intro κ hκl hnm C hK sz F
  subst hκl
  unfold wX11_isLength at hw
  refine g_iload_n C 0 rfl rfl dX11_isLength_0 ?_
  refine g_bipush (v := (10 : Int32)) C dX11_isLength_1 (by decide) ?_
  refine g_icmp_lt C 16 (by decide) hw dX11_isLength_3 (fun hw => ?_) (fun hw => ?_)
  · refine g_iconst (v := (0 : Int32)) C dX11_isLength_16 (by decide) ?_
    exact gq_Z C F (by decide) (by decide) hw dX11_isLength_17
  · refine g_iload_n C 0 rfl rfl dX11_isLength_6 ?_
    refine g_bipush (v := (40 : Int32)) C dX11_isLength_7 (by decide) ?_
    refine g_icmp_gt C 16 (by decide) hw dX11_isLength_9 (fun hw => ?_) (fun hw => ?_)
    · refine g_iconst (v := (0 : Int32)) C dX11_isLength_16 (by decide) ?_
      exact gq_Z C F (by decide) (by decide) hw dX11_isLength_17
    · refine g_iconst (v := (1 : Int32)) C dX11_isLength_12 (by decide) ?_
      refine g_goto C 17 (by decide) dX11_isLength_13 ?_
      exact gq_Z C F (by decide) (by decide) hw dX11_isLength_17
set_option maxHeartbeats 4000000 in
set_option maxRecDepth 100000 in
theorem c_X0_turnsAt (l : Launch) (D : va_G) (cy : Nat → ClassId) (A : Nat → Nat) {σ : St} {k : Nat} (hk : isC k) {v1 : Int32} {Φ : Int32 → St → Prop} (hw : wX0_turnsAt σ k v1 Φ) : CtI l yX0_turnsAt (.code yX0_turnsAt cX0_turnsAt 2 (some .int) :: gL) rm_X0_turnsAt 0 0 [.ref (A k), .int v1] D cy A σ Φ := by
  refine ct_any (fun sz => va_Qi Φ (HE D cy A (gZ cy A σ sz)) (gZ cy A σ sz)) (by decide +kernel) rfl rfl [(0, .ref (A k)), (1, .int v1)] rfl (Nat.le_of_ble_eq_true rfl) ?_
  intro κ hκl hnm C hK sz F
  subst hκl
  unfold wX0_turnsAt at hw
  refine g_iload_n C 1 rfl rfl dX0_turnsAt_0 ?_
  refine gc_I C (gr_SN (As := [.int v1]) (rest := []) (host := RX11) C hK 1 (gd_N wt_253) rfl rfl rfl (by decide +kernel) wt_1 wt_252 hs_X11_isLength ⟨⟨Nat.le_of_ble_eq_true rfl, Nat.le_of_ble_eq_true rfl⟩, Nat.le_of_ble_eq_true rfl, Nat.le_of_ble_eq_true rfl⟩ rfl rfl (Nat.le_of_ble_eq_true rfl) dX0_turnsAt_1 (c_X11_isLength (q_l κ) (q_D κ) cy A hw)) (fun r2 σ1 hw => ?_)
  refine g_if_eq C 18 (by decide) hw dX0_turnsAt_4 (fun hw => ?_) (fun hw => ?_)
  · refine g_iconst (v := (0 : Int32)) C dX0_turnsAt_18 (by decide) ?_
    exact gq_I C F (by decide) (by decide) hw dX0_turnsAt_19
  · refine g_aload_n C 0 rfl rfl dX0_turnsAt_7 ?_
    refine g_get C hK inX0 rfl k (ga_c cy A _ hk) 1 (by decide) (fun _ h => h) wt_42 rfl dX0_turnsAt_8 ?_
    refine g_iload_n C 1 rfl rfl dX0_turnsAt_11 ?_
    refine g_iload_n C 1 rfl rfl dX0_turnsAt_12 ?_
    refine g_imul C dX0_turnsAt_13 ?_
    refine g_idiv C hw.1 dX0_turnsAt_14 ?_
    replace hw := hw.2
    refine g_goto C 19 (by decide) dX0_turnsAt_15 ?_
    exact gq_I C F (by decide) (by decide) hw dX0_turnsAt_19
set_option maxHeartbeats 4000000 in
set_option maxRecDepth 100000 in
theorem c_X0_turnsNow (l : Launch) (D : va_G) (cy : Nat → ClassId) (A : Nat → Nat) {σ : St} {k : Nat} (hk : isC k) {Φ : Int32 → St → Prop} (hw : wX0_turnsNow σ k Φ) : CtI l yX0_turnsNow (.code yX0_turnsNow cX0_turnsNow 1 (some .int) :: gL) rm_X0_turnsNow 0 0 [.ref (A k)] D cy A σ Φ := by
  refine ct_any (fun sz => va_Qi Φ (HE D cy A (gZ cy A σ sz)) (gZ cy A σ sz)) (by decide +kernel) rfl rfl [(0, .ref (A k))] rfl (Nat.le_of_ble_eq_true rfl) ?_
  intro κ hκl hnm C hK sz F
  subst hκl
  unfold wX0_turnsNow at hw
  refine g_aload_n C 0 rfl rfl dX0_turnsNow_0 ?_
  refine g_aload_n C 0 rfl rfl dX0_turnsNow_1 ?_
  refine g_get C hK inX0 rfl k (ga_c cy A _ hk) 0 (by decide) (fun _ h => h) wt_39 rfl dX0_turnsNow_2 ?_
  refine gc_I C (gr_V (As := [.int (σ.1 k 0)]) (rest := []) C hK 1 (gd_V wt_248 wt_249 wt_250 wt_3 wt_251) rfl rfl rfl ⟨rfl, hs_X0_turnsAt⟩ ⟨⟨Nat.le_of_ble_eq_true rfl, Nat.le_of_ble_eq_true rfl⟩, Nat.le_of_ble_eq_true rfl, Nat.le_of_ble_eq_true rfl⟩ rfl k (ga_c cy A _ hk) rfl rfl (Nat.le_of_ble_eq_true rfl) dX0_turnsNow_5 (c_X0_turnsAt (q_l κ) (q_D κ) cy A hk hw)) (fun r2 σ1 hw => ?_)
  exact gq_I C F (by decide) (by decide) hw dX0_turnsNow_8
set_option maxHeartbeats 4000000 in
set_option maxRecDepth 100000 in
theorem c_X0_armAt (l : Launch) (D : va_G) (cy : Nat → ClassId) (A : Nat → Nat) {σ : St} {k : Nat} (hk : isC k) {v1 : Int32} {v2 : Int32} {v3 : Int32} {v4 : Int32} {Φ : Int32 → St → Prop} (hw : wX0_armAt σ k v1 v2 v3 v4 Φ) : CtI l yX0_armAt (.code yX0_armAt cX0_armAt 7 (some .int) :: gL) rm_X0_armAt 0 0 [.ref (A k), .int v1, .int v2, .int v3, .int v4] D cy A σ Φ := by
  refine ct_any (fun sz => va_Qi Φ (HE D cy A (gZ cy A σ sz)) (gZ cy A σ sz)) (by decide +kernel) rfl rfl [(0, .ref (A k)), (1, .int v1), (2, .int v2), (3, .int v3), (4, .int v4)] rfl (Nat.le_of_ble_eq_true rfl) ?_
  intro κ hκl hnm C hK sz F
  subst hκl
  have J22 : ∀ (σ : St) (v1 : Int32) (v2 : Int32) (s0 : Int32), wX0_armAt_22 k Φ σ v1 v2 s0 → GW κ 0 0 (gW cy A σ) 22 [(1, .int v1), (2, .int v2)] [.int s0] := by
    intro σ v1 v2 s0 hw
    unfold wX0_armAt_22 at hw
    refine g_istore C [(6, .int s0), (1, .int v1), (2, .int v2)] F.2.2.2.1 (by decide) rfl dX0_armAt_22 ?_
    refine g_iload_n C 1 rfl rfl dX0_armAt_24 ?_
    refine g_if_ne C 33 (by decide) hw dX0_armAt_25 (fun hw => ?_) (fun hw => ?_)
    · refine g_iload_n C 2 rfl rfl dX0_armAt_33 ?_
      refine g_iload C 0 rfl dX0_armAt_34 ?_
      refine g_isub C dX0_armAt_36 ?_
      exact gq_I C F (by decide) (by decide) hw dX0_armAt_37
    · refine g_iload C 0 rfl dX0_armAt_28 ?_
      refine g_goto C 37 (by decide) dX0_armAt_30 ?_
      exact gq_I C F (by decide) (by decide) hw dX0_armAt_37
  unfold wX0_armAt at hw
  refine g_iload_n C 3 rfl rfl dX0_armAt_0 ?_
  refine g_iload C 4 rfl dX0_armAt_1 ?_
  refine g_iadd C dX0_armAt_3 ?_
  refine g_istore C [(5, .int (v3 + v4)), (0, .ref (A k)), (1, .int v1), (2, .int v2), (3, .int v3), (4, .int v4)] F.2.2.2.1 (by decide) rfl dX0_armAt_4 ?_
  refine g_iload C 0 rfl dX0_armAt_6 ?_
  refine g_if_le C 21 (by decide) hw dX0_armAt_8 (fun hw => ?_) (fun hw => ?_)
  · refine g_iconst (v := (0 : Int32)) C dX0_armAt_21 (by decide) ?_
    refine g_eql (lv' := [(1, .int v1), (2, .int v2)]) [2, 3] rfl ?_
    exact J22 σ v1 v2 (0 : Int32) hw
  · refine g_iload_n C 3 rfl rfl dX0_armAt_11 ?_
    refine g_iload C 5 rfl dX0_armAt_12 ?_
    refine g_imul C dX0_armAt_14 ?_
    refine g_iload C 0 rfl dX0_armAt_15 ?_
    refine g_idiv C hw.1 dX0_armAt_17 ?_
    replace hw := hw.2
    refine g_goto C 22 (by decide) dX0_armAt_18 ?_
    refine g_eql (lv' := [(1, .int v1), (2, .int v2)]) [2, 3] rfl ?_
    exact J22 σ v1 v2 ((v2 * v4) / (v3 + v4)) hw
set_option maxHeartbeats 4000000 in
set_option maxRecDepth 100000 in
theorem c_X0_floorAt (l : Launch) (D : va_G) (cy : Nat → ClassId) (A : Nat → Nat) {σ : St} {k : Nat} (hk : isC k) {v1 : Int32} {v2 : Int32} {v3 : Int32} {v4 : Int32} {Φ : Int32 → St → Prop} (hw : wX0_floorAt σ k v1 v2 v3 v4 Φ) : CtI l yX0_floorAt (.code yX0_floorAt cX0_floorAt 6 (some .int) :: gL) rm_X0_floorAt 0 0 [.ref (A k), .int v1, .int v2, .int v3, .int v4] D cy A σ Φ := by
  refine ct_any (fun sz => va_Qi Φ (HE D cy A (gZ cy A σ sz)) (gZ cy A σ sz)) (by decide +kernel) rfl rfl [(0, .ref (A k)), (1, .int v1), (2, .int v2), (3, .int v3), (4, .int v4)] rfl (Nat.le_of_ble_eq_true rfl) ?_
  intro κ hκl hnm C hK sz F
  subst hκl
  unfold wX0_floorAt at hw
  refine g_aload_n C 0 rfl rfl dX0_floorAt_0 ?_
  refine g_iload_n C 2 rfl rfl dX0_floorAt_1 ?_
  refine gc_I C (gr_V (As := [.int v2]) (rest := []) C hK 1 (gd_V wt_248 wt_249 wt_250 wt_3 wt_251) rfl rfl rfl ⟨rfl, hs_X0_turnsAt⟩ ⟨⟨Nat.le_of_ble_eq_true rfl, Nat.le_of_ble_eq_true rfl⟩, Nat.le_of_ble_eq_true rfl, Nat.le_of_ble_eq_true rfl⟩ rfl k (ga_c cy A _ hk) rfl rfl (Nat.le_of_ble_eq_true rfl) dX0_floorAt_2 (c_X0_turnsAt (q_l κ) (q_D κ) cy A hk hw)) (fun r2 σ1 hw => ?_)
  refine g_istore C [(5, .int r2), (0, .ref (A k)), (1, .int v1), (2, .int v2), (3, .int v3), (4, .int v4)] F.2.2.2.1 (by decide) rfl dX0_floorAt_5 ?_
  refine g_aload_n C 1 rfl rfl dX0_floorAt_7 ?_
  refine g_iload_n C 2 rfl rfl dX0_floorAt_8 ?_
  refine g_iload_n C 3 rfl rfl dX0_floorAt_9 ?_
  refine g_iload_n C 4 rfl rfl dX0_floorAt_10 ?_
  refine g_iload C 5 rfl dX0_floorAt_11 ?_
  refine gc_I C (gr_V (As := [.int v1, .int v2, .int v3, .int v4]) (rest := []) C hK 4 (gd_V wt_236 wt_237 wt_238 wt_3 wt_239) rfl rfl rfl ⟨rfl, hs_X0_armAt⟩ ⟨⟨Nat.le_of_ble_eq_true rfl, Nat.le_of_ble_eq_true rfl⟩, Nat.le_of_ble_eq_true rfl, Nat.le_of_ble_eq_true rfl⟩ rfl k (ga_c cy A _ hk) rfl rfl (Nat.le_of_ble_eq_true rfl) dX0_floorAt_13 (c_X0_armAt (q_l κ) (q_D κ) cy A hk hw)) (fun r4 σ3 hw => ?_)
  refine g_iload C 0 rfl dX0_floorAt_16 ?_
  refine g_imul C dX0_floorAt_18 ?_
  refine g_iload C 0 rfl dX0_floorAt_19 ?_
  refine g_imul C dX0_floorAt_21 ?_
  exact gq_I C F (by decide) (by decide) hw dX0_floorAt_22
set_option maxHeartbeats 4000000 in
set_option maxRecDepth 100000 in
theorem c_X0_strainAt (l : Launch) (D : va_G) (cy : Nat → ClassId) (A : Nat → Nat) {σ : St} {k : Nat} (hk : isC k) {v1 : Int32} {v2 : Int32} {v3 : Int32} {Φ : Int32 → St → Prop} (hw : wX0_strainAt σ k v1 v2 v3 Φ) : CtI l yX0_strainAt (.code yX0_strainAt cX0_strainAt 4 (some .int) :: gL) rm_X0_strainAt 0 0 [.ref (A k), .int v1, .int v2, .int v3] D cy A σ Φ := by
  refine ct_any (fun sz => va_Qi Φ (HE D cy A (gZ cy A σ sz)) (gZ cy A σ sz)) (by decide +kernel) rfl rfl [(0, .ref (A k)), (1, .int v1), (2, .int v2), (3, .int v3)] rfl (Nat.le_of_ble_eq_true rfl) ?_
  intro κ hκl hnm C hK sz F
  subst hκl
  unfold wX0_strainAt at hw
  refine g_iload_n C 2 rfl rfl dX0_strainAt_0 ?_
  refine g_aload_n C 0 rfl rfl dX0_strainAt_1 ?_
  refine g_iconst (v := (0 : Int32)) C dX0_strainAt_2 (by decide) ?_
  refine g_iload_n C 1 rfl rfl dX0_strainAt_3 ?_
  refine g_iload_n C 2 rfl rfl dX0_strainAt_4 ?_
  refine g_iload_n C 3 rfl rfl dX0_strainAt_5 ?_
  refine gc_I C (gr_V (As := [.int (0 : Int32), .int v1, .int v2, .int v3]) (rest := [.int v2]) C hK 4 (gd_V wt_244 wt_245 wt_246 wt_3 wt_247) rfl rfl rfl ⟨rfl, hs_X0_floorAt⟩ ⟨⟨Nat.le_of_ble_eq_true rfl, Nat.le_of_ble_eq_true rfl⟩, Nat.le_of_ble_eq_true rfl, Nat.le_of_ble_eq_true rfl⟩ rfl k (ga_c cy A _ hk) rfl rfl (Nat.le_of_ble_eq_true rfl) dX0_strainAt_6 (c_X0_floorAt (q_l κ) (q_D κ) cy A hk hw)) (fun r2 σ1 hw => ?_)
  refine g_imul C dX0_strainAt_9 ?_
  refine g_bipush (v := (100 : Int32)) C dX0_strainAt_10 (by decide) ?_
  refine g_idiv C hw.1 dX0_strainAt_12 ?_
  replace hw := hw.2
  exact gq_I C F (by decide) (by decide) hw dX0_strainAt_13
set_option maxHeartbeats 4000000 in
set_option maxRecDepth 100000 in
theorem c_X1_weighs (l : Launch) (D : va_G) (cy : Nat → ClassId) (A : Nat → Nat) {σ : St} {a0 : Nat} {v1 : Int32} {Φ : Int32 → St → Prop} (hw : wX1_weighs σ a0 v1 Φ) : CtI l yX1_weighs (.code yX1_weighs cX1_weighs 2 (some .int) :: gL) rm_X1_weighs 0 0 [.ref a0, .int v1] D cy A σ Φ := by
  refine ct_any (fun sz => va_Qi Φ (HE D cy A (gZ cy A σ sz)) (gZ cy A σ sz)) (by decide +kernel) rfl rfl [(0, .ref a0), (1, .int v1)] rfl (Nat.le_of_ble_eq_true rfl) ?_
  intro κ hκl hnm C hK sz F
  subst hκl
  unfold wX1_weighs at hw
  refine g_aload_n C 0 rfl rfl dX1_weighs_0 ?_
  refine g_getT0 C hK hw.1 (fun x9 h9 => u_same (C.2.2.2.2.1 _ wt_283) x9 h9) wt_282 dX1_weighs_1 ?_
  replace hw := hw.2
  refine g_iconst (v := (2 : Int32)) C dX1_weighs_4 (by decide) ?_
  refine g_iadd C dX1_weighs_5 ?_
  exact gq_I C F (by decide) (by decide) hw dX1_weighs_6
set_option maxHeartbeats 4000000 in
set_option maxRecDepth 100000 in
theorem c_X9_hoursHere (l : Launch) (D : va_G) (cy : Nat → ClassId) (A : Nat → Nat) {σ : St} {a0 : Nat} {v1 : Int32} {Φ : Int32 → St → Prop} (hw : wX9_hoursHere σ a0 v1 Φ) : CtI l yX9_hoursHere (.code yX9_hoursHere cX9_hoursHere 2 (some .int) :: gL) rm_X9_hoursHere 0 0 [.ref a0, .int v1] D cy A σ Φ := by
  refine ct_any (fun sz => va_Qi Φ (HE D cy A (gZ cy A σ sz)) (gZ cy A σ sz)) (by decide +kernel) rfl rfl [(0, .ref a0), (1, .int v1)] rfl (Nat.le_of_ble_eq_true rfl) ?_
  intro κ hκl hnm C hK sz F
  subst hκl
  unfold wX9_hoursHere at hw
  refine g_iload_n C 1 rfl rfl dX9_hoursHere_0 ?_
  refine g_aload_n C 0 rfl rfl dX9_hoursHere_1 ?_
  refine g_getT1 C hK hw.1 (fun _ h => h) wt_289 dX9_hoursHere_2 ?_
  replace hw := hw.2
  refine g_isub C dX9_hoursHere_5 ?_
  exact gq_I C F (by decide) (by decide) hw dX9_hoursHere_6
set_option maxHeartbeats 4000000 in
set_option maxRecDepth 100000 in
theorem c_X5_grown (l : Launch) (D : va_G) (cy : Nat → ClassId) (A : Nat → Nat) {σ : St} {a0 : Nat} {v1 : Int32} {Φ : Int32 → St → Prop} (hw : wX5_grown σ a0 v1 Φ) : CtI l yX5_grown (.code yX5_grown cX5_grown 2 (some .int) :: gL) rm_X5_grown 0 0 [.ref a0, .int v1] D cy A σ Φ := by
  refine ct_any (fun sz => va_Qi Φ (HE D cy A (gZ cy A σ sz)) (gZ cy A σ sz)) (by decide +kernel) rfl rfl [(0, .ref a0), (1, .int v1)] rfl (Nat.le_of_ble_eq_true rfl) ?_
  intro κ hκl hnm C hK sz F
  subst hκl
  unfold wX5_grown at hw
  refine g_aload_n C 0 rfl rfl dX5_grown_0 ?_
  refine g_iload_n C 1 rfl rfl dX5_grown_1 ?_
  have hn : ∀ (r1 : Int32) (σ2 : St), ((¬ (6 : Int32) = 0) ∧ Φ (r1 / (6 : Int32)) σ2) → GW κ 0 0 (gW cy A σ2) 5 [(0, .ref a0), (1, .int v1)] [.int r1] := by
    intro r1 σ2 hw
    refine g_bipush (v := (6 : Int32)) C dX5_grown_5 (by decide) ?_
    refine g_idiv C hw.1 dX5_grown_7 ?_
    replace hw := hw.2
    exact gq_I C F (by decide) (by decide) hw dX5_grown_8
  obtain ⟨h8, hw⟩ := hw
  rcases hw with ⟨h9, hw⟩ | ⟨h9, hw⟩
  · obtain ⟨q9, -, h9⟩ := ga_T cy A _ h8 h9
    exact gc_I C (gr_U (As := [.int v1]) (rest := []) C hK 1 (gd_U wt_220 wt_221 wt_222 wt_224 wt_10 wt_225) rfl rfl rfl rfl hs_X9_hoursHere ⟨⟨Nat.le_of_ble_eq_true rfl, Nat.le_of_ble_eq_true rfl⟩, Nat.le_of_ble_eq_true rfl, Nat.le_of_ble_eq_true rfl⟩ rfl q9 h9 rfl rfl (Nat.le_of_ble_eq_true rfl) dX5_grown_2 (c_X9_hoursHere (q_l κ) (q_D κ) cy A hw)) hn
  · obtain ⟨q9, -, h9⟩ := ga_T cy A _ h8 h9
    exact gc_I C (gr_U (As := [.int v1]) (rest := []) C hK 1 (gd_U wt_220 wt_221 wt_223 wt_224 wt_10 wt_225) rfl rfl rfl rfl hs_X9_hoursHere ⟨⟨Nat.le_of_ble_eq_true rfl, Nat.le_of_ble_eq_true rfl⟩, Nat.le_of_ble_eq_true rfl, Nat.le_of_ble_eq_true rfl⟩ rfl q9 h9 rfl rfl (Nat.le_of_ble_eq_true rfl) dX5_grown_2 (c_X9_hoursHere (q_l κ) (q_D κ) cy A hw)) hn
set_option maxHeartbeats 4000000 in
set_option maxRecDepth 100000 in
theorem c_X4_weighs (l : Launch) (D : va_G) (cy : Nat → ClassId) (A : Nat → Nat) {σ : St} {a0 : Nat} {v1 : Int32} {Φ : Int32 → St → Prop} (hw : wX4_weighs σ a0 v1 Φ) : CtI l yX4_weighs (.code yX4_weighs cX4_weighs 2 (some .int) :: gL) rm_X4_weighs 0 0 [.ref a0, .int v1] D cy A σ Φ := by
  refine ct_any (fun sz => va_Qi Φ (HE D cy A (gZ cy A σ sz)) (gZ cy A σ sz)) (by decide +kernel) rfl rfl [(0, .ref a0), (1, .int v1)] rfl (Nat.le_of_ble_eq_true rfl) ?_
  intro κ hκl hnm C hK sz F
  subst hκl
  unfold wX4_weighs at hw
  refine g_aload_n C 0 rfl rfl dX4_weighs_0 ?_
  refine g_getT0 C hK hw.1 (fun x9 h9 => u_same (C.2.2.2.2.1 _ wt_285) x9 h9) wt_284 dX4_weighs_1 ?_
  replace hw := hw.2
  refine g_iconst (v := (2 : Int32)) C dX4_weighs_4 (by decide) ?_
  refine g_aload_n C 0 rfl rfl dX4_weighs_5 ?_
  refine g_iload_n C 1 rfl rfl dX4_weighs_6 ?_
  have hn : ∀ (r1 : Int32) (σ2 : St), (Φ ((σ.2.2.2.2.2 a0 0) + ((2 : Int32) * r1)) σ2) → GW κ 0 0 (gW cy A σ2) 10 [(0, .ref a0), (1, .int v1)] [.int r1, .int (2 : Int32), .int (σ.2.2.2.2.2 a0 0)] := by
    intro r1 σ2 hw
    refine g_imul C dX4_weighs_10 ?_
    refine g_iadd C dX4_weighs_11 ?_
    exact gq_I C F (by decide) (by decide) hw dX4_weighs_12
  obtain ⟨h8, hw⟩ := hw
  rcases hw with ⟨h9, hw⟩
  · obtain ⟨q9, -, h9⟩ := ga_T cy A _ h8 h9
    exact gc_I C (gr_U (As := [.int v1]) (rest := [.int (2 : Int32), .int (σ.2.2.2.2.2 a0 0)]) C hK 1 (gd_U wt_215 wt_216 wt_217 wt_218 wt_13 wt_219) rfl rfl rfl rfl hs_X5_grown ⟨⟨Nat.le_of_ble_eq_true rfl, Nat.le_of_ble_eq_true rfl⟩, Nat.le_of_ble_eq_true rfl, Nat.le_of_ble_eq_true rfl⟩ rfl q9 h9 rfl rfl (Nat.le_of_ble_eq_true rfl) dX4_weighs_7 (c_X5_grown (q_l κ) (q_D κ) cy A hw)) hn
set_option maxHeartbeats 4000000 in
set_option maxRecDepth 100000 in
theorem c_X5_weighs (l : Launch) (D : va_G) (cy : Nat → ClassId) (A : Nat → Nat) {σ : St} {a0 : Nat} {v1 : Int32} {Φ : Int32 → St → Prop} (hw : wX5_weighs σ a0 v1 Φ) : CtI l yX5_weighs (.code yX5_weighs cX5_weighs 2 (some .int) :: gL) rm_X5_weighs 0 0 [.ref a0, .int v1] D cy A σ Φ := by
  refine ct_any (fun sz => va_Qi Φ (HE D cy A (gZ cy A σ sz)) (gZ cy A σ sz)) (by decide +kernel) rfl rfl [(0, .ref a0), (1, .int v1)] rfl (Nat.le_of_ble_eq_true rfl) ?_
  intro κ hκl hnm C hK sz F
  subst hκl
  unfold wX5_weighs at hw
  refine g_aload_n C 0 rfl rfl dX5_weighs_0 ?_
  refine g_getT0 C hK hw.1 (fun x9 h9 => u_same (C.2.2.2.2.1 _ wt_287) x9 h9) wt_286 dX5_weighs_1 ?_
  replace hw := hw.2
  refine g_aload_n C 0 rfl rfl dX5_weighs_4 ?_
  refine g_iload_n C 1 rfl rfl dX5_weighs_5 ?_
  have hn : ∀ (r1 : Int32) (σ2 : St), (Φ ((σ.2.2.2.2.2 a0 0) + r1) σ2) → GW κ 0 0 (gW cy A σ2) 9 [(0, .ref a0), (1, .int v1)] [.int r1, .int (σ.2.2.2.2.2 a0 0)] := by
    intro r1 σ2 hw
    refine g_iadd C dX5_weighs_9 ?_
    exact gq_I C F (by decide) (by decide) hw dX5_weighs_10
  obtain ⟨h8, hw⟩ := hw
  rcases hw with ⟨h9, hw⟩
  · obtain ⟨q9, -, h9⟩ := ga_T cy A _ h8 h9
    exact gc_I C (gr_V (As := [.int v1]) (rest := [.int (σ.2.2.2.2.2 a0 0)]) C hK 1 (gd_V wt_229 wt_218 wt_833 wt_13 wt_219) rfl rfl rfl ⟨rfl, hs_X5_grown⟩ ⟨⟨Nat.le_of_ble_eq_true rfl, Nat.le_of_ble_eq_true rfl⟩, Nat.le_of_ble_eq_true rfl, Nat.le_of_ble_eq_true rfl⟩ rfl q9 h9 rfl rfl (Nat.le_of_ble_eq_true rfl) dX5_weighs_6 (c_X5_grown (q_l κ) (q_D κ) cy A hw)) hn
set_option maxHeartbeats 4000000 in
set_option maxRecDepth 100000 in
theorem c_X6_at (l : Launch) (D : va_G) (cy : Nat → ClassId) (A : Nat → Nat) {σ : St} {v1 : Int32} {Φ : Option Nat → St → Prop} (hw : wX6_at σ v1 Φ) : CtQ l yX6_at (.code yX6_at cX6_at 2 (some (.object "TwoOnACable$Thing")) :: gL) rm_X6_at 0 0 [.ref (A 4), .int v1] D cy A σ Φ := by
  refine ct_any (fun sz => va_Qq Φ (HE D cy A (gZ cy A σ sz)) (gZ cy A σ sz)) (by decide +kernel) rfl rfl [(0, .ref (A 4)), (1, .int v1)] rfl (Nat.le_of_ble_eq_true rfl) ?_
  intro κ hκl hnm C hK sz F
  subst hκl
  unfold wX6_at at hw
  refine g_iload_n C 1 rfl rfl dX6_at_0 ?_
  refine g_if_lt C 30 (by decide) hw dX6_at_1 (fun hw => ?_) (fun hw => ?_)
  · refine g_null C dX6_at_30 ?_
    exact gq_Q (r := none) C F (by decide) (by decide) hw dX6_at_31
  · refine g_iload_n C 1 rfl rfl dX6_at_4 ?_
    refine g_aload_n C 0 rfl rfl dX6_at_5 ?_
    refine g_get C hK inX6 rfl 4 (ga_4 cy A _) 2 (by decide) (fun _ h => h) wt_65 rfl dX6_at_6 ?_
    refine g_icmp_ge C 30 (by decide) hw dX6_at_9 (fun hw => ?_) (fun hw => ?_)
    · refine g_null C dX6_at_30 ?_
      exact gq_Q (r := none) C F (by decide) (by decide) hw dX6_at_31
    · refine g_iload_n C 1 rfl rfl dX6_at_12 ?_
      refine g_aload_n C 0 rfl rfl dX6_at_13 ?_
      refine g_get C hK inX6 rfl 4 (ga_4 cy A _) 0 (by decide) (fun _ h => h) wt_63 rfl dX6_at_14 ?_
      refine g_alen (v := 6) C hK 5 3 (ga_5 cy A _) rfl rfl dX6_at_17 ?_
      refine g_icmp_ge C 30 (by decide) hw dX6_at_18 (fun hw => ?_) (fun hw => ?_)
      · refine g_null C dX6_at_30 ?_
        exact gq_Q (r := none) C F (by decide) (by decide) hw dX6_at_31
      · refine g_aload_n C 0 rfl rfl dX6_at_21 ?_
        refine g_get C hK inX6 rfl 4 (ga_4 cy A _) 0 (by decide) (fun _ h => h) wt_63 rfl dX6_at_22 ?_
        refine g_iload_n C 1 rfl rfl dX6_at_25 ?_
        refine g_aald C hK 5 3 (ga_5 cy A _) rfl hw.1 dX6_at_26 ?_
        replace hw := hw.2
        refine g_goto C 31 (by decide) dX6_at_27 ?_
        exact gq_Q (r := (σ.2.2.1 v1.toNatClampNeg)) C F (by decide) (by decide) hw dX6_at_31
set_option maxHeartbeats 4000000 in
set_option maxRecDepth 100000 in
theorem c_X9_weighs (l : Launch) (D : va_G) (cy : Nat → ClassId) (A : Nat → Nat) {σ : St} {a0 : Nat} {v1 : Int32} {Φ : Int32 → St → Prop} (hw : wX9_weighs σ a0 v1 Φ) : CtI l yX9_weighs (.code yX9_weighs cX9_weighs 2 (some .int) :: gL) rm_X9_weighs 0 0 [.ref a0, .int v1] D cy A σ Φ := by
  refine ct_any (fun sz => va_Qi Φ (HE D cy A (gZ cy A σ sz)) (gZ cy A σ sz)) (by decide +kernel) rfl rfl [(0, .ref a0), (1, .int v1)] rfl (Nat.le_of_ble_eq_true rfl) ?_
  intro κ hκl hnm C hK sz F
  subst hκl
  unfold wX9_weighs at hw
  refine g_aload_n C 0 rfl rfl dX9_weighs_0 ?_
  refine g_getT0 C hK hw.1 (fun _ h => h) wt_281 dX9_weighs_1 ?_
  replace hw := hw.2
  exact gq_I C F (by decide) (by decide) hw dX9_weighs_4
set_option maxHeartbeats 4000000 in
set_option maxRecDepth 100000 in
theorem c_X6_weighsIn (l : Launch) (D : va_G) (cy : Nat → ClassId) (A : Nat → Nat) {σ : St} {v1 : Int32} {v2 : Int32} {Φ : Int32 → St → Prop} (hw : wX6_weighsIn σ v1 v2 Φ) : CtI l yX6_weighsIn (.code yX6_weighsIn cX6_weighsIn 6 (some .int) :: gL) rm_X6_weighsIn 0 0 [.ref (A 4), .int v1, .int v2] D cy A σ Φ := by
  refine ct_any (fun sz => va_Qi Φ (HE D cy A (gZ cy A σ sz)) (gZ cy A σ sz)) (by decide +kernel) rfl rfl [(0, .ref (A 4)), (1, .int v1), (2, .int v2)] rfl (Nat.le_of_ble_eq_true rfl) ?_
  intro κ hκl hnm C hK sz F
  subst hκl
  have J46 : ∀ (K6 : St → Int32 → Int32 → Int32 → Int32 → Prop) (_ : ∀ (σ : St) (v1 : Int32) (v2 : Int32) (v3 : Int32) (v4 : Int32), K6 σ v1 v2 v3 v4 → GW κ 0 0 (gW cy A σ) 6 [(0, .ref (A 4)), (1, .int v1), (2, .int v2), (3, .int v3), (4, .int v4)] []), ∀ (σ : St) (v1 : Int32) (v2 : Int32) (v3 : Int32) (v4 : Int32), wX6_weighsIn_46 K6 Φ σ v1 v2 v3 v4 → GW κ 0 0 (gW cy A σ) 46 [(0, .ref (A 4)), (1, .int v1), (2, .int v2), (3, .int v3), (4, .int v4)] [] := by
    intro K6 hK6 σ v1 v2 v3 v4 hw
    unfold wX6_weighsIn_46 at hw
    refine g_iinc (j := 4) C [(4, .int (v4 + 1)), (0, .ref (A 4)), (1, .int v1), (2, .int v2), (3, .int v3)] F.2.2.2.1 rfl rfl (by decide) rfl dX6_weighsIn_46 ?_
    refine g_goto C 6 (by decide) dX6_weighsIn_49 ?_
    refine g_eql (lv' := [(0, .ref (A 4)), (1, .int v1), (2, .int v2), (3, .int v3), (4, .int (v4 + 1))]) [1, 2, 3, 4, 0] rfl ?_
    exact hK6 σ v1 v2 v3 (v4 + 1) hw
  have J6 : ∀ (n : Nat) (σ : St) (v1 : Int32) (v2 : Int32) (v3 : Int32) (v4 : Int32), wX6_weighsIn_6 Φ n σ v1 v2 v3 v4 → GW κ 0 0 (gW cy A σ) 6 [(0, .ref (A 4)), (1, .int v1), (2, .int v2), (3, .int v3), (4, .int v4)] [] := by
    intro n
    induction n with
    | zero => intro σ v1 v2 v3 v4 hw; exact hw.elim
    | succ n ih =>
      intro σ v1 v2 v3 v4 hw
      rw [wX6_weighsIn_6] at hw
      refine g_iload C 4 rfl dX6_weighsIn_6 ?_
      refine g_aload_n C 0 rfl rfl dX6_weighsIn_8 ?_
      refine g_get C hK inX6 rfl 4 (ga_4 cy A _) 2 (by decide) (fun _ h => h) wt_65 rfl dX6_weighsIn_9 ?_
      refine g_icmp_ge C 52 (by decide) hw dX6_weighsIn_12 (fun hw => ?_) (fun hw => ?_)
      · refine g_iload_n C 3 rfl rfl dX6_weighsIn_52 ?_
        exact gq_I C F (by decide) (by decide) hw dX6_weighsIn_53
      · refine g_aload_n C 0 rfl rfl dX6_weighsIn_15 ?_
        refine g_iload C 4 rfl dX6_weighsIn_16 ?_
        refine gc_Q C (gr_V (As := [.int v4]) (rest := []) C hK 1 (gd_V wt_200 wt_201 wt_202 wt_4 wt_203) rfl rfl rfl ⟨rfl, hs_X6_at⟩ ⟨⟨Nat.le_of_ble_eq_true rfl, Nat.le_of_ble_eq_true rfl⟩, Nat.le_of_ble_eq_true rfl, Nat.le_of_ble_eq_true rfl⟩ rfl 4 (ga_4 cy A _) rfl rfl (Nat.le_of_ble_eq_true rfl) dX6_weighsIn_18 (c_X6_at (q_l κ) (q_D κ) cy A hw)) (fun r2 σ1 hw => ?_)
        refine g_rstore C [(5, va_rf r2), (0, .ref (A 4)), (1, .int v1), (2, .int v2), (3, .int v3), (4, .int v4)] F.2.2.2.1 (by decide) rfl dX6_weighsIn_21 ?_
        refine g_rload C 0 rfl dX6_weighsIn_23 ?_
        refine g_ifnull C 46 (by decide) hw dX6_weighsIn_25 (fun hw1 e9 => ?_) (fun b3 e9 hw1 => ?_)
        · subst e9
          replace hw := hw1
          refine g_eql (lv' := [(0, .ref (A 4)), (1, .int v1), (2, .int v2), (3, .int v3), (4, .int v4)]) [1, 2, 3, 4, 5] rfl ?_
          exact J46 _ ih σ1 v1 v2 v3 v4 hw
        · subst e9
          replace hw := hw1
          refine g_aload C 0 rfl dX6_weighsIn_28 ?_
          refine g_getT2 C hK hw.1 (fun _ h => h) wt_292 dX6_weighsIn_30 ?_
          replace hw := hw.2
          refine g_iload_n C 2 rfl rfl dX6_weighsIn_33 ?_
          refine g_icmp_ne C 46 (by decide) hw dX6_weighsIn_34 (fun hw => ?_) (fun hw => ?_)
          · refine g_eql (lv' := [(0, .ref (A 4)), (1, .int v1), (2, .int v2), (3, .int v3), (4, .int v4)]) [1, 2, 3, 4, 5] rfl ?_
            exact J46 _ ih σ1 v1 v2 v3 v4 hw
          · refine g_iload_n C 4 rfl rfl dX6_weighsIn_37 ?_
            refine g_aload C 0 rfl dX6_weighsIn_38 ?_
            refine g_iload_n C 3 rfl rfl dX6_weighsIn_40 ?_
            have hn : ∀ (r4 : Int32) (σ5 : St), (wX6_weighsIn_46 (wX6_weighsIn_6 Φ n) Φ σ5 v1 v2 (v3 + r4) v4) → GW κ 0 0 (gW cy A σ5) 44 [(5, .ref b3), (0, .ref (A 4)), (1, .int v1), (2, .int v2), (3, .int v3), (4, .int v4)] [.int r4, .int v3] := by
              intro r4 σ5 hw
              refine g_iadd C dX6_weighsIn_44 ?_
              refine g_istore_n C [(3, .int (v3 + r4)), (5, .ref b3), (0, .ref (A 4)), (1, .int v1), (2, .int v2), (4, .int v4)] F.2.2.2.1 rfl (by decide) rfl dX6_weighsIn_45 ?_
              refine g_eql (lv' := [(0, .ref (A 4)), (1, .int v1), (2, .int v2), (3, .int (v3 + r4)), (4, .int v4)]) [2, 3, 4, 0, 5] rfl ?_
              exact J46 _ ih σ5 v1 v2 (v3 + r4) v4 hw
            obtain ⟨h8, hw⟩ := hw
            rcases hw with ⟨h9, hw⟩ | ⟨h9, hw⟩ | ⟨h9, hw⟩ | ⟨h9, hw⟩ | ⟨h9, hw⟩
            · obtain ⟨q9, -, h9⟩ := ga_T cy A _ h8 h9
              exact gc_I C (gr_O (As := [.int v2]) (rest := [.int v3]) C hK 1 (gd_O wt_204 wt_207 wt_205 wt_208 wt_209 wt_11 wt_210) rfl rfl rfl wt_230 hs_X9_weighs ⟨⟨Nat.le_of_ble_eq_true rfl, Nat.le_of_ble_eq_true rfl⟩, Nat.le_of_ble_eq_true rfl, Nat.le_of_ble_eq_true rfl⟩ rfl q9 h9 rfl rfl (Nat.le_of_ble_eq_true rfl) dX6_weighsIn_41 (c_X1_weighs (q_l κ) (q_D κ) cy A hw)) hn
            · obtain ⟨q9, -, h9⟩ := ga_T cy A _ h8 h9
              exact gc_I C (gr_U (As := [.int v2]) (rest := [.int v3]) C hK 1 (gd_U wt_204 wt_207 wt_211 wt_205 wt_10 wt_230) rfl rfl rfl rfl hs_X9_weighs ⟨⟨Nat.le_of_ble_eq_true rfl, Nat.le_of_ble_eq_true rfl⟩, Nat.le_of_ble_eq_true rfl, Nat.le_of_ble_eq_true rfl⟩ rfl q9 h9 rfl rfl (Nat.le_of_ble_eq_true rfl) dX6_weighsIn_41 (c_X9_weighs (q_l κ) (q_D κ) cy A hw)) hn
            · obtain ⟨q9, -, h9⟩ := ga_T cy A _ h8 h9
              exact gc_I C (gr_O (As := [.int v2]) (rest := [.int v3]) C hK 1 (gd_O wt_204 wt_207 wt_205 wt_212 wt_213 wt_14 wt_214) rfl rfl rfl wt_230 hs_X9_weighs ⟨⟨Nat.le_of_ble_eq_true rfl, Nat.le_of_ble_eq_true rfl⟩, Nat.le_of_ble_eq_true rfl, Nat.le_of_ble_eq_true rfl⟩ rfl q9 h9 rfl rfl (Nat.le_of_ble_eq_true rfl) dX6_weighsIn_41 (c_X4_weighs (q_l κ) (q_D κ) cy A hw)) hn
            · obtain ⟨q9, -, h9⟩ := ga_T cy A _ h8 h9
              exact gc_I C (gr_O (As := [.int v2]) (rest := [.int v3]) C hK 1 (gd_O wt_204 wt_207 wt_205 wt_226 wt_227 wt_13 wt_228) rfl rfl rfl wt_230 hs_X9_weighs ⟨⟨Nat.le_of_ble_eq_true rfl, Nat.le_of_ble_eq_true rfl⟩, Nat.le_of_ble_eq_true rfl, Nat.le_of_ble_eq_true rfl⟩ rfl q9 h9 rfl rfl (Nat.le_of_ble_eq_true rfl) dX6_weighsIn_41 (c_X5_weighs (q_l κ) (q_D κ) cy A hw)) hn
            · obtain ⟨q9, -, h9⟩ := ga_T cy A _ h8 h9
              exact gc_I C (gr_V (As := [.int v2]) (rest := [.int v3]) C hK 1 (gd_V wt_204 wt_205 wt_206 wt_10 wt_230) rfl rfl rfl ⟨rfl, hs_X9_weighs⟩ ⟨⟨Nat.le_of_ble_eq_true rfl, Nat.le_of_ble_eq_true rfl⟩, Nat.le_of_ble_eq_true rfl, Nat.le_of_ble_eq_true rfl⟩ rfl q9 h9 rfl rfl (Nat.le_of_ble_eq_true rfl) dX6_weighsIn_41 (c_X9_weighs (q_l κ) (q_D κ) cy A hw)) hn
  unfold wX6_weighsIn at hw
  refine g_bipush (v := (10 : Int32)) C dX6_weighsIn_0 (by decide) ?_
  refine g_istore_n C [(3, .int (10 : Int32)), (0, .ref (A 4)), (1, .int v1), (2, .int v2)] F.2.2.2.1 rfl (by decide) rfl dX6_weighsIn_2 ?_
  refine g_iconst (v := (0 : Int32)) C dX6_weighsIn_3 (by decide) ?_
  refine g_istore C [(4, .int (0 : Int32)), (3, .int (10 : Int32)), (0, .ref (A 4)), (1, .int v1), (2, .int v2)] F.2.2.2.1 (by decide) rfl dX6_weighsIn_4 ?_
  refine g_eql (lv' := [(0, .ref (A 4)), (1, .int v1), (2, .int v2), (3, .int (10 : Int32)), (4, .int (0 : Int32))]) [2, 3, 4, 1, 0] rfl ?_
  obtain ⟨n0, hw⟩ := hw
  exact J6 n0 σ v1 v2 (10 : Int32) (0 : Int32) hw
set_option maxHeartbeats 4000000 in
set_option maxRecDepth 100000 in
theorem c_X0_armNow (l : Launch) (D : va_G) (cy : Nat → ClassId) (A : Nat → Nat) {σ : St} {k : Nat} (hk : isC k) {v1 : Int32} {Φ : Int32 → St → Prop} (hw : wX0_armNow σ k v1 Φ) : CtI l yX0_armNow (.code yX0_armNow cX0_armNow 3 (some .int) :: gL) rm_X0_armNow 0 0 [.ref (A k), .int v1, .ref (A 4)] D cy A σ Φ := by
  refine ct_any (fun sz => va_Qi Φ (HE D cy A (gZ cy A σ sz)) (gZ cy A σ sz)) (by decide +kernel) rfl rfl [(0, .ref (A k)), (1, .int v1), (2, .ref (A 4))] rfl (Nat.le_of_ble_eq_true rfl) ?_
  intro κ hκl hnm C hK sz F
  subst hκl
  unfold wX0_armNow at hw
  refine g_aload_n C 0 rfl rfl dX0_armNow_0 ?_
  refine g_iload_n C 1 rfl rfl dX0_armNow_1 ?_
  refine g_aload_n C 0 rfl rfl dX0_armNow_2 ?_
  refine g_get C hK inX0 rfl k (ga_c cy A _ hk) 0 (by decide) (fun _ h => h) wt_39 rfl dX0_armNow_3 ?_
  refine g_aload_n C 2 rfl rfl dX0_armNow_6 ?_
  refine g_iconst (v := (0 : Int32)) C dX0_armNow_7 (by decide) ?_
  refine g_aload_n C 0 rfl rfl dX0_armNow_8 ?_
  refine g_get C hK inX0 rfl k (ga_c cy A _ hk) 4 (by decide) (fun _ h => h) wt_50 rfl dX0_armNow_9 ?_
  refine gc_I C (gr_V (As := [.int (0 : Int32), .int (σ.1 k 4)]) (rest := [.int (σ.1 k 0), .int v1, .ref (A k)]) C hK 2 (gd_V wt_235 wt_197 wt_198 wt_4 wt_199) rfl rfl rfl ⟨rfl, hs_X6_weighsIn⟩ ⟨⟨Nat.le_of_ble_eq_true rfl, Nat.le_of_ble_eq_true rfl⟩, Nat.le_of_ble_eq_true rfl, Nat.le_of_ble_eq_true rfl⟩ rfl 4 (ga_4 cy A _) rfl rfl (Nat.le_of_ble_eq_true rfl) dX0_armNow_12 (c_X6_weighsIn (q_l κ) (q_D κ) cy A hw)) (fun r2 σ1 hw => ?_)
  refine g_aload_n C 2 rfl rfl dX0_armNow_15 ?_
  refine g_iconst (v := (1 : Int32)) C dX0_armNow_16 (by decide) ?_
  refine g_aload_n C 0 rfl rfl dX0_armNow_17 ?_
  refine g_get C hK inX0 rfl k (ga_c cy A _ hk) 4 (by decide) (fun _ h => h) wt_50 rfl dX0_armNow_18 ?_
  refine gc_I C (gr_V (As := [.int (1 : Int32), .int (σ1.1 k 4)]) (rest := [.int r2, .int (σ.1 k 0), .int v1, .ref (A k)]) C hK 2 (gd_V wt_235 wt_197 wt_198 wt_4 wt_199) rfl rfl rfl ⟨rfl, hs_X6_weighsIn⟩ ⟨⟨Nat.le_of_ble_eq_true rfl, Nat.le_of_ble_eq_true rfl⟩, Nat.le_of_ble_eq_true rfl, Nat.le_of_ble_eq_true rfl⟩ rfl 4 (ga_4 cy A _) rfl rfl (Nat.le_of_ble_eq_true rfl) dX0_armNow_21 (c_X6_weighsIn (q_l κ) (q_D κ) cy A hw)) (fun r4 σ3 hw => ?_)
  refine gc_I C (gr_V (As := [.int v1, .int (σ.1 k 0), .int r2, .int r4]) (rest := []) C hK 4 (gd_V wt_236 wt_237 wt_238 wt_3 wt_239) rfl rfl rfl ⟨rfl, hs_X0_armAt⟩ ⟨⟨Nat.le_of_ble_eq_true rfl, Nat.le_of_ble_eq_true rfl⟩, Nat.le_of_ble_eq_true rfl, Nat.le_of_ble_eq_true rfl⟩ rfl k (ga_c cy A _ hk) rfl rfl (Nat.le_of_ble_eq_true rfl) dX0_armNow_24 (c_X0_armAt (q_l κ) (q_D κ) cy A hk hw)) (fun r6 σ5 hw => ?_)
  exact gq_I C F (by decide) (by decide) hw dX0_armNow_27
set_option maxHeartbeats 4000000 in
set_option maxRecDepth 100000 in
theorem c_X0_floorNow (l : Launch) (D : va_G) (cy : Nat → ClassId) (A : Nat → Nat) {σ : St} {k : Nat} (hk : isC k) {v1 : Int32} {Φ : Int32 → St → Prop} (hw : wX0_floorNow σ k v1 Φ) : CtI l yX0_floorNow (.code yX0_floorNow cX0_floorNow 3 (some .int) :: gL) rm_X0_floorNow 0 0 [.ref (A k), .int v1, .ref (A 4)] D cy A σ Φ := by
  refine ct_any (fun sz => va_Qi Φ (HE D cy A (gZ cy A σ sz)) (gZ cy A σ sz)) (by decide +kernel) rfl rfl [(0, .ref (A k)), (1, .int v1), (2, .ref (A 4))] rfl (Nat.le_of_ble_eq_true rfl) ?_
  intro κ hκl hnm C hK sz F
  subst hκl
  unfold wX0_floorNow at hw
  refine g_aload_n C 0 rfl rfl dX0_floorNow_0 ?_
  refine g_iload_n C 1 rfl rfl dX0_floorNow_1 ?_
  refine g_aload_n C 0 rfl rfl dX0_floorNow_2 ?_
  refine g_get C hK inX0 rfl k (ga_c cy A _ hk) 0 (by decide) (fun _ h => h) wt_39 rfl dX0_floorNow_3 ?_
  refine g_aload_n C 2 rfl rfl dX0_floorNow_6 ?_
  refine g_iconst (v := (0 : Int32)) C dX0_floorNow_7 (by decide) ?_
  refine g_aload_n C 0 rfl rfl dX0_floorNow_8 ?_
  refine g_get C hK inX0 rfl k (ga_c cy A _ hk) 4 (by decide) (fun _ h => h) wt_50 rfl dX0_floorNow_9 ?_
  refine gc_I C (gr_V (As := [.int (0 : Int32), .int (σ.1 k 4)]) (rest := [.int (σ.1 k 0), .int v1, .ref (A k)]) C hK 2 (gd_V wt_235 wt_197 wt_198 wt_4 wt_199) rfl rfl rfl ⟨rfl, hs_X6_weighsIn⟩ ⟨⟨Nat.le_of_ble_eq_true rfl, Nat.le_of_ble_eq_true rfl⟩, Nat.le_of_ble_eq_true rfl, Nat.le_of_ble_eq_true rfl⟩ rfl 4 (ga_4 cy A _) rfl rfl (Nat.le_of_ble_eq_true rfl) dX0_floorNow_12 (c_X6_weighsIn (q_l κ) (q_D κ) cy A hw)) (fun r2 σ1 hw => ?_)
  refine g_aload_n C 2 rfl rfl dX0_floorNow_15 ?_
  refine g_iconst (v := (1 : Int32)) C dX0_floorNow_16 (by decide) ?_
  refine g_aload_n C 0 rfl rfl dX0_floorNow_17 ?_
  refine g_get C hK inX0 rfl k (ga_c cy A _ hk) 4 (by decide) (fun _ h => h) wt_50 rfl dX0_floorNow_18 ?_
  refine gc_I C (gr_V (As := [.int (1 : Int32), .int (σ1.1 k 4)]) (rest := [.int r2, .int (σ.1 k 0), .int v1, .ref (A k)]) C hK 2 (gd_V wt_235 wt_197 wt_198 wt_4 wt_199) rfl rfl rfl ⟨rfl, hs_X6_weighsIn⟩ ⟨⟨Nat.le_of_ble_eq_true rfl, Nat.le_of_ble_eq_true rfl⟩, Nat.le_of_ble_eq_true rfl, Nat.le_of_ble_eq_true rfl⟩ rfl 4 (ga_4 cy A _) rfl rfl (Nat.le_of_ble_eq_true rfl) dX0_floorNow_21 (c_X6_weighsIn (q_l κ) (q_D κ) cy A hw)) (fun r4 σ3 hw => ?_)
  refine gc_I C (gr_V (As := [.int v1, .int (σ.1 k 0), .int r2, .int r4]) (rest := []) C hK 4 (gd_V wt_244 wt_245 wt_246 wt_3 wt_247) rfl rfl rfl ⟨rfl, hs_X0_floorAt⟩ ⟨⟨Nat.le_of_ble_eq_true rfl, Nat.le_of_ble_eq_true rfl⟩, Nat.le_of_ble_eq_true rfl, Nat.le_of_ble_eq_true rfl⟩ rfl k (ga_c cy A _ hk) rfl rfl (Nat.le_of_ble_eq_true rfl) dX0_floorNow_24 (c_X0_floorAt (q_l κ) (q_D κ) cy A hk hw)) (fun r6 σ5 hw => ?_)
  exact gq_I C F (by decide) (by decide) hw dX0_floorNow_27
set_option maxHeartbeats 4000000 in
set_option maxRecDepth 100000 in
theorem c_X0_strainNow (l : Launch) (D : va_G) (cy : Nat → ClassId) (A : Nat → Nat) {σ : St} {k : Nat} (hk : isC k) {Φ : Int32 → St → Prop} (hw : wX0_strainNow σ k Φ) : CtI l yX0_strainNow (.code yX0_strainNow cX0_strainNow 2 (some .int) :: gL) rm_X0_strainNow 0 0 [.ref (A k), .ref (A 4)] D cy A σ Φ := by
  refine ct_any (fun sz => va_Qi Φ (HE D cy A (gZ cy A σ sz)) (gZ cy A σ sz)) (by decide +kernel) rfl rfl [(0, .ref (A k)), (1, .ref (A 4))] rfl (Nat.le_of_ble_eq_true rfl) ?_
  intro κ hκl hnm C hK sz F
  subst hκl
  unfold wX0_strainNow at hw
  refine g_aload_n C 0 rfl rfl dX0_strainNow_0 ?_
  refine g_aload_n C 0 rfl rfl dX0_strainNow_1 ?_
  refine g_get C hK inX0 rfl k (ga_c cy A _ hk) 0 (by decide) (fun _ h => h) wt_39 rfl dX0_strainNow_2 ?_
  refine g_aload_n C 1 rfl rfl dX0_strainNow_5 ?_
  refine g_iconst (v := (0 : Int32)) C dX0_strainNow_6 (by decide) ?_
  refine g_aload_n C 0 rfl rfl dX0_strainNow_7 ?_
  refine g_get C hK inX0 rfl k (ga_c cy A _ hk) 4 (by decide) (fun _ h => h) wt_50 rfl dX0_strainNow_8 ?_
  refine gc_I C (gr_V (As := [.int (0 : Int32), .int (σ.1 k 4)]) (rest := [.int (σ.1 k 0), .ref (A k)]) C hK 2 (gd_V wt_235 wt_197 wt_198 wt_4 wt_199) rfl rfl rfl ⟨rfl, hs_X6_weighsIn⟩ ⟨⟨Nat.le_of_ble_eq_true rfl, Nat.le_of_ble_eq_true rfl⟩, Nat.le_of_ble_eq_true rfl, Nat.le_of_ble_eq_true rfl⟩ rfl 4 (ga_4 cy A _) rfl rfl (Nat.le_of_ble_eq_true rfl) dX0_strainNow_11 (c_X6_weighsIn (q_l κ) (q_D κ) cy A hw)) (fun r2 σ1 hw => ?_)
  refine g_aload_n C 1 rfl rfl dX0_strainNow_14 ?_
  refine g_iconst (v := (1 : Int32)) C dX0_strainNow_15 (by decide) ?_
  refine g_aload_n C 0 rfl rfl dX0_strainNow_16 ?_
  refine g_get C hK inX0 rfl k (ga_c cy A _ hk) 4 (by decide) (fun _ h => h) wt_50 rfl dX0_strainNow_17 ?_
  refine gc_I C (gr_V (As := [.int (1 : Int32), .int (σ1.1 k 4)]) (rest := [.int r2, .int (σ.1 k 0), .ref (A k)]) C hK 2 (gd_V wt_235 wt_197 wt_198 wt_4 wt_199) rfl rfl rfl ⟨rfl, hs_X6_weighsIn⟩ ⟨⟨Nat.le_of_ble_eq_true rfl, Nat.le_of_ble_eq_true rfl⟩, Nat.le_of_ble_eq_true rfl, Nat.le_of_ble_eq_true rfl⟩ rfl 4 (ga_4 cy A _) rfl rfl (Nat.le_of_ble_eq_true rfl) dX0_strainNow_20 (c_X6_weighsIn (q_l κ) (q_D κ) cy A hw)) (fun r4 σ3 hw => ?_)
  refine gc_I C (gr_V (As := [.int (σ.1 k 0), .int r2, .int r4]) (rest := []) C hK 3 (gd_V wt_394 wt_395 wt_396 wt_3 wt_397) rfl rfl rfl ⟨rfl, hs_X0_strainAt⟩ ⟨⟨Nat.le_of_ble_eq_true rfl, Nat.le_of_ble_eq_true rfl⟩, Nat.le_of_ble_eq_true rfl, Nat.le_of_ble_eq_true rfl⟩ rfl k (ga_c cy A _ hk) rfl rfl (Nat.le_of_ble_eq_true rfl) dX0_strainNow_23 (c_X0_strainAt (q_l κ) (q_D κ) cy A hk hw)) (fun r6 σ5 hw => ?_)
  exact gq_I C F (by decide) (by decide) hw dX0_strainNow_26
set_option maxHeartbeats 4000000 in
set_option maxRecDepth 100000 in
theorem c_J9_floorMod_7cf53 (l : Launch) (D : va_G) (cy : Nat → ClassId) (A : Nat → Nat) {σ : St} {v0 : Int32} {v1 : Int32} {Φ : Int32 → St → Prop} (hw : wJ9_floorMod_7cf53 σ v0 v1 Φ) : CtI l yJ9_floorMod_7cf53 (.code yJ9_floorMod_7cf53 cJ9_floorMod_7cf53 3 (some .int) :: gL) rm_J9_floorMod_7cf53 0 0 [.int v0, .int v1] D cy A σ Φ := by
  refine ct_any (fun sz => va_Qi Φ (HE D cy A (gZ cy A σ sz)) (gZ cy A σ sz)) (by decide +kernel) rfl rfl [(0, .int v0), (1, .int v1)] rfl (Nat.le_of_ble_eq_true rfl) ?_
  intro κ hκl hnm C hK sz F
  subst hκl
  unfold wJ9_floorMod_7cf53 at hw
  refine g_iload_n C 0 rfl rfl dJ9_floorMod_7cf53_0 ?_
  refine g_iload_n C 1 rfl rfl dJ9_floorMod_7cf53_1 ?_
  refine g_irem C hw.1 dJ9_floorMod_7cf53_2 ?_
  replace hw := hw.2
  refine g_istore_n C [(2, .int (v0 - v0 / v1 * v1)), (0, .int v0), (1, .int v1)] F.2.2.2.1 rfl (by decide) rfl dJ9_floorMod_7cf53_3 ?_
  refine g_iload_n C 1 rfl rfl dJ9_floorMod_7cf53_4 ?_
  refine g_iload_n C 2 rfl rfl dJ9_floorMod_7cf53_5 ?_
  refine g_ixor C dJ9_floorMod_7cf53_6 ?_
  refine g_if_ge C 18 (by decide) hw dJ9_floorMod_7cf53_7 (fun hw => ?_) (fun hw => ?_)
  · refine g_iload_n C 0 rfl rfl dJ9_floorMod_7cf53_18 ?_
    exact gq_I C F (by decide) (by decide) hw dJ9_floorMod_7cf53_19
  · refine g_iload_n C 0 rfl rfl dJ9_floorMod_7cf53_10 ?_
    refine g_if_eq C 18 (by decide) hw dJ9_floorMod_7cf53_11 (fun hw => ?_) (fun hw => ?_)
    · refine g_iload_n C 0 rfl rfl dJ9_floorMod_7cf53_18 ?_
      exact gq_I C F (by decide) (by decide) hw dJ9_floorMod_7cf53_19
    · refine g_iload_n C 0 rfl rfl dJ9_floorMod_7cf53_14 ?_
      refine g_iload_n C 2 rfl rfl dJ9_floorMod_7cf53_15 ?_
      refine g_iadd C dJ9_floorMod_7cf53_16 ?_
      exact gq_I C F (by decide) (by decide) hw dJ9_floorMod_7cf53_17
set_option maxHeartbeats 4000000 in
set_option maxRecDepth 100000 in
theorem c_X0_placeAfter (l : Launch) (D : va_G) (cy : Nat → ClassId) (A : Nat → Nat) {σ : St} {k : Nat} (hk : isC k) {v1 : Int32} {Φ : Int32 → St → Prop} (hw : wX0_placeAfter σ k v1 Φ) : CtI l yX0_placeAfter (.code yX0_placeAfter cX0_placeAfter 2 (some .int) :: gL) rm_X0_placeAfter 0 0 [.ref (A k), .int v1] D cy A σ Φ := by
  refine ct_any (fun sz => va_Qi Φ (HE D cy A (gZ cy A σ sz)) (gZ cy A σ sz)) (by decide +kernel) rfl rfl [(0, .ref (A k)), (1, .int v1)] rfl (Nat.le_of_ble_eq_true rfl) ?_
  intro κ hκl hnm C hK sz F
  subst hκl
  unfold wX0_placeAfter at hw
  refine g_aload_n C 0 rfl rfl dX0_placeAfter_0 ?_
  refine g_get C hK inX0 rfl k (ga_c cy A _ hk) 3 (by decide) (fun _ h => h) wt_47 rfl dX0_placeAfter_1 ?_
  refine g_iload_n C 1 rfl rfl dX0_placeAfter_4 ?_
  refine g_aload_n C 0 rfl rfl dX0_placeAfter_5 ?_
  refine gc_I C (gr_V (As := []) (rest := [.int v1, .int (σ.1 k 3)]) C hK 0 (gd_V wt_386 wt_359 wt_360 wt_3 wt_361) rfl rfl rfl ⟨rfl, hs_X0_turnsNow⟩ ⟨⟨Nat.le_of_ble_eq_true rfl, Nat.le_of_ble_eq_true rfl⟩, Nat.le_of_ble_eq_true rfl, Nat.le_of_ble_eq_true rfl⟩ rfl k (ga_c cy A _ hk) rfl rfl (Nat.le_of_ble_eq_true rfl) dX0_placeAfter_6 (c_X0_turnsNow (q_l κ) (q_D κ) cy A hk hw)) (fun r2 σ1 hw => ?_)
  refine g_imul C dX0_placeAfter_9 ?_
  refine g_bipush (v := (10 : Int32)) C dX0_placeAfter_10 (by decide) ?_
  refine g_imul C dX0_placeAfter_12 ?_
  refine g_iadd C dX0_placeAfter_13 ?_
  refine g_sipush (v := (360 : Int32)) C dX0_placeAfter_14 (by decide) ?_
  refine gc_I C (gr_S (As := [.int ((σ.1 k 3) + ((v1 * r2) * (10 : Int32))), .int (360 : Int32)]) (rest := []) C hK 2 (gd_S wt_387 wt_388 wt_9 wt_389) rfl rfl rfl hs_J9_floorMod_7cf53 ⟨⟨Nat.le_of_ble_eq_true rfl, Nat.le_of_ble_eq_true rfl⟩, Nat.le_of_ble_eq_true rfl, Nat.le_of_ble_eq_true rfl⟩ rfl rfl (Nat.le_of_ble_eq_true rfl) dX0_placeAfter_17 (c_J9_floorMod_7cf53 (q_l κ) (q_D κ) cy A hw)) (fun r4 σ3 hw => ?_)
  exact gq_I C F (by decide) (by decide) hw dX0_placeAfter_20
set_option maxHeartbeats 4000000 in
set_option maxRecDepth 100000 in
theorem c_X0_goHour (l : Launch) (D : va_G) (cy : Nat → ClassId) (A : Nat → Nat) {σ : St} {k : Nat} (hk : isC k) {v1 : Int32} {Φ : St → Prop} (hw : wX0_goHour σ k v1 Φ) : CtV l yX0_goHour (.code yX0_goHour cX0_goHour 3 none :: gL) rm_X0_goHour 0 0 [.ref (A k), .int v1, .ref (A 4)] D cy A σ Φ := by
  refine ct_any (fun sz => va_Qv Φ (HE D cy A (gZ cy A σ sz)) (gZ cy A σ sz)) (by decide +kernel) rfl rfl [(0, .ref (A k)), (1, .int v1), (2, .ref (A 4))] rfl (Nat.le_of_ble_eq_true rfl) ?_
  intro κ hκl hnm C hK sz F
  subst hκl
  unfold wX0_goHour at hw
  refine g_aload_n C 0 rfl rfl dX0_goHour_0 ?_
  refine g_dup C rfl dX0_goHour_1 ?_
  refine g_get C hK inX0 rfl k (ga_c cy A _ hk) 0 (by decide) (fun _ h => h) wt_39 rfl dX0_goHour_2 ?_
  refine g_iload_n C 1 rfl rfl dX0_goHour_5 ?_
  refine g_isub C dX0_goHour_6 ?_
  refine g_put (v := .int ((σ.1 k 0) - v1)) C hK inX0 rfl tyX0 tyX0_ok nmX0 k (ga_c cy A _ hk) 0 (by decide) (fun _ h => h) wt_39 rfl rfl rfl (Nat.le_of_ble_eq_true rfl) (gp_c_0 cy A _ _ hk) dX0_goHour_7 ?_
  refine g_aload_n C 0 rfl rfl dX0_goHour_10 ?_
  refine g_dup C rfl dX0_goHour_11 ?_
  refine g_get C hK inX0 rfl k (ga_c cy A _ hk) 4 (by decide) (fun _ h => h) wt_50 rfl dX0_goHour_12 ?_
  refine g_iconst (v := (1 : Int32)) C dX0_goHour_15 (by decide) ?_
  refine g_iadd C dX0_goHour_16 ?_
  refine g_put (v := .int (((sV σ k 0 ((σ.1 k 0) - v1)).1 k 4) + (1 : Int32))) C hK inX0 rfl tyX0 tyX0_ok nmX0 k (ga_c cy A _ hk) 4 (by decide) (fun _ h => h) wt_50 rfl rfl rfl (Nat.le_of_ble_eq_true rfl) (gp_c_4 cy A _ _ hk) dX0_goHour_17 ?_
  refine g_aload_n C 0 rfl rfl dX0_goHour_20 ?_
  refine g_aload_n C 0 rfl rfl dX0_goHour_21 ?_
  refine g_iconst (v := (1 : Int32)) C dX0_goHour_22 (by decide) ?_
  refine gc_I C (gr_V (As := [.int (1 : Int32)]) (rest := [.ref (A k)]) C hK 1 (gd_V wt_382 wt_383 wt_384 wt_3 wt_385) rfl rfl rfl ⟨rfl, hs_X0_placeAfter⟩ ⟨⟨Nat.le_of_ble_eq_true rfl, Nat.le_of_ble_eq_true rfl⟩, Nat.le_of_ble_eq_true rfl, Nat.le_of_ble_eq_true rfl⟩ rfl k (ga_c cy A _ hk) rfl rfl (Nat.le_of_ble_eq_true rfl) dX0_goHour_23 (c_X0_placeAfter (q_l κ) (q_D κ) cy A hk hw)) (fun r2 σ1 hw => ?_)
  refine g_put (v := .int r2) C hK inX0 rfl tyX0 tyX0_ok nmX0 k (ga_c cy A _ hk) 3 (by decide) (fun _ h => h) wt_47 rfl rfl rfl (Nat.le_of_ble_eq_true rfl) (gp_c_3 cy A _ _ hk) dX0_goHour_26 ?_
  refine g_aload_n C 0 rfl rfl dX0_goHour_29 ?_
  refine g_aload_n C 0 rfl rfl dX0_goHour_30 ?_
  refine g_aload_n C 2 rfl rfl dX0_goHour_31 ?_
  refine gc_I C (gr_V (As := [.ref (A 4)]) (rest := [.ref (A k)]) C hK 1 (gd_V wt_390 wt_391 wt_392 wt_3 wt_393) rfl rfl rfl ⟨rfl, hs_X0_strainNow⟩ ⟨⟨Nat.le_of_ble_eq_true rfl, Nat.le_of_ble_eq_true rfl⟩, Nat.le_of_ble_eq_true rfl, Nat.le_of_ble_eq_true rfl⟩ rfl k (ga_c cy A _ hk) rfl rfl (Nat.le_of_ble_eq_true rfl) dX0_goHour_32 (c_X0_strainNow (q_l κ) (q_D κ) cy A hk hw)) (fun r4 σ3 hw => ?_)
  refine g_aload_n C 0 rfl rfl dX0_goHour_35 ?_
  refine g_get C hK inX0 rfl k (ga_c cy A _ hk) 2 (by decide) (fun _ h => h) wt_44 rfl dX0_goHour_36 ?_
  refine g_icmp_le C 46 (by decide) hw dX0_goHour_39 (fun hw => ?_) (fun hw => ?_)
  · refine g_iconst (v := (0 : Int32)) C dX0_goHour_46 (by decide) ?_
    refine g_put (v := .int (0 : Int32)) C hK inX0 rfl tyX0 tyX0_ok nmX0 k (ga_c cy A _ hk) 6 (by decide) (fun _ h => h) wt_55 rfl (by rcases hw.1 with e | e <;> rw [e] <;> rfl) (by rcases hw.1 with e | e <;> rw [e] <;> rfl) (Nat.le_of_ble_eq_true rfl) (gp_c_6 cy A _ _ hk) dX0_goHour_47 ?_
    replace hw := hw.2
    exact gq_V C F (by decide) (by decide) hw dX0_goHour_50
  · refine g_iconst (v := (1 : Int32)) C dX0_goHour_42 (by decide) ?_
    refine g_goto C 47 (by decide) dX0_goHour_43 ?_
    refine g_put (v := .int (1 : Int32)) C hK inX0 rfl tyX0 tyX0_ok nmX0 k (ga_c cy A _ hk) 6 (by decide) (fun _ h => h) wt_55 rfl (by rcases hw.1 with e | e <;> rw [e] <;> rfl) (by rcases hw.1 with e | e <;> rw [e] <;> rfl) (Nat.le_of_ble_eq_true rfl) (gp_c_6 cy A _ _ hk) dX0_goHour_47 ?_
    replace hw := hw.2
    exact gq_V C F (by decide) (by decide) hw dX0_goHour_50
set_option maxHeartbeats 4000000 in
set_option maxRecDepth 100000 in
theorem c_J9_min_7cf53 (l : Launch) (D : va_G) (cy : Nat → ClassId) (A : Nat → Nat) {σ : St} {v0 : Int32} {v1 : Int32} {Φ : Int32 → St → Prop} (hw : wJ9_min_7cf53 σ v0 v1 Φ) : CtI l yJ9_min_7cf53 (.code yJ9_min_7cf53 cJ9_min_7cf53 2 (some .int) :: gL) rm_J9_min_7cf53 0 0 [.int v0, .int v1] D cy A σ Φ := by
  refine ct_any (fun sz => va_Qi Φ (HE D cy A (gZ cy A σ sz)) (gZ cy A σ sz)) (by decide +kernel) rfl rfl [(0, .int v0), (1, .int v1)] rfl (Nat.le_of_ble_eq_true rfl) ?_
  intro κ hκl hnm C hK sz F
  subst hκl
  unfold wJ9_min_7cf53 at hw
  refine g_iload_n C 0 rfl rfl dJ9_min_7cf53_0 ?_
  refine g_iload_n C 1 rfl rfl dJ9_min_7cf53_1 ?_
  refine g_icmp_gt C 9 (by decide) hw dJ9_min_7cf53_2 (fun hw => ?_) (fun hw => ?_)
  · refine g_iload_n C 1 rfl rfl dJ9_min_7cf53_9 ?_
    exact gq_I C F (by decide) (by decide) hw dJ9_min_7cf53_10
  · refine g_iload_n C 0 rfl rfl dJ9_min_7cf53_5 ?_
    refine g_goto C 10 (by decide) dJ9_min_7cf53_6 ?_
    exact gq_I C F (by decide) (by decide) hw dJ9_min_7cf53_10
set_option maxHeartbeats 4000000 in
set_option maxRecDepth 100000 in
theorem c_X0_breakingHundredths (l : Launch) (D : va_G) (cy : Nat → ClassId) (A : Nat → Nat) {σ : St} {k : Nat} (hk : isC k) {Φ : Int32 → St → Prop} (hw : wX0_breakingHundredths σ k Φ) : CtI l yX0_breakingHundredths (.code yX0_breakingHundredths cX0_breakingHundredths 3 (some .int) :: gL) rm_X0_breakingHundredths 0 0 [.ref (A k), .ref (A 4)] D cy A σ Φ := by
  refine ct_any (fun sz => va_Qi Φ (HE D cy A (gZ cy A σ sz)) (gZ cy A σ sz)) (by decide +kernel) rfl rfl [(0, .ref (A k)), (1, .ref (A 4))] rfl (Nat.le_of_ble_eq_true rfl) ?_
  intro κ hκl hnm C hK sz F
  subst hκl
  have J21 : ∀ (σ : St) (v2 : Int32), wX0_breakingHundredths_21 k Φ σ v2 → GW κ 0 0 (gW cy A σ) 21 [(0, .ref (A k)), (2, .int v2)] [] := by
    intro σ v2 hw
    unfold wX0_breakingHundredths_21 at hw
    refine g_iload_n C 1 rfl rfl dX0_breakingHundredths_21 ?_
    refine g_aload_n C 0 rfl rfl dX0_breakingHundredths_22 ?_
    refine g_get C hK inX0 rfl k (ga_c cy A _ hk) 2 (by decide) (fun _ h => h) wt_44 rfl dX0_breakingHundredths_23 ?_
    refine g_icmp_le C 34 (by decide) hw dX0_breakingHundredths_26 (fun hw => ?_) (fun hw => ?_)
    · refine g_iconst (v := (0 : Int32)) C dX0_breakingHundredths_34 (by decide) ?_
      exact gq_I C F (by decide) (by decide) hw dX0_breakingHundredths_35
    · refine g_bipush (v := (100 : Int32)) C dX0_breakingHundredths_29 (by decide) ?_
      refine g_goto C 35 (by decide) dX0_breakingHundredths_31 ?_
      exact gq_I C F (by decide) (by decide) hw dX0_breakingHundredths_35
  unfold wX0_breakingHundredths at hw
  refine g_aload_n C 0 rfl rfl dX0_breakingHundredths_0 ?_
  refine g_aload_n C 1 rfl rfl dX0_breakingHundredths_1 ?_
  refine gc_I C (gr_V (As := [.ref (A 4)]) (rest := []) C hK 1 (gd_V wt_390 wt_391 wt_392 wt_3 wt_393) rfl rfl rfl ⟨rfl, hs_X0_strainNow⟩ ⟨⟨Nat.le_of_ble_eq_true rfl, Nat.le_of_ble_eq_true rfl⟩, Nat.le_of_ble_eq_true rfl, Nat.le_of_ble_eq_true rfl⟩ rfl k (ga_c cy A _ hk) rfl rfl (Nat.le_of_ble_eq_true rfl) dX0_breakingHundredths_2 (c_X0_strainNow (q_l κ) (q_D κ) cy A hk hw)) (fun r2 σ1 hw => ?_)
  refine g_istore_n C [(2, .int r2), (0, .ref (A k)), (1, .ref (A 4))] F.2.2.2.1 rfl (by decide) rfl dX0_breakingHundredths_5 ?_
  refine g_aload_n C 1 rfl rfl dX0_breakingHundredths_6 ?_
  refine g_get C hK inX0 rfl k (ga_c cy A _ hk) 5 (by decide) (fun _ h => h) wt_53 rfl dX0_breakingHundredths_7 ?_
  refine g_if_eq C 21 (by decide) hw dX0_breakingHundredths_10 (fun hw => ?_) (fun hw => ?_)
  · refine g_eql (lv' := [(0, .ref (A k)), (2, .int r2)]) [1, 0] rfl ?_
    exact J21 σ1 r2 hw
  · refine g_aload_n C 1 rfl rfl dX0_breakingHundredths_13 ?_
    refine g_get C hK inX0 rfl k (ga_c cy A _ hk) 2 (by decide) (fun _ h => h) wt_44 rfl dX0_breakingHundredths_14 ?_
    refine g_iconst (v := (1 : Int32)) C dX0_breakingHundredths_17 (by decide) ?_
    refine g_icmp_ge C 36 (by decide) hw dX0_breakingHundredths_18 (fun hw => ?_) (fun hw => ?_)
    · refine g_bipush (v := (100 : Int32)) C dX0_breakingHundredths_36 (by decide) ?_
      refine g_iload_n C 0 rfl rfl dX0_breakingHundredths_38 ?_
      refine g_bipush (v := (100 : Int32)) C dX0_breakingHundredths_39 (by decide) ?_
      refine g_imul C dX0_breakingHundredths_41 ?_
      refine g_aload_n C 1 rfl rfl dX0_breakingHundredths_42 ?_
      refine g_get C hK inX0 rfl k (ga_c cy A _ hk) 2 (by decide) (fun _ h => h) wt_44 rfl dX0_breakingHundredths_43 ?_
      refine g_idiv C hw.1 dX0_breakingHundredths_46 ?_
      replace hw := hw.2
      refine gc_I C (gr_S (As := [.int (100 : Int32), .int ((r2 * (100 : Int32)) / (σ1.1 k 2))]) (rest := []) C hK 2 (gd_S wt_505 wt_179 wt_9 wt_180) rfl rfl rfl hs_J9_min_7cf53 ⟨⟨Nat.le_of_ble_eq_true rfl, Nat.le_of_ble_eq_true rfl⟩, Nat.le_of_ble_eq_true rfl, Nat.le_of_ble_eq_true rfl⟩ rfl rfl (Nat.le_of_ble_eq_true rfl) dX0_breakingHundredths_47 (c_J9_min_7cf53 (q_l κ) (q_D κ) cy A hw)) (fun r4 σ3 hw => ?_)
      exact gq_I C F (by decide) (by decide) hw dX0_breakingHundredths_50
    · refine g_eql (lv' := [(0, .ref (A k)), (2, .int r2)]) [1, 0] rfl ?_
      exact J21 σ1 r2 hw
end
