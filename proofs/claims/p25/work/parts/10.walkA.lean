theorem hs_X7_at : yX7_at.cls ≠ "java/lang/invoke/MethodHandle" ∧ yX7_at.cls ≠ "java/lang/invoke/VarHandle" ∧ (parseMethodDescriptor yX7_at.desc).map (fun d => d.parameters.length) = some 1 := by decide +kernel
theorem hs_X7_digitAt : yX7_digitAt.cls ≠ "java/lang/invoke/MethodHandle" ∧ yX7_digitAt.cls ≠ "java/lang/invoke/VarHandle" ∧ (parseMethodDescriptor yX7_digitAt.desc).map (fun d => d.parameters.length) = some 1 := by decide +kernel
theorem hs_X0_hang : yX0_hang.cls ≠ "java/lang/invoke/MethodHandle" ∧ yX0_hang.cls ≠ "java/lang/invoke/VarHandle" ∧ (parseMethodDescriptor yX0_hang.desc).map (fun d => d.parameters.length) = some 1 := by decide +kernel
theorem hs_X0_becomeLike : yX0_becomeLike.cls ≠ "java/lang/invoke/MethodHandle" ∧ yX0_becomeLike.cls ≠ "java/lang/invoke/VarHandle" ∧ (parseMethodDescriptor yX0_becomeLike.desc).map (fun d => d.parameters.length) = some 1 := by decide +kernel
theorem hs_X0_isThere : yX0_isThere.cls ≠ "java/lang/invoke/MethodHandle" ∧ yX0_isThere.cls ≠ "java/lang/invoke/VarHandle" ∧ (parseMethodDescriptor yX0_isThere.desc).map (fun d => d.parameters.length) = some 0 := by decide +kernel
theorem hs_X0_isWhole : yX0_isWhole.cls ≠ "java/lang/invoke/MethodHandle" ∧ yX0_isWhole.cls ≠ "java/lang/invoke/VarHandle" ∧ (parseMethodDescriptor yX0_isWhole.desc).map (fun d => d.parameters.length) = some 0 := by decide +kernel
theorem hs_X0_turnsAt : yX0_turnsAt.cls ≠ "java/lang/invoke/MethodHandle" ∧ yX0_turnsAt.cls ≠ "java/lang/invoke/VarHandle" ∧ (parseMethodDescriptor yX0_turnsAt.desc).map (fun d => d.parameters.length) = some 1 := by decide +kernel
theorem hs_X0_turnsNow : yX0_turnsNow.cls ≠ "java/lang/invoke/MethodHandle" ∧ yX0_turnsNow.cls ≠ "java/lang/invoke/VarHandle" ∧ (parseMethodDescriptor yX0_turnsNow.desc).map (fun d => d.parameters.length) = some 0 := by decide +kernel
theorem hs_X0_armAt : yX0_armAt.cls ≠ "java/lang/invoke/MethodHandle" ∧ yX0_armAt.cls ≠ "java/lang/invoke/VarHandle" ∧ (parseMethodDescriptor yX0_armAt.desc).map (fun d => d.parameters.length) = some 4 := by decide +kernel
theorem hs_X0_floorAt : yX0_floorAt.cls ≠ "java/lang/invoke/MethodHandle" ∧ yX0_floorAt.cls ≠ "java/lang/invoke/VarHandle" ∧ (parseMethodDescriptor yX0_floorAt.desc).map (fun d => d.parameters.length) = some 4 := by decide +kernel
theorem hs_X0_strainBy : yX0_strainBy.cls ≠ "java/lang/invoke/MethodHandle" ∧ yX0_strainBy.cls ≠ "java/lang/invoke/VarHandle" ∧ (parseMethodDescriptor yX0_strainBy.desc).map (fun d => d.parameters.length) = some 2 := by decide +kernel
theorem hs_X1_weighs : yX1_weighs.cls ≠ "java/lang/invoke/MethodHandle" ∧ yX1_weighs.cls ≠ "java/lang/invoke/VarHandle" ∧ (parseMethodDescriptor yX1_weighs.desc).map (fun d => d.parameters.length) = some 1 := by decide +kernel
theorem hs_X4_weighs : yX4_weighs.cls ≠ "java/lang/invoke/MethodHandle" ∧ yX4_weighs.cls ≠ "java/lang/invoke/VarHandle" ∧ (parseMethodDescriptor yX4_weighs.desc).map (fun d => d.parameters.length) = some 1 := by decide +kernel
theorem hs_X5_weighs : yX5_weighs.cls ≠ "java/lang/invoke/MethodHandle" ∧ yX5_weighs.cls ≠ "java/lang/invoke/VarHandle" ∧ (parseMethodDescriptor yX5_weighs.desc).map (fun d => d.parameters.length) = some 1 := by decide +kernel
theorem hs_X6_at : yX6_at.cls ≠ "java/lang/invoke/MethodHandle" ∧ yX6_at.cls ≠ "java/lang/invoke/VarHandle" ∧ (parseMethodDescriptor yX6_at.desc).map (fun d => d.parameters.length) = some 1 := by decide +kernel
theorem hs_X9_weighs : yX9_weighs.cls ≠ "java/lang/invoke/MethodHandle" ∧ yX9_weighs.cls ≠ "java/lang/invoke/VarHandle" ∧ (parseMethodDescriptor yX9_weighs.desc).map (fun d => d.parameters.length) = some 1 := by decide +kernel
theorem hs_X6_weighsIn : yX6_weighsIn.cls ≠ "java/lang/invoke/MethodHandle" ∧ yX6_weighsIn.cls ≠ "java/lang/invoke/VarHandle" ∧ (parseMethodDescriptor yX6_weighsIn.desc).map (fun d => d.parameters.length) = some 2 := by decide +kernel
theorem hs_X0_armNow : yX0_armNow.cls ≠ "java/lang/invoke/MethodHandle" ∧ yX0_armNow.cls ≠ "java/lang/invoke/VarHandle" ∧ (parseMethodDescriptor yX0_armNow.desc).map (fun d => d.parameters.length) = some 2 := by decide +kernel
theorem hs_X0_floorNow : yX0_floorNow.cls ≠ "java/lang/invoke/MethodHandle" ∧ yX0_floorNow.cls ≠ "java/lang/invoke/VarHandle" ∧ (parseMethodDescriptor yX0_floorNow.desc).map (fun d => d.parameters.length) = some 2 := by decide +kernel
theorem hs_X0_strainNow : yX0_strainNow.cls ≠ "java/lang/invoke/MethodHandle" ∧ yX0_strainNow.cls ≠ "java/lang/invoke/VarHandle" ∧ (parseMethodDescriptor yX0_strainNow.desc).map (fun d => d.parameters.length) = some 1 := by decide +kernel
theorem hs_J9_floorMod_7cf53 : yJ9_floorMod_7cf53.cls ≠ "java/lang/invoke/MethodHandle" ∧ yJ9_floorMod_7cf53.cls ≠ "java/lang/invoke/VarHandle" ∧ (parseMethodDescriptor yJ9_floorMod_7cf53.desc).map (fun d => d.parameters.length) = some 2 := by decide +kernel
theorem hs_X0_placeAfter : yX0_placeAfter.cls ≠ "java/lang/invoke/MethodHandle" ∧ yX0_placeAfter.cls ≠ "java/lang/invoke/VarHandle" ∧ (parseMethodDescriptor yX0_placeAfter.desc).map (fun d => d.parameters.length) = some 1 := by decide +kernel
theorem hs_X0_goHour : yX0_goHour.cls ≠ "java/lang/invoke/MethodHandle" ∧ yX0_goHour.cls ≠ "java/lang/invoke/VarHandle" ∧ (parseMethodDescriptor yX0_goHour.desc).map (fun d => d.parameters.length) = some 2 := by decide +kernel
theorem hs_X9_init : yX9_init.cls ≠ "java/lang/invoke/MethodHandle" ∧ yX9_init.cls ≠ "java/lang/invoke/VarHandle" ∧ (parseMethodDescriptor yX9_init.desc).map (fun d => d.parameters.length) = some 3 := by decide +kernel
theorem hs_X1_init : yX1_init.cls ≠ "java/lang/invoke/MethodHandle" ∧ yX1_init.cls ≠ "java/lang/invoke/VarHandle" ∧ (parseMethodDescriptor yX1_init.desc).map (fun d => d.parameters.length) = some 3 := by decide +kernel
theorem hs_X1_kind : yX1_kind.cls ≠ "java/lang/invoke/MethodHandle" ∧ yX1_kind.cls ≠ "java/lang/invoke/VarHandle" ∧ (parseMethodDescriptor yX1_kind.desc).map (fun d => d.parameters.length) = some 0 := by decide +kernel
theorem hs_X3_init : yX3_init.cls ≠ "java/lang/invoke/MethodHandle" ∧ yX3_init.cls ≠ "java/lang/invoke/VarHandle" ∧ (parseMethodDescriptor yX3_init.desc).map (fun d => d.parameters.length) = some 3 := by decide +kernel
theorem hs_X3_kind : yX3_kind.cls ≠ "java/lang/invoke/MethodHandle" ∧ yX3_kind.cls ≠ "java/lang/invoke/VarHandle" ∧ (parseMethodDescriptor yX3_kind.desc).map (fun d => d.parameters.length) = some 0 := by decide +kernel
theorem hs_X3_goesAcross : yX3_goesAcross.cls ≠ "java/lang/invoke/MethodHandle" ∧ yX3_goesAcross.cls ≠ "java/lang/invoke/VarHandle" ∧ (parseMethodDescriptor yX3_goesAcross.desc).map (fun d => d.parameters.length) = some 1 := by decide +kernel
theorem hs_X5_init : yX5_init.cls ≠ "java/lang/invoke/MethodHandle" ∧ yX5_init.cls ≠ "java/lang/invoke/VarHandle" ∧ (parseMethodDescriptor yX5_init.desc).map (fun d => d.parameters.length) = some 3 := by decide +kernel
theorem hs_X4_init : yX4_init.cls ≠ "java/lang/invoke/MethodHandle" ∧ yX4_init.cls ≠ "java/lang/invoke/VarHandle" ∧ (parseMethodDescriptor yX4_init.desc).map (fun d => d.parameters.length) = some 3 := by decide +kernel
theorem hs_X4_kind : yX4_kind.cls ≠ "java/lang/invoke/MethodHandle" ∧ yX4_kind.cls ≠ "java/lang/invoke/VarHandle" ∧ (parseMethodDescriptor yX4_kind.desc).map (fun d => d.parameters.length) = some 0 := by decide +kernel
theorem hs_X5_kind : yX5_kind.cls ≠ "java/lang/invoke/MethodHandle" ∧ yX5_kind.cls ≠ "java/lang/invoke/VarHandle" ∧ (parseMethodDescriptor yX5_kind.desc).map (fun d => d.parameters.length) = some 0 := by decide +kernel
theorem hs_X6_isFull : yX6_isFull.cls ≠ "java/lang/invoke/MethodHandle" ∧ yX6_isFull.cls ≠ "java/lang/invoke/VarHandle" ∧ (parseMethodDescriptor yX6_isFull.desc).map (fun d => d.parameters.length) = some 0 := by decide +kernel
theorem hs_X6_put : yX6_put.cls ≠ "java/lang/invoke/MethodHandle" ∧ yX6_put.cls ≠ "java/lang/invoke/VarHandle" ∧ (parseMethodDescriptor yX6_put.desc).map (fun d => d.parameters.length) = some 1 := by decide +kernel
theorem hs_J9_min_7cf53 : yJ9_min_7cf53.cls ≠ "java/lang/invoke/MethodHandle" ∧ yJ9_min_7cf53.cls ≠ "java/lang/invoke/VarHandle" ∧ (parseMethodDescriptor yJ9_min_7cf53.desc).map (fun d => d.parameters.length) = some 2 := by decide +kernel
theorem hs_X6_cutTo : yX6_cutTo.cls ≠ "java/lang/invoke/MethodHandle" ∧ yX6_cutTo.cls ≠ "java/lang/invoke/VarHandle" ∧ (parseMethodDescriptor yX6_cutTo.desc).map (fun d => d.parameters.length) = some 1 := by decide +kernel
theorem hs_X6_sizeIn : yX6_sizeIn.cls ≠ "java/lang/invoke/MethodHandle" ∧ yX6_sizeIn.cls ≠ "java/lang/invoke/VarHandle" ∧ (parseMethodDescriptor yX6_sizeIn.desc).map (fun d => d.parameters.length) = some 1 := by decide +kernel
theorem hs_X7_hasRoomFor : yX7_hasRoomFor.cls ≠ "java/lang/invoke/MethodHandle" ∧ yX7_hasRoomFor.cls ≠ "java/lang/invoke/VarHandle" ∧ (parseMethodDescriptor yX7_hasRoomFor.desc).map (fun d => d.parameters.length) = some 1 := by decide +kernel
theorem hs_X7_put : yX7_put.cls ≠ "java/lang/invoke/MethodHandle" ∧ yX7_put.cls ≠ "java/lang/invoke/VarHandle" ∧ (parseMethodDescriptor yX7_put.desc).map (fun d => d.parameters.length) = some 1 := by decide +kernel
theorem hs_X7_emptied : yX7_emptied.cls ≠ "java/lang/invoke/MethodHandle" ∧ yX7_emptied.cls ≠ "java/lang/invoke/VarHandle" ∧ (parseMethodDescriptor yX7_emptied.desc).map (fun d => d.parameters.length) = some 0 := by decide +kernel
theorem hs_X7_isBetween : yX7_isBetween.cls ≠ "java/lang/invoke/MethodHandle" ∧ yX7_isBetween.cls ≠ "java/lang/invoke/VarHandle" ∧ (parseMethodDescriptor yX7_isBetween.desc).map (fun d => d.parameters.length) = some 3 := by decide +kernel
theorem hs_X7_isWireLetter : yX7_isWireLetter.cls ≠ "java/lang/invoke/MethodHandle" ∧ yX7_isWireLetter.cls ≠ "java/lang/invoke/VarHandle" ∧ (parseMethodDescriptor yX7_isWireLetter.desc).map (fun d => d.parameters.length) = some 1 := by decide +kernel
theorem hs_X7_firstWrong : yX7_firstWrong.cls ≠ "java/lang/invoke/MethodHandle" ∧ yX7_firstWrong.cls ≠ "java/lang/invoke/VarHandle" ∧ (parseMethodDescriptor yX7_firstWrong.desc).map (fun d => d.parameters.length) = some 0 := by decide +kernel
theorem hs_X7_isWire : yX7_isWire.cls ≠ "java/lang/invoke/MethodHandle" ∧ yX7_isWire.cls ≠ "java/lang/invoke/VarHandle" ∧ (parseMethodDescriptor yX7_isWire.desc).map (fun d => d.parameters.length) = some 0 := by decide +kernel
theorem hs_X9_kind : yX9_kind.cls ≠ "java/lang/invoke/MethodHandle" ∧ yX9_kind.cls ≠ "java/lang/invoke/VarHandle" ∧ (parseMethodDescriptor yX9_kind.desc).map (fun d => d.parameters.length) = some 0 := by decide +kernel
theorem hs_X9_goesAcross : yX9_goesAcross.cls ≠ "java/lang/invoke/MethodHandle" ∧ yX9_goesAcross.cls ≠ "java/lang/invoke/VarHandle" ∧ (parseMethodDescriptor yX9_goesAcross.desc).map (fun d => d.parameters.length) = some 1 := by decide +kernel
theorem hs_X9_hoursHere : yX9_hoursHere.cls ≠ "java/lang/invoke/MethodHandle" ∧ yX9_hoursHere.cls ≠ "java/lang/invoke/VarHandle" ∧ (parseMethodDescriptor yX9_hoursHere.desc).map (fun d => d.parameters.length) = some 1 := by decide +kernel
theorem hs_X10_emptied : yX10_emptied.cls ≠ "java/lang/invoke/MethodHandle" ∧ yX10_emptied.cls ≠ "java/lang/invoke/VarHandle" ∧ (parseMethodDescriptor yX10_emptied.desc).map (fun d => d.parameters.length) = some 0 := by decide +kernel
theorem hs_X11_byteOf : yX11_byteOf.cls ≠ "java/lang/invoke/MethodHandle" ∧ yX11_byteOf.cls ≠ "java/lang/invoke/VarHandle" ∧ (parseMethodDescriptor yX11_byteOf.desc).map (fun d => d.parameters.length) = some 2 := by decide +kernel
theorem hs_X11_lettersIn : yX11_lettersIn.cls ≠ "java/lang/invoke/MethodHandle" ∧ yX11_lettersIn.cls ≠ "java/lang/invoke/VarHandle" ∧ (parseMethodDescriptor yX11_lettersIn.desc).map (fun d => d.parameters.length) = some 1 := by decide +kernel
theorem hs_X11_letters : yX11_letters.cls ≠ "java/lang/invoke/MethodHandle" ∧ yX11_letters.cls ≠ "java/lang/invoke/VarHandle" ∧ (parseMethodDescriptor yX11_letters.desc).map (fun d => d.parameters.length) = some 1 := by decide +kernel
theorem hs_X11_fault : yX11_fault.cls ≠ "java/lang/invoke/MethodHandle" ∧ yX11_fault.cls ≠ "java/lang/invoke/VarHandle" ∧ (parseMethodDescriptor yX11_fault.desc).map (fun d => d.parameters.length) = some 0 := by decide +kernel
theorem hs_X11_wire : yX11_wire.cls ≠ "java/lang/invoke/MethodHandle" ∧ yX11_wire.cls ≠ "java/lang/invoke/VarHandle" ∧ (parseMethodDescriptor yX11_wire.desc).map (fun d => d.parameters.length) = some 0 := by decide +kernel
theorem hs_X11_isCabin : yX11_isCabin.cls ≠ "java/lang/invoke/MethodHandle" ∧ yX11_isCabin.cls ≠ "java/lang/invoke/VarHandle" ∧ (parseMethodDescriptor yX11_isCabin.desc).map (fun d => d.parameters.length) = some 1 := by decide +kernel
theorem hs_X11_cabin : yX11_cabin.cls ≠ "java/lang/invoke/MethodHandle" ∧ yX11_cabin.cls ≠ "java/lang/invoke/VarHandle" ∧ (parseMethodDescriptor yX11_cabin.desc).map (fun d => d.parameters.length) = some 2 := by decide +kernel
theorem hs_X11_isKind : yX11_isKind.cls ≠ "java/lang/invoke/MethodHandle" ∧ yX11_isKind.cls ≠ "java/lang/invoke/VarHandle" ∧ (parseMethodDescriptor yX11_isKind.desc).map (fun d => d.parameters.length) = some 1 := by decide +kernel
theorem hs_X11_newThing : yX11_newThing.cls ≠ "java/lang/invoke/MethodHandle" ∧ yX11_newThing.cls ≠ "java/lang/invoke/VarHandle" ∧ (parseMethodDescriptor yX11_newThing.desc).map (fun d => d.parameters.length) = some 4 := by decide +kernel
theorem hs_X11_thing : yX11_thing.cls ≠ "java/lang/invoke/MethodHandle" ∧ yX11_thing.cls ≠ "java/lang/invoke/VarHandle" ∧ (parseMethodDescriptor yX11_thing.desc).map (fun d => d.parameters.length) = some 3 := by decide +kernel
theorem hs_X11_about : yX11_about.cls ≠ "java/lang/invoke/MethodHandle" ∧ yX11_about.cls ≠ "java/lang/invoke/VarHandle" ∧ (parseMethodDescriptor yX11_about.desc).map (fun d => d.parameters.length) = some 2 := by decide +kernel
theorem hs_X11_isOfKind : yX11_isOfKind.cls ≠ "java/lang/invoke/MethodHandle" ∧ yX11_isOfKind.cls ≠ "java/lang/invoke/VarHandle" ∧ (parseMethodDescriptor yX11_isOfKind.desc).map (fun d => d.parameters.length) = some 2 := by decide +kernel
theorem hs_X11_as : yX11_as.cls ≠ "java/lang/invoke/MethodHandle" ∧ yX11_as.cls ≠ "java/lang/invoke/VarHandle" ∧ (parseMethodDescriptor yX11_as.desc).map (fun d => d.parameters.length) = some 2 := by decide +kernel
theorem hs_X11_carry : yX11_carry.cls ≠ "java/lang/invoke/MethodHandle" ∧ yX11_carry.cls ≠ "java/lang/invoke/VarHandle" ∧ (parseMethodDescriptor yX11_carry.desc).map (fun d => d.parameters.length) = some 1 := by decide +kernel
theorem hs_X11_isLength : yX11_isLength.cls ≠ "java/lang/invoke/MethodHandle" ∧ yX11_isLength.cls ≠ "java/lang/invoke/VarHandle" ∧ (parseMethodDescriptor yX11_isLength.desc).map (fun d => d.parameters.length) = some 1 := by decide +kernel
theorem hs_X11_hour : yX11_hour.cls ≠ "java/lang/invoke/MethodHandle" ∧ yX11_hour.cls ≠ "java/lang/invoke/VarHandle" ∧ (parseMethodDescriptor yX11_hour.desc).map (fun d => d.parameters.length) = some 1 := by decide +kernel
theorem hs_X11_apartOnCircle : yX11_apartOnCircle.cls ≠ "java/lang/invoke/MethodHandle" ∧ yX11_apartOnCircle.cls ≠ "java/lang/invoke/VarHandle" ∧ (parseMethodDescriptor yX11_apartOnCircle.desc).map (fun d => d.parameters.length) = some 2 := by decide +kernel
theorem hs_X11_caught : yX11_caught.cls ≠ "java/lang/invoke/MethodHandle" ∧ yX11_caught.cls ≠ "java/lang/invoke/VarHandle" ∧ (parseMethodDescriptor yX11_caught.desc).map (fun d => d.parameters.length) = some 1 := by decide +kernel
theorem hs_X11_nextSeed : yX11_nextSeed.cls ≠ "java/lang/invoke/MethodHandle" ∧ yX11_nextSeed.cls ≠ "java/lang/invoke/VarHandle" ∧ (parseMethodDescriptor yX11_nextSeed.desc).map (fun d => d.parameters.length) = some 1 := by decide +kernel
theorem hs_X11_windingOf : yX11_windingOf.cls ≠ "java/lang/invoke/MethodHandle" ∧ yX11_windingOf.cls ≠ "java/lang/invoke/VarHandle" ∧ (parseMethodDescriptor yX11_windingOf.desc).map (fun d => d.parameters.length) = some 1 := by decide +kernel
theorem hs_X11_tryHours : yX11_tryHours.cls ≠ "java/lang/invoke/MethodHandle" ∧ yX11_tryHours.cls ≠ "java/lang/invoke/VarHandle" ∧ (parseMethodDescriptor yX11_tryHours.desc).map (fun d => d.parameters.length) = some 2 := by decide +kernel
theorem hs_X11_whirls : yX11_whirls.cls ≠ "java/lang/invoke/MethodHandle" ∧ yX11_whirls.cls ≠ "java/lang/invoke/VarHandle" ∧ (parseMethodDescriptor yX11_whirls.desc).map (fun d => d.parameters.length) = some 3 := by decide +kernel
theorem hs_X11_count : yX11_count.cls ≠ "java/lang/invoke/MethodHandle" ∧ yX11_count.cls ≠ "java/lang/invoke/VarHandle" ∧ (parseMethodDescriptor yX11_count.desc).map (fun d => d.parameters.length) = some 1 := by decide +kernel
theorem hs_L_put : yL_put.cls ≠ "java/lang/invoke/MethodHandle" ∧ yL_put.cls ≠ "java/lang/invoke/VarHandle" ∧ (parseMethodDescriptor yL_put.desc).map (fun d => d.parameters.length) = some 2 := by decide +kernel
theorem hs_L_wire : yL_wire.cls ≠ "java/lang/invoke/MethodHandle" ∧ yL_wire.cls ≠ "java/lang/invoke/VarHandle" ∧ (parseMethodDescriptor yL_wire.desc).map (fun d => d.parameters.length) = some 3 := by decide +kernel
theorem hs_L_thing : yL_thing.cls ≠ "java/lang/invoke/MethodHandle" ∧ yL_thing.cls ≠ "java/lang/invoke/VarHandle" ∧ (parseMethodDescriptor yL_thing.desc).map (fun d => d.parameters.length) = some 3 := by decide +kernel
theorem hs_L_weighs : yL_weighs.cls ≠ "java/lang/invoke/MethodHandle" ∧ yL_weighs.cls ≠ "java/lang/invoke/VarHandle" ∧ (parseMethodDescriptor yL_weighs.desc).map (fun d => d.parameters.length) = some 3 := by decide +kernel
theorem hs_L_cabin : yL_cabin.cls ≠ "java/lang/invoke/MethodHandle" ∧ yL_cabin.cls ≠ "java/lang/invoke/VarHandle" ∧ (parseMethodDescriptor yL_cabin.desc).map (fun d => d.parameters.length) = some 4 := by decide +kernel
theorem hs_L_turns : yL_turns.cls ≠ "java/lang/invoke/MethodHandle" ∧ yL_turns.cls ≠ "java/lang/invoke/VarHandle" ∧ (parseMethodDescriptor yL_turns.desc).map (fun d => d.parameters.length) = some 2 := by decide +kernel
theorem hs_L_arm : yL_arm.cls ≠ "java/lang/invoke/MethodHandle" ∧ yL_arm.cls ≠ "java/lang/invoke/VarHandle" ∧ (parseMethodDescriptor yL_arm.desc).map (fun d => d.parameters.length) = some 5 := by decide +kernel
theorem hs_L_floor : yL_floor.cls ≠ "java/lang/invoke/MethodHandle" ∧ yL_floor.cls ≠ "java/lang/invoke/VarHandle" ∧ (parseMethodDescriptor yL_floor.desc).map (fun d => d.parameters.length) = some 5 := by decide +kernel
theorem hs_L_strain : yL_strain.cls ≠ "java/lang/invoke/MethodHandle" ∧ yL_strain.cls ≠ "java/lang/invoke/VarHandle" ∧ (parseMethodDescriptor yL_strain.desc).map (fun d => d.parameters.length) = some 3 := by decide +kernel
theorem hs_L_hour : yL_hour.cls ≠ "java/lang/invoke/MethodHandle" ∧ yL_hour.cls ≠ "java/lang/invoke/VarHandle" ∧ (parseMethodDescriptor yL_hour.desc).map (fun d => d.parameters.length) = some 2 := by decide +kernel
theorem hs_L_told : yL_told.cls ≠ "java/lang/invoke/MethodHandle" ∧ yL_told.cls ≠ "java/lang/invoke/VarHandle" ∧ (parseMethodDescriptor yL_told.desc).map (fun d => d.parameters.length) = some 2 := by decide +kernel
theorem hs_L_law : yL_law.cls ≠ "java/lang/invoke/MethodHandle" ∧ yL_law.cls ≠ "java/lang/invoke/VarHandle" ∧ (parseMethodDescriptor yL_law.desc).map (fun d => d.parameters.length) = some 1 := by decide +kernel
abbrev rm_X7_at : Room := { frames := 0, cells := 0, slots := 0, locals := 0 }
abbrev rm_X7_digitAt : Room := { frames := 1, cells := 0, slots := 0, locals := 21 }
abbrev rm_X0_hang : Room := { frames := 2, cells := 0, slots := 0, locals := 42 }
abbrev rm_X0_becomeLike : Room := { frames := 0, cells := 0, slots := 0, locals := 0 }
abbrev rm_X0_isThere : Room := { frames := 0, cells := 0, slots := 0, locals := 0 }
abbrev rm_X0_isWhole : Room := { frames := 0, cells := 0, slots := 0, locals := 0 }
abbrev rm_X0_turnsAt : Room := { frames := 0, cells := 0, slots := 0, locals := 0 }
abbrev rm_X0_turnsNow : Room := { frames := 1, cells := 0, slots := 0, locals := 21 }
abbrev rm_X0_armAt : Room := { frames := 0, cells := 0, slots := 0, locals := 0 }
abbrev rm_X0_floorAt : Room := { frames := 1, cells := 0, slots := 0, locals := 26 }
abbrev rm_X0_strainBy : Room := { frames := 0, cells := 0, slots := 0, locals := 0 }
abbrev rm_X1_weighs : Room := { frames := 0, cells := 0, slots := 0, locals := 0 }
abbrev rm_X4_weighs : Room := { frames := 0, cells := 0, slots := 0, locals := 0 }
abbrev rm_X5_weighs : Room := { frames := 0, cells := 0, slots := 0, locals := 0 }
abbrev rm_X6_at : Room := { frames := 0, cells := 0, slots := 0, locals := 0 }
abbrev rm_X9_weighs : Room := { frames := 0, cells := 0, slots := 0, locals := 0 }
abbrev rm_X6_weighsIn : Room := { frames := 1, cells := 0, slots := 0, locals := 21 }
abbrev rm_X0_armNow : Room := { frames := 2, cells := 0, slots := 0, locals := 46 }
abbrev rm_X0_floorNow : Room := { frames := 2, cells := 0, slots := 0, locals := 51 }
abbrev rm_X0_strainNow : Room := { frames := 2, cells := 0, slots := 0, locals := 51 }
abbrev rm_J9_floorMod_7cf53 : Room := { frames := 0, cells := 0, slots := 0, locals := 0 }
abbrev rm_X0_placeAfter : Room := { frames := 2, cells := 0, slots := 0, locals := 41 }
abbrev rm_X0_goHour : Room := { frames := 3, cells := 0, slots := 0, locals := 73 }
abbrev rm_X9_init : Room := { frames := 1, cells := 0, slots := 0, locals := 12 }
abbrev rm_X1_init : Room := { frames := 2, cells := 0, slots := 0, locals := 35 }
abbrev rm_X1_kind : Room := { frames := 0, cells := 0, slots := 0, locals := 0 }
abbrev rm_X3_init : Room := { frames := 2, cells := 0, slots := 0, locals := 35 }
abbrev rm_X3_kind : Room := { frames := 0, cells := 0, slots := 0, locals := 0 }
abbrev rm_X3_goesAcross : Room := { frames := 0, cells := 0, slots := 0, locals := 0 }
abbrev rm_X5_init : Room := { frames := 2, cells := 0, slots := 0, locals := 35 }
abbrev rm_X4_init : Room := { frames := 3, cells := 0, slots := 0, locals := 58 }
abbrev rm_X4_kind : Room := { frames := 0, cells := 0, slots := 0, locals := 0 }
abbrev rm_X5_kind : Room := { frames := 0, cells := 0, slots := 0, locals := 0 }
abbrev rm_X6_isFull : Room := { frames := 0, cells := 0, slots := 0, locals := 0 }
abbrev rm_X6_put : Room := { frames := 0, cells := 0, slots := 0, locals := 0 }
abbrev rm_J9_min_7cf53 : Room := { frames := 0, cells := 0, slots := 0, locals := 0 }
abbrev rm_X6_cutTo : Room := { frames := 1, cells := 0, slots := 0, locals := 21 }
abbrev rm_X6_sizeIn : Room := { frames := 1, cells := 0, slots := 0, locals := 21 }
abbrev rm_X7_hasRoomFor : Room := { frames := 0, cells := 0, slots := 0, locals := 0 }
abbrev rm_X7_put : Room := { frames := 0, cells := 0, slots := 0, locals := 0 }
abbrev rm_X7_emptied : Room := { frames := 0, cells := 0, slots := 0, locals := 0 }
abbrev rm_X7_isBetween : Room := { frames := 1, cells := 0, slots := 0, locals := 21 }
abbrev rm_X7_isWireLetter : Room := { frames := 2, cells := 0, slots := 0, locals := 44 }
abbrev rm_X7_firstWrong : Room := { frames := 3, cells := 0, slots := 0, locals := 65 }
abbrev rm_X7_isWire : Room := { frames := 4, cells := 0, slots := 0, locals := 86 }
abbrev rm_X9_kind : Room := { frames := 0, cells := 0, slots := 0, locals := 0 }
abbrev rm_X9_goesAcross : Room := { frames := 0, cells := 0, slots := 0, locals := 0 }
abbrev rm_X9_hoursHere : Room := { frames := 0, cells := 0, slots := 0, locals := 0 }
abbrev rm_X10_emptied : Room := { frames := 0, cells := 0, slots := 0, locals := 0 }
abbrev rm_X11_byteOf : Room := { frames := 0, cells := 0, slots := 0, locals := 0 }
abbrev rm_X11_lettersIn : Room := { frames := 1, cells := 0, slots := 0, locals := 22 }
abbrev rm_X11_letters : Room := { frames := 2, cells := 0, slots := 0, locals := 47 }
abbrev rm_X11_fault : Room := { frames := 4, cells := 0, slots := 0, locals := 86 }
abbrev rm_X11_wire : Room := { frames := 5, cells := 0, slots := 0, locals := 106 }
abbrev rm_X11_isCabin : Room := { frames := 0, cells := 0, slots := 0, locals := 0 }
abbrev rm_X11_cabin : Room := { frames := 3, cells := 0, slots := 0, locals := 73 }
abbrev rm_X11_isKind : Room := { frames := 0, cells := 0, slots := 0, locals := 0 }
abbrev rm_X11_newThing : Room := { frames := 4, cells := 1, slots := 3, locals := 81 }
abbrev rm_X11_thing : Room := { frames := 5, cells := 1, slots := 3, locals := 104 }
abbrev rm_X11_about : Room := { frames := 1, cells := 0, slots := 0, locals := 21 }
abbrev rm_X11_isOfKind : Room := { frames := 0, cells := 0, slots := 0, locals := 0 }
abbrev rm_X11_as : Room := { frames := 1, cells := 0, slots := 0, locals := 21 }
abbrev rm_X11_carry : Room := { frames := 2, cells := 0, slots := 0, locals := 41 }
abbrev rm_X11_isLength : Room := { frames := 0, cells := 0, slots := 0, locals := 0 }
abbrev rm_X11_hour : Room := { frames := 4, cells := 0, slots := 0, locals := 95 }
abbrev rm_X11_apartOnCircle : Room := { frames := 1, cells := 0, slots := 0, locals := 22 }
abbrev rm_X11_caught : Room := { frames := 3, cells := 0, slots := 0, locals := 62 }
abbrev rm_X11_nextSeed : Room := { frames := 0, cells := 0, slots := 0, locals := 0 }
abbrev rm_X11_windingOf : Room := { frames := 0, cells := 0, slots := 0, locals := 0 }
abbrev rm_X11_tryHours : Room := { frames := 4, cells := 0, slots := 0, locals := 95 }
abbrev rm_X11_whirls : Room := { frames := 5, cells := 0, slots := 0, locals := 120 }
abbrev rm_X11_count : Room := { frames := 3, cells := 0, slots := 0, locals := 73 }
abbrev rm_L_put : Room := { frames := 3, cells := 0, slots := 0, locals := 71 }
abbrev rm_L_wire : Room := { frames := 6, cells := 0, slots := 0, locals := 126 }
abbrev rm_L_thing : Room := { frames := 6, cells := 1, slots := 3, locals := 127 }
abbrev rm_L_weighs : Room := { frames := 0, cells := 0, slots := 0, locals := 0 }
abbrev rm_L_cabin : Room := { frames := 1, cells := 0, slots := 0, locals := 24 }
abbrev rm_L_turns : Room := { frames := 0, cells := 0, slots := 0, locals := 0 }
abbrev rm_L_arm : Room := { frames := 2, cells := 0, slots := 0, locals := 50 }
abbrev rm_L_floor : Room := { frames := 3, cells := 0, slots := 0, locals := 77 }
abbrev rm_L_strain : Room := { frames := 4, cells := 0, slots := 0, locals := 102 }
abbrev rm_L_hour : Room := { frames := 5, cells := 0, slots := 0, locals := 124 }
abbrev rm_L_told : Room := { frames := 5, cells := 0, slots := 0, locals := 124 }
abbrev rm_L_law : Room := { frames := 7, cells := 0, slots := 0, locals := 152 }
set_option maxHeartbeats 4000000 in
set_option maxRecDepth 100000 in
theorem c_X7_at (l : Launch) (D : va_G) (cy : Nat → ClassId) (A : Nat → Nat) {σ : St} {v1 : Int32} {Φ : Int32 → St → Prop} (hw : wX7_at σ v1 Φ) : CtI l yX7_at (.code yX7_at cX7_at 2 (some .int) :: gL) rm_X7_at 0 0 [.ref (A 1), .int v1] D cy A σ Φ := by
  refine ct_any (fun sz => va_Qi Φ (HE D cy A (gZ cy A σ sz)) (gZ cy A σ sz)) (by decide +kernel) rfl rfl [(0, .ref (A 1)), (1, .int v1)] rfl (Nat.le_of_ble_eq_true rfl) ?_
  intro κ hκl hnm C hK sz F
  subst hκl
  unfold wX7_at at hw
  refine g_iload_n C 1 rfl rfl dX7_at_0 ?_
  refine g_if_lt C 30 (by decide) hw dX7_at_1 (fun hw => ?_) (fun hw => ?_)
  · refine g_iconst (v := (0 : Int32)) C dX7_at_30 (by decide) ?_
    exact gq_I C F (by decide) (by decide) hw dX7_at_31
  · refine g_iload_n C 1 rfl rfl dX7_at_4 ?_
    refine g_aload_n C 0 rfl rfl dX7_at_5 ?_
    refine g_get C hK inX7 rfl 1 (ga_1 cy A _) 1 (by decide) (fun _ h => h) wt_28 rfl dX7_at_6 ?_
    refine g_icmp_ge C 30 (by decide) hw dX7_at_9 (fun hw => ?_) (fun hw => ?_)
    · refine g_iconst (v := (0 : Int32)) C dX7_at_30 (by decide) ?_
      exact gq_I C F (by decide) (by decide) hw dX7_at_31
    · refine g_iload_n C 1 rfl rfl dX7_at_12 ?_
      refine g_aload_n C 0 rfl rfl dX7_at_13 ?_
      refine g_get C hK inX7 rfl 1 (ga_1 cy A _) 0 (by decide) (fun _ h => h) wt_27 rfl dX7_at_14 ?_
      refine g_alen (v := 12) C hK 2 1 (ga_2 cy A _) rfl rfl dX7_at_17 ?_
      refine g_icmp_ge C 30 (by decide) hw dX7_at_18 (fun hw => ?_) (fun hw => ?_)
      · refine g_iconst (v := (0 : Int32)) C dX7_at_30 (by decide) ?_
        exact gq_I C F (by decide) (by decide) hw dX7_at_31
      · refine g_aload_n C 0 rfl rfl dX7_at_21 ?_
        refine g_get C hK inX7 rfl 1 (ga_1 cy A _) 0 (by decide) (fun _ h => h) wt_27 rfl dX7_at_22 ?_
        refine g_iload_n C 1 rfl rfl dX7_at_25 ?_
        refine g_cald C hK 2 1 (ga_2 cy A _) rfl hw.1 dX7_at_26 ?_
        replace hw := hw.2
        refine g_goto C 31 (by decide) dX7_at_27 ?_
        exact gq_I C F (by decide) (by decide) hw dX7_at_31
set_option maxHeartbeats 4000000 in
set_option maxRecDepth 100000 in
theorem c_X7_digitAt (l : Launch) (D : va_G) (cy : Nat → ClassId) (A : Nat → Nat) {σ : St} {v1 : Int32} {Φ : Int32 → St → Prop} (hw : wX7_digitAt σ v1 Φ) : CtI l yX7_digitAt (.code yX7_digitAt cX7_digitAt 2 (some .int) :: gL) rm_X7_digitAt 0 0 [.ref (A 1), .int v1] D cy A σ Φ := by
  refine ct_any (fun sz => va_Qi Φ (HE D cy A (gZ cy A σ sz)) (gZ cy A σ sz)) (by decide +kernel) rfl rfl [(0, .ref (A 1)), (1, .int v1)] rfl (Nat.le_of_ble_eq_true rfl) ?_
  intro κ hκl hnm C hK sz F
  subst hκl
  unfold wX7_digitAt at hw
  refine g_aload_n C 0 rfl rfl dX7_digitAt_0 ?_
  refine g_iload_n C 1 rfl rfl dX7_digitAt_1 ?_
  refine gc_I C (gr_V (As := [.int v1]) (rest := []) C hK 1 (gd_V wt_326 wt_327 wt_328 wt_2 wt_329) rfl rfl rfl ⟨rfl, hs_X7_at⟩ ⟨⟨Nat.le_of_ble_eq_true rfl, Nat.le_of_ble_eq_true rfl⟩, Nat.le_of_ble_eq_true rfl, Nat.le_of_ble_eq_true rfl⟩ rfl 1 (ga_1 cy A _) rfl rfl (Nat.le_of_ble_eq_true rfl) dX7_digitAt_2 (c_X7_at (q_l κ) (q_D κ) cy A hw)) (fun r2 σ1 hw => ?_)
  refine g_bipush (v := (48 : Int32)) C dX7_digitAt_5 (by decide) ?_
  refine g_isub C dX7_digitAt_7 ?_
  exact gq_I C F (by decide) (by decide) hw dX7_digitAt_8
set_option maxHeartbeats 4000000 in
set_option maxRecDepth 100000 in
theorem c_X0_hang (l : Launch) (D : va_G) (cy : Nat → ClassId) (A : Nat → Nat) {σ : St} {k : Nat} (hk : isC k) {Φ : St → Prop} (hw : wX0_hang σ k Φ) : CtV l yX0_hang (.code yX0_hang cX0_hang 2 none :: gL) rm_X0_hang 0 0 [.ref (A k), .ref (A 1)] D cy A σ Φ := by
  refine ct_any (fun sz => va_Qv Φ (HE D cy A (gZ cy A σ sz)) (gZ cy A σ sz)) (by decide +kernel) rfl rfl [(0, .ref (A k)), (1, .ref (A 1))] rfl (Nat.le_of_ble_eq_true rfl) ?_
  intro κ hκl hnm C hK sz F
  subst hκl
  have J81 : ∀ (σ : St) (s0 : Int32), wX0_hang_81 k Φ σ s0 → GW κ 0 0 (gW cy A σ) 81 [(0, .ref (A k))] [.int s0, .ref (A k)] := by
    intro σ s0 hw
    unfold wX0_hang_81 at hw
    refine g_put (v := .int s0) C hK inX0 rfl tyX0 tyX0_ok nmX0 k (ga_c cy A _ hk) 5 (by decide) (fun _ h => h) wt_47 rfl (by rcases hw.1 with e | e <;> rw [e] <;> rfl) (by rcases hw.1 with e | e <;> rw [e] <;> rfl) (Nat.le_of_ble_eq_true rfl) (gp_c_5 cy A _ _ hk) dX0_hang_81 ?_
    replace hw := hw.2
    refine g_aload_n C 0 rfl rfl dX0_hang_84 ?_
    refine g_iconst (v := (0 : Int32)) C dX0_hang_85 (by decide) ?_
    refine g_put (v := .int (0 : Int32)) C hK inX0 rfl tyX0 tyX0_ok nmX0 k (ga_c cy A _ hk) 3 (by decide) (fun _ h => h) wt_43 rfl rfl rfl (Nat.le_of_ble_eq_true rfl) (gp_c_3 cy A _ _ hk) dX0_hang_86 ?_
    refine g_aload_n C 0 rfl rfl dX0_hang_89 ?_
    refine g_iconst (v := (0 : Int32)) C dX0_hang_90 (by decide) ?_
    refine g_put (v := .int (0 : Int32)) C hK inX0 rfl tyX0 tyX0_ok nmX0 k (ga_c cy A _ hk) 4 (by decide) (fun _ h => h) wt_45 rfl rfl rfl (Nat.le_of_ble_eq_true rfl) (gp_c_4 cy A _ _ hk) dX0_hang_91 ?_
    refine g_aload_n C 0 rfl rfl dX0_hang_94 ?_
    refine g_iconst (v := (0 : Int32)) C dX0_hang_95 (by decide) ?_
    refine g_put (v := .int (0 : Int32)) C hK inX0 rfl tyX0 tyX0_ok nmX0 k (ga_c cy A _ hk) 6 (by decide) (fun _ h => h) wt_49 rfl (by rcases hw.1 with e | e <;> rw [e] <;> rfl) (by rcases hw.1 with e | e <;> rw [e] <;> rfl) (Nat.le_of_ble_eq_true rfl) (gp_c_6 cy A _ _ hk) dX0_hang_96 ?_
    replace hw := hw.2
    exact gq_V C F (by decide) (by decide) hw dX0_hang_99
  unfold wX0_hang at hw
  refine g_aload_n C 0 rfl rfl dX0_hang_0 ?_
  refine g_bipush (v := (10 : Int32)) C dX0_hang_1 (by decide) ?_
  refine g_aload_n C 1 rfl rfl dX0_hang_3 ?_
  refine g_iconst (v := (0 : Int32)) C dX0_hang_4 (by decide) ?_
  refine gc_I C (gr_V (As := [.int (0 : Int32)]) (rest := [.int (10 : Int32), .ref (A k)]) C hK 1 (gd_V wt_343 wt_344 wt_345 wt_2 wt_346) rfl rfl rfl ⟨rfl, hs_X7_digitAt⟩ ⟨⟨Nat.le_of_ble_eq_true rfl, Nat.le_of_ble_eq_true rfl⟩, Nat.le_of_ble_eq_true rfl, Nat.le_of_ble_eq_true rfl⟩ rfl 1 (ga_1 cy A _) rfl rfl (Nat.le_of_ble_eq_true rfl) dX0_hang_5 (c_X7_digitAt (q_l κ) (q_D κ) cy A hw)) (fun r2 σ1 hw => ?_)
  refine g_imul C dX0_hang_8 ?_
  refine g_aload_n C 1 rfl rfl dX0_hang_9 ?_
  refine g_iconst (v := (1 : Int32)) C dX0_hang_10 (by decide) ?_
  refine gc_I C (gr_V (As := [.int (1 : Int32)]) (rest := [.int ((10 : Int32) * r2), .ref (A k)]) C hK 1 (gd_V wt_343 wt_344 wt_345 wt_2 wt_346) rfl rfl rfl ⟨rfl, hs_X7_digitAt⟩ ⟨⟨Nat.le_of_ble_eq_true rfl, Nat.le_of_ble_eq_true rfl⟩, Nat.le_of_ble_eq_true rfl, Nat.le_of_ble_eq_true rfl⟩ rfl 1 (ga_1 cy A _) rfl rfl (Nat.le_of_ble_eq_true rfl) dX0_hang_11 (c_X7_digitAt (q_l κ) (q_D κ) cy A hw)) (fun r4 σ3 hw => ?_)
  refine g_iadd C dX0_hang_14 ?_
  refine g_put (v := .int (((10 : Int32) * r2) + r4)) C hK inX0 rfl tyX0 tyX0_ok nmX0 k (ga_c cy A _ hk) 0 (by decide) (fun _ h => h) wt_37 rfl rfl rfl (Nat.le_of_ble_eq_true rfl) (gp_c_0 cy A _ _ hk) dX0_hang_15 ?_
  refine g_aload_n C 0 rfl rfl dX0_hang_18 ?_
  refine g_aload_n C 0 rfl rfl dX0_hang_19 ?_
  refine g_get C hK inX0 rfl k (ga_c cy A _ hk) 0 (by decide) (fun _ h => h) wt_37 rfl dX0_hang_20 ?_
  refine g_aload_n C 0 rfl rfl dX0_hang_23 ?_
  refine g_get C hK inX0 rfl k (ga_c cy A _ hk) 0 (by decide) (fun _ h => h) wt_37 rfl dX0_hang_24 ?_
  refine g_imul C dX0_hang_27 ?_
  refine g_aload_n C 1 rfl rfl dX0_hang_28 ?_
  refine g_iconst (v := (3 : Int32)) C dX0_hang_29 (by decide) ?_
  refine gc_I C (gr_V (As := [.int (3 : Int32)]) (rest := [.int (((sV σ3 k 0 (((10 : Int32) * r2) + r4)).1 k 0) * ((sV σ3 k 0 (((10 : Int32) * r2) + r4)).1 k 0)), .ref (A k)]) C hK 1 (gd_V wt_343 wt_344 wt_345 wt_2 wt_346) rfl rfl rfl ⟨rfl, hs_X7_digitAt⟩ ⟨⟨Nat.le_of_ble_eq_true rfl, Nat.le_of_ble_eq_true rfl⟩, Nat.le_of_ble_eq_true rfl, Nat.le_of_ble_eq_true rfl⟩ rfl 1 (ga_1 cy A _) rfl rfl (Nat.le_of_ble_eq_true rfl) dX0_hang_30 (c_X7_digitAt (q_l κ) (q_D κ) cy A hw)) (fun r6 σ5 hw => ?_)
  refine g_imul C dX0_hang_33 ?_
  refine g_put (v := .int ((((sV σ3 k 0 (((10 : Int32) * r2) + r4)).1 k 0) * ((sV σ3 k 0 (((10 : Int32) * r2) + r4)).1 k 0)) * r6)) C hK inX0 rfl tyX0 tyX0_ok nmX0 k (ga_c cy A _ hk) 1 (by decide) (fun _ h => h) wt_39 rfl rfl rfl (Nat.le_of_ble_eq_true rfl) (gp_c_1 cy A _ _ hk) dX0_hang_34 ?_
  refine g_aload_n C 0 rfl rfl dX0_hang_37 ?_
  refine g_bipush (v := (100 : Int32)) C dX0_hang_38 (by decide) ?_
  refine g_aload_n C 1 rfl rfl dX0_hang_40 ?_
  refine g_iconst (v := (5 : Int32)) C dX0_hang_41 (by decide) ?_
  refine gc_I C (gr_V (As := [.int (5 : Int32)]) (rest := [.int (100 : Int32), .ref (A k)]) C hK 1 (gd_V wt_343 wt_344 wt_345 wt_2 wt_346) rfl rfl rfl ⟨rfl, hs_X7_digitAt⟩ ⟨⟨Nat.le_of_ble_eq_true rfl, Nat.le_of_ble_eq_true rfl⟩, Nat.le_of_ble_eq_true rfl, Nat.le_of_ble_eq_true rfl⟩ rfl 1 (ga_1 cy A _) rfl rfl (Nat.le_of_ble_eq_true rfl) dX0_hang_42 (c_X7_digitAt (q_l κ) (q_D κ) cy A hw)) (fun r8 σ7 hw => ?_)
  refine g_imul C dX0_hang_45 ?_
  refine g_bipush (v := (10 : Int32)) C dX0_hang_46 (by decide) ?_
  refine g_aload_n C 1 rfl rfl dX0_hang_48 ?_
  refine g_bipush (v := (6 : Int32)) C dX0_hang_49 (by decide) ?_
  refine gc_I C (gr_V (As := [.int (6 : Int32)]) (rest := [.int (10 : Int32), .int ((100 : Int32) * r8), .ref (A k)]) C hK 1 (gd_V wt_343 wt_344 wt_345 wt_2 wt_346) rfl rfl rfl ⟨rfl, hs_X7_digitAt⟩ ⟨⟨Nat.le_of_ble_eq_true rfl, Nat.le_of_ble_eq_true rfl⟩, Nat.le_of_ble_eq_true rfl, Nat.le_of_ble_eq_true rfl⟩ rfl 1 (ga_1 cy A _) rfl rfl (Nat.le_of_ble_eq_true rfl) dX0_hang_51 (c_X7_digitAt (q_l κ) (q_D κ) cy A hw)) (fun r10 σ9 hw => ?_)
  refine g_imul C dX0_hang_54 ?_
  refine g_iadd C dX0_hang_55 ?_
  refine g_aload_n C 1 rfl rfl dX0_hang_56 ?_
  refine g_bipush (v := (7 : Int32)) C dX0_hang_57 (by decide) ?_
  refine gc_I C (gr_V (As := [.int (7 : Int32)]) (rest := [.int (((100 : Int32) * r8) + ((10 : Int32) * r10)), .ref (A k)]) C hK 1 (gd_V wt_343 wt_344 wt_345 wt_2 wt_346) rfl rfl rfl ⟨rfl, hs_X7_digitAt⟩ ⟨⟨Nat.le_of_ble_eq_true rfl, Nat.le_of_ble_eq_true rfl⟩, Nat.le_of_ble_eq_true rfl, Nat.le_of_ble_eq_true rfl⟩ rfl 1 (ga_1 cy A _) rfl rfl (Nat.le_of_ble_eq_true rfl) dX0_hang_59 (c_X7_digitAt (q_l κ) (q_D κ) cy A hw)) (fun r12 σ11 hw => ?_)
  refine g_iadd C dX0_hang_62 ?_
  refine g_put (v := .int ((((100 : Int32) * r8) + ((10 : Int32) * r10)) + r12)) C hK inX0 rfl tyX0 tyX0_ok nmX0 k (ga_c cy A _ hk) 2 (by decide) (fun _ h => h) wt_41 rfl rfl rfl (Nat.le_of_ble_eq_true rfl) (gp_c_2 cy A _ _ hk) dX0_hang_63 ?_
  refine g_aload_n C 0 rfl rfl dX0_hang_66 ?_
  refine g_aload_n C 1 rfl rfl dX0_hang_67 ?_
  refine g_get C hK inX7 rfl 1 (ga_1 cy A _) 1 (by decide) (fun _ h => h) wt_30 rfl dX0_hang_68 ?_
  refine g_bipush (v := (8 : Int32)) C dX0_hang_71 (by decide) ?_
  refine g_icmp_le C 80 (by decide) hw dX0_hang_73 (fun hw => ?_) (fun hw => ?_)
  · refine g_iconst (v := (0 : Int32)) C dX0_hang_80 (by decide) ?_
    refine g_eql (lv' := [(0, .ref (A k))]) [0] rfl ?_
    exact J81 (sV σ11 k 2 ((((100 : Int32) * r8) + ((10 : Int32) * r10)) + r12)) (0 : Int32) hw
  · refine g_iconst (v := (1 : Int32)) C dX0_hang_76 (by decide) ?_
    refine g_goto C 81 (by decide) dX0_hang_77 ?_
    refine g_eql (lv' := [(0, .ref (A k))]) [0] rfl ?_
    exact J81 (sV σ11 k 2 ((((100 : Int32) * r8) + ((10 : Int32) * r10)) + r12)) (1 : Int32) hw
set_option maxHeartbeats 4000000 in
set_option maxRecDepth 100000 in
theorem c_X0_becomeLike (l : Launch) (D : va_G) (cy : Nat → ClassId) (A : Nat → Nat) {σ : St} {k : Nat} (hk : isC k) {k2 : Nat} (hk2 : isC k2) {Φ : St → Prop} (hw : wX0_becomeLike σ k k2 Φ) : CtV l yX0_becomeLike (.code yX0_becomeLike cX0_becomeLike 2 none :: gL) rm_X0_becomeLike 0 0 [.ref (A k), .ref (A k2)] D cy A σ Φ := by
  refine ct_any (fun sz => va_Qv Φ (HE D cy A (gZ cy A σ sz)) (gZ cy A σ sz)) (by decide +kernel) rfl rfl [(0, .ref (A k)), (1, .ref (A k2))] rfl (Nat.le_of_ble_eq_true rfl) ?_
  intro κ hκl hnm C hK sz F
  subst hκl
  unfold wX0_becomeLike at hw
  refine g_aload_n C 0 rfl rfl dX0_becomeLike_0 ?_
  refine g_aload_n C 1 rfl rfl dX0_becomeLike_1 ?_
  refine g_get C hK inX0 rfl k2 (ga_c cy A _ hk2) 0 (by decide) (fun _ h => h) wt_37 rfl dX0_becomeLike_2 ?_
  refine g_put (v := .int (σ.1 k2 0)) C hK inX0 rfl tyX0 tyX0_ok nmX0 k (ga_c cy A _ hk) 0 (by decide) (fun _ h => h) wt_37 rfl rfl rfl (Nat.le_of_ble_eq_true rfl) (gp_c_0 cy A _ _ hk) dX0_becomeLike_5 ?_
  refine g_aload_n C 0 rfl rfl dX0_becomeLike_8 ?_
  refine g_aload_n C 1 rfl rfl dX0_becomeLike_9 ?_
  refine g_get C hK inX0 rfl k2 (ga_c cy A _ hk2) 1 (by decide) (fun _ h => h) wt_39 rfl dX0_becomeLike_10 ?_
  refine g_put (v := .int ((sV σ k 0 (σ.1 k2 0)).1 k2 1)) C hK inX0 rfl tyX0 tyX0_ok nmX0 k (ga_c cy A _ hk) 1 (by decide) (fun _ h => h) wt_39 rfl rfl rfl (Nat.le_of_ble_eq_true rfl) (gp_c_1 cy A _ _ hk) dX0_becomeLike_13 ?_
  refine g_aload_n C 0 rfl rfl dX0_becomeLike_16 ?_
  refine g_aload_n C 1 rfl rfl dX0_becomeLike_17 ?_
  refine g_get C hK inX0 rfl k2 (ga_c cy A _ hk2) 2 (by decide) (fun _ h => h) wt_41 rfl dX0_becomeLike_18 ?_
  refine g_put (v := .int ((sV (sV σ k 0 (σ.1 k2 0)) k 1 ((sV σ k 0 (σ.1 k2 0)).1 k2 1)).1 k2 2)) C hK inX0 rfl tyX0 tyX0_ok nmX0 k (ga_c cy A _ hk) 2 (by decide) (fun _ h => h) wt_41 rfl rfl rfl (Nat.le_of_ble_eq_true rfl) (gp_c_2 cy A _ _ hk) dX0_becomeLike_21 ?_
  refine g_aload_n C 0 rfl rfl dX0_becomeLike_24 ?_
  refine g_aload_n C 1 rfl rfl dX0_becomeLike_25 ?_
  refine g_get C hK inX0 rfl k2 (ga_c cy A _ hk2) 3 (by decide) (fun _ h => h) wt_43 rfl dX0_becomeLike_26 ?_
  refine g_put (v := .int ((sV (sV (sV σ k 0 (σ.1 k2 0)) k 1 ((sV σ k 0 (σ.1 k2 0)).1 k2 1)) k 2 ((sV (sV σ k 0 (σ.1 k2 0)) k 1 ((sV σ k 0 (σ.1 k2 0)).1 k2 1)).1 k2 2)).1 k2 3)) C hK inX0 rfl tyX0 tyX0_ok nmX0 k (ga_c cy A _ hk) 3 (by decide) (fun _ h => h) wt_43 rfl rfl rfl (Nat.le_of_ble_eq_true rfl) (gp_c_3 cy A _ _ hk) dX0_becomeLike_29 ?_
  refine g_aload_n C 0 rfl rfl dX0_becomeLike_32 ?_
  refine g_aload_n C 1 rfl rfl dX0_becomeLike_33 ?_
  refine g_get C hK inX0 rfl k2 (ga_c cy A _ hk2) 4 (by decide) (fun _ h => h) wt_45 rfl dX0_becomeLike_34 ?_
  refine g_put (v := .int ((sV (sV (sV (sV σ k 0 (σ.1 k2 0)) k 1 ((sV σ k 0 (σ.1 k2 0)).1 k2 1)) k 2 ((sV (sV σ k 0 (σ.1 k2 0)) k 1 ((sV σ k 0 (σ.1 k2 0)).1 k2 1)).1 k2 2)) k 3 ((sV (sV (sV σ k 0 (σ.1 k2 0)) k 1 ((sV σ k 0 (σ.1 k2 0)).1 k2 1)) k 2 ((sV (sV σ k 0 (σ.1 k2 0)) k 1 ((sV σ k 0 (σ.1 k2 0)).1 k2 1)).1 k2 2)).1 k2 3)).1 k2 4)) C hK inX0 rfl tyX0 tyX0_ok nmX0 k (ga_c cy A _ hk) 4 (by decide) (fun _ h => h) wt_45 rfl rfl rfl (Nat.le_of_ble_eq_true rfl) (gp_c_4 cy A _ _ hk) dX0_becomeLike_37 ?_
  refine g_aload_n C 0 rfl rfl dX0_becomeLike_40 ?_
  refine g_aload_n C 1 rfl rfl dX0_becomeLike_41 ?_
  refine g_get C hK inX0 rfl k2 (ga_c cy A _ hk2) 5 (by decide) (fun _ h => h) wt_47 rfl dX0_becomeLike_42 ?_
  refine g_put (v := .int ((sV (sV (sV (sV (sV σ k 0 (σ.1 k2 0)) k 1 ((sV σ k 0 (σ.1 k2 0)).1 k2 1)) k 2 ((sV (sV σ k 0 (σ.1 k2 0)) k 1 ((sV σ k 0 (σ.1 k2 0)).1 k2 1)).1 k2 2)) k 3 ((sV (sV (sV σ k 0 (σ.1 k2 0)) k 1 ((sV σ k 0 (σ.1 k2 0)).1 k2 1)) k 2 ((sV (sV σ k 0 (σ.1 k2 0)) k 1 ((sV σ k 0 (σ.1 k2 0)).1 k2 1)).1 k2 2)).1 k2 3)) k 4 ((sV (sV (sV (sV σ k 0 (σ.1 k2 0)) k 1 ((sV σ k 0 (σ.1 k2 0)).1 k2 1)) k 2 ((sV (sV σ k 0 (σ.1 k2 0)) k 1 ((sV σ k 0 (σ.1 k2 0)).1 k2 1)).1 k2 2)) k 3 ((sV (sV (sV σ k 0 (σ.1 k2 0)) k 1 ((sV σ k 0 (σ.1 k2 0)).1 k2 1)) k 2 ((sV (sV σ k 0 (σ.1 k2 0)) k 1 ((sV σ k 0 (σ.1 k2 0)).1 k2 1)).1 k2 2)).1 k2 3)).1 k2 4)).1 k2 5)) C hK inX0 rfl tyX0 tyX0_ok nmX0 k (ga_c cy A _ hk) 5 (by decide) (fun _ h => h) wt_47 rfl (by rcases hw.1 with e | e <;> rw [e] <;> rfl) (by rcases hw.1 with e | e <;> rw [e] <;> rfl) (Nat.le_of_ble_eq_true rfl) (gp_c_5 cy A _ _ hk) dX0_becomeLike_45 ?_
  replace hw := hw.2
  refine g_aload_n C 0 rfl rfl dX0_becomeLike_48 ?_
  refine g_aload_n C 1 rfl rfl dX0_becomeLike_49 ?_
  refine g_get C hK inX0 rfl k2 (ga_c cy A _ hk2) 6 (by decide) (fun _ h => h) wt_49 rfl dX0_becomeLike_50 ?_
  refine g_put (v := .int ((sV (sV (sV (sV (sV (sV σ k 0 (σ.1 k2 0)) k 1 ((sV σ k 0 (σ.1 k2 0)).1 k2 1)) k 2 ((sV (sV σ k 0 (σ.1 k2 0)) k 1 ((sV σ k 0 (σ.1 k2 0)).1 k2 1)).1 k2 2)) k 3 ((sV (sV (sV σ k 0 (σ.1 k2 0)) k 1 ((sV σ k 0 (σ.1 k2 0)).1 k2 1)) k 2 ((sV (sV σ k 0 (σ.1 k2 0)) k 1 ((sV σ k 0 (σ.1 k2 0)).1 k2 1)).1 k2 2)).1 k2 3)) k 4 ((sV (sV (sV (sV σ k 0 (σ.1 k2 0)) k 1 ((sV σ k 0 (σ.1 k2 0)).1 k2 1)) k 2 ((sV (sV σ k 0 (σ.1 k2 0)) k 1 ((sV σ k 0 (σ.1 k2 0)).1 k2 1)).1 k2 2)) k 3 ((sV (sV (sV σ k 0 (σ.1 k2 0)) k 1 ((sV σ k 0 (σ.1 k2 0)).1 k2 1)) k 2 ((sV (sV σ k 0 (σ.1 k2 0)) k 1 ((sV σ k 0 (σ.1 k2 0)).1 k2 1)).1 k2 2)).1 k2 3)).1 k2 4)) k 5 ((sV (sV (sV (sV (sV σ k 0 (σ.1 k2 0)) k 1 ((sV σ k 0 (σ.1 k2 0)).1 k2 1)) k 2 ((sV (sV σ k 0 (σ.1 k2 0)) k 1 ((sV σ k 0 (σ.1 k2 0)).1 k2 1)).1 k2 2)) k 3 ((sV (sV (sV σ k 0 (σ.1 k2 0)) k 1 ((sV σ k 0 (σ.1 k2 0)).1 k2 1)) k 2 ((sV (sV σ k 0 (σ.1 k2 0)) k 1 ((sV σ k 0 (σ.1 k2 0)).1 k2 1)).1 k2 2)).1 k2 3)) k 4 ((sV (sV (sV (sV σ k 0 (σ.1 k2 0)) k 1 ((sV σ k 0 (σ.1 k2 0)).1 k2 1)) k 2 ((sV (sV σ k 0 (σ.1 k2 0)) k 1 ((sV σ k 0 (σ.1 k2 0)).1 k2 1)).1 k2 2)) k 3 ((sV (sV (sV σ k 0 (σ.1 k2 0)) k 1 ((sV σ k 0 (σ.1 k2 0)).1 k2 1)) k 2 ((sV (sV σ k 0 (σ.1 k2 0)) k 1 ((sV σ k 0 (σ.1 k2 0)).1 k2 1)).1 k2 2)).1 k2 3)).1 k2 4)).1 k2 5)).1 k2 6)) C hK inX0 rfl tyX0 tyX0_ok nmX0 k (ga_c cy A _ hk) 6 (by decide) (fun _ h => h) wt_49 rfl (by rcases hw.1 with e | e <;> rw [e] <;> rfl) (by rcases hw.1 with e | e <;> rw [e] <;> rfl) (Nat.le_of_ble_eq_true rfl) (gp_c_6 cy A _ _ hk) dX0_becomeLike_53 ?_
  replace hw := hw.2
  exact gq_V C F (by decide) (by decide) hw dX0_becomeLike_56
set_option maxHeartbeats 4000000 in
set_option maxRecDepth 100000 in
theorem c_X0_isThere (l : Launch) (D : va_G) (cy : Nat → ClassId) (A : Nat → Nat) {σ : St} {k : Nat} (hk : isC k) {Φ : Int32 → St → Prop} (hw : wX0_isThere σ k Φ) : CtI l yX0_isThere (.code yX0_isThere cX0_isThere 1 (some .boolean) :: gL) rm_X0_isThere 0 0 [.ref (A k)] D cy A σ Φ := by
  refine ct_any (fun sz => va_Qi Φ (HE D cy A (gZ cy A σ sz)) (gZ cy A σ sz)) (by decide +kernel) rfl rfl [(0, .ref (A k))] rfl (Nat.le_of_ble_eq_true rfl) ?_
  intro κ hκl hnm C hK sz F
  subst hκl
  unfold wX0_isThere at hw
  refine g_aload_n C 0 rfl rfl dX0_isThere_0 ?_
  refine g_get C hK inX0 rfl k (ga_c cy A _ hk) 0 (by decide) (fun _ h => h) wt_37 rfl dX0_isThere_1 ?_
  refine g_if_le C 11 (by decide) hw dX0_isThere_4 (fun hw => ?_) (fun hw => ?_)
  · refine g_iconst (v := (0 : Int32)) C dX0_isThere_11 (by decide) ?_
    exact gq_Z C F (by decide) (by decide) hw dX0_isThere_12
  · refine g_iconst (v := (1 : Int32)) C dX0_isThere_7 (by decide) ?_
    refine g_goto C 12 (by decide) dX0_isThere_8 ?_
    exact gq_Z C F (by decide) (by decide) hw dX0_isThere_12
set_option maxHeartbeats 4000000 in
set_option maxRecDepth 100000 in
theorem c_X0_isWhole (l : Launch) (D : va_G) (cy : Nat → ClassId) (A : Nat → Nat) {σ : St} {k : Nat} (hk : isC k) {Φ : Int32 → St → Prop} (hw : wX0_isWhole σ k Φ) : CtI l yX0_isWhole (.code yX0_isWhole cX0_isWhole 1 (some .boolean) :: gL) rm_X0_isWhole 0 0 [.ref (A k)] D cy A σ Φ := by
  refine ct_any (fun sz => va_Qi Φ (HE D cy A (gZ cy A σ sz)) (gZ cy A σ sz)) (by decide +kernel) rfl rfl [(0, .ref (A k))] rfl (Nat.le_of_ble_eq_true rfl) ?_
  intro κ hκl hnm C hK sz F
  subst hκl
  unfold wX0_isWhole at hw
  refine g_aload_n C 0 rfl rfl dX0_isWhole_0 ?_
  refine g_get C hK inX0 rfl k (ga_c cy A _ hk) 0 (by decide) (fun _ h => h) wt_37 rfl dX0_isWhole_1 ?_
  refine g_if_le C 18 (by decide) hw dX0_isWhole_4 (fun hw => ?_) (fun hw => ?_)
  · refine g_iconst (v := (0 : Int32)) C dX0_isWhole_18 (by decide) ?_
    exact gq_Z C F (by decide) (by decide) hw dX0_isWhole_19
  · refine g_aload_n C 0 rfl rfl dX0_isWhole_7 ?_
    refine g_get C hK inX0 rfl k (ga_c cy A _ hk) 6 (by decide) (fun _ h => h) wt_49 rfl dX0_isWhole_8 ?_
    refine g_if_ne C 18 (by decide) hw dX0_isWhole_11 (fun hw => ?_) (fun hw => ?_)
    · refine g_iconst (v := (0 : Int32)) C dX0_isWhole_18 (by decide) ?_
      exact gq_Z C F (by decide) (by decide) hw dX0_isWhole_19
    · refine g_iconst (v := (1 : Int32)) C dX0_isWhole_14 (by decide) ?_
      refine g_goto C 19 (by decide) dX0_isWhole_15 ?_
      exact gq_Z C F (by decide) (by decide) hw dX0_isWhole_19
set_option maxHeartbeats 4000000 in
set_option maxRecDepth 100000 in
theorem c_X0_turnsAt (l : Launch) (D : va_G) (cy : Nat → ClassId) (A : Nat → Nat) {σ : St} {k : Nat} (hk : isC k) {v1 : Int32} {Φ : Int32 → St → Prop} (hw : wX0_turnsAt σ k v1 Φ) : CtI l yX0_turnsAt (.code yX0_turnsAt cX0_turnsAt 2 (some .int) :: gL) rm_X0_turnsAt 0 0 [.ref (A k), .int v1] D cy A σ Φ := by
  refine ct_any (fun sz => va_Qi Φ (HE D cy A (gZ cy A σ sz)) (gZ cy A σ sz)) (by decide +kernel) rfl rfl [(0, .ref (A k)), (1, .int v1)] rfl (Nat.le_of_ble_eq_true rfl) ?_
  intro κ hκl hnm C hK sz F
  subst hκl
  unfold wX0_turnsAt at hw
  refine g_iload_n C 1 rfl rfl dX0_turnsAt_0 ?_
  refine g_bipush (v := (10 : Int32)) C dX0_turnsAt_1 (by decide) ?_
  refine g_icmp_lt C 23 (by decide) hw dX0_turnsAt_3 (fun hw => ?_) (fun hw => ?_)
  · refine g_iconst (v := (0 : Int32)) C dX0_turnsAt_23 (by decide) ?_
    exact gq_I C F (by decide) (by decide) hw dX0_turnsAt_24
  · refine g_iload_n C 1 rfl rfl dX0_turnsAt_6 ?_
    refine g_bipush (v := (40 : Int32)) C dX0_turnsAt_7 (by decide) ?_
    refine g_icmp_gt C 23 (by decide) hw dX0_turnsAt_9 (fun hw => ?_) (fun hw => ?_)
    · refine g_iconst (v := (0 : Int32)) C dX0_turnsAt_23 (by decide) ?_
      exact gq_I C F (by decide) (by decide) hw dX0_turnsAt_24
    · refine g_aload_n C 0 rfl rfl dX0_turnsAt_12 ?_
      refine g_get C hK inX0 rfl k (ga_c cy A _ hk) 1 (by decide) (fun _ h => h) wt_39 rfl dX0_turnsAt_13 ?_
      refine g_iload_n C 1 rfl rfl dX0_turnsAt_16 ?_
      refine g_iload_n C 1 rfl rfl dX0_turnsAt_17 ?_
      refine g_imul C dX0_turnsAt_18 ?_
      refine g_idiv C hw.1 dX0_turnsAt_19 ?_
      replace hw := hw.2
      refine g_goto C 24 (by decide) dX0_turnsAt_20 ?_
      exact gq_I C F (by decide) (by decide) hw dX0_turnsAt_24
set_option maxHeartbeats 4000000 in
set_option maxRecDepth 100000 in
theorem c_X0_turnsNow (l : Launch) (D : va_G) (cy : Nat → ClassId) (A : Nat → Nat) {σ : St} {k : Nat} (hk : isC k) {Φ : Int32 → St → Prop} (hw : wX0_turnsNow σ k Φ) : CtI l yX0_turnsNow (.code yX0_turnsNow cX0_turnsNow 1 (some .int) :: gL) rm_X0_turnsNow 0 0 [.ref (A k)] D cy A σ Φ := by
  refine ct_any (fun sz => va_Qi Φ (HE D cy A (gZ cy A σ sz)) (gZ cy A σ sz)) (by decide +kernel) rfl rfl [(0, .ref (A k))] rfl (Nat.le_of_ble_eq_true rfl) ?_
  intro κ hκl hnm C hK sz F
  subst hκl
  unfold wX0_turnsNow at hw
  refine g_aload_n C 0 rfl rfl dX0_turnsNow_0 ?_
  refine g_aload_n C 0 rfl rfl dX0_turnsNow_1 ?_
  refine g_get C hK inX0 rfl k (ga_c cy A _ hk) 0 (by decide) (fun _ h => h) wt_37 rfl dX0_turnsNow_2 ?_
  refine gc_I C (gr_V (As := [.int (σ.1 k 0)]) (rest := []) C hK 1 (gd_V wt_146 wt_147 wt_148 wt_3 wt_149) rfl rfl rfl ⟨rfl, hs_X0_turnsAt⟩ ⟨⟨Nat.le_of_ble_eq_true rfl, Nat.le_of_ble_eq_true rfl⟩, Nat.le_of_ble_eq_true rfl, Nat.le_of_ble_eq_true rfl⟩ rfl k (ga_c cy A _ hk) rfl rfl (Nat.le_of_ble_eq_true rfl) dX0_turnsNow_5 (c_X0_turnsAt (q_l κ) (q_D κ) cy A hk hw)) (fun r2 σ1 hw => ?_)
  exact gq_I C F (by decide) (by decide) hw dX0_turnsNow_8
set_option maxHeartbeats 4000000 in
set_option maxRecDepth 100000 in
theorem c_X0_armAt (l : Launch) (D : va_G) (cy : Nat → ClassId) (A : Nat → Nat) {σ : St} {k : Nat} (hk : isC k) {v1 : Int32} {v2 : Int32} {v3 : Int32} {v4 : Int32} {Φ : Int32 → St → Prop} (hw : wX0_armAt σ k v1 v2 v3 v4 Φ) : CtI l yX0_armAt (.code yX0_armAt cX0_armAt 7 (some .int) :: gL) rm_X0_armAt 0 0 [.ref (A k), .int v1, .int v2, .int v3, .int v4] D cy A σ Φ := by
  refine ct_any (fun sz => va_Qi Φ (HE D cy A (gZ cy A σ sz)) (gZ cy A σ sz)) (by decide +kernel) rfl rfl [(0, .ref (A k)), (1, .int v1), (2, .int v2), (3, .int v3), (4, .int v4)] rfl (Nat.le_of_ble_eq_true rfl) ?_
  intro κ hκl hnm C hK sz F
  subst hκl
  have J22 : ∀ (σ : St) (v1 : Int32) (v2 : Int32) (s0 : Int32), wX0_armAt_22 k Φ σ v1 v2 s0 → GW κ 0 0 (gW cy A σ) 22 [(1, .int v1), (2, .int v2)] [.int s0] := by
    intro σ v1 v2 s0 hw
    unfold wX0_armAt_22 at hw
    refine g_istore C [(6, .int s0), (1, .int v1), (2, .int v2)] F.2.2.2.1 (by decide) rfl dX0_armAt_22 ?_
    refine g_iload_n C 1 rfl rfl dX0_armAt_24 ?_
    refine g_if_ne C 33 (by decide) hw dX0_armAt_25 (fun hw => ?_) (fun hw => ?_)
    · refine g_iload_n C 2 rfl rfl dX0_armAt_33 ?_
      refine g_iload C 0 rfl dX0_armAt_34 ?_
      refine g_isub C dX0_armAt_36 ?_
      exact gq_I C F (by decide) (by decide) hw dX0_armAt_37
    · refine g_iload C 0 rfl dX0_armAt_28 ?_
      refine g_goto C 37 (by decide) dX0_armAt_30 ?_
      exact gq_I C F (by decide) (by decide) hw dX0_armAt_37
  unfold wX0_armAt at hw
  refine g_iload_n C 3 rfl rfl dX0_armAt_0 ?_
  refine g_iload C 4 rfl dX0_armAt_1 ?_
  refine g_iadd C dX0_armAt_3 ?_
  refine g_istore C [(5, .int (v3 + v4)), (0, .ref (A k)), (1, .int v1), (2, .int v2), (3, .int v3), (4, .int v4)] F.2.2.2.1 (by decide) rfl dX0_armAt_4 ?_
  refine g_iload C 0 rfl dX0_armAt_6 ?_
  refine g_if_le C 21 (by decide) hw dX0_armAt_8 (fun hw => ?_) (fun hw => ?_)
  · refine g_iconst (v := (0 : Int32)) C dX0_armAt_21 (by decide) ?_
    refine g_eql (lv' := [(1, .int v1), (2, .int v2)]) [2, 3] rfl ?_
    exact J22 σ v1 v2 (0 : Int32) hw
  · refine g_iload_n C 3 rfl rfl dX0_armAt_11 ?_
    refine g_iload C 5 rfl dX0_armAt_12 ?_
    refine g_imul C dX0_armAt_14 ?_
    refine g_iload C 0 rfl dX0_armAt_15 ?_
    refine g_idiv C hw.1 dX0_armAt_17 ?_
    replace hw := hw.2
    refine g_goto C 22 (by decide) dX0_armAt_18 ?_
    refine g_eql (lv' := [(1, .int v1), (2, .int v2)]) [2, 3] rfl ?_
    exact J22 σ v1 v2 ((v2 * v4) / (v3 + v4)) hw
set_option maxHeartbeats 4000000 in
set_option maxRecDepth 100000 in
theorem c_X0_floorAt (l : Launch) (D : va_G) (cy : Nat → ClassId) (A : Nat → Nat) {σ : St} {k : Nat} (hk : isC k) {v1 : Int32} {v2 : Int32} {v3 : Int32} {v4 : Int32} {Φ : Int32 → St → Prop} (hw : wX0_floorAt σ k v1 v2 v3 v4 Φ) : CtI l yX0_floorAt (.code yX0_floorAt cX0_floorAt 6 (some .int) :: gL) rm_X0_floorAt 0 0 [.ref (A k), .int v1, .int v2, .int v3, .int v4] D cy A σ Φ := by
  refine ct_any (fun sz => va_Qi Φ (HE D cy A (gZ cy A σ sz)) (gZ cy A σ sz)) (by decide +kernel) rfl rfl [(0, .ref (A k)), (1, .int v1), (2, .int v2), (3, .int v3), (4, .int v4)] rfl (Nat.le_of_ble_eq_true rfl) ?_
  intro κ hκl hnm C hK sz F
  subst hκl
  unfold wX0_floorAt at hw
  refine g_aload_n C 0 rfl rfl dX0_floorAt_0 ?_
  refine g_iload_n C 2 rfl rfl dX0_floorAt_1 ?_
  refine gc_I C (gr_V (As := [.int v2]) (rest := []) C hK 1 (gd_V wt_146 wt_147 wt_148 wt_3 wt_149) rfl rfl rfl ⟨rfl, hs_X0_turnsAt⟩ ⟨⟨Nat.le_of_ble_eq_true rfl, Nat.le_of_ble_eq_true rfl⟩, Nat.le_of_ble_eq_true rfl, Nat.le_of_ble_eq_true rfl⟩ rfl k (ga_c cy A _ hk) rfl rfl (Nat.le_of_ble_eq_true rfl) dX0_floorAt_2 (c_X0_turnsAt (q_l κ) (q_D κ) cy A hk hw)) (fun r2 σ1 hw => ?_)
  refine g_istore C [(5, .int r2), (0, .ref (A k)), (1, .int v1), (2, .int v2), (3, .int v3), (4, .int v4)] F.2.2.2.1 (by decide) rfl dX0_floorAt_5 ?_
  refine g_aload_n C 1 rfl rfl dX0_floorAt_7 ?_
  refine g_iload_n C 2 rfl rfl dX0_floorAt_8 ?_
  refine g_iload_n C 3 rfl rfl dX0_floorAt_9 ?_
  refine g_iload_n C 4 rfl rfl dX0_floorAt_10 ?_
  refine g_iload C 5 rfl dX0_floorAt_11 ?_
  refine gc_I C (gr_V (As := [.int v1, .int v2, .int v3, .int v4]) (rest := []) C hK 4 (gd_V wt_134 wt_135 wt_136 wt_3 wt_137) rfl rfl rfl ⟨rfl, hs_X0_armAt⟩ ⟨⟨Nat.le_of_ble_eq_true rfl, Nat.le_of_ble_eq_true rfl⟩, Nat.le_of_ble_eq_true rfl, Nat.le_of_ble_eq_true rfl⟩ rfl k (ga_c cy A _ hk) rfl rfl (Nat.le_of_ble_eq_true rfl) dX0_floorAt_13 (c_X0_armAt (q_l κ) (q_D κ) cy A hk hw)) (fun r4 σ3 hw => ?_)
  refine g_iload C 0 rfl dX0_floorAt_16 ?_
  refine g_imul C dX0_floorAt_18 ?_
  refine g_iload C 0 rfl dX0_floorAt_19 ?_
  refine g_imul C dX0_floorAt_21 ?_
  exact gq_I C F (by decide) (by decide) hw dX0_floorAt_22
set_option maxHeartbeats 4000000 in
set_option maxRecDepth 100000 in
theorem c_X0_strainBy (l : Launch) (D : va_G) (cy : Nat → ClassId) (A : Nat → Nat) {σ : St} {k : Nat} (hk : isC k) {v1 : Int32} {v2 : Int32} {Φ : Int32 → St → Prop} (hw : wX0_strainBy σ k v1 v2 Φ) : CtI l yX0_strainBy (.code yX0_strainBy cX0_strainBy 3 (some .int) :: gL) rm_X0_strainBy 0 0 [.ref (A k), .int v1, .int v2] D cy A σ Φ := by
  refine ct_any (fun sz => va_Qi Φ (HE D cy A (gZ cy A σ sz)) (gZ cy A σ sz)) (by decide +kernel) rfl rfl [(0, .ref (A k)), (1, .int v1), (2, .int v2)] rfl (Nat.le_of_ble_eq_true rfl) ?_
  intro κ hκl hnm C hK sz F
  subst hκl
  unfold wX0_strainBy at hw
  refine g_iload_n C 1 rfl rfl dX0_strainBy_0 ?_
  refine g_iload_n C 2 rfl rfl dX0_strainBy_1 ?_
  refine g_imul C dX0_strainBy_2 ?_
  refine g_bipush (v := (100 : Int32)) C dX0_strainBy_3 (by decide) ?_
  refine g_idiv C hw.1 dX0_strainBy_5 ?_
  replace hw := hw.2
  exact gq_I C F (by decide) (by decide) hw dX0_strainBy_6
set_option maxHeartbeats 4000000 in
set_option maxRecDepth 100000 in
theorem c_X1_weighs (l : Launch) (D : va_G) (cy : Nat → ClassId) (A : Nat → Nat) {σ : St} {a0 : Nat} {v1 : Int32} {Φ : Int32 → St → Prop} (hw : wX1_weighs σ a0 v1 Φ) : CtI l yX1_weighs (.code yX1_weighs cX1_weighs 2 (some .int) :: gL) rm_X1_weighs 0 0 [.ref a0, .int v1] D cy A σ Φ := by
  refine ct_any (fun sz => va_Qi Φ (HE D cy A (gZ cy A σ sz)) (gZ cy A σ sz)) (by decide +kernel) rfl rfl [(0, .ref a0), (1, .int v1)] rfl (Nat.le_of_ble_eq_true rfl) ?_
  intro κ hκl hnm C hK sz F
  subst hκl
  unfold wX1_weighs at hw
  refine g_aload_n C 0 rfl rfl dX1_weighs_0 ?_
  refine g_getT0 C hK hw.1 (fun x9 h9 => u_same (C.2.2.2.2.1 _ wt_384) x9 h9) wt_383 dX1_weighs_1 ?_
  replace hw := hw.2
  refine g_iconst (v := (2 : Int32)) C dX1_weighs_4 (by decide) ?_
  refine g_iadd C dX1_weighs_5 ?_
  exact gq_I C F (by decide) (by decide) hw dX1_weighs_6
set_option maxHeartbeats 4000000 in
set_option maxRecDepth 100000 in
theorem c_X4_weighs (l : Launch) (D : va_G) (cy : Nat → ClassId) (A : Nat → Nat) {σ : St} {a0 : Nat} {v1 : Int32} {Φ : Int32 → St → Prop} (hw : wX4_weighs σ a0 v1 Φ) : CtI l yX4_weighs (.code yX4_weighs cX4_weighs 2 (some .int) :: gL) rm_X4_weighs 0 0 [.ref a0, .int v1] D cy A σ Φ := by
  refine ct_any (fun sz => va_Qi Φ (HE D cy A (gZ cy A σ sz)) (gZ cy A σ sz)) (by decide +kernel) rfl rfl [(0, .ref a0), (1, .int v1)] rfl (Nat.le_of_ble_eq_true rfl) ?_
  intro κ hκl hnm C hK sz F
  subst hκl
  unfold wX4_weighs at hw
  refine g_aload_n C 0 rfl rfl dX4_weighs_0 ?_
  refine g_getT0 C hK hw.1 (fun x9 h9 => u_same (C.2.2.2.2.1 _ wt_386) x9 h9) wt_385 dX4_weighs_1 ?_
  replace hw := hw.2
  refine g_iconst (v := (2 : Int32)) C dX4_weighs_4 (by decide) ?_
  refine g_iload_n C 1 rfl rfl dX4_weighs_5 ?_
  refine g_aload_n C 0 rfl rfl dX4_weighs_6 ?_
  refine g_getT1 C hK hw.1 (fun x9 h9 => u_same (C.2.2.2.2.1 _ wt_394) x9 h9) wt_393 dX4_weighs_7 ?_
  replace hw := hw.2
  refine g_isub C dX4_weighs_10 ?_
  refine g_bipush (v := (6 : Int32)) C dX4_weighs_11 (by decide) ?_
  refine g_idiv C hw.1 dX4_weighs_13 ?_
  replace hw := hw.2
  refine g_imul C dX4_weighs_14 ?_
  refine g_iadd C dX4_weighs_15 ?_
  exact gq_I C F (by decide) (by decide) hw dX4_weighs_16
set_option maxHeartbeats 4000000 in
set_option maxRecDepth 100000 in
theorem c_X5_weighs (l : Launch) (D : va_G) (cy : Nat → ClassId) (A : Nat → Nat) {σ : St} {a0 : Nat} {v1 : Int32} {Φ : Int32 → St → Prop} (hw : wX5_weighs σ a0 v1 Φ) : CtI l yX5_weighs (.code yX5_weighs cX5_weighs 2 (some .int) :: gL) rm_X5_weighs 0 0 [.ref a0, .int v1] D cy A σ Φ := by
  refine ct_any (fun sz => va_Qi Φ (HE D cy A (gZ cy A σ sz)) (gZ cy A σ sz)) (by decide +kernel) rfl rfl [(0, .ref a0), (1, .int v1)] rfl (Nat.le_of_ble_eq_true rfl) ?_
  intro κ hκl hnm C hK sz F
  subst hκl
  unfold wX5_weighs at hw
  refine g_aload_n C 0 rfl rfl dX5_weighs_0 ?_
  refine g_getT0 C hK hw.1 (fun x9 h9 => u_same (C.2.2.2.2.1 _ wt_388) x9 h9) wt_387 dX5_weighs_1 ?_
  replace hw := hw.2
  refine g_iload_n C 1 rfl rfl dX5_weighs_4 ?_
  refine g_aload_n C 0 rfl rfl dX5_weighs_5 ?_
  refine g_getT1 C hK hw.1 (fun x9 h9 => u_same (C.2.2.2.2.1 _ wt_392) x9 h9) wt_391 dX5_weighs_6 ?_
  replace hw := hw.2
  refine g_isub C dX5_weighs_9 ?_
  refine g_bipush (v := (6 : Int32)) C dX5_weighs_10 (by decide) ?_
  refine g_idiv C hw.1 dX5_weighs_12 ?_
  replace hw := hw.2
  refine g_iadd C dX5_weighs_13 ?_
  exact gq_I C F (by decide) (by decide) hw dX5_weighs_14
set_option maxHeartbeats 4000000 in
set_option maxRecDepth 100000 in
theorem c_X6_at (l : Launch) (D : va_G) (cy : Nat → ClassId) (A : Nat → Nat) {σ : St} {v1 : Int32} {Φ : Option Nat → St → Prop} (hw : wX6_at σ v1 Φ) : CtQ l yX6_at (.code yX6_at cX6_at 2 (some (.object "TwoOnACable$Thing")) :: gL) rm_X6_at 0 0 [.ref (A 4), .int v1] D cy A σ Φ := by
  refine ct_any (fun sz => va_Qq Φ (HE D cy A (gZ cy A σ sz)) (gZ cy A σ sz)) (by decide +kernel) rfl rfl [(0, .ref (A 4)), (1, .int v1)] rfl (Nat.le_of_ble_eq_true rfl) ?_
  intro κ hκl hnm C hK sz F
  subst hκl
  unfold wX6_at at hw
  refine g_iload_n C 1 rfl rfl dX6_at_0 ?_
  refine g_if_lt C 30 (by decide) hw dX6_at_1 (fun hw => ?_) (fun hw => ?_)
  · refine g_null C dX6_at_30 ?_
    exact gq_Q (r := none) C F (by decide) (by decide) hw dX6_at_31
  · refine g_iload_n C 1 rfl rfl dX6_at_4 ?_
    refine g_aload_n C 0 rfl rfl dX6_at_5 ?_
    refine g_get C hK inX6 rfl 4 (ga_4 cy A _) 2 (by decide) (fun _ h => h) wt_59 rfl dX6_at_6 ?_
    refine g_icmp_ge C 30 (by decide) hw dX6_at_9 (fun hw => ?_) (fun hw => ?_)
    · refine g_null C dX6_at_30 ?_
      exact gq_Q (r := none) C F (by decide) (by decide) hw dX6_at_31
    · refine g_iload_n C 1 rfl rfl dX6_at_12 ?_
      refine g_aload_n C 0 rfl rfl dX6_at_13 ?_
      refine g_get C hK inX6 rfl 4 (ga_4 cy A _) 0 (by decide) (fun _ h => h) wt_57 rfl dX6_at_14 ?_
      refine g_alen (v := 6) C hK 5 3 (ga_5 cy A _) rfl rfl dX6_at_17 ?_
      refine g_icmp_ge C 30 (by decide) hw dX6_at_18 (fun hw => ?_) (fun hw => ?_)
      · refine g_null C dX6_at_30 ?_
        exact gq_Q (r := none) C F (by decide) (by decide) hw dX6_at_31
      · refine g_aload_n C 0 rfl rfl dX6_at_21 ?_
        refine g_get C hK inX6 rfl 4 (ga_4 cy A _) 0 (by decide) (fun _ h => h) wt_57 rfl dX6_at_22 ?_
        refine g_iload_n C 1 rfl rfl dX6_at_25 ?_
        refine g_aald C hK 5 3 (ga_5 cy A _) rfl hw.1 dX6_at_26 ?_
        replace hw := hw.2
        refine g_goto C 31 (by decide) dX6_at_27 ?_
        exact gq_Q (r := (σ.2.2.1 v1.toNatClampNeg)) C F (by decide) (by decide) hw dX6_at_31
set_option maxHeartbeats 4000000 in
set_option maxRecDepth 100000 in
theorem c_X9_weighs (l : Launch) (D : va_G) (cy : Nat → ClassId) (A : Nat → Nat) {σ : St} {a0 : Nat} {v1 : Int32} {Φ : Int32 → St → Prop} (hw : wX9_weighs σ a0 v1 Φ) : CtI l yX9_weighs (.code yX9_weighs cX9_weighs 2 (some .int) :: gL) rm_X9_weighs 0 0 [.ref a0, .int v1] D cy A σ Φ := by
  refine ct_any (fun sz => va_Qi Φ (HE D cy A (gZ cy A σ sz)) (gZ cy A σ sz)) (by decide +kernel) rfl rfl [(0, .ref a0), (1, .int v1)] rfl (Nat.le_of_ble_eq_true rfl) ?_
  intro κ hκl hnm C hK sz F
  subst hκl
  unfold wX9_weighs at hw
  refine g_aload_n C 0 rfl rfl dX9_weighs_0 ?_
  refine g_getT0 C hK hw.1 (fun _ h => h) wt_382 dX9_weighs_1 ?_
  replace hw := hw.2
  exact gq_I C F (by decide) (by decide) hw dX9_weighs_4
set_option maxHeartbeats 4000000 in
set_option maxRecDepth 100000 in
theorem c_X6_weighsIn (l : Launch) (D : va_G) (cy : Nat → ClassId) (A : Nat → Nat) {σ : St} {v1 : Int32} {v2 : Int32} {Φ : Int32 → St → Prop} (hw : wX6_weighsIn σ v1 v2 Φ) : CtI l yX6_weighsIn (.code yX6_weighsIn cX6_weighsIn 6 (some .int) :: gL) rm_X6_weighsIn 0 0 [.ref (A 4), .int v1, .int v2] D cy A σ Φ := by
  refine ct_any (fun sz => va_Qi Φ (HE D cy A (gZ cy A σ sz)) (gZ cy A σ sz)) (by decide +kernel) rfl rfl [(0, .ref (A 4)), (1, .int v1), (2, .int v2)] rfl (Nat.le_of_ble_eq_true rfl) ?_
  intro κ hκl hnm C hK sz F
  subst hκl
  have J46 : ∀ (K6 : St → Int32 → Int32 → Int32 → Int32 → Prop) (_ : ∀ (σ : St) (v1 : Int32) (v2 : Int32) (v3 : Int32) (v4 : Int32), K6 σ v1 v2 v3 v4 → GW κ 0 0 (gW cy A σ) 6 [(0, .ref (A 4)), (1, .int v1), (2, .int v2), (3, .int v3), (4, .int v4)] []), ∀ (σ : St) (v1 : Int32) (v2 : Int32) (v3 : Int32) (v4 : Int32), wX6_weighsIn_46 K6 Φ σ v1 v2 v3 v4 → GW κ 0 0 (gW cy A σ) 46 [(0, .ref (A 4)), (1, .int v1), (2, .int v2), (3, .int v3), (4, .int v4)] [] := by
    intro K6 hK6 σ v1 v2 v3 v4 hw
    unfold wX6_weighsIn_46 at hw
    refine g_iinc (j := 4) C [(4, .int (v4 + 1)), (0, .ref (A 4)), (1, .int v1), (2, .int v2), (3, .int v3)] F.2.2.2.1 rfl rfl (by decide) rfl dX6_weighsIn_46 ?_
    refine g_goto C 6 (by decide) dX6_weighsIn_49 ?_
    refine g_eql (lv' := [(0, .ref (A 4)), (1, .int v1), (2, .int v2), (3, .int v3), (4, .int (v4 + 1))]) [1, 2, 3, 4, 0] rfl ?_
    exact hK6 σ v1 v2 v3 (v4 + 1) hw
  have J6 : ∀ (n : Nat) (σ : St) (v1 : Int32) (v2 : Int32) (v3 : Int32) (v4 : Int32), wX6_weighsIn_6 Φ n σ v1 v2 v3 v4 → GW κ 0 0 (gW cy A σ) 6 [(0, .ref (A 4)), (1, .int v1), (2, .int v2), (3, .int v3), (4, .int v4)] [] := by
    intro n
    induction n with
    | zero => intro σ v1 v2 v3 v4 hw; exact hw.elim
    | succ n ih =>
      intro σ v1 v2 v3 v4 hw
      rw [wX6_weighsIn_6] at hw
      refine g_iload C 4 rfl dX6_weighsIn_6 ?_
      refine g_aload_n C 0 rfl rfl dX6_weighsIn_8 ?_
      refine g_get C hK inX6 rfl 4 (ga_4 cy A _) 2 (by decide) (fun _ h => h) wt_59 rfl dX6_weighsIn_9 ?_
      refine g_icmp_ge C 52 (by decide) hw dX6_weighsIn_12 (fun hw => ?_) (fun hw => ?_)
      · refine g_iload_n C 3 rfl rfl dX6_weighsIn_52 ?_
        exact gq_I C F (by decide) (by decide) hw dX6_weighsIn_53
      · refine g_aload_n C 0 rfl rfl dX6_weighsIn_15 ?_
        refine g_iload C 4 rfl dX6_weighsIn_16 ?_
        refine gc_Q C (gr_V (As := [.int v4]) (rest := []) C hK 1 (gd_V wt_110 wt_111 wt_112 wt_4 wt_113) rfl rfl rfl ⟨rfl, hs_X6_at⟩ ⟨⟨Nat.le_of_ble_eq_true rfl, Nat.le_of_ble_eq_true rfl⟩, Nat.le_of_ble_eq_true rfl, Nat.le_of_ble_eq_true rfl⟩ rfl 4 (ga_4 cy A _) rfl rfl (Nat.le_of_ble_eq_true rfl) dX6_weighsIn_18 (c_X6_at (q_l κ) (q_D κ) cy A hw)) (fun r2 σ1 hw => ?_)
        refine g_rstore C [(5, va_rf r2), (0, .ref (A 4)), (1, .int v1), (2, .int v2), (3, .int v3), (4, .int v4)] F.2.2.2.1 (by decide) rfl dX6_weighsIn_21 ?_
        refine g_rload C 0 rfl dX6_weighsIn_23 ?_
        refine g_ifnull C 46 (by decide) hw dX6_weighsIn_25 (fun hw1 e9 => ?_) (fun b3 e9 hw1 => ?_)
        · subst e9
          replace hw := hw1
          refine g_eql (lv' := [(0, .ref (A 4)), (1, .int v1), (2, .int v2), (3, .int v3), (4, .int v4)]) [1, 2, 3, 4, 5] rfl ?_
          exact J46 _ ih σ1 v1 v2 v3 v4 hw
        · subst e9
          replace hw := hw1
          refine g_aload C 0 rfl dX6_weighsIn_28 ?_
          refine g_getT2 C hK hw.1 (fun _ h => h) wt_396 dX6_weighsIn_30 ?_
          replace hw := hw.2
          refine g_iload_n C 2 rfl rfl dX6_weighsIn_33 ?_
          refine g_icmp_ne C 46 (by decide) hw dX6_weighsIn_34 (fun hw => ?_) (fun hw => ?_)
          · refine g_eql (lv' := [(0, .ref (A 4)), (1, .int v1), (2, .int v2), (3, .int v3), (4, .int v4)]) [1, 2, 3, 4, 5] rfl ?_
            exact J46 _ ih σ1 v1 v2 v3 v4 hw
          · refine g_iload_n C 4 rfl rfl dX6_weighsIn_37 ?_
            refine g_aload C 0 rfl dX6_weighsIn_38 ?_
            refine g_iload_n C 3 rfl rfl dX6_weighsIn_40 ?_
            have hn : ∀ (r4 : Int32) (σ5 : St), (wX6_weighsIn_46 (wX6_weighsIn_6 Φ n) Φ σ5 v1 v2 (v3 + r4) v4) → GW κ 0 0 (gW cy A σ5) 44 [(5, .ref b3), (0, .ref (A 4)), (1, .int v1), (2, .int v2), (3, .int v3), (4, .int v4)] [.int r4, .int v3] := by
              intro r4 σ5 hw
              refine g_iadd C dX6_weighsIn_44 ?_
              refine g_istore_n C [(3, .int (v3 + r4)), (5, .ref b3), (0, .ref (A 4)), (1, .int v1), (2, .int v2), (4, .int v4)] F.2.2.2.1 rfl (by decide) rfl dX6_weighsIn_45 ?_
              refine g_eql (lv' := [(0, .ref (A 4)), (1, .int v1), (2, .int v2), (3, .int (v3 + r4)), (4, .int v4)]) [2, 3, 4, 0, 5] rfl ?_
              exact J46 _ ih σ5 v1 v2 (v3 + r4) v4 hw
            obtain ⟨h8, hw⟩ := hw
            rcases hw with ⟨h9, hw⟩ | ⟨h9, hw⟩ | ⟨h9, hw⟩ | ⟨h9, hw⟩ | ⟨h9, hw⟩
            · obtain ⟨q9, -, h9⟩ := ga_T cy A _ h8 h9
              exact gc_I C (gr_O (As := [.int v2]) (rest := [.int v3]) C hK 1 (gd_O wt_114 wt_117 wt_115 wt_118 wt_119 wt_10 wt_120) rfl rfl rfl wt_128 hs_X9_weighs ⟨⟨Nat.le_of_ble_eq_true rfl, Nat.le_of_ble_eq_true rfl⟩, Nat.le_of_ble_eq_true rfl, Nat.le_of_ble_eq_true rfl⟩ rfl q9 h9 rfl rfl (Nat.le_of_ble_eq_true rfl) dX6_weighsIn_41 (c_X1_weighs (q_l κ) (q_D κ) cy A hw)) hn
            · obtain ⟨q9, -, h9⟩ := ga_T cy A _ h8 h9
              exact gc_I C (gr_U (As := [.int v2]) (rest := [.int v3]) C hK 1 (gd_U wt_114 wt_117 wt_121 wt_115 wt_9 wt_128) rfl rfl rfl rfl hs_X9_weighs ⟨⟨Nat.le_of_ble_eq_true rfl, Nat.le_of_ble_eq_true rfl⟩, Nat.le_of_ble_eq_true rfl, Nat.le_of_ble_eq_true rfl⟩ rfl q9 h9 rfl rfl (Nat.le_of_ble_eq_true rfl) dX6_weighsIn_41 (c_X9_weighs (q_l κ) (q_D κ) cy A hw)) hn
            · obtain ⟨q9, -, h9⟩ := ga_T cy A _ h8 h9
              exact gc_I C (gr_O (As := [.int v2]) (rest := [.int v3]) C hK 1 (gd_O wt_114 wt_117 wt_115 wt_122 wt_123 wt_13 wt_124) rfl rfl rfl wt_128 hs_X9_weighs ⟨⟨Nat.le_of_ble_eq_true rfl, Nat.le_of_ble_eq_true rfl⟩, Nat.le_of_ble_eq_true rfl, Nat.le_of_ble_eq_true rfl⟩ rfl q9 h9 rfl rfl (Nat.le_of_ble_eq_true rfl) dX6_weighsIn_41 (c_X4_weighs (q_l κ) (q_D κ) cy A hw)) hn
            · obtain ⟨q9, -, h9⟩ := ga_T cy A _ h8 h9
              exact gc_I C (gr_O (As := [.int v2]) (rest := [.int v3]) C hK 1 (gd_O wt_114 wt_117 wt_115 wt_125 wt_126 wt_12 wt_127) rfl rfl rfl wt_128 hs_X9_weighs ⟨⟨Nat.le_of_ble_eq_true rfl, Nat.le_of_ble_eq_true rfl⟩, Nat.le_of_ble_eq_true rfl, Nat.le_of_ble_eq_true rfl⟩ rfl q9 h9 rfl rfl (Nat.le_of_ble_eq_true rfl) dX6_weighsIn_41 (c_X5_weighs (q_l κ) (q_D κ) cy A hw)) hn
            · obtain ⟨q9, -, h9⟩ := ga_T cy A _ h8 h9
              exact gc_I C (gr_V (As := [.int v2]) (rest := [.int v3]) C hK 1 (gd_V wt_114 wt_115 wt_116 wt_9 wt_128) rfl rfl rfl ⟨rfl, hs_X9_weighs⟩ ⟨⟨Nat.le_of_ble_eq_true rfl, Nat.le_of_ble_eq_true rfl⟩, Nat.le_of_ble_eq_true rfl, Nat.le_of_ble_eq_true rfl⟩ rfl q9 h9 rfl rfl (Nat.le_of_ble_eq_true rfl) dX6_weighsIn_41 (c_X9_weighs (q_l κ) (q_D κ) cy A hw)) hn
  unfold wX6_weighsIn at hw
  refine g_bipush (v := (10 : Int32)) C dX6_weighsIn_0 (by decide) ?_
  refine g_istore_n C [(3, .int (10 : Int32)), (0, .ref (A 4)), (1, .int v1), (2, .int v2)] F.2.2.2.1 rfl (by decide) rfl dX6_weighsIn_2 ?_
  refine g_iconst (v := (0 : Int32)) C dX6_weighsIn_3 (by decide) ?_
  refine g_istore C [(4, .int (0 : Int32)), (3, .int (10 : Int32)), (0, .ref (A 4)), (1, .int v1), (2, .int v2)] F.2.2.2.1 (by decide) rfl dX6_weighsIn_4 ?_
  refine g_eql (lv' := [(0, .ref (A 4)), (1, .int v1), (2, .int v2), (3, .int (10 : Int32)), (4, .int (0 : Int32))]) [2, 3, 4, 1, 0] rfl ?_
  obtain ⟨n0, hw⟩ := hw
  exact J6 n0 σ v1 v2 (10 : Int32) (0 : Int32) hw
set_option maxHeartbeats 4000000 in
set_option maxRecDepth 100000 in
theorem c_X0_armNow (l : Launch) (D : va_G) (cy : Nat → ClassId) (A : Nat → Nat) {σ : St} {k : Nat} (hk : isC k) {v1 : Int32} {Φ : Int32 → St → Prop} (hw : wX0_armNow σ k v1 Φ) : CtI l yX0_armNow (.code yX0_armNow cX0_armNow 3 (some .int) :: gL) rm_X0_armNow 0 0 [.ref (A k), .int v1, .ref (A 4)] D cy A σ Φ := by
  refine ct_any (fun sz => va_Qi Φ (HE D cy A (gZ cy A σ sz)) (gZ cy A σ sz)) (by decide +kernel) rfl rfl [(0, .ref (A k)), (1, .int v1), (2, .ref (A 4))] rfl (Nat.le_of_ble_eq_true rfl) ?_
  intro κ hκl hnm C hK sz F
  subst hκl
  unfold wX0_armNow at hw
  refine g_aload_n C 0 rfl rfl dX0_armNow_0 ?_
  refine g_iload_n C 1 rfl rfl dX0_armNow_1 ?_
  refine g_aload_n C 0 rfl rfl dX0_armNow_2 ?_
  refine g_get C hK inX0 rfl k (ga_c cy A _ hk) 0 (by decide) (fun _ h => h) wt_37 rfl dX0_armNow_3 ?_
  refine g_aload_n C 2 rfl rfl dX0_armNow_6 ?_
  refine g_iconst (v := (0 : Int32)) C dX0_armNow_7 (by decide) ?_
  refine g_aload_n C 0 rfl rfl dX0_armNow_8 ?_
  refine g_get C hK inX0 rfl k (ga_c cy A _ hk) 4 (by decide) (fun _ h => h) wt_45 rfl dX0_armNow_9 ?_
  refine gc_I C (gr_V (As := [.int (0 : Int32), .int (σ.1 k 4)]) (rest := [.int (σ.1 k 0), .int v1, .ref (A k)]) C hK 2 (gd_V wt_133 wt_107 wt_108 wt_4 wt_109) rfl rfl rfl ⟨rfl, hs_X6_weighsIn⟩ ⟨⟨Nat.le_of_ble_eq_true rfl, Nat.le_of_ble_eq_true rfl⟩, Nat.le_of_ble_eq_true rfl, Nat.le_of_ble_eq_true rfl⟩ rfl 4 (ga_4 cy A _) rfl rfl (Nat.le_of_ble_eq_true rfl) dX0_armNow_12 (c_X6_weighsIn (q_l κ) (q_D κ) cy A hw)) (fun r2 σ1 hw => ?_)
  refine g_aload_n C 2 rfl rfl dX0_armNow_15 ?_
  refine g_iconst (v := (1 : Int32)) C dX0_armNow_16 (by decide) ?_
  refine g_aload_n C 0 rfl rfl dX0_armNow_17 ?_
  refine g_get C hK inX0 rfl k (ga_c cy A _ hk) 4 (by decide) (fun _ h => h) wt_45 rfl dX0_armNow_18 ?_
  refine gc_I C (gr_V (As := [.int (1 : Int32), .int (σ1.1 k 4)]) (rest := [.int r2, .int (σ.1 k 0), .int v1, .ref (A k)]) C hK 2 (gd_V wt_133 wt_107 wt_108 wt_4 wt_109) rfl rfl rfl ⟨rfl, hs_X6_weighsIn⟩ ⟨⟨Nat.le_of_ble_eq_true rfl, Nat.le_of_ble_eq_true rfl⟩, Nat.le_of_ble_eq_true rfl, Nat.le_of_ble_eq_true rfl⟩ rfl 4 (ga_4 cy A _) rfl rfl (Nat.le_of_ble_eq_true rfl) dX0_armNow_21 (c_X6_weighsIn (q_l κ) (q_D κ) cy A hw)) (fun r4 σ3 hw => ?_)
  refine gc_I C (gr_V (As := [.int v1, .int (σ.1 k 0), .int r2, .int r4]) (rest := []) C hK 4 (gd_V wt_134 wt_135 wt_136 wt_3 wt_137) rfl rfl rfl ⟨rfl, hs_X0_armAt⟩ ⟨⟨Nat.le_of_ble_eq_true rfl, Nat.le_of_ble_eq_true rfl⟩, Nat.le_of_ble_eq_true rfl, Nat.le_of_ble_eq_true rfl⟩ rfl k (ga_c cy A _ hk) rfl rfl (Nat.le_of_ble_eq_true rfl) dX0_armNow_24 (c_X0_armAt (q_l κ) (q_D κ) cy A hk hw)) (fun r6 σ5 hw => ?_)
  exact gq_I C F (by decide) (by decide) hw dX0_armNow_27
set_option maxHeartbeats 4000000 in
set_option maxRecDepth 100000 in
theorem c_X0_floorNow (l : Launch) (D : va_G) (cy : Nat → ClassId) (A : Nat → Nat) {σ : St} {k : Nat} (hk : isC k) {v1 : Int32} {Φ : Int32 → St → Prop} (hw : wX0_floorNow σ k v1 Φ) : CtI l yX0_floorNow (.code yX0_floorNow cX0_floorNow 3 (some .int) :: gL) rm_X0_floorNow 0 0 [.ref (A k), .int v1, .ref (A 4)] D cy A σ Φ := by
  refine ct_any (fun sz => va_Qi Φ (HE D cy A (gZ cy A σ sz)) (gZ cy A σ sz)) (by decide +kernel) rfl rfl [(0, .ref (A k)), (1, .int v1), (2, .ref (A 4))] rfl (Nat.le_of_ble_eq_true rfl) ?_
  intro κ hκl hnm C hK sz F
  subst hκl
  unfold wX0_floorNow at hw
  refine g_aload_n C 0 rfl rfl dX0_floorNow_0 ?_
  refine g_iload_n C 1 rfl rfl dX0_floorNow_1 ?_
  refine g_aload_n C 0 rfl rfl dX0_floorNow_2 ?_
  refine g_get C hK inX0 rfl k (ga_c cy A _ hk) 0 (by decide) (fun _ h => h) wt_37 rfl dX0_floorNow_3 ?_
  refine g_aload_n C 2 rfl rfl dX0_floorNow_6 ?_
  refine g_iconst (v := (0 : Int32)) C dX0_floorNow_7 (by decide) ?_
  refine g_aload_n C 0 rfl rfl dX0_floorNow_8 ?_
  refine g_get C hK inX0 rfl k (ga_c cy A _ hk) 4 (by decide) (fun _ h => h) wt_45 rfl dX0_floorNow_9 ?_
  refine gc_I C (gr_V (As := [.int (0 : Int32), .int (σ.1 k 4)]) (rest := [.int (σ.1 k 0), .int v1, .ref (A k)]) C hK 2 (gd_V wt_133 wt_107 wt_108 wt_4 wt_109) rfl rfl rfl ⟨rfl, hs_X6_weighsIn⟩ ⟨⟨Nat.le_of_ble_eq_true rfl, Nat.le_of_ble_eq_true rfl⟩, Nat.le_of_ble_eq_true rfl, Nat.le_of_ble_eq_true rfl⟩ rfl 4 (ga_4 cy A _) rfl rfl (Nat.le_of_ble_eq_true rfl) dX0_floorNow_12 (c_X6_weighsIn (q_l κ) (q_D κ) cy A hw)) (fun r2 σ1 hw => ?_)
  refine g_aload_n C 2 rfl rfl dX0_floorNow_15 ?_
  refine g_iconst (v := (1 : Int32)) C dX0_floorNow_16 (by decide) ?_
  refine g_aload_n C 0 rfl rfl dX0_floorNow_17 ?_
  refine g_get C hK inX0 rfl k (ga_c cy A _ hk) 4 (by decide) (fun _ h => h) wt_45 rfl dX0_floorNow_18 ?_
  refine gc_I C (gr_V (As := [.int (1 : Int32), .int (σ1.1 k 4)]) (rest := [.int r2, .int (σ.1 k 0), .int v1, .ref (A k)]) C hK 2 (gd_V wt_133 wt_107 wt_108 wt_4 wt_109) rfl rfl rfl ⟨rfl, hs_X6_weighsIn⟩ ⟨⟨Nat.le_of_ble_eq_true rfl, Nat.le_of_ble_eq_true rfl⟩, Nat.le_of_ble_eq_true rfl, Nat.le_of_ble_eq_true rfl⟩ rfl 4 (ga_4 cy A _) rfl rfl (Nat.le_of_ble_eq_true rfl) dX0_floorNow_21 (c_X6_weighsIn (q_l κ) (q_D κ) cy A hw)) (fun r4 σ3 hw => ?_)
  refine gc_I C (gr_V (As := [.int v1, .int (σ.1 k 0), .int r2, .int r4]) (rest := []) C hK 4 (gd_V wt_142 wt_143 wt_144 wt_3 wt_145) rfl rfl rfl ⟨rfl, hs_X0_floorAt⟩ ⟨⟨Nat.le_of_ble_eq_true rfl, Nat.le_of_ble_eq_true rfl⟩, Nat.le_of_ble_eq_true rfl, Nat.le_of_ble_eq_true rfl⟩ rfl k (ga_c cy A _ hk) rfl rfl (Nat.le_of_ble_eq_true rfl) dX0_floorNow_24 (c_X0_floorAt (q_l κ) (q_D κ) cy A hk hw)) (fun r6 σ5 hw => ?_)
  exact gq_I C F (by decide) (by decide) hw dX0_floorNow_27
set_option maxHeartbeats 4000000 in
set_option maxRecDepth 100000 in
theorem c_X0_strainNow (l : Launch) (D : va_G) (cy : Nat → ClassId) (A : Nat → Nat) {σ : St} {k : Nat} (hk : isC k) {Φ : Int32 → St → Prop} (hw : wX0_strainNow σ k Φ) : CtI l yX0_strainNow (.code yX0_strainNow cX0_strainNow 3 (some .int) :: gL) rm_X0_strainNow 0 0 [.ref (A k), .ref (A 4)] D cy A σ Φ := by
  refine ct_any (fun sz => va_Qi Φ (HE D cy A (gZ cy A σ sz)) (gZ cy A σ sz)) (by decide +kernel) rfl rfl [(0, .ref (A k)), (1, .ref (A 4))] rfl (Nat.le_of_ble_eq_true rfl) ?_
  intro κ hκl hnm C hK sz F
  subst hκl
  unfold wX0_strainNow at hw
  refine g_aload_n C 1 rfl rfl dX0_strainNow_0 ?_
  refine g_iconst (v := (0 : Int32)) C dX0_strainNow_1 (by decide) ?_
  refine g_aload_n C 0 rfl rfl dX0_strainNow_2 ?_
  refine g_get C hK inX0 rfl k (ga_c cy A _ hk) 4 (by decide) (fun _ h => h) wt_45 rfl dX0_strainNow_3 ?_
  refine gc_I C (gr_V (As := [.int (0 : Int32), .int (σ.1 k 4)]) (rest := []) C hK 2 (gd_V wt_133 wt_107 wt_108 wt_4 wt_109) rfl rfl rfl ⟨rfl, hs_X6_weighsIn⟩ ⟨⟨Nat.le_of_ble_eq_true rfl, Nat.le_of_ble_eq_true rfl⟩, Nat.le_of_ble_eq_true rfl, Nat.le_of_ble_eq_true rfl⟩ rfl 4 (ga_4 cy A _) rfl rfl (Nat.le_of_ble_eq_true rfl) dX0_strainNow_6 (c_X6_weighsIn (q_l κ) (q_D κ) cy A hw)) (fun r2 σ1 hw => ?_)
  refine g_istore_n C [(2, .int r2), (0, .ref (A k)), (1, .ref (A 4))] F.2.2.2.1 rfl (by decide) rfl dX0_strainNow_9 ?_
  refine g_aload_n C 1 rfl rfl dX0_strainNow_10 ?_
  refine g_iload_n C 0 rfl rfl dX0_strainNow_11 ?_
  refine g_aload_n C 1 rfl rfl dX0_strainNow_12 ?_
  refine g_iconst (v := (0 : Int32)) C dX0_strainNow_13 (by decide) ?_
  refine g_aload_n C 1 rfl rfl dX0_strainNow_14 ?_
  refine g_get C hK inX0 rfl k (ga_c cy A _ hk) 0 (by decide) (fun _ h => h) wt_37 rfl dX0_strainNow_15 ?_
  refine g_iload_n C 0 rfl rfl dX0_strainNow_18 ?_
  refine g_aload_n C 2 rfl rfl dX0_strainNow_19 ?_
  refine g_iconst (v := (1 : Int32)) C dX0_strainNow_20 (by decide) ?_
  refine g_aload_n C 1 rfl rfl dX0_strainNow_21 ?_
  refine g_get C hK inX0 rfl k (ga_c cy A _ hk) 4 (by decide) (fun _ h => h) wt_45 rfl dX0_strainNow_22 ?_
  refine gc_I C (gr_V (As := [.int (1 : Int32), .int (σ1.1 k 4)]) (rest := [.int r2, .int (σ1.1 k 0), .int (0 : Int32), .ref (A k), .int r2, .ref (A k)]) C hK 2 (gd_V wt_133 wt_107 wt_108 wt_4 wt_109) rfl rfl rfl ⟨rfl, hs_X6_weighsIn⟩ ⟨⟨Nat.le_of_ble_eq_true rfl, Nat.le_of_ble_eq_true rfl⟩, Nat.le_of_ble_eq_true rfl, Nat.le_of_ble_eq_true rfl⟩ rfl 4 (ga_4 cy A _) rfl rfl (Nat.le_of_ble_eq_true rfl) dX0_strainNow_25 (c_X6_weighsIn (q_l κ) (q_D κ) cy A hw)) (fun r4 σ3 hw => ?_)
  refine gc_I C (gr_V (As := [.int (0 : Int32), .int (σ1.1 k 0), .int r2, .int r4]) (rest := [.int r2, .ref (A k)]) C hK 4 (gd_V wt_142 wt_143 wt_144 wt_3 wt_145) rfl rfl rfl ⟨rfl, hs_X0_floorAt⟩ ⟨⟨Nat.le_of_ble_eq_true rfl, Nat.le_of_ble_eq_true rfl⟩, Nat.le_of_ble_eq_true rfl, Nat.le_of_ble_eq_true rfl⟩ rfl k (ga_c cy A _ hk) rfl rfl (Nat.le_of_ble_eq_true rfl) dX0_strainNow_28 (c_X0_floorAt (q_l κ) (q_D κ) cy A hk hw)) (fun r6 σ5 hw => ?_)
  refine gc_I C (gr_V (As := [.int r2, .int r6]) (rest := []) C hK 2 (gd_V wt_246 wt_247 wt_248 wt_3 wt_249) rfl rfl rfl ⟨rfl, hs_X0_strainBy⟩ ⟨⟨Nat.le_of_ble_eq_true rfl, Nat.le_of_ble_eq_true rfl⟩, Nat.le_of_ble_eq_true rfl, Nat.le_of_ble_eq_true rfl⟩ rfl k (ga_c cy A _ hk) rfl rfl (Nat.le_of_ble_eq_true rfl) dX0_strainNow_31 (c_X0_strainBy (q_l κ) (q_D κ) cy A hk hw)) (fun r8 σ7 hw => ?_)
  exact gq_I C F (by decide) (by decide) hw dX0_strainNow_34
set_option maxHeartbeats 4000000 in
set_option maxRecDepth 100000 in
theorem c_J9_floorMod_7cf53 (l : Launch) (D : va_G) (cy : Nat → ClassId) (A : Nat → Nat) {σ : St} {v0 : Int32} {v1 : Int32} {Φ : Int32 → St → Prop} (hw : wJ9_floorMod_7cf53 σ v0 v1 Φ) : CtI l yJ9_floorMod_7cf53 (.code yJ9_floorMod_7cf53 cJ9_floorMod_7cf53 3 (some .int) :: gL) rm_J9_floorMod_7cf53 0 0 [.int v0, .int v1] D cy A σ Φ := by
  refine ct_any (fun sz => va_Qi Φ (HE D cy A (gZ cy A σ sz)) (gZ cy A σ sz)) (by decide +kernel) rfl rfl [(0, .int v0), (1, .int v1)] rfl (Nat.le_of_ble_eq_true rfl) ?_
  intro κ hκl hnm C hK sz F
  subst hκl
  unfold wJ9_floorMod_7cf53 at hw
  refine g_iload_n C 0 rfl rfl dJ9_floorMod_7cf53_0 ?_
  refine g_iload_n C 1 rfl rfl dJ9_floorMod_7cf53_1 ?_
  refine g_irem C hw.1 dJ9_floorMod_7cf53_2 ?_
  replace hw := hw.2
  refine g_istore_n C [(2, .int (v0 - v0 / v1 * v1)), (0, .int v0), (1, .int v1)] F.2.2.2.1 rfl (by decide) rfl dJ9_floorMod_7cf53_3 ?_
  refine g_iload_n C 1 rfl rfl dJ9_floorMod_7cf53_4 ?_
  refine g_iload_n C 2 rfl rfl dJ9_floorMod_7cf53_5 ?_
  refine g_ixor C dJ9_floorMod_7cf53_6 ?_
  refine g_if_ge C 18 (by decide) hw dJ9_floorMod_7cf53_7 (fun hw => ?_) (fun hw => ?_)
  · refine g_iload_n C 0 rfl rfl dJ9_floorMod_7cf53_18 ?_
    exact gq_I C F (by decide) (by decide) hw dJ9_floorMod_7cf53_19
  · refine g_iload_n C 0 rfl rfl dJ9_floorMod_7cf53_10 ?_
    refine g_if_eq C 18 (by decide) hw dJ9_floorMod_7cf53_11 (fun hw => ?_) (fun hw => ?_)
    · refine g_iload_n C 0 rfl rfl dJ9_floorMod_7cf53_18 ?_
      exact gq_I C F (by decide) (by decide) hw dJ9_floorMod_7cf53_19
    · refine g_iload_n C 0 rfl rfl dJ9_floorMod_7cf53_14 ?_
      refine g_iload_n C 2 rfl rfl dJ9_floorMod_7cf53_15 ?_
      refine g_iadd C dJ9_floorMod_7cf53_16 ?_
      exact gq_I C F (by decide) (by decide) hw dJ9_floorMod_7cf53_17
set_option maxHeartbeats 4000000 in
set_option maxRecDepth 100000 in
theorem c_X0_placeAfter (l : Launch) (D : va_G) (cy : Nat → ClassId) (A : Nat → Nat) {σ : St} {k : Nat} (hk : isC k) {v1 : Int32} {Φ : Int32 → St → Prop} (hw : wX0_placeAfter σ k v1 Φ) : CtI l yX0_placeAfter (.code yX0_placeAfter cX0_placeAfter 2 (some .int) :: gL) rm_X0_placeAfter 0 0 [.ref (A k), .int v1] D cy A σ Φ := by
  refine ct_any (fun sz => va_Qi Φ (HE D cy A (gZ cy A σ sz)) (gZ cy A σ sz)) (by decide +kernel) rfl rfl [(0, .ref (A k)), (1, .int v1)] rfl (Nat.le_of_ble_eq_true rfl) ?_
  intro κ hκl hnm C hK sz F
  subst hκl
  unfold wX0_placeAfter at hw
  refine g_aload_n C 0 rfl rfl dX0_placeAfter_0 ?_
  refine g_get C hK inX0 rfl k (ga_c cy A _ hk) 3 (by decide) (fun _ h => h) wt_43 rfl dX0_placeAfter_1 ?_
  refine g_iload_n C 1 rfl rfl dX0_placeAfter_4 ?_
  refine g_aload_n C 0 rfl rfl dX0_placeAfter_5 ?_
  refine gc_I C (gr_V (As := []) (rest := [.int v1, .int (σ.1 k 3)]) C hK 0 (gd_V wt_238 wt_209 wt_210 wt_3 wt_211) rfl rfl rfl ⟨rfl, hs_X0_turnsNow⟩ ⟨⟨Nat.le_of_ble_eq_true rfl, Nat.le_of_ble_eq_true rfl⟩, Nat.le_of_ble_eq_true rfl, Nat.le_of_ble_eq_true rfl⟩ rfl k (ga_c cy A _ hk) rfl rfl (Nat.le_of_ble_eq_true rfl) dX0_placeAfter_6 (c_X0_turnsNow (q_l κ) (q_D κ) cy A hk hw)) (fun r2 σ1 hw => ?_)
  refine g_imul C dX0_placeAfter_9 ?_
  refine g_bipush (v := (10 : Int32)) C dX0_placeAfter_10 (by decide) ?_
  refine g_imul C dX0_placeAfter_12 ?_
  refine g_iadd C dX0_placeAfter_13 ?_
  refine g_sipush (v := (360 : Int32)) C dX0_placeAfter_14 (by decide) ?_
  refine gc_I C (gr_S (As := [.int ((σ.1 k 3) + ((v1 * r2) * (10 : Int32))), .int (360 : Int32)]) (rest := []) C hK 2 (gd_S wt_239 wt_240 wt_8 wt_241) rfl rfl rfl hs_J9_floorMod_7cf53 ⟨⟨Nat.le_of_ble_eq_true rfl, Nat.le_of_ble_eq_true rfl⟩, Nat.le_of_ble_eq_true rfl, Nat.le_of_ble_eq_true rfl⟩ rfl rfl (Nat.le_of_ble_eq_true rfl) dX0_placeAfter_17 (c_J9_floorMod_7cf53 (q_l κ) (q_D κ) cy A hw)) (fun r4 σ3 hw => ?_)
  exact gq_I C F (by decide) (by decide) hw dX0_placeAfter_20
set_option maxHeartbeats 4000000 in
set_option maxRecDepth 100000 in
theorem c_X0_goHour (l : Launch) (D : va_G) (cy : Nat → ClassId) (A : Nat → Nat) {σ : St} {k : Nat} (hk : isC k) {v1 : Int32} {Φ : St → Prop} (hw : wX0_goHour σ k v1 Φ) : CtV l yX0_goHour (.code yX0_goHour cX0_goHour 3 none :: gL) rm_X0_goHour 0 0 [.ref (A k), .int v1, .ref (A 4)] D cy A σ Φ := by
  refine ct_any (fun sz => va_Qv Φ (HE D cy A (gZ cy A σ sz)) (gZ cy A σ sz)) (by decide +kernel) rfl rfl [(0, .ref (A k)), (1, .int v1), (2, .ref (A 4))] rfl (Nat.le_of_ble_eq_true rfl) ?_
  intro κ hκl hnm C hK sz F
  subst hκl
  unfold wX0_goHour at hw
  refine g_aload_n C 0 rfl rfl dX0_goHour_0 ?_
  refine g_dup C rfl dX0_goHour_1 ?_
  refine g_get C hK inX0 rfl k (ga_c cy A _ hk) 0 (by decide) (fun _ h => h) wt_37 rfl dX0_goHour_2 ?_
  refine g_iload_n C 1 rfl rfl dX0_goHour_5 ?_
  refine g_isub C dX0_goHour_6 ?_
  refine g_put (v := .int ((σ.1 k 0) - v1)) C hK inX0 rfl tyX0 tyX0_ok nmX0 k (ga_c cy A _ hk) 0 (by decide) (fun _ h => h) wt_37 rfl rfl rfl (Nat.le_of_ble_eq_true rfl) (gp_c_0 cy A _ _ hk) dX0_goHour_7 ?_
  refine g_aload_n C 0 rfl rfl dX0_goHour_10 ?_
  refine g_dup C rfl dX0_goHour_11 ?_
  refine g_get C hK inX0 rfl k (ga_c cy A _ hk) 4 (by decide) (fun _ h => h) wt_45 rfl dX0_goHour_12 ?_
  refine g_iconst (v := (1 : Int32)) C dX0_goHour_15 (by decide) ?_
  refine g_iadd C dX0_goHour_16 ?_
  refine g_put (v := .int (((sV σ k 0 ((σ.1 k 0) - v1)).1 k 4) + (1 : Int32))) C hK inX0 rfl tyX0 tyX0_ok nmX0 k (ga_c cy A _ hk) 4 (by decide) (fun _ h => h) wt_45 rfl rfl rfl (Nat.le_of_ble_eq_true rfl) (gp_c_4 cy A _ _ hk) dX0_goHour_17 ?_
  refine g_aload_n C 0 rfl rfl dX0_goHour_20 ?_
  refine g_aload_n C 0 rfl rfl dX0_goHour_21 ?_
  refine g_iconst (v := (1 : Int32)) C dX0_goHour_22 (by decide) ?_
  refine gc_I C (gr_V (As := [.int (1 : Int32)]) (rest := [.ref (A k)]) C hK 1 (gd_V wt_234 wt_235 wt_236 wt_3 wt_237) rfl rfl rfl ⟨rfl, hs_X0_placeAfter⟩ ⟨⟨Nat.le_of_ble_eq_true rfl, Nat.le_of_ble_eq_true rfl⟩, Nat.le_of_ble_eq_true rfl, Nat.le_of_ble_eq_true rfl⟩ rfl k (ga_c cy A _ hk) rfl rfl (Nat.le_of_ble_eq_true rfl) dX0_goHour_23 (c_X0_placeAfter (q_l κ) (q_D κ) cy A hk hw)) (fun r2 σ1 hw => ?_)
  refine g_put (v := .int r2) C hK inX0 rfl tyX0 tyX0_ok nmX0 k (ga_c cy A _ hk) 3 (by decide) (fun _ h => h) wt_43 rfl rfl rfl (Nat.le_of_ble_eq_true rfl) (gp_c_3 cy A _ _ hk) dX0_goHour_26 ?_
  refine g_aload_n C 0 rfl rfl dX0_goHour_29 ?_
  refine g_aload_n C 0 rfl rfl dX0_goHour_30 ?_
  refine g_aload_n C 2 rfl rfl dX0_goHour_31 ?_
  refine gc_I C (gr_V (As := [.ref (A 4)]) (rest := [.ref (A k)]) C hK 1 (gd_V wt_242 wt_243 wt_244 wt_3 wt_245) rfl rfl rfl ⟨rfl, hs_X0_strainNow⟩ ⟨⟨Nat.le_of_ble_eq_true rfl, Nat.le_of_ble_eq_true rfl⟩, Nat.le_of_ble_eq_true rfl, Nat.le_of_ble_eq_true rfl⟩ rfl k (ga_c cy A _ hk) rfl rfl (Nat.le_of_ble_eq_true rfl) dX0_goHour_32 (c_X0_strainNow (q_l κ) (q_D κ) cy A hk hw)) (fun r4 σ3 hw => ?_)
  refine g_aload_n C 0 rfl rfl dX0_goHour_35 ?_
  refine g_get C hK inX0 rfl k (ga_c cy A _ hk) 2 (by decide) (fun _ h => h) wt_41 rfl dX0_goHour_36 ?_
  refine g_icmp_le C 46 (by decide) hw dX0_goHour_39 (fun hw => ?_) (fun hw => ?_)
  · refine g_iconst (v := (0 : Int32)) C dX0_goHour_46 (by decide) ?_
    refine g_put (v := .int (0 : Int32)) C hK inX0 rfl tyX0 tyX0_ok nmX0 k (ga_c cy A _ hk) 6 (by decide) (fun _ h => h) wt_49 rfl (by rcases hw.1 with e | e <;> rw [e] <;> rfl) (by rcases hw.1 with e | e <;> rw [e] <;> rfl) (Nat.le_of_ble_eq_true rfl) (gp_c_6 cy A _ _ hk) dX0_goHour_47 ?_
    replace hw := hw.2
    exact gq_V C F (by decide) (by decide) hw dX0_goHour_50
  · refine g_iconst (v := (1 : Int32)) C dX0_goHour_42 (by decide) ?_
    refine g_goto C 47 (by decide) dX0_goHour_43 ?_
    refine g_put (v := .int (1 : Int32)) C hK inX0 rfl tyX0 tyX0_ok nmX0 k (ga_c cy A _ hk) 6 (by decide) (fun _ h => h) wt_49 rfl (by rcases hw.1 with e | e <;> rw [e] <;> rfl) (by rcases hw.1 with e | e <;> rw [e] <;> rfl) (Nat.le_of_ble_eq_true rfl) (gp_c_6 cy A _ _ hk) dX0_goHour_47 ?_
    replace hw := hw.2
    exact gq_V C F (by decide) (by decide) hw dX0_goHour_50
set_option maxHeartbeats 4000000 in
set_option maxRecDepth 100000 in
theorem c_X9_init (l : Launch) (D : va_G) (cy : Nat → ClassId) (A : Nat → Nat) {σ : St} {a0 : Nat} {v1 : Int32} {v2 : Int32} {v3 : Int32} {Φ : St → Prop} (hw : wX9_init σ a0 v1 v2 v3 Φ) : CtV l yX9_init (.code yX9_init cX9_init 4 none :: gL) rm_X9_init 0 0 [.ref a0, .int v1, .int v2, .int v3] D cy A σ Φ := by
  refine ct_any (fun sz => va_Qv Φ (HE D cy A (gZ cy A σ sz)) (gZ cy A σ sz)) (by decide +kernel) rfl rfl [(0, .ref a0), (1, .int v1), (2, .int v2), (3, .int v3)] rfl (Nat.le_of_ble_eq_true rfl) ?_
  intro κ hκl hnm C hK sz F
  subst hκl
  unfold wX9_init at hw
  refine g_aload_n C 0 rfl rfl dX9_init_0 ?_
  refine g_objInit C ⟨Nat.le_of_ble_eq_true rfl, Nat.le_of_ble_eq_true rfl⟩ wt_381 wt_20 wt_21 dX9_init_1 ?_
  refine g_aload_n C 0 rfl rfl dX9_init_4 ?_
  refine g_iload_n C 1 rfl rfl dX9_init_5 ?_
  refine g_putT0 C hK hnm hw.1 wt_382 dX9_init_6 ?_
  replace hw := hw.2
  refine g_aload_n C 0 rfl rfl dX9_init_9 ?_
  refine g_iload_n C 2 rfl rfl dX9_init_10 ?_
  refine g_putT2 C hK hw.1 (fun _ h => h) wt_395 dX9_init_11 ?_
  replace hw := hw.2
  refine g_aload_n C 0 rfl rfl dX9_init_14 ?_
  refine g_iload_n C 3 rfl rfl dX9_init_15 ?_
  refine g_putT1 C hK hnm hw.1 wt_390 dX9_init_16 ?_
  replace hw := hw.2
  exact gq_V C F (by decide) (by decide) hw dX9_init_19
set_option maxHeartbeats 4000000 in
set_option maxRecDepth 100000 in
theorem c_X1_init (l : Launch) (D : va_G) (cy : Nat → ClassId) (A : Nat → Nat) {σ : St} {a0 : Nat} {v1 : Int32} {v2 : Int32} {v3 : Int32} {Φ : St → Prop} (hw : wX1_init σ a0 v1 v2 v3 Φ) : CtV l yX1_init (.code yX1_init cX1_init 4 none :: gL) rm_X1_init 0 0 [.ref a0, .int v1, .int v2, .int v3] D cy A σ Φ := by
  refine ct_any (fun sz => va_Qv Φ (HE D cy A (gZ cy A σ sz)) (gZ cy A σ sz)) (by decide +kernel) rfl rfl [(0, .ref a0), (1, .int v1), (2, .int v2), (3, .int v3)] rfl (Nat.le_of_ble_eq_true rfl) ?_
  intro κ hκl hnm C hK sz F
  subst hκl
  unfold wX1_init at hw
  refine g_aload_n C 0 rfl rfl dX1_init_0 ?_
  refine g_iload_n C 1 rfl rfl dX1_init_1 ?_
  refine g_iload_n C 2 rfl rfl dX1_init_2 ?_
  refine g_iload_n C 3 rfl rfl dX1_init_3 ?_
  refine gc_V C (gr_N (As := [.int v1, .int v2, .int v3]) (rest := []) C hK 3 (gd_N wt_380) rfl rfl rfl wt_9 wt_378 wt_379 rfl hs_X9_init ⟨⟨Nat.le_of_ble_eq_true rfl, Nat.le_of_ble_eq_true rfl⟩, Nat.le_of_ble_eq_true rfl, Nat.le_of_ble_eq_true rfl⟩ rfl rfl (Nat.le_of_ble_eq_true rfl) dX1_init_4 (c_X9_init (q_l κ) (q_D κ) cy A hw)) (fun σ1 hw => ?_)
  exact gq_V C F (by decide) (by decide) hw dX1_init_7
set_option maxHeartbeats 4000000 in
set_option maxRecDepth 100000 in
theorem c_X1_kind (l : Launch) (D : va_G) (cy : Nat → ClassId) (A : Nat → Nat) {σ : St} {a0 : Nat} {Φ : Int32 → St → Prop} (hw : wX1_kind σ a0 Φ) : CtI l yX1_kind (.code yX1_kind cX1_kind 1 (some .int) :: gL) rm_X1_kind 0 0 [.ref a0] D cy A σ Φ := by
  refine ct_any (fun sz => va_Qi Φ (HE D cy A (gZ cy A σ sz)) (gZ cy A σ sz)) (by decide +kernel) rfl rfl [(0, .ref a0)] rfl (Nat.le_of_ble_eq_true rfl) ?_
  intro κ hκl hnm C hK sz F
  subst hκl
  unfold wX1_kind at hw
  refine g_iconst (v := (1 : Int32)) C dX1_kind_0 (by decide) ?_
  exact gq_I C F (by decide) (by decide) hw dX1_kind_1
set_option maxHeartbeats 4000000 in
set_option maxRecDepth 100000 in
theorem c_X3_init (l : Launch) (D : va_G) (cy : Nat → ClassId) (A : Nat → Nat) {σ : St} {a0 : Nat} {v1 : Int32} {v2 : Int32} {v3 : Int32} {Φ : St → Prop} (hw : wX3_init σ a0 v1 v2 v3 Φ) : CtV l yX3_init (.code yX3_init cX3_init 4 none :: gL) rm_X3_init 0 0 [.ref a0, .int v1, .int v2, .int v3] D cy A σ Φ := by
  refine ct_any (fun sz => va_Qv Φ (HE D cy A (gZ cy A σ sz)) (gZ cy A σ sz)) (by decide +kernel) rfl rfl [(0, .ref a0), (1, .int v1), (2, .int v2), (3, .int v3)] rfl (Nat.le_of_ble_eq_true rfl) ?_
  intro κ hκl hnm C hK sz F
  subst hκl
  unfold wX3_init at hw
  refine g_aload_n C 0 rfl rfl dX3_init_0 ?_
  refine g_iload_n C 1 rfl rfl dX3_init_1 ?_
  refine g_iload_n C 2 rfl rfl dX3_init_2 ?_
  refine g_iload_n C 3 rfl rfl dX3_init_3 ?_
  refine gc_V C (gr_N (As := [.int v1, .int v2, .int v3]) (rest := []) C hK 3 (gd_N wt_380) rfl rfl rfl wt_9 wt_402 wt_379 rfl hs_X9_init ⟨⟨Nat.le_of_ble_eq_true rfl, Nat.le_of_ble_eq_true rfl⟩, Nat.le_of_ble_eq_true rfl, Nat.le_of_ble_eq_true rfl⟩ rfl rfl (Nat.le_of_ble_eq_true rfl) dX3_init_4 (c_X9_init (q_l κ) (q_D κ) cy A hw)) (fun σ1 hw => ?_)
  exact gq_V C F (by decide) (by decide) hw dX3_init_7
set_option maxHeartbeats 4000000 in
set_option maxRecDepth 100000 in
theorem c_X3_kind (l : Launch) (D : va_G) (cy : Nat → ClassId) (A : Nat → Nat) {σ : St} {a0 : Nat} {Φ : Int32 → St → Prop} (hw : wX3_kind σ a0 Φ) : CtI l yX3_kind (.code yX3_kind cX3_kind 1 (some .int) :: gL) rm_X3_kind 0 0 [.ref a0] D cy A σ Φ := by
  refine ct_any (fun sz => va_Qi Φ (HE D cy A (gZ cy A σ sz)) (gZ cy A σ sz)) (by decide +kernel) rfl rfl [(0, .ref a0)] rfl (Nat.le_of_ble_eq_true rfl) ?_
  intro κ hκl hnm C hK sz F
  subst hκl
  unfold wX3_kind at hw
  refine g_iconst (v := (2 : Int32)) C dX3_kind_0 (by decide) ?_
  exact gq_I C F (by decide) (by decide) hw dX3_kind_1
set_option maxHeartbeats 4000000 in
set_option maxRecDepth 100000 in
theorem c_X3_goesAcross (l : Launch) (D : va_G) (cy : Nat → ClassId) (A : Nat → Nat) {σ : St} {a0 : Nat} {v1 : Int32} {Φ : Int32 → St → Prop} (hw : wX3_goesAcross σ a0 v1 Φ) : CtI l yX3_goesAcross (.code yX3_goesAcross cX3_goesAcross 2 (some .boolean) :: gL) rm_X3_goesAcross 0 0 [.ref a0, .int v1] D cy A σ Φ := by
  refine ct_any (fun sz => va_Qi Φ (HE D cy A (gZ cy A σ sz)) (gZ cy A σ sz)) (by decide +kernel) rfl rfl [(0, .ref a0), (1, .int v1)] rfl (Nat.le_of_ble_eq_true rfl) ?_
  intro κ hκl hnm C hK sz F
  subst hκl
  unfold wX3_goesAcross at hw
  refine g_iload_n C 1 rfl rfl dX3_goesAcross_0 ?_
  refine g_iconst (v := (2 : Int32)) C dX3_goesAcross_1 (by decide) ?_
  refine g_icmp_gt C 9 (by decide) hw dX3_goesAcross_2 (fun hw => ?_) (fun hw => ?_)
  · refine g_iconst (v := (0 : Int32)) C dX3_goesAcross_9 (by decide) ?_
    exact gq_Z C F (by decide) (by decide) hw dX3_goesAcross_10
  · refine g_iconst (v := (1 : Int32)) C dX3_goesAcross_5 (by decide) ?_
    refine g_goto C 10 (by decide) dX3_goesAcross_6 ?_
    exact gq_Z C F (by decide) (by decide) hw dX3_goesAcross_10
