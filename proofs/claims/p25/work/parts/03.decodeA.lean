theorem dX0_init_0 : decode cX0_init 0 = .ok (.aload_n 0, 1) := by decide +kernel
theorem dX0_init_1 : decode cX0_init 1 = .ok (.invokespecial 3, 3) := by decide +kernel
theorem dX0_init_4 : decode cX0_init 4 = .ok (.return_, 1) := by decide +kernel
theorem dX0_hang_0 : decode cX0_hang 0 = .ok (.aload_n 0, 1) := by decide +kernel
theorem dX0_hang_1 : decode cX0_hang 1 = .ok (.bipush 10, 2) := by decide +kernel
theorem dX0_hang_3 : decode cX0_hang 3 = .ok (.aload_n 1, 1) := by decide +kernel
theorem dX0_hang_4 : decode cX0_hang 4 = .ok (.iconst 0, 1) := by decide +kernel
theorem dX0_hang_5 : decode cX0_hang 5 = .ok (.invokevirtual 9, 3) := by decide +kernel
theorem dX0_hang_8 : decode cX0_hang 8 = .ok (.imul, 1) := by decide +kernel
theorem dX0_hang_9 : decode cX0_hang 9 = .ok (.aload_n 1, 1) := by decide +kernel
theorem dX0_hang_10 : decode cX0_hang 10 = .ok (.iconst 1, 1) := by decide +kernel
theorem dX0_hang_11 : decode cX0_hang 11 = .ok (.invokevirtual 9, 3) := by decide +kernel
theorem dX0_hang_14 : decode cX0_hang 14 = .ok (.iadd, 1) := by decide +kernel
theorem dX0_hang_15 : decode cX0_hang 15 = .ok (.putfield 15, 3) := by decide +kernel
theorem dX0_hang_18 : decode cX0_hang 18 = .ok (.aload_n 0, 1) := by decide +kernel
theorem dX0_hang_19 : decode cX0_hang 19 = .ok (.aload_n 0, 1) := by decide +kernel
theorem dX0_hang_20 : decode cX0_hang 20 = .ok (.getfield 15, 3) := by decide +kernel
theorem dX0_hang_23 : decode cX0_hang 23 = .ok (.aload_n 0, 1) := by decide +kernel
theorem dX0_hang_24 : decode cX0_hang 24 = .ok (.getfield 15, 3) := by decide +kernel
theorem dX0_hang_27 : decode cX0_hang 27 = .ok (.imul, 1) := by decide +kernel
theorem dX0_hang_28 : decode cX0_hang 28 = .ok (.aload_n 1, 1) := by decide +kernel
theorem dX0_hang_29 : decode cX0_hang 29 = .ok (.iconst 3, 1) := by decide +kernel
theorem dX0_hang_30 : decode cX0_hang 30 = .ok (.invokevirtual 9, 3) := by decide +kernel
theorem dX0_hang_33 : decode cX0_hang 33 = .ok (.imul, 1) := by decide +kernel
theorem dX0_hang_34 : decode cX0_hang 34 = .ok (.putfield 21, 3) := by decide +kernel
theorem dX0_hang_37 : decode cX0_hang 37 = .ok (.aload_n 0, 1) := by decide +kernel
theorem dX0_hang_38 : decode cX0_hang 38 = .ok (.bipush 100, 2) := by decide +kernel
theorem dX0_hang_40 : decode cX0_hang 40 = .ok (.aload_n 1, 1) := by decide +kernel
theorem dX0_hang_41 : decode cX0_hang 41 = .ok (.iconst 5, 1) := by decide +kernel
theorem dX0_hang_42 : decode cX0_hang 42 = .ok (.invokevirtual 9, 3) := by decide +kernel
theorem dX0_hang_45 : decode cX0_hang 45 = .ok (.imul, 1) := by decide +kernel
theorem dX0_hang_46 : decode cX0_hang 46 = .ok (.bipush 10, 2) := by decide +kernel
theorem dX0_hang_48 : decode cX0_hang 48 = .ok (.aload_n 1, 1) := by decide +kernel
theorem dX0_hang_49 : decode cX0_hang 49 = .ok (.bipush 6, 2) := by decide +kernel
theorem dX0_hang_51 : decode cX0_hang 51 = .ok (.invokevirtual 9, 3) := by decide +kernel
theorem dX0_hang_54 : decode cX0_hang 54 = .ok (.imul, 1) := by decide +kernel
theorem dX0_hang_55 : decode cX0_hang 55 = .ok (.iadd, 1) := by decide +kernel
theorem dX0_hang_56 : decode cX0_hang 56 = .ok (.aload_n 1, 1) := by decide +kernel
theorem dX0_hang_57 : decode cX0_hang 57 = .ok (.bipush 7, 2) := by decide +kernel
theorem dX0_hang_59 : decode cX0_hang 59 = .ok (.invokevirtual 9, 3) := by decide +kernel
theorem dX0_hang_62 : decode cX0_hang 62 = .ok (.iadd, 1) := by decide +kernel
theorem dX0_hang_63 : decode cX0_hang 63 = .ok (.putfield 24, 3) := by decide +kernel
theorem dX0_hang_66 : decode cX0_hang 66 = .ok (.aload_n 0, 1) := by decide +kernel
theorem dX0_hang_67 : decode cX0_hang 67 = .ok (.aload_n 1, 1) := by decide +kernel
theorem dX0_hang_68 : decode cX0_hang 68 = .ok (.getfield 27, 3) := by decide +kernel
theorem dX0_hang_71 : decode cX0_hang 71 = .ok (.bipush 8, 2) := by decide +kernel
theorem dX0_hang_73 : decode cX0_hang 73 = .ok (.if_icmp .le 7, 3) := by decide +kernel
theorem dX0_hang_76 : decode cX0_hang 76 = .ok (.iconst 1, 1) := by decide +kernel
theorem dX0_hang_77 : decode cX0_hang 77 = .ok (.goto 4, 3) := by decide +kernel
theorem dX0_hang_80 : decode cX0_hang 80 = .ok (.iconst 0, 1) := by decide +kernel
theorem dX0_hang_81 : decode cX0_hang 81 = .ok (.putfield 30, 3) := by decide +kernel
theorem dX0_hang_84 : decode cX0_hang 84 = .ok (.aload_n 0, 1) := by decide +kernel
theorem dX0_hang_85 : decode cX0_hang 85 = .ok (.iconst 0, 1) := by decide +kernel
theorem dX0_hang_86 : decode cX0_hang 86 = .ok (.putfield 34, 3) := by decide +kernel
theorem dX0_hang_89 : decode cX0_hang 89 = .ok (.aload_n 0, 1) := by decide +kernel
theorem dX0_hang_90 : decode cX0_hang 90 = .ok (.iconst 0, 1) := by decide +kernel
theorem dX0_hang_91 : decode cX0_hang 91 = .ok (.putfield 37, 3) := by decide +kernel
theorem dX0_hang_94 : decode cX0_hang 94 = .ok (.aload_n 0, 1) := by decide +kernel
theorem dX0_hang_95 : decode cX0_hang 95 = .ok (.iconst 0, 1) := by decide +kernel
theorem dX0_hang_96 : decode cX0_hang 96 = .ok (.putfield 40, 3) := by decide +kernel
theorem dX0_hang_99 : decode cX0_hang 99 = .ok (.return_, 1) := by decide +kernel
theorem dX0_becomeLike_0 : decode cX0_becomeLike 0 = .ok (.aload_n 0, 1) := by decide +kernel
theorem dX0_becomeLike_1 : decode cX0_becomeLike 1 = .ok (.aload_n 1, 1) := by decide +kernel
theorem dX0_becomeLike_2 : decode cX0_becomeLike 2 = .ok (.getfield 15, 3) := by decide +kernel
theorem dX0_becomeLike_5 : decode cX0_becomeLike 5 = .ok (.putfield 15, 3) := by decide +kernel
theorem dX0_becomeLike_8 : decode cX0_becomeLike 8 = .ok (.aload_n 0, 1) := by decide +kernel
theorem dX0_becomeLike_9 : decode cX0_becomeLike 9 = .ok (.aload_n 1, 1) := by decide +kernel
theorem dX0_becomeLike_10 : decode cX0_becomeLike 10 = .ok (.getfield 21, 3) := by decide +kernel
theorem dX0_becomeLike_13 : decode cX0_becomeLike 13 = .ok (.putfield 21, 3) := by decide +kernel
theorem dX0_becomeLike_16 : decode cX0_becomeLike 16 = .ok (.aload_n 0, 1) := by decide +kernel
theorem dX0_becomeLike_17 : decode cX0_becomeLike 17 = .ok (.aload_n 1, 1) := by decide +kernel
theorem dX0_becomeLike_18 : decode cX0_becomeLike 18 = .ok (.getfield 24, 3) := by decide +kernel
theorem dX0_becomeLike_21 : decode cX0_becomeLike 21 = .ok (.putfield 24, 3) := by decide +kernel
theorem dX0_becomeLike_24 : decode cX0_becomeLike 24 = .ok (.aload_n 0, 1) := by decide +kernel
theorem dX0_becomeLike_25 : decode cX0_becomeLike 25 = .ok (.aload_n 1, 1) := by decide +kernel
theorem dX0_becomeLike_26 : decode cX0_becomeLike 26 = .ok (.getfield 34, 3) := by decide +kernel
theorem dX0_becomeLike_29 : decode cX0_becomeLike 29 = .ok (.putfield 34, 3) := by decide +kernel
theorem dX0_becomeLike_32 : decode cX0_becomeLike 32 = .ok (.aload_n 0, 1) := by decide +kernel
theorem dX0_becomeLike_33 : decode cX0_becomeLike 33 = .ok (.aload_n 1, 1) := by decide +kernel
theorem dX0_becomeLike_34 : decode cX0_becomeLike 34 = .ok (.getfield 37, 3) := by decide +kernel
theorem dX0_becomeLike_37 : decode cX0_becomeLike 37 = .ok (.putfield 37, 3) := by decide +kernel
theorem dX0_becomeLike_40 : decode cX0_becomeLike 40 = .ok (.aload_n 0, 1) := by decide +kernel
theorem dX0_becomeLike_41 : decode cX0_becomeLike 41 = .ok (.aload_n 1, 1) := by decide +kernel
theorem dX0_becomeLike_42 : decode cX0_becomeLike 42 = .ok (.getfield 30, 3) := by decide +kernel
theorem dX0_becomeLike_45 : decode cX0_becomeLike 45 = .ok (.putfield 30, 3) := by decide +kernel
theorem dX0_becomeLike_48 : decode cX0_becomeLike 48 = .ok (.aload_n 0, 1) := by decide +kernel
theorem dX0_becomeLike_49 : decode cX0_becomeLike 49 = .ok (.aload_n 1, 1) := by decide +kernel
theorem dX0_becomeLike_50 : decode cX0_becomeLike 50 = .ok (.getfield 40, 3) := by decide +kernel
theorem dX0_becomeLike_53 : decode cX0_becomeLike 53 = .ok (.putfield 40, 3) := by decide +kernel
theorem dX0_becomeLike_56 : decode cX0_becomeLike 56 = .ok (.return_, 1) := by decide +kernel
theorem dX0_isThere_0 : decode cX0_isThere 0 = .ok (.aload_n 0, 1) := by decide +kernel
theorem dX0_isThere_1 : decode cX0_isThere 1 = .ok (.getfield 15, 3) := by decide +kernel
theorem dX0_isThere_4 : decode cX0_isThere 4 = .ok (.ifCond .le 7, 3) := by decide +kernel
theorem dX0_isThere_7 : decode cX0_isThere 7 = .ok (.iconst 1, 1) := by decide +kernel
theorem dX0_isThere_8 : decode cX0_isThere 8 = .ok (.goto 4, 3) := by decide +kernel
theorem dX0_isThere_11 : decode cX0_isThere 11 = .ok (.iconst 0, 1) := by decide +kernel
theorem dX0_isThere_12 : decode cX0_isThere 12 = .ok (.ireturn, 1) := by decide +kernel
theorem dX0_isWhole_0 : decode cX0_isWhole 0 = .ok (.aload_n 0, 1) := by decide +kernel
theorem dX0_isWhole_1 : decode cX0_isWhole 1 = .ok (.getfield 15, 3) := by decide +kernel
theorem dX0_isWhole_4 : decode cX0_isWhole 4 = .ok (.ifCond .le 14, 3) := by decide +kernel
theorem dX0_isWhole_7 : decode cX0_isWhole 7 = .ok (.aload_n 0, 1) := by decide +kernel
theorem dX0_isWhole_8 : decode cX0_isWhole 8 = .ok (.getfield 40, 3) := by decide +kernel
theorem dX0_isWhole_11 : decode cX0_isWhole 11 = .ok (.ifCond .ne 7, 3) := by decide +kernel
theorem dX0_isWhole_14 : decode cX0_isWhole 14 = .ok (.iconst 1, 1) := by decide +kernel
theorem dX0_isWhole_15 : decode cX0_isWhole 15 = .ok (.goto 4, 3) := by decide +kernel
theorem dX0_isWhole_18 : decode cX0_isWhole 18 = .ok (.iconst 0, 1) := by decide +kernel
theorem dX0_isWhole_19 : decode cX0_isWhole 19 = .ok (.ireturn, 1) := by decide +kernel
theorem dX0_turnsAt_0 : decode cX0_turnsAt 0 = .ok (.iload_n 1, 1) := by decide +kernel
theorem dX0_turnsAt_1 : decode cX0_turnsAt 1 = .ok (.bipush 10, 2) := by decide +kernel
theorem dX0_turnsAt_3 : decode cX0_turnsAt 3 = .ok (.if_icmp .lt 20, 3) := by decide +kernel
theorem dX0_turnsAt_6 : decode cX0_turnsAt 6 = .ok (.iload_n 1, 1) := by decide +kernel
theorem dX0_turnsAt_7 : decode cX0_turnsAt 7 = .ok (.bipush 40, 2) := by decide +kernel
theorem dX0_turnsAt_9 : decode cX0_turnsAt 9 = .ok (.if_icmp .gt 14, 3) := by decide +kernel
theorem dX0_turnsAt_12 : decode cX0_turnsAt 12 = .ok (.aload_n 0, 1) := by decide +kernel
theorem dX0_turnsAt_13 : decode cX0_turnsAt 13 = .ok (.getfield 21, 3) := by decide +kernel
theorem dX0_turnsAt_16 : decode cX0_turnsAt 16 = .ok (.iload_n 1, 1) := by decide +kernel
theorem dX0_turnsAt_17 : decode cX0_turnsAt 17 = .ok (.iload_n 1, 1) := by decide +kernel
theorem dX0_turnsAt_18 : decode cX0_turnsAt 18 = .ok (.imul, 1) := by decide +kernel
theorem dX0_turnsAt_19 : decode cX0_turnsAt 19 = .ok (.idiv, 1) := by decide +kernel
theorem dX0_turnsAt_20 : decode cX0_turnsAt 20 = .ok (.goto 4, 3) := by decide +kernel
theorem dX0_turnsAt_23 : decode cX0_turnsAt 23 = .ok (.iconst 0, 1) := by decide +kernel
theorem dX0_turnsAt_24 : decode cX0_turnsAt 24 = .ok (.ireturn, 1) := by decide +kernel
theorem dX0_turnsNow_0 : decode cX0_turnsNow 0 = .ok (.aload_n 0, 1) := by decide +kernel
theorem dX0_turnsNow_1 : decode cX0_turnsNow 1 = .ok (.aload_n 0, 1) := by decide +kernel
theorem dX0_turnsNow_2 : decode cX0_turnsNow 2 = .ok (.getfield 15, 3) := by decide +kernel
theorem dX0_turnsNow_5 : decode cX0_turnsNow 5 = .ok (.invokevirtual 43, 3) := by decide +kernel
theorem dX0_turnsNow_8 : decode cX0_turnsNow 8 = .ok (.ireturn, 1) := by decide +kernel
theorem dX0_armAt_0 : decode cX0_armAt 0 = .ok (.iload_n 3, 1) := by decide +kernel
theorem dX0_armAt_1 : decode cX0_armAt 1 = .ok (.iload 4, 2) := by decide +kernel
theorem dX0_armAt_3 : decode cX0_armAt 3 = .ok (.iadd, 1) := by decide +kernel
theorem dX0_armAt_4 : decode cX0_armAt 4 = .ok (.istore 5, 2) := by decide +kernel
theorem dX0_armAt_6 : decode cX0_armAt 6 = .ok (.iload 5, 2) := by decide +kernel
theorem dX0_armAt_8 : decode cX0_armAt 8 = .ok (.ifCond .le 13, 3) := by decide +kernel
theorem dX0_armAt_11 : decode cX0_armAt 11 = .ok (.iload_n 2, 1) := by decide +kernel
theorem dX0_armAt_12 : decode cX0_armAt 12 = .ok (.iload 4, 2) := by decide +kernel
theorem dX0_armAt_14 : decode cX0_armAt 14 = .ok (.imul, 1) := by decide +kernel
theorem dX0_armAt_15 : decode cX0_armAt 15 = .ok (.iload 5, 2) := by decide +kernel
theorem dX0_armAt_17 : decode cX0_armAt 17 = .ok (.idiv, 1) := by decide +kernel
theorem dX0_armAt_18 : decode cX0_armAt 18 = .ok (.goto 4, 3) := by decide +kernel
theorem dX0_armAt_21 : decode cX0_armAt 21 = .ok (.iconst 0, 1) := by decide +kernel
theorem dX0_armAt_22 : decode cX0_armAt 22 = .ok (.istore 6, 2) := by decide +kernel
theorem dX0_armAt_24 : decode cX0_armAt 24 = .ok (.iload_n 1, 1) := by decide +kernel
theorem dX0_armAt_25 : decode cX0_armAt 25 = .ok (.ifCond .ne 8, 3) := by decide +kernel
theorem dX0_armAt_28 : decode cX0_armAt 28 = .ok (.iload 6, 2) := by decide +kernel
theorem dX0_armAt_30 : decode cX0_armAt 30 = .ok (.goto 7, 3) := by decide +kernel
theorem dX0_armAt_33 : decode cX0_armAt 33 = .ok (.iload_n 2, 1) := by decide +kernel
theorem dX0_armAt_34 : decode cX0_armAt 34 = .ok (.iload 6, 2) := by decide +kernel
theorem dX0_armAt_36 : decode cX0_armAt 36 = .ok (.isub, 1) := by decide +kernel
theorem dX0_armAt_37 : decode cX0_armAt 37 = .ok (.ireturn, 1) := by decide +kernel
theorem dX0_floorAt_0 : decode cX0_floorAt 0 = .ok (.aload_n 0, 1) := by decide +kernel
theorem dX0_floorAt_1 : decode cX0_floorAt 1 = .ok (.iload_n 2, 1) := by decide +kernel
theorem dX0_floorAt_2 : decode cX0_floorAt 2 = .ok (.invokevirtual 43, 3) := by decide +kernel
theorem dX0_floorAt_5 : decode cX0_floorAt 5 = .ok (.istore 5, 2) := by decide +kernel
theorem dX0_floorAt_7 : decode cX0_floorAt 7 = .ok (.aload_n 0, 1) := by decide +kernel
theorem dX0_floorAt_8 : decode cX0_floorAt 8 = .ok (.iload_n 1, 1) := by decide +kernel
theorem dX0_floorAt_9 : decode cX0_floorAt 9 = .ok (.iload_n 2, 1) := by decide +kernel
theorem dX0_floorAt_10 : decode cX0_floorAt 10 = .ok (.iload_n 3, 1) := by decide +kernel
theorem dX0_floorAt_11 : decode cX0_floorAt 11 = .ok (.iload 4, 2) := by decide +kernel
theorem dX0_floorAt_13 : decode cX0_floorAt 13 = .ok (.invokevirtual 46, 3) := by decide +kernel
theorem dX0_floorAt_16 : decode cX0_floorAt 16 = .ok (.iload 5, 2) := by decide +kernel
theorem dX0_floorAt_18 : decode cX0_floorAt 18 = .ok (.imul, 1) := by decide +kernel
theorem dX0_floorAt_19 : decode cX0_floorAt 19 = .ok (.iload 5, 2) := by decide +kernel
theorem dX0_floorAt_21 : decode cX0_floorAt 21 = .ok (.imul, 1) := by decide +kernel
theorem dX0_floorAt_22 : decode cX0_floorAt 22 = .ok (.ireturn, 1) := by decide +kernel
theorem dX0_strainBy_0 : decode cX0_strainBy 0 = .ok (.iload_n 1, 1) := by decide +kernel
theorem dX0_strainBy_1 : decode cX0_strainBy 1 = .ok (.iload_n 2, 1) := by decide +kernel
theorem dX0_strainBy_2 : decode cX0_strainBy 2 = .ok (.imul, 1) := by decide +kernel
theorem dX0_strainBy_3 : decode cX0_strainBy 3 = .ok (.bipush 100, 2) := by decide +kernel
theorem dX0_strainBy_5 : decode cX0_strainBy 5 = .ok (.idiv, 1) := by decide +kernel
theorem dX0_strainBy_6 : decode cX0_strainBy 6 = .ok (.ireturn, 1) := by decide +kernel
theorem dX0_armNow_0 : decode cX0_armNow 0 = .ok (.aload_n 0, 1) := by decide +kernel
theorem dX0_armNow_1 : decode cX0_armNow 1 = .ok (.iload_n 1, 1) := by decide +kernel
theorem dX0_armNow_2 : decode cX0_armNow 2 = .ok (.aload_n 0, 1) := by decide +kernel
theorem dX0_armNow_3 : decode cX0_armNow 3 = .ok (.getfield 15, 3) := by decide +kernel
theorem dX0_armNow_6 : decode cX0_armNow 6 = .ok (.aload_n 2, 1) := by decide +kernel
theorem dX0_armNow_7 : decode cX0_armNow 7 = .ok (.iconst 0, 1) := by decide +kernel
theorem dX0_armNow_8 : decode cX0_armNow 8 = .ok (.aload_n 0, 1) := by decide +kernel
theorem dX0_armNow_9 : decode cX0_armNow 9 = .ok (.getfield 37, 3) := by decide +kernel
theorem dX0_armNow_12 : decode cX0_armNow 12 = .ok (.invokevirtual 50, 3) := by decide +kernel
theorem dX0_armNow_15 : decode cX0_armNow 15 = .ok (.aload_n 2, 1) := by decide +kernel
theorem dX0_armNow_16 : decode cX0_armNow 16 = .ok (.iconst 1, 1) := by decide +kernel
theorem dX0_armNow_17 : decode cX0_armNow 17 = .ok (.aload_n 0, 1) := by decide +kernel
theorem dX0_armNow_18 : decode cX0_armNow 18 = .ok (.getfield 37, 3) := by decide +kernel
theorem dX0_armNow_21 : decode cX0_armNow 21 = .ok (.invokevirtual 50, 3) := by decide +kernel
theorem dX0_armNow_24 : decode cX0_armNow 24 = .ok (.invokevirtual 46, 3) := by decide +kernel
theorem dX0_armNow_27 : decode cX0_armNow 27 = .ok (.ireturn, 1) := by decide +kernel
theorem dX0_floorNow_0 : decode cX0_floorNow 0 = .ok (.aload_n 0, 1) := by decide +kernel
theorem dX0_floorNow_1 : decode cX0_floorNow 1 = .ok (.iload_n 1, 1) := by decide +kernel
theorem dX0_floorNow_2 : decode cX0_floorNow 2 = .ok (.aload_n 0, 1) := by decide +kernel
theorem dX0_floorNow_3 : decode cX0_floorNow 3 = .ok (.getfield 15, 3) := by decide +kernel
theorem dX0_floorNow_6 : decode cX0_floorNow 6 = .ok (.aload_n 2, 1) := by decide +kernel
theorem dX0_floorNow_7 : decode cX0_floorNow 7 = .ok (.iconst 0, 1) := by decide +kernel
theorem dX0_floorNow_8 : decode cX0_floorNow 8 = .ok (.aload_n 0, 1) := by decide +kernel
theorem dX0_floorNow_9 : decode cX0_floorNow 9 = .ok (.getfield 37, 3) := by decide +kernel
theorem dX0_floorNow_12 : decode cX0_floorNow 12 = .ok (.invokevirtual 50, 3) := by decide +kernel
theorem dX0_floorNow_15 : decode cX0_floorNow 15 = .ok (.aload_n 2, 1) := by decide +kernel
theorem dX0_floorNow_16 : decode cX0_floorNow 16 = .ok (.iconst 1, 1) := by decide +kernel
theorem dX0_floorNow_17 : decode cX0_floorNow 17 = .ok (.aload_n 0, 1) := by decide +kernel
theorem dX0_floorNow_18 : decode cX0_floorNow 18 = .ok (.getfield 37, 3) := by decide +kernel
theorem dX0_floorNow_21 : decode cX0_floorNow 21 = .ok (.invokevirtual 50, 3) := by decide +kernel
theorem dX0_floorNow_24 : decode cX0_floorNow 24 = .ok (.invokevirtual 56, 3) := by decide +kernel
theorem dX0_floorNow_27 : decode cX0_floorNow 27 = .ok (.ireturn, 1) := by decide +kernel
theorem dX0_strainNow_0 : decode cX0_strainNow 0 = .ok (.aload_n 1, 1) := by decide +kernel
theorem dX0_strainNow_1 : decode cX0_strainNow 1 = .ok (.iconst 0, 1) := by decide +kernel
theorem dX0_strainNow_2 : decode cX0_strainNow 2 = .ok (.aload_n 0, 1) := by decide +kernel
theorem dX0_strainNow_3 : decode cX0_strainNow 3 = .ok (.getfield 37, 3) := by decide +kernel
theorem dX0_strainNow_6 : decode cX0_strainNow 6 = .ok (.invokevirtual 50, 3) := by decide +kernel
theorem dX0_strainNow_9 : decode cX0_strainNow 9 = .ok (.istore_n 2, 1) := by decide +kernel
theorem dX0_strainNow_10 : decode cX0_strainNow 10 = .ok (.aload_n 0, 1) := by decide +kernel
theorem dX0_strainNow_11 : decode cX0_strainNow 11 = .ok (.iload_n 2, 1) := by decide +kernel
theorem dX0_strainNow_12 : decode cX0_strainNow 12 = .ok (.aload_n 0, 1) := by decide +kernel
theorem dX0_strainNow_13 : decode cX0_strainNow 13 = .ok (.iconst 0, 1) := by decide +kernel
theorem dX0_strainNow_14 : decode cX0_strainNow 14 = .ok (.aload_n 0, 1) := by decide +kernel
theorem dX0_strainNow_15 : decode cX0_strainNow 15 = .ok (.getfield 15, 3) := by decide +kernel
theorem dX0_strainNow_18 : decode cX0_strainNow 18 = .ok (.iload_n 2, 1) := by decide +kernel
theorem dX0_strainNow_19 : decode cX0_strainNow 19 = .ok (.aload_n 1, 1) := by decide +kernel
theorem dX0_strainNow_20 : decode cX0_strainNow 20 = .ok (.iconst 1, 1) := by decide +kernel
theorem dX0_strainNow_21 : decode cX0_strainNow 21 = .ok (.aload_n 0, 1) := by decide +kernel
theorem dX0_strainNow_22 : decode cX0_strainNow 22 = .ok (.getfield 37, 3) := by decide +kernel
theorem dX0_strainNow_25 : decode cX0_strainNow 25 = .ok (.invokevirtual 50, 3) := by decide +kernel
theorem dX0_strainNow_28 : decode cX0_strainNow 28 = .ok (.invokevirtual 56, 3) := by decide +kernel
theorem dX0_strainNow_31 : decode cX0_strainNow 31 = .ok (.invokevirtual 59, 3) := by decide +kernel
theorem dX0_strainNow_34 : decode cX0_strainNow 34 = .ok (.ireturn, 1) := by decide +kernel
theorem dX0_placeAfter_0 : decode cX0_placeAfter 0 = .ok (.aload_n 0, 1) := by decide +kernel
theorem dX0_placeAfter_1 : decode cX0_placeAfter 1 = .ok (.getfield 34, 3) := by decide +kernel
theorem dX0_placeAfter_4 : decode cX0_placeAfter 4 = .ok (.iload_n 1, 1) := by decide +kernel
theorem dX0_placeAfter_5 : decode cX0_placeAfter 5 = .ok (.aload_n 0, 1) := by decide +kernel
theorem dX0_placeAfter_6 : decode cX0_placeAfter 6 = .ok (.invokevirtual 62, 3) := by decide +kernel
theorem dX0_placeAfter_9 : decode cX0_placeAfter 9 = .ok (.imul, 1) := by decide +kernel
theorem dX0_placeAfter_10 : decode cX0_placeAfter 10 = .ok (.bipush 10, 2) := by decide +kernel
theorem dX0_placeAfter_12 : decode cX0_placeAfter 12 = .ok (.imul, 1) := by decide +kernel
theorem dX0_placeAfter_13 : decode cX0_placeAfter 13 = .ok (.iadd, 1) := by decide +kernel
theorem dX0_placeAfter_14 : decode cX0_placeAfter 14 = .ok (.sipush 360, 3) := by decide +kernel
theorem dX0_placeAfter_17 : decode cX0_placeAfter 17 = .ok (.invokestatic 66, 3) := by decide +kernel
theorem dX0_placeAfter_20 : decode cX0_placeAfter 20 = .ok (.ireturn, 1) := by decide +kernel
theorem dX0_goHour_0 : decode cX0_goHour 0 = .ok (.aload_n 0, 1) := by decide +kernel
theorem dX0_goHour_1 : decode cX0_goHour 1 = .ok (.dup, 1) := by decide +kernel
theorem dX0_goHour_2 : decode cX0_goHour 2 = .ok (.getfield 15, 3) := by decide +kernel
theorem dX0_goHour_5 : decode cX0_goHour 5 = .ok (.iload_n 1, 1) := by decide +kernel
theorem dX0_goHour_6 : decode cX0_goHour 6 = .ok (.isub, 1) := by decide +kernel
theorem dX0_goHour_7 : decode cX0_goHour 7 = .ok (.putfield 15, 3) := by decide +kernel
theorem dX0_goHour_10 : decode cX0_goHour 10 = .ok (.aload_n 0, 1) := by decide +kernel
theorem dX0_goHour_11 : decode cX0_goHour 11 = .ok (.dup, 1) := by decide +kernel
theorem dX0_goHour_12 : decode cX0_goHour 12 = .ok (.getfield 37, 3) := by decide +kernel
theorem dX0_goHour_15 : decode cX0_goHour 15 = .ok (.iconst 1, 1) := by decide +kernel
theorem dX0_goHour_16 : decode cX0_goHour 16 = .ok (.iadd, 1) := by decide +kernel
theorem dX0_goHour_17 : decode cX0_goHour 17 = .ok (.putfield 37, 3) := by decide +kernel
theorem dX0_goHour_20 : decode cX0_goHour 20 = .ok (.aload_n 0, 1) := by decide +kernel
theorem dX0_goHour_21 : decode cX0_goHour 21 = .ok (.aload_n 0, 1) := by decide +kernel
theorem dX0_goHour_22 : decode cX0_goHour 22 = .ok (.iconst 1, 1) := by decide +kernel
theorem dX0_goHour_23 : decode cX0_goHour 23 = .ok (.invokevirtual 71, 3) := by decide +kernel
theorem dX0_goHour_26 : decode cX0_goHour 26 = .ok (.putfield 34, 3) := by decide +kernel
theorem dX0_goHour_29 : decode cX0_goHour 29 = .ok (.aload_n 0, 1) := by decide +kernel
theorem dX0_goHour_30 : decode cX0_goHour 30 = .ok (.aload_n 0, 1) := by decide +kernel
theorem dX0_goHour_31 : decode cX0_goHour 31 = .ok (.aload_n 2, 1) := by decide +kernel
theorem dX0_goHour_32 : decode cX0_goHour 32 = .ok (.invokevirtual 74, 3) := by decide +kernel
theorem dX0_goHour_35 : decode cX0_goHour 35 = .ok (.aload_n 0, 1) := by decide +kernel
theorem dX0_goHour_36 : decode cX0_goHour 36 = .ok (.getfield 24, 3) := by decide +kernel
theorem dX0_goHour_39 : decode cX0_goHour 39 = .ok (.if_icmp .le 7, 3) := by decide +kernel
theorem dX0_goHour_42 : decode cX0_goHour 42 = .ok (.iconst 1, 1) := by decide +kernel
theorem dX0_goHour_43 : decode cX0_goHour 43 = .ok (.goto 4, 3) := by decide +kernel
theorem dX0_goHour_46 : decode cX0_goHour 46 = .ok (.iconst 0, 1) := by decide +kernel
theorem dX0_goHour_47 : decode cX0_goHour 47 = .ok (.putfield 40, 3) := by decide +kernel
theorem dX0_goHour_50 : decode cX0_goHour 50 = .ok (.return_, 1) := by decide +kernel
theorem dX1_init_0 : decode cX1_init 0 = .ok (.aload_n 0, 1) := by decide +kernel
theorem dX1_init_1 : decode cX1_init 1 = .ok (.iload_n 1, 1) := by decide +kernel
theorem dX1_init_2 : decode cX1_init 2 = .ok (.iload_n 2, 1) := by decide +kernel
theorem dX1_init_3 : decode cX1_init 3 = .ok (.iload_n 3, 1) := by decide +kernel
theorem dX1_init_4 : decode cX1_init 4 = .ok (.invokespecial 3, 3) := by decide +kernel
theorem dX1_init_7 : decode cX1_init 7 = .ok (.return_, 1) := by decide +kernel
theorem dX1_kind_0 : decode cX1_kind 0 = .ok (.iconst 1, 1) := by decide +kernel
theorem dX1_kind_1 : decode cX1_kind 1 = .ok (.ireturn, 1) := by decide +kernel
theorem dX1_weighs_0 : decode cX1_weighs 0 = .ok (.aload_n 0, 1) := by decide +kernel
theorem dX1_weighs_1 : decode cX1_weighs 1 = .ok (.getfield 9, 3) := by decide +kernel
theorem dX1_weighs_4 : decode cX1_weighs 4 = .ok (.iconst 2, 1) := by decide +kernel
theorem dX1_weighs_5 : decode cX1_weighs 5 = .ok (.iadd, 1) := by decide +kernel
theorem dX1_weighs_6 : decode cX1_weighs 6 = .ok (.ireturn, 1) := by decide +kernel
theorem dX2_init_0 : decode cX2_init 0 = .ok (.aload_n 0, 1) := by decide +kernel
theorem dX2_init_1 : decode cX2_init 1 = .ok (.invokespecial 3, 3) := by decide +kernel
theorem dX2_init_4 : decode cX2_init 4 = .ok (.aload_n 0, 1) := by decide +kernel
theorem dX2_init_5 : decode cX2_init 5 = .ok (.bipush 6, 2) := by decide +kernel
theorem dX2_init_7 : decode cX2_init 7 = .ok (.newarray .int, 2) := by decide +kernel
theorem dX2_init_9 : decode cX2_init 9 = .ok (.putfield 9, 3) := by decide +kernel
theorem dX2_init_12 : decode cX2_init 12 = .ok (.aload_n 0, 1) := by decide +kernel
theorem dX2_init_13 : decode cX2_init 13 = .ok (.bipush 6, 2) := by decide +kernel
theorem dX2_init_15 : decode cX2_init 15 = .ok (.newarray .int, 2) := by decide +kernel
theorem dX2_init_17 : decode cX2_init 17 = .ok (.putfield 15, 3) := by decide +kernel
theorem dX2_init_20 : decode cX2_init 20 = .ok (.return_, 1) := by decide +kernel
theorem dX3_init_0 : decode cX3_init 0 = .ok (.aload_n 0, 1) := by decide +kernel
theorem dX3_init_1 : decode cX3_init 1 = .ok (.iload_n 1, 1) := by decide +kernel
theorem dX3_init_2 : decode cX3_init 2 = .ok (.iload_n 2, 1) := by decide +kernel
theorem dX3_init_3 : decode cX3_init 3 = .ok (.iload_n 3, 1) := by decide +kernel
theorem dX3_init_4 : decode cX3_init 4 = .ok (.invokespecial 3, 3) := by decide +kernel
theorem dX3_init_7 : decode cX3_init 7 = .ok (.return_, 1) := by decide +kernel
theorem dX3_kind_0 : decode cX3_kind 0 = .ok (.iconst 2, 1) := by decide +kernel
theorem dX3_kind_1 : decode cX3_kind 1 = .ok (.ireturn, 1) := by decide +kernel
theorem dX3_goesAcross_0 : decode cX3_goesAcross 0 = .ok (.iload_n 1, 1) := by decide +kernel
theorem dX3_goesAcross_1 : decode cX3_goesAcross 1 = .ok (.iconst 2, 1) := by decide +kernel
theorem dX3_goesAcross_2 : decode cX3_goesAcross 2 = .ok (.if_icmp .gt 7, 3) := by decide +kernel
theorem dX3_goesAcross_5 : decode cX3_goesAcross 5 = .ok (.iconst 1, 1) := by decide +kernel
theorem dX3_goesAcross_6 : decode cX3_goesAcross 6 = .ok (.goto 4, 3) := by decide +kernel
theorem dX3_goesAcross_9 : decode cX3_goesAcross 9 = .ok (.iconst 0, 1) := by decide +kernel
theorem dX3_goesAcross_10 : decode cX3_goesAcross 10 = .ok (.ireturn, 1) := by decide +kernel
theorem dX4_init_0 : decode cX4_init 0 = .ok (.aload_n 0, 1) := by decide +kernel
theorem dX4_init_1 : decode cX4_init 1 = .ok (.iload_n 1, 1) := by decide +kernel
theorem dX4_init_2 : decode cX4_init 2 = .ok (.iload_n 2, 1) := by decide +kernel
theorem dX4_init_3 : decode cX4_init 3 = .ok (.iload_n 3, 1) := by decide +kernel
theorem dX4_init_4 : decode cX4_init 4 = .ok (.invokespecial 3, 3) := by decide +kernel
theorem dX4_init_7 : decode cX4_init 7 = .ok (.return_, 1) := by decide +kernel
theorem dX4_kind_0 : decode cX4_kind 0 = .ok (.iconst 4, 1) := by decide +kernel
theorem dX4_kind_1 : decode cX4_kind 1 = .ok (.ireturn, 1) := by decide +kernel
theorem dX4_weighs_0 : decode cX4_weighs 0 = .ok (.aload_n 0, 1) := by decide +kernel
theorem dX4_weighs_1 : decode cX4_weighs 1 = .ok (.getfield 9, 3) := by decide +kernel
theorem dX4_weighs_4 : decode cX4_weighs 4 = .ok (.iconst 2, 1) := by decide +kernel
theorem dX4_weighs_5 : decode cX4_weighs 5 = .ok (.iload_n 1, 1) := by decide +kernel
theorem dX4_weighs_6 : decode cX4_weighs 6 = .ok (.aload_n 0, 1) := by decide +kernel
theorem dX4_weighs_7 : decode cX4_weighs 7 = .ok (.getfield 15, 3) := by decide +kernel
theorem dX4_weighs_10 : decode cX4_weighs 10 = .ok (.isub, 1) := by decide +kernel
theorem dX4_weighs_11 : decode cX4_weighs 11 = .ok (.bipush 6, 2) := by decide +kernel
theorem dX4_weighs_13 : decode cX4_weighs 13 = .ok (.idiv, 1) := by decide +kernel
theorem dX4_weighs_14 : decode cX4_weighs 14 = .ok (.imul, 1) := by decide +kernel
theorem dX4_weighs_15 : decode cX4_weighs 15 = .ok (.iadd, 1) := by decide +kernel
theorem dX4_weighs_16 : decode cX4_weighs 16 = .ok (.ireturn, 1) := by decide +kernel
theorem dX5_init_0 : decode cX5_init 0 = .ok (.aload_n 0, 1) := by decide +kernel
theorem dX5_init_1 : decode cX5_init 1 = .ok (.iload_n 1, 1) := by decide +kernel
theorem dX5_init_2 : decode cX5_init 2 = .ok (.iload_n 2, 1) := by decide +kernel
theorem dX5_init_3 : decode cX5_init 3 = .ok (.iload_n 3, 1) := by decide +kernel
theorem dX5_init_4 : decode cX5_init 4 = .ok (.invokespecial 3, 3) := by decide +kernel
theorem dX5_init_7 : decode cX5_init 7 = .ok (.return_, 1) := by decide +kernel
theorem dX5_kind_0 : decode cX5_kind 0 = .ok (.iconst 3, 1) := by decide +kernel
theorem dX5_kind_1 : decode cX5_kind 1 = .ok (.ireturn, 1) := by decide +kernel
theorem dX5_weighs_0 : decode cX5_weighs 0 = .ok (.aload_n 0, 1) := by decide +kernel
theorem dX5_weighs_1 : decode cX5_weighs 1 = .ok (.getfield 9, 3) := by decide +kernel
theorem dX5_weighs_4 : decode cX5_weighs 4 = .ok (.iload_n 1, 1) := by decide +kernel
theorem dX5_weighs_5 : decode cX5_weighs 5 = .ok (.aload_n 0, 1) := by decide +kernel
theorem dX5_weighs_6 : decode cX5_weighs 6 = .ok (.getfield 15, 3) := by decide +kernel
theorem dX5_weighs_9 : decode cX5_weighs 9 = .ok (.isub, 1) := by decide +kernel
theorem dX5_weighs_10 : decode cX5_weighs 10 = .ok (.bipush 6, 2) := by decide +kernel
theorem dX5_weighs_12 : decode cX5_weighs 12 = .ok (.idiv, 1) := by decide +kernel
theorem dX5_weighs_13 : decode cX5_weighs 13 = .ok (.iadd, 1) := by decide +kernel
theorem dX5_weighs_14 : decode cX5_weighs 14 = .ok (.ireturn, 1) := by decide +kernel
theorem dX6_init_0 : decode cX6_init 0 = .ok (.aload_n 0, 1) := by decide +kernel
theorem dX6_init_1 : decode cX6_init 1 = .ok (.invokespecial 3, 3) := by decide +kernel
theorem dX6_init_4 : decode cX6_init 4 = .ok (.aload_n 0, 1) := by decide +kernel
theorem dX6_init_5 : decode cX6_init 5 = .ok (.bipush 6, 2) := by decide +kernel
theorem dX6_init_7 : decode cX6_init 7 = .ok (.anewarray 9, 3) := by decide +kernel
theorem dX6_init_10 : decode cX6_init 10 = .ok (.putfield 11, 3) := by decide +kernel
theorem dX6_init_13 : decode cX6_init 13 = .ok (.aload_n 0, 1) := by decide +kernel
theorem dX6_init_14 : decode cX6_init 14 = .ok (.bipush 6, 2) := by decide +kernel
theorem dX6_init_16 : decode cX6_init 16 = .ok (.newarray .int, 2) := by decide +kernel
theorem dX6_init_18 : decode cX6_init 18 = .ok (.putfield 17, 3) := by decide +kernel
theorem dX6_init_21 : decode cX6_init 21 = .ok (.return_, 1) := by decide +kernel
theorem dX6_isFull_0 : decode cX6_isFull 0 = .ok (.aload_n 0, 1) := by decide +kernel
theorem dX6_isFull_1 : decode cX6_isFull 1 = .ok (.getfield 21, 3) := by decide +kernel
theorem dX6_isFull_4 : decode cX6_isFull 4 = .ok (.aload_n 0, 1) := by decide +kernel
theorem dX6_isFull_5 : decode cX6_isFull 5 = .ok (.getfield 11, 3) := by decide +kernel
theorem dX6_isFull_8 : decode cX6_isFull 8 = .ok (.arraylength, 1) := by decide +kernel
theorem dX6_isFull_9 : decode cX6_isFull 9 = .ok (.if_icmp .lt 7, 3) := by decide +kernel
theorem dX6_isFull_12 : decode cX6_isFull 12 = .ok (.iconst 1, 1) := by decide +kernel
theorem dX6_isFull_13 : decode cX6_isFull 13 = .ok (.goto 4, 3) := by decide +kernel
theorem dX6_isFull_16 : decode cX6_isFull 16 = .ok (.iconst 0, 1) := by decide +kernel
theorem dX6_isFull_17 : decode cX6_isFull 17 = .ok (.ireturn, 1) := by decide +kernel
theorem dX6_put_0 : decode cX6_put 0 = .ok (.aload_n 0, 1) := by decide +kernel
theorem dX6_put_1 : decode cX6_put 1 = .ok (.getfield 21, 3) := by decide +kernel
theorem dX6_put_4 : decode cX6_put 4 = .ok (.ifCond .lt 15, 3) := by decide +kernel
theorem dX6_put_7 : decode cX6_put 7 = .ok (.aload_n 0, 1) := by decide +kernel
theorem dX6_put_8 : decode cX6_put 8 = .ok (.getfield 21, 3) := by decide +kernel
theorem dX6_put_11 : decode cX6_put 11 = .ok (.aload_n 0, 1) := by decide +kernel
theorem dX6_put_12 : decode cX6_put 12 = .ok (.getfield 11, 3) := by decide +kernel
theorem dX6_put_15 : decode cX6_put 15 = .ok (.arraylength, 1) := by decide +kernel
theorem dX6_put_16 : decode cX6_put 16 = .ok (.if_icmp .lt 6, 3) := by decide +kernel
theorem dX6_put_19 : decode cX6_put 19 = .ok (.bipush (-104), 2) := by decide +kernel
theorem dX6_put_21 : decode cX6_put 21 = .ok (.ireturn, 1) := by decide +kernel
theorem dX6_put_22 : decode cX6_put 22 = .ok (.aload_n 0, 1) := by decide +kernel
theorem dX6_put_23 : decode cX6_put 23 = .ok (.getfield 11, 3) := by decide +kernel
theorem dX6_put_26 : decode cX6_put 26 = .ok (.aload_n 0, 1) := by decide +kernel
theorem dX6_put_27 : decode cX6_put 27 = .ok (.getfield 21, 3) := by decide +kernel
theorem dX6_put_30 : decode cX6_put 30 = .ok (.aload_n 1, 1) := by decide +kernel
theorem dX6_put_31 : decode cX6_put 31 = .ok (.aastore, 1) := by decide +kernel
theorem dX6_put_32 : decode cX6_put 32 = .ok (.aload_n 0, 1) := by decide +kernel
theorem dX6_put_33 : decode cX6_put 33 = .ok (.dup, 1) := by decide +kernel
theorem dX6_put_34 : decode cX6_put 34 = .ok (.getfield 21, 3) := by decide +kernel
theorem dX6_put_37 : decode cX6_put 37 = .ok (.iconst 1, 1) := by decide +kernel
theorem dX6_put_38 : decode cX6_put 38 = .ok (.iadd, 1) := by decide +kernel
theorem dX6_put_39 : decode cX6_put 39 = .ok (.putfield 21, 3) := by decide +kernel
theorem dX6_put_42 : decode cX6_put 42 = .ok (.aload_n 0, 1) := by decide +kernel
theorem dX6_put_43 : decode cX6_put 43 = .ok (.getfield 21, 3) := by decide +kernel
theorem dX6_put_46 : decode cX6_put 46 = .ok (.iconst 1, 1) := by decide +kernel
theorem dX6_put_47 : decode cX6_put 47 = .ok (.isub, 1) := by decide +kernel
theorem dX6_put_48 : decode cX6_put 48 = .ok (.ireturn, 1) := by decide +kernel
theorem dX6_at_0 : decode cX6_at 0 = .ok (.iload_n 1, 1) := by decide +kernel
theorem dX6_at_1 : decode cX6_at 1 = .ok (.ifCond .lt 29, 3) := by decide +kernel
theorem dX6_at_4 : decode cX6_at 4 = .ok (.iload_n 1, 1) := by decide +kernel
theorem dX6_at_5 : decode cX6_at 5 = .ok (.aload_n 0, 1) := by decide +kernel
theorem dX6_at_6 : decode cX6_at 6 = .ok (.getfield 21, 3) := by decide +kernel
theorem dX6_at_9 : decode cX6_at 9 = .ok (.if_icmp .ge 21, 3) := by decide +kernel
theorem dX6_at_12 : decode cX6_at 12 = .ok (.iload_n 1, 1) := by decide +kernel
theorem dX6_at_13 : decode cX6_at 13 = .ok (.aload_n 0, 1) := by decide +kernel
theorem dX6_at_14 : decode cX6_at 14 = .ok (.getfield 11, 3) := by decide +kernel
theorem dX6_at_17 : decode cX6_at 17 = .ok (.arraylength, 1) := by decide +kernel
theorem dX6_at_18 : decode cX6_at 18 = .ok (.if_icmp .ge 12, 3) := by decide +kernel
theorem dX6_at_21 : decode cX6_at 21 = .ok (.aload_n 0, 1) := by decide +kernel
theorem dX6_at_22 : decode cX6_at 22 = .ok (.getfield 11, 3) := by decide +kernel
theorem dX6_at_25 : decode cX6_at 25 = .ok (.iload_n 1, 1) := by decide +kernel
theorem dX6_at_26 : decode cX6_at 26 = .ok (.aaload, 1) := by decide +kernel
theorem dX6_at_27 : decode cX6_at 27 = .ok (.goto 4, 3) := by decide +kernel
theorem dX6_at_30 : decode cX6_at 30 = .ok (.aconst_null, 1) := by decide +kernel
theorem dX6_at_31 : decode cX6_at 31 = .ok (.areturn, 1) := by decide +kernel
theorem dX6_cutTo_0 : decode cX6_cutTo 0 = .ok (.iconst 0, 1) := by decide +kernel
theorem dX6_cutTo_1 : decode cX6_cutTo 1 = .ok (.istore_n 2, 1) := by decide +kernel
theorem dX6_cutTo_2 : decode cX6_cutTo 2 = .ok (.iload_n 2, 1) := by decide +kernel
theorem dX6_cutTo_3 : decode cX6_cutTo 3 = .ok (.aload_n 0, 1) := by decide +kernel
theorem dX6_cutTo_4 : decode cX6_cutTo 4 = .ok (.getfield 11, 3) := by decide +kernel
theorem dX6_cutTo_7 : decode cX6_cutTo 7 = .ok (.arraylength, 1) := by decide +kernel
theorem dX6_cutTo_8 : decode cX6_cutTo 8 = .ok (.if_icmp .ge 21, 3) := by decide +kernel
theorem dX6_cutTo_11 : decode cX6_cutTo 11 = .ok (.iload_n 2, 1) := by decide +kernel
theorem dX6_cutTo_12 : decode cX6_cutTo 12 = .ok (.iload_n 1, 1) := by decide +kernel
theorem dX6_cutTo_13 : decode cX6_cutTo 13 = .ok (.if_icmp .lt 10, 3) := by decide +kernel
theorem dX6_cutTo_16 : decode cX6_cutTo 16 = .ok (.aload_n 0, 1) := by decide +kernel
theorem dX6_cutTo_17 : decode cX6_cutTo 17 = .ok (.getfield 11, 3) := by decide +kernel
theorem dX6_cutTo_20 : decode cX6_cutTo 20 = .ok (.iload_n 2, 1) := by decide +kernel
theorem dX6_cutTo_21 : decode cX6_cutTo 21 = .ok (.aconst_null, 1) := by decide +kernel
theorem dX6_cutTo_22 : decode cX6_cutTo 22 = .ok (.aastore, 1) := by decide +kernel
theorem dX6_cutTo_23 : decode cX6_cutTo 23 = .ok (.iinc 2 1, 3) := by decide +kernel
theorem dX6_cutTo_26 : decode cX6_cutTo 26 = .ok (.goto (-24), 3) := by decide +kernel
theorem dX6_cutTo_29 : decode cX6_cutTo 29 = .ok (.aload_n 0, 1) := by decide +kernel
theorem dX6_cutTo_30 : decode cX6_cutTo 30 = .ok (.aload_n 0, 1) := by decide +kernel
theorem dX6_cutTo_31 : decode cX6_cutTo 31 = .ok (.getfield 21, 3) := by decide +kernel
theorem dX6_cutTo_34 : decode cX6_cutTo 34 = .ok (.iload_n 1, 1) := by decide +kernel
theorem dX6_cutTo_35 : decode cX6_cutTo 35 = .ok (.invokestatic 25, 3) := by decide +kernel
theorem dX6_cutTo_38 : decode cX6_cutTo 38 = .ok (.putfield 21, 3) := by decide +kernel
theorem dX6_cutTo_41 : decode cX6_cutTo 41 = .ok (.return_, 1) := by decide +kernel
theorem dX6_weighsIn_0 : decode cX6_weighsIn 0 = .ok (.bipush 10, 2) := by decide +kernel
theorem dX6_weighsIn_2 : decode cX6_weighsIn 2 = .ok (.istore_n 3, 1) := by decide +kernel
theorem dX6_weighsIn_3 : decode cX6_weighsIn 3 = .ok (.iconst 0, 1) := by decide +kernel
theorem dX6_weighsIn_4 : decode cX6_weighsIn 4 = .ok (.istore 4, 2) := by decide +kernel
theorem dX6_weighsIn_6 : decode cX6_weighsIn 6 = .ok (.iload 4, 2) := by decide +kernel
theorem dX6_weighsIn_8 : decode cX6_weighsIn 8 = .ok (.aload_n 0, 1) := by decide +kernel
theorem dX6_weighsIn_9 : decode cX6_weighsIn 9 = .ok (.getfield 21, 3) := by decide +kernel
theorem dX6_weighsIn_12 : decode cX6_weighsIn 12 = .ok (.if_icmp .ge 40, 3) := by decide +kernel
theorem dX6_weighsIn_15 : decode cX6_weighsIn 15 = .ok (.aload_n 0, 1) := by decide +kernel
theorem dX6_weighsIn_16 : decode cX6_weighsIn 16 = .ok (.iload 4, 2) := by decide +kernel
theorem dX6_weighsIn_18 : decode cX6_weighsIn 18 = .ok (.invokevirtual 34, 3) := by decide +kernel
theorem dX6_weighsIn_21 : decode cX6_weighsIn 21 = .ok (.astore 5, 2) := by decide +kernel
theorem dX6_weighsIn_23 : decode cX6_weighsIn 23 = .ok (.aload 5, 2) := by decide +kernel
theorem dX6_weighsIn_25 : decode cX6_weighsIn 25 = .ok (.ifnull 21, 3) := by decide +kernel
theorem dX6_weighsIn_28 : decode cX6_weighsIn 28 = .ok (.aload 5, 2) := by decide +kernel
theorem dX6_weighsIn_30 : decode cX6_weighsIn 30 = .ok (.getfield 38, 3) := by decide +kernel
theorem dX6_weighsIn_33 : decode cX6_weighsIn 33 = .ok (.iload_n 1, 1) := by decide +kernel
theorem dX6_weighsIn_34 : decode cX6_weighsIn 34 = .ok (.if_icmp .ne 12, 3) := by decide +kernel
theorem dX6_weighsIn_37 : decode cX6_weighsIn 37 = .ok (.iload_n 3, 1) := by decide +kernel
theorem dX6_weighsIn_38 : decode cX6_weighsIn 38 = .ok (.aload 5, 2) := by decide +kernel
theorem dX6_weighsIn_40 : decode cX6_weighsIn 40 = .ok (.iload_n 2, 1) := by decide +kernel
theorem dX6_weighsIn_41 : decode cX6_weighsIn 41 = .ok (.invokevirtual 45, 3) := by decide +kernel
theorem dX6_weighsIn_44 : decode cX6_weighsIn 44 = .ok (.iadd, 1) := by decide +kernel
theorem dX6_weighsIn_45 : decode cX6_weighsIn 45 = .ok (.istore_n 3, 1) := by decide +kernel
theorem dX6_weighsIn_46 : decode cX6_weighsIn 46 = .ok (.iinc 4 1, 3) := by decide +kernel
theorem dX6_weighsIn_49 : decode cX6_weighsIn 49 = .ok (.goto (-43), 3) := by decide +kernel
theorem dX6_weighsIn_52 : decode cX6_weighsIn 52 = .ok (.iload_n 3, 1) := by decide +kernel
theorem dX6_weighsIn_53 : decode cX6_weighsIn 53 = .ok (.ireturn, 1) := by decide +kernel
theorem dX6_sizeIn_0 : decode cX6_sizeIn 0 = .ok (.iconst 0, 1) := by decide +kernel
theorem dX6_sizeIn_1 : decode cX6_sizeIn 1 = .ok (.istore_n 2, 1) := by decide +kernel
theorem dX6_sizeIn_2 : decode cX6_sizeIn 2 = .ok (.iconst 0, 1) := by decide +kernel
theorem dX6_sizeIn_3 : decode cX6_sizeIn 3 = .ok (.istore_n 3, 1) := by decide +kernel
theorem dX6_sizeIn_4 : decode cX6_sizeIn 4 = .ok (.iload_n 3, 1) := by decide +kernel
theorem dX6_sizeIn_5 : decode cX6_sizeIn 5 = .ok (.aload_n 0, 1) := by decide +kernel
theorem dX6_sizeIn_6 : decode cX6_sizeIn 6 = .ok (.getfield 21, 3) := by decide +kernel
theorem dX6_sizeIn_9 : decode cX6_sizeIn 9 = .ok (.if_icmp .ge 33, 3) := by decide +kernel
theorem dX6_sizeIn_12 : decode cX6_sizeIn 12 = .ok (.aload_n 0, 1) := by decide +kernel
theorem dX6_sizeIn_13 : decode cX6_sizeIn 13 = .ok (.iload_n 3, 1) := by decide +kernel
theorem dX6_sizeIn_14 : decode cX6_sizeIn 14 = .ok (.invokevirtual 34, 3) := by decide +kernel
theorem dX6_sizeIn_17 : decode cX6_sizeIn 17 = .ok (.astore 4, 2) := by decide +kernel
theorem dX6_sizeIn_19 : decode cX6_sizeIn 19 = .ok (.aload 4, 2) := by decide +kernel
theorem dX6_sizeIn_21 : decode cX6_sizeIn 21 = .ok (.ifnull 15, 3) := by decide +kernel
theorem dX6_sizeIn_24 : decode cX6_sizeIn 24 = .ok (.aload 4, 2) := by decide +kernel
theorem dX6_sizeIn_26 : decode cX6_sizeIn 26 = .ok (.getfield 38, 3) := by decide +kernel
theorem dX6_sizeIn_29 : decode cX6_sizeIn 29 = .ok (.iload_n 1, 1) := by decide +kernel
theorem dX6_sizeIn_30 : decode cX6_sizeIn 30 = .ok (.if_icmp .ne 6, 3) := by decide +kernel
theorem dX6_sizeIn_33 : decode cX6_sizeIn 33 = .ok (.iinc 2 1, 3) := by decide +kernel
theorem dX6_sizeIn_36 : decode cX6_sizeIn 36 = .ok (.iinc 3 1, 3) := by decide +kernel
theorem dX6_sizeIn_39 : decode cX6_sizeIn 39 = .ok (.goto (-35), 3) := by decide +kernel
theorem dX6_sizeIn_42 : decode cX6_sizeIn 42 = .ok (.iload_n 2, 1) := by decide +kernel
theorem dX6_sizeIn_43 : decode cX6_sizeIn 43 = .ok (.ireturn, 1) := by decide +kernel
theorem dX7_init_0 : decode cX7_init 0 = .ok (.aload_n 0, 1) := by decide +kernel
theorem dX7_init_1 : decode cX7_init 1 = .ok (.invokespecial 3, 3) := by decide +kernel
theorem dX7_init_4 : decode cX7_init 4 = .ok (.aload_n 0, 1) := by decide +kernel
theorem dX7_init_5 : decode cX7_init 5 = .ok (.bipush 12, 2) := by decide +kernel
theorem dX7_init_7 : decode cX7_init 7 = .ok (.newarray .char, 2) := by decide +kernel
theorem dX7_init_9 : decode cX7_init 9 = .ok (.putfield 9, 3) := by decide +kernel
theorem dX7_init_12 : decode cX7_init 12 = .ok (.return_, 1) := by decide +kernel
theorem dX7_hasRoomFor_0 : decode cX7_hasRoomFor 0 = .ok (.aload_n 0, 1) := by decide +kernel
theorem dX7_hasRoomFor_1 : decode cX7_hasRoomFor 1 = .ok (.getfield 15, 3) := by decide +kernel
theorem dX7_hasRoomFor_4 : decode cX7_hasRoomFor 4 = .ok (.iload_n 1, 1) := by decide +kernel
theorem dX7_hasRoomFor_5 : decode cX7_hasRoomFor 5 = .ok (.iadd, 1) := by decide +kernel
theorem dX7_hasRoomFor_6 : decode cX7_hasRoomFor 6 = .ok (.aload_n 0, 1) := by decide +kernel
theorem dX7_hasRoomFor_7 : decode cX7_hasRoomFor 7 = .ok (.getfield 9, 3) := by decide +kernel
theorem dX7_hasRoomFor_10 : decode cX7_hasRoomFor 10 = .ok (.arraylength, 1) := by decide +kernel
theorem dX7_hasRoomFor_11 : decode cX7_hasRoomFor 11 = .ok (.if_icmp .gt 7, 3) := by decide +kernel
theorem dX7_hasRoomFor_14 : decode cX7_hasRoomFor 14 = .ok (.iconst 1, 1) := by decide +kernel
theorem dX7_hasRoomFor_15 : decode cX7_hasRoomFor 15 = .ok (.goto 4, 3) := by decide +kernel
theorem dX7_hasRoomFor_18 : decode cX7_hasRoomFor 18 = .ok (.iconst 0, 1) := by decide +kernel
theorem dX7_hasRoomFor_19 : decode cX7_hasRoomFor 19 = .ok (.ireturn, 1) := by decide +kernel
theorem dX7_put_0 : decode cX7_put 0 = .ok (.aload_n 0, 1) := by decide +kernel
theorem dX7_put_1 : decode cX7_put 1 = .ok (.getfield 15, 3) := by decide +kernel
theorem dX7_put_4 : decode cX7_put 4 = .ok (.ifCond .lt 35, 3) := by decide +kernel
theorem dX7_put_7 : decode cX7_put 7 = .ok (.aload_n 0, 1) := by decide +kernel
theorem dX7_put_8 : decode cX7_put 8 = .ok (.getfield 15, 3) := by decide +kernel
theorem dX7_put_11 : decode cX7_put 11 = .ok (.aload_n 0, 1) := by decide +kernel
theorem dX7_put_12 : decode cX7_put 12 = .ok (.getfield 9, 3) := by decide +kernel
theorem dX7_put_15 : decode cX7_put 15 = .ok (.arraylength, 1) := by decide +kernel
theorem dX7_put_16 : decode cX7_put 16 = .ok (.if_icmp .ge 23, 3) := by decide +kernel
theorem dX7_put_19 : decode cX7_put 19 = .ok (.aload_n 0, 1) := by decide +kernel
theorem dX7_put_20 : decode cX7_put 20 = .ok (.getfield 9, 3) := by decide +kernel
theorem dX7_put_23 : decode cX7_put 23 = .ok (.aload_n 0, 1) := by decide +kernel
theorem dX7_put_24 : decode cX7_put 24 = .ok (.getfield 15, 3) := by decide +kernel
theorem dX7_put_27 : decode cX7_put 27 = .ok (.iload_n 1, 1) := by decide +kernel
theorem dX7_put_28 : decode cX7_put 28 = .ok (.castore, 1) := by decide +kernel
theorem dX7_put_29 : decode cX7_put 29 = .ok (.aload_n 0, 1) := by decide +kernel
theorem dX7_put_30 : decode cX7_put 30 = .ok (.dup, 1) := by decide +kernel
theorem dX7_put_31 : decode cX7_put 31 = .ok (.getfield 15, 3) := by decide +kernel
theorem dX7_put_34 : decode cX7_put 34 = .ok (.iconst 1, 1) := by decide +kernel
theorem dX7_put_35 : decode cX7_put 35 = .ok (.iadd, 1) := by decide +kernel
theorem dX7_put_36 : decode cX7_put 36 = .ok (.putfield 15, 3) := by decide +kernel
theorem dX7_put_39 : decode cX7_put 39 = .ok (.return_, 1) := by decide +kernel
theorem dX7_at_0 : decode cX7_at 0 = .ok (.iload_n 1, 1) := by decide +kernel
theorem dX7_at_1 : decode cX7_at 1 = .ok (.ifCond .lt 29, 3) := by decide +kernel
theorem dX7_at_4 : decode cX7_at 4 = .ok (.iload_n 1, 1) := by decide +kernel
theorem dX7_at_5 : decode cX7_at 5 = .ok (.aload_n 0, 1) := by decide +kernel
theorem dX7_at_6 : decode cX7_at 6 = .ok (.getfield 15, 3) := by decide +kernel
theorem dX7_at_9 : decode cX7_at 9 = .ok (.if_icmp .ge 21, 3) := by decide +kernel
theorem dX7_at_12 : decode cX7_at 12 = .ok (.iload_n 1, 1) := by decide +kernel
theorem dX7_at_13 : decode cX7_at 13 = .ok (.aload_n 0, 1) := by decide +kernel
theorem dX7_at_14 : decode cX7_at 14 = .ok (.getfield 9, 3) := by decide +kernel
theorem dX7_at_17 : decode cX7_at 17 = .ok (.arraylength, 1) := by decide +kernel
theorem dX7_at_18 : decode cX7_at 18 = .ok (.if_icmp .ge 12, 3) := by decide +kernel
theorem dX7_at_21 : decode cX7_at 21 = .ok (.aload_n 0, 1) := by decide +kernel
theorem dX7_at_22 : decode cX7_at 22 = .ok (.getfield 9, 3) := by decide +kernel
theorem dX7_at_25 : decode cX7_at 25 = .ok (.iload_n 1, 1) := by decide +kernel
theorem dX7_at_26 : decode cX7_at 26 = .ok (.caload, 1) := by decide +kernel
theorem dX7_at_27 : decode cX7_at 27 = .ok (.goto 4, 3) := by decide +kernel
theorem dX7_at_30 : decode cX7_at 30 = .ok (.iconst 0, 1) := by decide +kernel
theorem dX7_at_31 : decode cX7_at 31 = .ok (.ireturn, 1) := by decide +kernel
theorem dX7_emptied_0 : decode cX7_emptied 0 = .ok (.aload_n 0, 1) := by decide +kernel
theorem dX7_emptied_1 : decode cX7_emptied 1 = .ok (.getfield 15, 3) := by decide +kernel
theorem dX7_emptied_4 : decode cX7_emptied 4 = .ok (.istore_n 1, 1) := by decide +kernel
theorem dX7_emptied_5 : decode cX7_emptied 5 = .ok (.aload_n 0, 1) := by decide +kernel
theorem dX7_emptied_6 : decode cX7_emptied 6 = .ok (.iconst 0, 1) := by decide +kernel
theorem dX7_emptied_7 : decode cX7_emptied 7 = .ok (.putfield 15, 3) := by decide +kernel
theorem dX7_emptied_10 : decode cX7_emptied 10 = .ok (.iload_n 1, 1) := by decide +kernel
theorem dX7_emptied_11 : decode cX7_emptied 11 = .ok (.ireturn, 1) := by decide +kernel
theorem dX7_firstWrong_0 : decode cX7_firstWrong 0 = .ok (.iconst 0, 1) := by decide +kernel
theorem dX7_firstWrong_1 : decode cX7_firstWrong 1 = .ok (.istore_n 1, 1) := by decide +kernel
theorem dX7_firstWrong_2 : decode cX7_firstWrong 2 = .ok (.iload_n 1, 1) := by decide +kernel
theorem dX7_firstWrong_3 : decode cX7_firstWrong 3 = .ok (.aload_n 0, 1) := by decide +kernel
theorem dX7_firstWrong_4 : decode cX7_firstWrong 4 = .ok (.getfield 15, 3) := by decide +kernel
theorem dX7_firstWrong_7 : decode cX7_firstWrong 7 = .ok (.if_icmp .ge 19, 3) := by decide +kernel
theorem dX7_firstWrong_10 : decode cX7_firstWrong 10 = .ok (.aload_n 0, 1) := by decide +kernel
theorem dX7_firstWrong_11 : decode cX7_firstWrong 11 = .ok (.iload_n 1, 1) := by decide +kernel
theorem dX7_firstWrong_12 : decode cX7_firstWrong 12 = .ok (.invokevirtual 19, 3) := by decide +kernel
theorem dX7_firstWrong_15 : decode cX7_firstWrong 15 = .ok (.ifCond .ne 5, 3) := by decide +kernel
theorem dX7_firstWrong_18 : decode cX7_firstWrong 18 = .ok (.iload_n 1, 1) := by decide +kernel
theorem dX7_firstWrong_19 : decode cX7_firstWrong 19 = .ok (.ireturn, 1) := by decide +kernel
theorem dX7_firstWrong_20 : decode cX7_firstWrong 20 = .ok (.iinc 1 1, 3) := by decide +kernel
theorem dX7_firstWrong_23 : decode cX7_firstWrong 23 = .ok (.goto (-21), 3) := by decide +kernel
theorem dX7_firstWrong_26 : decode cX7_firstWrong 26 = .ok (.aload_n 0, 1) := by decide +kernel
theorem dX7_firstWrong_27 : decode cX7_firstWrong 27 = .ok (.getfield 15, 3) := by decide +kernel
theorem dX7_firstWrong_30 : decode cX7_firstWrong 30 = .ok (.ireturn, 1) := by decide +kernel
theorem dX7_isWire_0 : decode cX7_isWire 0 = .ok (.aload_n 0, 1) := by decide +kernel
theorem dX7_isWire_1 : decode cX7_isWire 1 = .ok (.getfield 15, 3) := by decide +kernel
theorem dX7_isWire_4 : decode cX7_isWire 4 = .ok (.bipush 8, 2) := by decide +kernel
theorem dX7_isWire_6 : decode cX7_isWire 6 = .ok (.if_icmp .lt 18, 3) := by decide +kernel
theorem dX7_isWire_9 : decode cX7_isWire 9 = .ok (.aload_n 0, 1) := by decide +kernel
theorem dX7_isWire_10 : decode cX7_isWire 10 = .ok (.invokevirtual 23, 3) := by decide +kernel
theorem dX7_isWire_13 : decode cX7_isWire 13 = .ok (.aload_n 0, 1) := by decide +kernel
theorem dX7_isWire_14 : decode cX7_isWire 14 = .ok (.getfield 15, 3) := by decide +kernel
theorem dX7_isWire_17 : decode cX7_isWire 17 = .ok (.if_icmp .ne 7, 3) := by decide +kernel
theorem dX7_isWire_20 : decode cX7_isWire 20 = .ok (.iconst 1, 1) := by decide +kernel
theorem dX7_isWire_21 : decode cX7_isWire 21 = .ok (.goto 4, 3) := by decide +kernel
theorem dX7_isWire_24 : decode cX7_isWire 24 = .ok (.iconst 0, 1) := by decide +kernel
theorem dX7_isWire_25 : decode cX7_isWire 25 = .ok (.ireturn, 1) := by decide +kernel
theorem dX7_digitAt_0 : decode cX7_digitAt 0 = .ok (.aload_n 0, 1) := by decide +kernel
theorem dX7_digitAt_1 : decode cX7_digitAt 1 = .ok (.iload_n 1, 1) := by decide +kernel
theorem dX7_digitAt_2 : decode cX7_digitAt 2 = .ok (.invokevirtual 27, 3) := by decide +kernel
theorem dX7_digitAt_5 : decode cX7_digitAt 5 = .ok (.bipush 48, 2) := by decide +kernel
theorem dX7_digitAt_7 : decode cX7_digitAt 7 = .ok (.isub, 1) := by decide +kernel
theorem dX7_digitAt_8 : decode cX7_digitAt 8 = .ok (.ireturn, 1) := by decide +kernel
theorem dX7_isWireLetter_0 : decode cX7_isWireLetter 0 = .ok (.iload_n 1, 1) := by decide +kernel
theorem dX7_isWireLetter_1 : decode cX7_isWireLetter 1 = .ok (.tableswitch 138 0 8 #[51, 61, 86, 102, 86, 102, 112, 112, 122], 51) := by decide +kernel
theorem dX7_isWireLetter_52 : decode cX7_isWireLetter 52 = .ok (.aload_n 0, 1) := by decide +kernel
theorem dX7_isWireLetter_53 : decode cX7_isWireLetter 53 = .ok (.iload_n 1, 1) := by decide +kernel
theorem dX7_isWireLetter_54 : decode cX7_isWireLetter 54 = .ok (.bipush 49, 2) := by decide +kernel
theorem dX7_isWireLetter_56 : decode cX7_isWireLetter 56 = .ok (.bipush 52, 2) := by decide +kernel
theorem dX7_isWireLetter_58 : decode cX7_isWireLetter 58 = .ok (.invokevirtual 31, 3) := by decide +kernel
theorem dX7_isWireLetter_61 : decode cX7_isWireLetter 61 = .ok (.ireturn, 1) := by decide +kernel
theorem dX7_isWireLetter_62 : decode cX7_isWireLetter 62 = .ok (.aload_n 0, 1) := by decide +kernel
theorem dX7_isWireLetter_63 : decode cX7_isWireLetter 63 = .ok (.iload_n 1, 1) := by decide +kernel
theorem dX7_isWireLetter_64 : decode cX7_isWireLetter 64 = .ok (.bipush 48, 2) := by decide +kernel
theorem dX7_isWireLetter_66 : decode cX7_isWireLetter 66 = .ok (.aload_n 0, 1) := by decide +kernel
theorem dX7_isWireLetter_67 : decode cX7_isWireLetter 67 = .ok (.iconst 0, 1) := by decide +kernel
theorem dX7_isWireLetter_68 : decode cX7_isWireLetter 68 = .ok (.invokevirtual 27, 3) := by decide +kernel
theorem dX7_isWireLetter_71 : decode cX7_isWireLetter 71 = .ok (.bipush 52, 2) := by decide +kernel
theorem dX7_isWireLetter_73 : decode cX7_isWireLetter 73 = .ok (.if_icmp .ne 8, 3) := by decide +kernel
theorem dX7_isWireLetter_76 : decode cX7_isWireLetter 76 = .ok (.bipush 48, 2) := by decide +kernel
theorem dX7_isWireLetter_78 : decode cX7_isWireLetter 78 = .ok (.goto 5, 3) := by decide +kernel
theorem dX7_isWireLetter_81 : decode cX7_isWireLetter 81 = .ok (.bipush 57, 2) := by decide +kernel
theorem dX7_isWireLetter_83 : decode cX7_isWireLetter 83 = .ok (.invokevirtual 31, 3) := by decide +kernel
theorem dX7_isWireLetter_86 : decode cX7_isWireLetter 86 = .ok (.ireturn, 1) := by decide +kernel
theorem dX7_isWireLetter_87 : decode cX7_isWireLetter 87 = .ok (.aload_n 0, 1) := by decide +kernel
theorem dX7_isWireLetter_88 : decode cX7_isWireLetter 88 = .ok (.iload_n 1, 1) := by decide +kernel
theorem dX7_isWireLetter_89 : decode cX7_isWireLetter 89 = .ok (.invokevirtual 27, 3) := by decide +kernel
theorem dX7_isWireLetter_92 : decode cX7_isWireLetter 92 = .ok (.bipush 58, 2) := by decide +kernel
theorem dX7_isWireLetter_94 : decode cX7_isWireLetter 94 = .ok (.if_icmp .ne 7, 3) := by decide +kernel
theorem dX7_isWireLetter_97 : decode cX7_isWireLetter 97 = .ok (.iconst 1, 1) := by decide +kernel
theorem dX7_isWireLetter_98 : decode cX7_isWireLetter 98 = .ok (.goto 4, 3) := by decide +kernel
theorem dX7_isWireLetter_101 : decode cX7_isWireLetter 101 = .ok (.iconst 0, 1) := by decide +kernel
theorem dX7_isWireLetter_102 : decode cX7_isWireLetter 102 = .ok (.ireturn, 1) := by decide +kernel
theorem dX7_isWireLetter_103 : decode cX7_isWireLetter 103 = .ok (.aload_n 0, 1) := by decide +kernel
theorem dX7_isWireLetter_104 : decode cX7_isWireLetter 104 = .ok (.iload_n 1, 1) := by decide +kernel
theorem dX7_isWireLetter_105 : decode cX7_isWireLetter 105 = .ok (.bipush 49, 2) := by decide +kernel
theorem dX7_isWireLetter_107 : decode cX7_isWireLetter 107 = .ok (.bipush 57, 2) := by decide +kernel
theorem dX7_isWireLetter_109 : decode cX7_isWireLetter 109 = .ok (.invokevirtual 31, 3) := by decide +kernel
theorem dX7_isWireLetter_112 : decode cX7_isWireLetter 112 = .ok (.ireturn, 1) := by decide +kernel
theorem dX7_isWireLetter_113 : decode cX7_isWireLetter 113 = .ok (.aload_n 0, 1) := by decide +kernel
theorem dX7_isWireLetter_114 : decode cX7_isWireLetter 114 = .ok (.iload_n 1, 1) := by decide +kernel
theorem dX7_isWireLetter_115 : decode cX7_isWireLetter 115 = .ok (.bipush 48, 2) := by decide +kernel
theorem dX7_isWireLetter_117 : decode cX7_isWireLetter 117 = .ok (.bipush 57, 2) := by decide +kernel
theorem dX7_isWireLetter_119 : decode cX7_isWireLetter 119 = .ok (.invokevirtual 31, 3) := by decide +kernel
theorem dX7_isWireLetter_122 : decode cX7_isWireLetter 122 = .ok (.ireturn, 1) := by decide +kernel
theorem dX7_isWireLetter_123 : decode cX7_isWireLetter 123 = .ok (.aload_n 0, 1) := by decide +kernel
theorem dX7_isWireLetter_124 : decode cX7_isWireLetter 124 = .ok (.iload_n 1, 1) := by decide +kernel
theorem dX7_isWireLetter_125 : decode cX7_isWireLetter 125 = .ok (.invokevirtual 27, 3) := by decide +kernel
theorem dX7_isWireLetter_128 : decode cX7_isWireLetter 128 = .ok (.bipush 111, 2) := by decide +kernel
theorem dX7_isWireLetter_130 : decode cX7_isWireLetter 130 = .ok (.if_icmp .ne 7, 3) := by decide +kernel
theorem dX7_isWireLetter_133 : decode cX7_isWireLetter 133 = .ok (.iconst 1, 1) := by decide +kernel
theorem dX7_isWireLetter_134 : decode cX7_isWireLetter 134 = .ok (.goto 4, 3) := by decide +kernel
theorem dX7_isWireLetter_137 : decode cX7_isWireLetter 137 = .ok (.iconst 0, 1) := by decide +kernel
theorem dX7_isWireLetter_138 : decode cX7_isWireLetter 138 = .ok (.ireturn, 1) := by decide +kernel
theorem dX7_isWireLetter_139 : decode cX7_isWireLetter 139 = .ok (.iconst 0, 1) := by decide +kernel
theorem dX7_isWireLetter_140 : decode cX7_isWireLetter 140 = .ok (.ireturn, 1) := by decide +kernel
theorem dX7_isBetween_0 : decode cX7_isBetween 0 = .ok (.aload_n 0, 1) := by decide +kernel
theorem dX7_isBetween_1 : decode cX7_isBetween 1 = .ok (.iload_n 1, 1) := by decide +kernel
theorem dX7_isBetween_2 : decode cX7_isBetween 2 = .ok (.invokevirtual 27, 3) := by decide +kernel
theorem dX7_isBetween_5 : decode cX7_isBetween 5 = .ok (.iload_n 2, 1) := by decide +kernel
theorem dX7_isBetween_6 : decode cX7_isBetween 6 = .ok (.if_icmp .lt 16, 3) := by decide +kernel
theorem dX7_isBetween_9 : decode cX7_isBetween 9 = .ok (.aload_n 0, 1) := by decide +kernel
theorem dX7_isBetween_10 : decode cX7_isBetween 10 = .ok (.iload_n 1, 1) := by decide +kernel
theorem dX7_isBetween_11 : decode cX7_isBetween 11 = .ok (.invokevirtual 27, 3) := by decide +kernel
theorem dX7_isBetween_14 : decode cX7_isBetween 14 = .ok (.iload_n 3, 1) := by decide +kernel
theorem dX7_isBetween_15 : decode cX7_isBetween 15 = .ok (.if_icmp .gt 7, 3) := by decide +kernel
theorem dX7_isBetween_18 : decode cX7_isBetween 18 = .ok (.iconst 1, 1) := by decide +kernel
theorem dX7_isBetween_19 : decode cX7_isBetween 19 = .ok (.goto 4, 3) := by decide +kernel
theorem dX7_isBetween_22 : decode cX7_isBetween 22 = .ok (.iconst 0, 1) := by decide +kernel
theorem dX7_isBetween_23 : decode cX7_isBetween 23 = .ok (.ireturn, 1) := by decide +kernel
theorem dX8_init_0 : decode cX8_init 0 = .ok (.aload_n 0, 1) := by decide +kernel
theorem dX8_init_1 : decode cX8_init 1 = .ok (.invokespecial 3, 3) := by decide +kernel
theorem dX8_init_4 : decode cX8_init 4 = .ok (.aload_n 0, 1) := by decide +kernel
theorem dX8_init_5 : decode cX8_init 5 = .ok (.bipush 41, 2) := by decide +kernel
theorem dX8_init_7 : decode cX8_init 7 = .ok (.newarray .int, 2) := by decide +kernel
theorem dX8_init_9 : decode cX8_init 9 = .ok (.putfield 9, 3) := by decide +kernel
theorem dX8_init_12 : decode cX8_init 12 = .ok (.aload_n 0, 1) := by decide +kernel
theorem dX8_init_13 : decode cX8_init 13 = .ok (.bipush 41, 2) := by decide +kernel
theorem dX8_init_15 : decode cX8_init 15 = .ok (.newarray .int, 2) := by decide +kernel
theorem dX8_init_17 : decode cX8_init 17 = .ok (.putfield 15, 3) := by decide +kernel
theorem dX8_init_20 : decode cX8_init 20 = .ok (.return_, 1) := by decide +kernel
theorem dX9_init_0 : decode cX9_init 0 = .ok (.aload_n 0, 1) := by decide +kernel
theorem dX9_init_1 : decode cX9_init 1 = .ok (.invokespecial 3, 3) := by decide +kernel
theorem dX9_init_4 : decode cX9_init 4 = .ok (.aload_n 0, 1) := by decide +kernel
theorem dX9_init_5 : decode cX9_init 5 = .ok (.iload_n 1, 1) := by decide +kernel
theorem dX9_init_6 : decode cX9_init 6 = .ok (.putfield 9, 3) := by decide +kernel
theorem dX9_init_9 : decode cX9_init 9 = .ok (.aload_n 0, 1) := by decide +kernel
theorem dX9_init_10 : decode cX9_init 10 = .ok (.iload_n 2, 1) := by decide +kernel
theorem dX9_init_11 : decode cX9_init 11 = .ok (.putfield 15, 3) := by decide +kernel
theorem dX9_init_14 : decode cX9_init 14 = .ok (.aload_n 0, 1) := by decide +kernel
theorem dX9_init_15 : decode cX9_init 15 = .ok (.iload_n 3, 1) := by decide +kernel
theorem dX9_init_16 : decode cX9_init 16 = .ok (.putfield 18, 3) := by decide +kernel
theorem dX9_init_19 : decode cX9_init 19 = .ok (.return_, 1) := by decide +kernel
theorem dX9_kind_0 : decode cX9_kind 0 = .ok (.iconst 0, 1) := by decide +kernel
theorem dX9_kind_1 : decode cX9_kind 1 = .ok (.ireturn, 1) := by decide +kernel
theorem dX9_weighs_0 : decode cX9_weighs 0 = .ok (.aload_n 0, 1) := by decide +kernel
theorem dX9_weighs_1 : decode cX9_weighs 1 = .ok (.getfield 9, 3) := by decide +kernel
theorem dX9_weighs_4 : decode cX9_weighs 4 = .ok (.ireturn, 1) := by decide +kernel
theorem dX9_goesAcross_0 : decode cX9_goesAcross 0 = .ok (.iconst 1, 1) := by decide +kernel
theorem dX9_goesAcross_1 : decode cX9_goesAcross 1 = .ok (.ireturn, 1) := by decide +kernel
theorem dX9_hoursHere_0 : decode cX9_hoursHere 0 = .ok (.iload_n 1, 1) := by decide +kernel
theorem dX9_hoursHere_1 : decode cX9_hoursHere 1 = .ok (.aload_n 0, 1) := by decide +kernel
theorem dX9_hoursHere_2 : decode cX9_hoursHere 2 = .ok (.getfield 18, 3) := by decide +kernel
theorem dX9_hoursHere_5 : decode cX9_hoursHere 5 = .ok (.isub, 1) := by decide +kernel
theorem dX9_hoursHere_6 : decode cX9_hoursHere 6 = .ok (.ireturn, 1) := by decide +kernel
theorem dX10_init_0 : decode cX10_init 0 = .ok (.aload_n 0, 1) := by decide +kernel
theorem dX10_init_1 : decode cX10_init 1 = .ok (.invokespecial 3, 3) := by decide +kernel
theorem dX10_init_4 : decode cX10_init 4 = .ok (.aload_n 0, 1) := by decide +kernel
theorem dX10_init_5 : decode cX10_init 5 = .ok (.bipush 6, 2) := by decide +kernel
theorem dX10_init_7 : decode cX10_init 7 = .ok (.newarray .int, 2) := by decide +kernel
theorem dX10_init_9 : decode cX10_init 9 = .ok (.putfield 9, 3) := by decide +kernel
theorem dX10_init_12 : decode cX10_init 12 = .ok (.aload_n 0, 1) := by decide +kernel
theorem dX10_init_13 : decode cX10_init 13 = .ok (.bipush 6, 2) := by decide +kernel
theorem dX10_init_15 : decode cX10_init 15 = .ok (.newarray .int, 2) := by decide +kernel
theorem dX10_init_17 : decode cX10_init 17 = .ok (.putfield 15, 3) := by decide +kernel
theorem dX10_init_20 : decode cX10_init 20 = .ok (.return_, 1) := by decide +kernel
theorem dX10_emptied_0 : decode cX10_emptied 0 = .ok (.aload_n 0, 1) := by decide +kernel
theorem dX10_emptied_1 : decode cX10_emptied 1 = .ok (.getfield 18, 3) := by decide +kernel
theorem dX10_emptied_4 : decode cX10_emptied 4 = .ok (.istore_n 1, 1) := by decide +kernel
theorem dX10_emptied_5 : decode cX10_emptied 5 = .ok (.aload_n 0, 1) := by decide +kernel
theorem dX10_emptied_6 : decode cX10_emptied 6 = .ok (.iconst 0, 1) := by decide +kernel
theorem dX10_emptied_7 : decode cX10_emptied 7 = .ok (.putfield 18, 3) := by decide +kernel
theorem dX10_emptied_10 : decode cX10_emptied 10 = .ok (.iload_n 1, 1) := by decide +kernel
theorem dX10_emptied_11 : decode cX10_emptied 11 = .ok (.ireturn, 1) := by decide +kernel
theorem dJ9_floorMod_7cf53_0 : decode cJ9_floorMod_7cf53 0 = .ok (.iload_n 0, 1) := by decide +kernel
theorem dJ9_floorMod_7cf53_1 : decode cJ9_floorMod_7cf53 1 = .ok (.iload_n 1, 1) := by decide +kernel
theorem dJ9_floorMod_7cf53_2 : decode cJ9_floorMod_7cf53 2 = .ok (.irem, 1) := by decide +kernel
theorem dJ9_floorMod_7cf53_3 : decode cJ9_floorMod_7cf53 3 = .ok (.istore_n 2, 1) := by decide +kernel
theorem dJ9_floorMod_7cf53_4 : decode cJ9_floorMod_7cf53 4 = .ok (.iload_n 0, 1) := by decide +kernel
theorem dJ9_floorMod_7cf53_5 : decode cJ9_floorMod_7cf53 5 = .ok (.iload_n 1, 1) := by decide +kernel
theorem dJ9_floorMod_7cf53_6 : decode cJ9_floorMod_7cf53 6 = .ok (.ixor, 1) := by decide +kernel
theorem dJ9_floorMod_7cf53_7 : decode cJ9_floorMod_7cf53 7 = .ok (.ifCond .ge 11, 3) := by decide +kernel
theorem dJ9_floorMod_7cf53_10 : decode cJ9_floorMod_7cf53 10 = .ok (.iload_n 2, 1) := by decide +kernel
theorem dJ9_floorMod_7cf53_11 : decode cJ9_floorMod_7cf53 11 = .ok (.ifCond .eq 7, 3) := by decide +kernel
theorem dJ9_floorMod_7cf53_14 : decode cJ9_floorMod_7cf53 14 = .ok (.iload_n 2, 1) := by decide +kernel
theorem dJ9_floorMod_7cf53_15 : decode cJ9_floorMod_7cf53 15 = .ok (.iload_n 1, 1) := by decide +kernel
theorem dJ9_floorMod_7cf53_16 : decode cJ9_floorMod_7cf53 16 = .ok (.iadd, 1) := by decide +kernel
theorem dJ9_floorMod_7cf53_17 : decode cJ9_floorMod_7cf53 17 = .ok (.ireturn, 1) := by decide +kernel
theorem dJ9_floorMod_7cf53_18 : decode cJ9_floorMod_7cf53 18 = .ok (.iload_n 2, 1) := by decide +kernel
theorem dJ9_floorMod_7cf53_19 : decode cJ9_floorMod_7cf53 19 = .ok (.ireturn, 1) := by decide +kernel
theorem dJ9_min_7cf53_0 : decode cJ9_min_7cf53 0 = .ok (.iload_n 0, 1) := by decide +kernel
theorem dJ9_min_7cf53_1 : decode cJ9_min_7cf53 1 = .ok (.iload_n 1, 1) := by decide +kernel
theorem dJ9_min_7cf53_2 : decode cJ9_min_7cf53 2 = .ok (.if_icmp .gt 7, 3) := by decide +kernel
theorem dJ9_min_7cf53_5 : decode cJ9_min_7cf53 5 = .ok (.iload_n 0, 1) := by decide +kernel
theorem dJ9_min_7cf53_6 : decode cJ9_min_7cf53 6 = .ok (.goto 4, 3) := by decide +kernel
theorem dJ9_min_7cf53_9 : decode cJ9_min_7cf53 9 = .ok (.iload_n 1, 1) := by decide +kernel
theorem dJ9_min_7cf53_10 : decode cJ9_min_7cf53 10 = .ok (.ireturn, 1) := by decide +kernel
