theorem dX11_init_0 : decode cX11_init 0 = .ok (.aload_n 0, 1) := by decide +kernel
theorem dX11_init_1 : decode cX11_init 1 = .ok (.invokespecial 1, 3) := by decide +kernel
theorem dX11_init_4 : decode cX11_init 4 = .ok (.aload_n 0, 1) := by decide +kernel
theorem dX11_init_5 : decode cX11_init 5 = .ok (.new 7, 3) := by decide +kernel
theorem dX11_init_8 : decode cX11_init 8 = .ok (.dup, 1) := by decide +kernel
theorem dX11_init_9 : decode cX11_init 9 = .ok (.invokespecial 9, 3) := by decide +kernel
theorem dX11_init_12 : decode cX11_init 12 = .ok (.putfield 10, 3) := by decide +kernel
theorem dX11_init_15 : decode cX11_init 15 = .ok (.aload_n 0, 1) := by decide +kernel
theorem dX11_init_16 : decode cX11_init 16 = .ok (.new 16, 3) := by decide +kernel
theorem dX11_init_19 : decode cX11_init 19 = .ok (.dup, 1) := by decide +kernel
theorem dX11_init_20 : decode cX11_init 20 = .ok (.invokespecial 18, 3) := by decide +kernel
theorem dX11_init_23 : decode cX11_init 23 = .ok (.putfield 19, 3) := by decide +kernel
theorem dX11_init_26 : decode cX11_init 26 = .ok (.aload_n 0, 1) := by decide +kernel
theorem dX11_init_27 : decode cX11_init 27 = .ok (.new 23, 3) := by decide +kernel
theorem dX11_init_30 : decode cX11_init 30 = .ok (.dup, 1) := by decide +kernel
theorem dX11_init_31 : decode cX11_init 31 = .ok (.invokespecial 25, 3) := by decide +kernel
theorem dX11_init_34 : decode cX11_init 34 = .ok (.putfield 26, 3) := by decide +kernel
theorem dX11_init_37 : decode cX11_init 37 = .ok (.aload_n 0, 1) := by decide +kernel
theorem dX11_init_38 : decode cX11_init 38 = .ok (.new 30, 3) := by decide +kernel
theorem dX11_init_41 : decode cX11_init 41 = .ok (.dup, 1) := by decide +kernel
theorem dX11_init_42 : decode cX11_init 42 = .ok (.invokespecial 32, 3) := by decide +kernel
theorem dX11_init_45 : decode cX11_init 45 = .ok (.putfield 33, 3) := by decide +kernel
theorem dX11_init_48 : decode cX11_init 48 = .ok (.aload_n 0, 1) := by decide +kernel
theorem dX11_init_49 : decode cX11_init 49 = .ok (.new 37, 3) := by decide +kernel
theorem dX11_init_52 : decode cX11_init 52 = .ok (.dup, 1) := by decide +kernel
theorem dX11_init_53 : decode cX11_init 53 = .ok (.invokespecial 39, 3) := by decide +kernel
theorem dX11_init_56 : decode cX11_init 56 = .ok (.putfield 40, 3) := by decide +kernel
theorem dX11_init_59 : decode cX11_init 59 = .ok (.aload_n 0, 1) := by decide +kernel
theorem dX11_init_60 : decode cX11_init 60 = .ok (.new 44, 3) := by decide +kernel
theorem dX11_init_63 : decode cX11_init 63 = .ok (.dup, 1) := by decide +kernel
theorem dX11_init_64 : decode cX11_init 64 = .ok (.invokespecial 46, 3) := by decide +kernel
theorem dX11_init_67 : decode cX11_init 67 = .ok (.putfield 47, 3) := by decide +kernel
theorem dX11_init_70 : decode cX11_init 70 = .ok (.aload_n 0, 1) := by decide +kernel
theorem dX11_init_71 : decode cX11_init 71 = .ok (.new 16, 3) := by decide +kernel
theorem dX11_init_74 : decode cX11_init 74 = .ok (.dup, 1) := by decide +kernel
theorem dX11_init_75 : decode cX11_init 75 = .ok (.invokespecial 18, 3) := by decide +kernel
theorem dX11_init_78 : decode cX11_init 78 = .ok (.putfield 51, 3) := by decide +kernel
theorem dX11_init_81 : decode cX11_init 81 = .ok (.aload_n 0, 1) := by decide +kernel
theorem dX11_init_82 : decode cX11_init 82 = .ok (.new 16, 3) := by decide +kernel
theorem dX11_init_85 : decode cX11_init 85 = .ok (.dup, 1) := by decide +kernel
theorem dX11_init_86 : decode cX11_init 86 = .ok (.invokespecial 18, 3) := by decide +kernel
theorem dX11_init_89 : decode cX11_init 89 = .ok (.putfield 54, 3) := by decide +kernel
theorem dX11_init_92 : decode cX11_init 92 = .ok (.return_, 1) := by decide +kernel
theorem dX11_letters_0 : decode cX11_letters 0 = .ok (.lload_n 1, 1) := by decide +kernel
theorem dX11_letters_1 : decode cX11_letters 1 = .ok (.invokestatic 57, 3) := by decide +kernel
theorem dX11_letters_4 : decode cX11_letters 4 = .ok (.istore_n 3, 1) := by decide +kernel
theorem dX11_letters_5 : decode cX11_letters 5 = .ok (.iload_n 3, 1) := by decide +kernel
theorem dX11_letters_6 : decode cX11_letters 6 = .ok (.ifCond .ge 6, 3) := by decide +kernel
theorem dX11_letters_9 : decode cX11_letters 9 = .ok (.bipush (-102), 2) := by decide +kernel
theorem dX11_letters_11 : decode cX11_letters 11 = .ok (.ireturn, 1) := by decide +kernel
theorem dX11_letters_12 : decode cX11_letters 12 = .ok (.aload_n 0, 1) := by decide +kernel
theorem dX11_letters_13 : decode cX11_letters 13 = .ok (.getfield 10, 3) := by decide +kernel
theorem dX11_letters_16 : decode cX11_letters 16 = .ok (.iload_n 3, 1) := by decide +kernel
theorem dX11_letters_17 : decode cX11_letters 17 = .ok (.invokevirtual 61, 3) := by decide +kernel
theorem dX11_letters_20 : decode cX11_letters 20 = .ok (.ifCond .ne 6, 3) := by decide +kernel
theorem dX11_letters_23 : decode cX11_letters 23 = .ok (.bipush (-104), 2) := by decide +kernel
theorem dX11_letters_25 : decode cX11_letters 25 = .ok (.ireturn, 1) := by decide +kernel
theorem dX11_letters_26 : decode cX11_letters 26 = .ok (.iconst 0, 1) := by decide +kernel
theorem dX11_letters_27 : decode cX11_letters 27 = .ok (.istore 4, 2) := by decide +kernel
theorem dX11_letters_29 : decode cX11_letters 29 = .ok (.iload 4, 2) := by decide +kernel
theorem dX11_letters_31 : decode cX11_letters 31 = .ok (.iload_n 3, 1) := by decide +kernel
theorem dX11_letters_32 : decode cX11_letters 32 = .ok (.if_icmp .ge 23, 3) := by decide +kernel
theorem dX11_letters_35 : decode cX11_letters 35 = .ok (.aload_n 0, 1) := by decide +kernel
theorem dX11_letters_36 : decode cX11_letters 36 = .ok (.getfield 10, 3) := by decide +kernel
theorem dX11_letters_39 : decode cX11_letters 39 = .ok (.lload_n 1, 1) := by decide +kernel
theorem dX11_letters_40 : decode cX11_letters 40 = .ok (.iload 4, 2) := by decide +kernel
theorem dX11_letters_42 : decode cX11_letters 42 = .ok (.invokestatic 65, 3) := by decide +kernel
theorem dX11_letters_45 : decode cX11_letters 45 = .ok (.i2c, 1) := by decide +kernel
theorem dX11_letters_46 : decode cX11_letters 46 = .ok (.invokevirtual 69, 3) := by decide +kernel
theorem dX11_letters_49 : decode cX11_letters 49 = .ok (.iinc 4 1, 3) := by decide +kernel
theorem dX11_letters_52 : decode cX11_letters 52 = .ok (.goto (-23), 3) := by decide +kernel
theorem dX11_letters_55 : decode cX11_letters 55 = .ok (.aload_n 0, 1) := by decide +kernel
theorem dX11_letters_56 : decode cX11_letters 56 = .ok (.getfield 10, 3) := by decide +kernel
theorem dX11_letters_59 : decode cX11_letters 59 = .ok (.getfield 73, 3) := by decide +kernel
theorem dX11_letters_62 : decode cX11_letters 62 = .ok (.ireturn, 1) := by decide +kernel
theorem dX11_fault_0 : decode cX11_fault 0 = .ok (.aload_n 0, 1) := by decide +kernel
theorem dX11_fault_1 : decode cX11_fault 1 = .ok (.getfield 10, 3) := by decide +kernel
theorem dX11_fault_4 : decode cX11_fault 4 = .ok (.invokevirtual 81, 3) := by decide +kernel
theorem dX11_fault_7 : decode cX11_fault 7 = .ok (.ireturn, 1) := by decide +kernel
theorem dX11_wire_0 : decode cX11_wire 0 = .ok (.aload_n 0, 1) := by decide +kernel
theorem dX11_wire_1 : decode cX11_wire 1 = .ok (.getfield 10, 3) := by decide +kernel
theorem dX11_wire_4 : decode cX11_wire 4 = .ok (.invokevirtual 84, 3) := by decide +kernel
theorem dX11_wire_7 : decode cX11_wire 7 = .ok (.ifCond .ne 6, 3) := by decide +kernel
theorem dX11_wire_10 : decode cX11_wire 10 = .ok (.bipush (-103), 2) := by decide +kernel
theorem dX11_wire_12 : decode cX11_wire 12 = .ok (.ireturn, 1) := by decide +kernel
theorem dX11_wire_13 : decode cX11_wire 13 = .ok (.aload_n 0, 1) := by decide +kernel
theorem dX11_wire_14 : decode cX11_wire 14 = .ok (.getfield 19, 3) := by decide +kernel
theorem dX11_wire_17 : decode cX11_wire 17 = .ok (.aload_n 0, 1) := by decide +kernel
theorem dX11_wire_18 : decode cX11_wire 18 = .ok (.getfield 10, 3) := by decide +kernel
theorem dX11_wire_21 : decode cX11_wire 21 = .ok (.invokevirtual 88, 3) := by decide +kernel
theorem dX11_wire_24 : decode cX11_wire 24 = .ok (.aload_n 0, 1) := by decide +kernel
theorem dX11_wire_25 : decode cX11_wire 25 = .ok (.getfield 10, 3) := by decide +kernel
theorem dX11_wire_28 : decode cX11_wire 28 = .ok (.invokevirtual 77, 3) := by decide +kernel
theorem dX11_wire_31 : decode cX11_wire 31 = .ok (.pop, 1) := by decide +kernel
theorem dX11_wire_32 : decode cX11_wire 32 = .ok (.aload_n 0, 1) := by decide +kernel
theorem dX11_wire_33 : decode cX11_wire 33 = .ok (.getfield 26, 3) := by decide +kernel
theorem dX11_wire_36 : decode cX11_wire 36 = .ok (.iconst 0, 1) := by decide +kernel
theorem dX11_wire_37 : decode cX11_wire 37 = .ok (.invokevirtual 92, 3) := by decide +kernel
theorem dX11_wire_40 : decode cX11_wire 40 = .ok (.aload_n 0, 1) := by decide +kernel
theorem dX11_wire_41 : decode cX11_wire 41 = .ok (.getfield 33, 3) := by decide +kernel
theorem dX11_wire_44 : decode cX11_wire 44 = .ok (.invokevirtual 96, 3) := by decide +kernel
theorem dX11_wire_47 : decode cX11_wire 47 = .ok (.pop, 1) := by decide +kernel
theorem dX11_wire_48 : decode cX11_wire 48 = .ok (.aload_n 0, 1) := by decide +kernel
theorem dX11_wire_49 : decode cX11_wire 49 = .ok (.iconst 0, 1) := by decide +kernel
theorem dX11_wire_50 : decode cX11_wire 50 = .ok (.putfield 97, 3) := by decide +kernel
theorem dX11_wire_53 : decode cX11_wire 53 = .ok (.aload_n 0, 1) := by decide +kernel
theorem dX11_wire_54 : decode cX11_wire 54 = .ok (.dup, 1) := by decide +kernel
theorem dX11_wire_55 : decode cX11_wire 55 = .ok (.getfield 101, 3) := by decide +kernel
theorem dX11_wire_58 : decode cX11_wire 58 = .ok (.iconst 1, 1) := by decide +kernel
theorem dX11_wire_59 : decode cX11_wire 59 = .ok (.iadd, 1) := by decide +kernel
theorem dX11_wire_60 : decode cX11_wire 60 = .ok (.putfield 101, 3) := by decide +kernel
theorem dX11_wire_63 : decode cX11_wire 63 = .ok (.aload_n 0, 1) := by decide +kernel
theorem dX11_wire_64 : decode cX11_wire 64 = .ok (.getfield 19, 3) := by decide +kernel
theorem dX11_wire_67 : decode cX11_wire 67 = .ok (.getfield 104, 3) := by decide +kernel
theorem dX11_wire_70 : decode cX11_wire 70 = .ok (.ireturn, 1) := by decide +kernel
theorem dX11_cabin_0 : decode cX11_cabin 0 = .ok (.iload_n 1, 1) := by decide +kernel
theorem dX11_cabin_1 : decode cX11_cabin 1 = .ok (.invokestatic 107, 3) := by decide +kernel
theorem dX11_cabin_4 : decode cX11_cabin 4 = .ok (.ifCond .ne 6, 3) := by decide +kernel
theorem dX11_cabin_7 : decode cX11_cabin 7 = .ok (.bipush (-101), 2) := by decide +kernel
theorem dX11_cabin_9 : decode cX11_cabin 9 = .ok (.ireturn, 1) := by decide +kernel
theorem dX11_cabin_10 : decode cX11_cabin 10 = .ok (.iload_n 2, 1) := by decide +kernel
theorem dX11_cabin_11 : decode cX11_cabin 11 = .ok (.ifCond .lt 8, 3) := by decide +kernel
theorem dX11_cabin_14 : decode cX11_cabin 14 = .ok (.iload_n 2, 1) := by decide +kernel
theorem dX11_cabin_15 : decode cX11_cabin 15 = .ok (.iconst 3, 1) := by decide +kernel
theorem dX11_cabin_16 : decode cX11_cabin 16 = .ok (.if_icmp .le 6, 3) := by decide +kernel
theorem dX11_cabin_19 : decode cX11_cabin 19 = .ok (.bipush (-102), 2) := by decide +kernel
theorem dX11_cabin_21 : decode cX11_cabin 21 = .ok (.ireturn, 1) := by decide +kernel
theorem dX11_cabin_22 : decode cX11_cabin 22 = .ok (.aload_n 0, 1) := by decide +kernel
theorem dX11_cabin_23 : decode cX11_cabin 23 = .ok (.getfield 19, 3) := by decide +kernel
theorem dX11_cabin_26 : decode cX11_cabin 26 = .ok (.invokevirtual 110, 3) := by decide +kernel
theorem dX11_cabin_29 : decode cX11_cabin 29 = .ok (.ifCond .ne 6, 3) := by decide +kernel
theorem dX11_cabin_32 : decode cX11_cabin 32 = .ok (.bipush (-103), 2) := by decide +kernel
theorem dX11_cabin_34 : decode cX11_cabin 34 = .ok (.ireturn, 1) := by decide +kernel
theorem dX11_cabin_35 : decode cX11_cabin 35 = .ok (.iload_n 2, 1) := by decide +kernel
theorem dX11_cabin_36 : decode cX11_cabin 36 = .ok (.tableswitch 70 0 2 #[28, 44, 57], 28) := by decide +kernel
theorem dX11_cabin_64 : decode cX11_cabin 64 = .ok (.aload_n 0, 1) := by decide +kernel
theorem dX11_cabin_65 : decode cX11_cabin 65 = .ok (.getfield 26, 3) := by decide +kernel
theorem dX11_cabin_68 : decode cX11_cabin 68 = .ok (.iload_n 1, 1) := by decide +kernel
theorem dX11_cabin_69 : decode cX11_cabin 69 = .ok (.aload_n 0, 1) := by decide +kernel
theorem dX11_cabin_70 : decode cX11_cabin 70 = .ok (.getfield 19, 3) := by decide +kernel
theorem dX11_cabin_73 : decode cX11_cabin 73 = .ok (.getfield 113, 3) := by decide +kernel
theorem dX11_cabin_76 : decode cX11_cabin 76 = .ok (.invokevirtual 116, 3) := by decide +kernel
theorem dX11_cabin_79 : decode cX11_cabin 79 = .ok (.ireturn, 1) := by decide +kernel
theorem dX11_cabin_80 : decode cX11_cabin 80 = .ok (.aload_n 0, 1) := by decide +kernel
theorem dX11_cabin_81 : decode cX11_cabin 81 = .ok (.getfield 19, 3) := by decide +kernel
theorem dX11_cabin_84 : decode cX11_cabin 84 = .ok (.iload_n 1, 1) := by decide +kernel
theorem dX11_cabin_85 : decode cX11_cabin 85 = .ok (.aload_n 0, 1) := by decide +kernel
theorem dX11_cabin_86 : decode cX11_cabin 86 = .ok (.getfield 26, 3) := by decide +kernel
theorem dX11_cabin_89 : decode cX11_cabin 89 = .ok (.invokevirtual 120, 3) := by decide +kernel
theorem dX11_cabin_92 : decode cX11_cabin 92 = .ok (.ireturn, 1) := by decide +kernel
theorem dX11_cabin_93 : decode cX11_cabin 93 = .ok (.aload_n 0, 1) := by decide +kernel
theorem dX11_cabin_94 : decode cX11_cabin 94 = .ok (.getfield 19, 3) := by decide +kernel
theorem dX11_cabin_97 : decode cX11_cabin 97 = .ok (.iload_n 1, 1) := by decide +kernel
theorem dX11_cabin_98 : decode cX11_cabin 98 = .ok (.aload_n 0, 1) := by decide +kernel
theorem dX11_cabin_99 : decode cX11_cabin 99 = .ok (.getfield 26, 3) := by decide +kernel
theorem dX11_cabin_102 : decode cX11_cabin 102 = .ok (.invokevirtual 124, 3) := by decide +kernel
theorem dX11_cabin_105 : decode cX11_cabin 105 = .ok (.ireturn, 1) := by decide +kernel
theorem dX11_cabin_106 : decode cX11_cabin 106 = .ok (.aload_n 0, 1) := by decide +kernel
theorem dX11_cabin_107 : decode cX11_cabin 107 = .ok (.getfield 26, 3) := by decide +kernel
theorem dX11_cabin_110 : decode cX11_cabin 110 = .ok (.iload_n 1, 1) := by decide +kernel
theorem dX11_cabin_111 : decode cX11_cabin 111 = .ok (.invokevirtual 127, 3) := by decide +kernel
theorem dX11_cabin_114 : decode cX11_cabin 114 = .ok (.ireturn, 1) := by decide +kernel
theorem dX11_thing_0 : decode cX11_thing 0 = .ok (.iload_n 3, 1) := by decide +kernel
theorem dX11_thing_1 : decode cX11_thing 1 = .ok (.invokestatic 107, 3) := by decide +kernel
theorem dX11_thing_4 : decode cX11_thing 4 = .ok (.ifCond .ne 6, 3) := by decide +kernel
theorem dX11_thing_7 : decode cX11_thing 7 = .ok (.bipush (-101), 2) := by decide +kernel
theorem dX11_thing_9 : decode cX11_thing 9 = .ok (.ireturn, 1) := by decide +kernel
theorem dX11_thing_10 : decode cX11_thing 10 = .ok (.iload_n 1, 1) := by decide +kernel
theorem dX11_thing_11 : decode cX11_thing 11 = .ok (.invokestatic 131, 3) := by decide +kernel
theorem dX11_thing_14 : decode cX11_thing 14 = .ok (.ifCond .eq 14, 3) := by decide +kernel
theorem dX11_thing_17 : decode cX11_thing 17 = .ok (.iload_n 2, 1) := by decide +kernel
theorem dX11_thing_18 : decode cX11_thing 18 = .ok (.iconst 1, 1) := by decide +kernel
theorem dX11_thing_19 : decode cX11_thing 19 = .ok (.if_icmp .lt 9, 3) := by decide +kernel
theorem dX11_thing_22 : decode cX11_thing 22 = .ok (.iload_n 2, 1) := by decide +kernel
theorem dX11_thing_23 : decode cX11_thing 23 = .ok (.bipush 20, 2) := by decide +kernel
theorem dX11_thing_25 : decode cX11_thing 25 = .ok (.if_icmp .le 6, 3) := by decide +kernel
theorem dX11_thing_28 : decode cX11_thing 28 = .ok (.bipush (-102), 2) := by decide +kernel
theorem dX11_thing_30 : decode cX11_thing 30 = .ok (.ireturn, 1) := by decide +kernel
theorem dX11_thing_31 : decode cX11_thing 31 = .ok (.aload_n 0, 1) := by decide +kernel
theorem dX11_thing_32 : decode cX11_thing 32 = .ok (.getfield 19, 3) := by decide +kernel
theorem dX11_thing_35 : decode cX11_thing 35 = .ok (.invokevirtual 110, 3) := by decide +kernel
theorem dX11_thing_38 : decode cX11_thing 38 = .ok (.ifCond .ne 6, 3) := by decide +kernel
theorem dX11_thing_41 : decode cX11_thing 41 = .ok (.bipush (-103), 2) := by decide +kernel
theorem dX11_thing_43 : decode cX11_thing 43 = .ok (.ireturn, 1) := by decide +kernel
theorem dX11_thing_44 : decode cX11_thing 44 = .ok (.aload_n 0, 1) := by decide +kernel
theorem dX11_thing_45 : decode cX11_thing 45 = .ok (.getfield 26, 3) := by decide +kernel
theorem dX11_thing_48 : decode cX11_thing 48 = .ok (.invokevirtual 134, 3) := by decide +kernel
theorem dX11_thing_51 : decode cX11_thing 51 = .ok (.ifCond .eq 6, 3) := by decide +kernel
theorem dX11_thing_54 : decode cX11_thing 54 = .ok (.bipush (-104), 2) := by decide +kernel
theorem dX11_thing_56 : decode cX11_thing 56 = .ok (.ireturn, 1) := by decide +kernel
theorem dX11_thing_57 : decode cX11_thing 57 = .ok (.aload_n 0, 1) := by decide +kernel
theorem dX11_thing_58 : decode cX11_thing 58 = .ok (.getfield 26, 3) := by decide +kernel
theorem dX11_thing_61 : decode cX11_thing 61 = .ok (.iload_n 1, 1) := by decide +kernel
theorem dX11_thing_62 : decode cX11_thing 62 = .ok (.iload_n 2, 1) := by decide +kernel
theorem dX11_thing_63 : decode cX11_thing 63 = .ok (.iload_n 3, 1) := by decide +kernel
theorem dX11_thing_64 : decode cX11_thing 64 = .ok (.aload_n 0, 1) := by decide +kernel
theorem dX11_thing_65 : decode cX11_thing 65 = .ok (.getfield 19, 3) := by decide +kernel
theorem dX11_thing_68 : decode cX11_thing 68 = .ok (.getfield 113, 3) := by decide +kernel
theorem dX11_thing_71 : decode cX11_thing 71 = .ok (.invokestatic 137, 3) := by decide +kernel
theorem dX11_thing_74 : decode cX11_thing 74 = .ok (.invokevirtual 141, 3) := by decide +kernel
theorem dX11_thing_77 : decode cX11_thing 77 = .ok (.ireturn, 1) := by decide +kernel
theorem dX11_about_0 : decode cX11_about 0 = .ok (.aload_n 0, 1) := by decide +kernel
theorem dX11_about_1 : decode cX11_about 1 = .ok (.getfield 26, 3) := by decide +kernel
theorem dX11_about_4 : decode cX11_about 4 = .ok (.iload_n 1, 1) := by decide +kernel
theorem dX11_about_5 : decode cX11_about 5 = .ok (.invokevirtual 144, 3) := by decide +kernel
theorem dX11_about_8 : decode cX11_about 8 = .ok (.astore_n 3, 1) := by decide +kernel
theorem dX11_about_9 : decode cX11_about 9 = .ok (.aload_n 3, 1) := by decide +kernel
theorem dX11_about_10 : decode cX11_about 10 = .ok (.ifnonnull 6, 3) := by decide +kernel
theorem dX11_about_13 : decode cX11_about 13 = .ok (.bipush (-101), 2) := by decide +kernel
theorem dX11_about_15 : decode cX11_about 15 = .ok (.ireturn, 1) := by decide +kernel
theorem dX11_about_16 : decode cX11_about 16 = .ok (.iload_n 2, 1) := by decide +kernel
theorem dX11_about_17 : decode cX11_about 17 = .ok (.tableswitch 74 0 4 #[35, 40, 45, 50, 62], 35) := by decide +kernel
theorem dX11_about_52 : decode cX11_about 52 = .ok (.aload_n 3, 1) := by decide +kernel
theorem dX11_about_53 : decode cX11_about 53 = .ok (.invokevirtual 148, 3) := by decide +kernel
theorem dX11_about_56 : decode cX11_about 56 = .ok (.ireturn, 1) := by decide +kernel
theorem dX11_about_57 : decode cX11_about 57 = .ok (.aload_n 3, 1) := by decide +kernel
theorem dX11_about_58 : decode cX11_about 58 = .ok (.getfield 153, 3) := by decide +kernel
theorem dX11_about_61 : decode cX11_about 61 = .ok (.ireturn, 1) := by decide +kernel
theorem dX11_about_62 : decode cX11_about 62 = .ok (.aload_n 3, 1) := by decide +kernel
theorem dX11_about_63 : decode cX11_about 63 = .ok (.getfield 156, 3) := by decide +kernel
theorem dX11_about_66 : decode cX11_about 66 = .ok (.ireturn, 1) := by decide +kernel
theorem dX11_about_67 : decode cX11_about 67 = .ok (.aload_n 3, 1) := by decide +kernel
theorem dX11_about_68 : decode cX11_about 68 = .ok (.aload_n 0, 1) := by decide +kernel
theorem dX11_about_69 : decode cX11_about 69 = .ok (.getfield 19, 3) := by decide +kernel
theorem dX11_about_72 : decode cX11_about 72 = .ok (.getfield 113, 3) := by decide +kernel
theorem dX11_about_75 : decode cX11_about 75 = .ok (.invokevirtual 159, 3) := by decide +kernel
theorem dX11_about_78 : decode cX11_about 78 = .ok (.ireturn, 1) := by decide +kernel
theorem dX11_about_79 : decode cX11_about 79 = .ok (.aload_n 3, 1) := by decide +kernel
theorem dX11_about_80 : decode cX11_about 80 = .ok (.aload_n 0, 1) := by decide +kernel
theorem dX11_about_81 : decode cX11_about 81 = .ok (.getfield 19, 3) := by decide +kernel
theorem dX11_about_84 : decode cX11_about 84 = .ok (.getfield 113, 3) := by decide +kernel
theorem dX11_about_87 : decode cX11_about 87 = .ok (.invokevirtual 162, 3) := by decide +kernel
theorem dX11_about_90 : decode cX11_about 90 = .ok (.ireturn, 1) := by decide +kernel
theorem dX11_about_91 : decode cX11_about 91 = .ok (.bipush (-102), 2) := by decide +kernel
theorem dX11_about_93 : decode cX11_about 93 = .ok (.ireturn, 1) := by decide +kernel
theorem dX11_as_0 : decode cX11_as 0 = .ok (.aload_n 0, 1) := by decide +kernel
theorem dX11_as_1 : decode cX11_as 1 = .ok (.getfield 26, 3) := by decide +kernel
theorem dX11_as_4 : decode cX11_as 4 = .ok (.iload_n 1, 1) := by decide +kernel
theorem dX11_as_5 : decode cX11_as 5 = .ok (.invokevirtual 144, 3) := by decide +kernel
theorem dX11_as_8 : decode cX11_as 8 = .ok (.astore_n 3, 1) := by decide +kernel
theorem dX11_as_9 : decode cX11_as 9 = .ok (.aload_n 3, 1) := by decide +kernel
theorem dX11_as_10 : decode cX11_as 10 = .ok (.ifnonnull 6, 3) := by decide +kernel
theorem dX11_as_13 : decode cX11_as 13 = .ok (.bipush (-101), 2) := by decide +kernel
theorem dX11_as_15 : decode cX11_as 15 = .ok (.ireturn, 1) := by decide +kernel
theorem dX11_as_16 : decode cX11_as 16 = .ok (.iload_n 2, 1) := by decide +kernel
theorem dX11_as_17 : decode cX11_as 17 = .ok (.invokestatic 131, 3) := by decide +kernel
theorem dX11_as_20 : decode cX11_as 20 = .ok (.ifCond .ne 6, 3) := by decide +kernel
theorem dX11_as_23 : decode cX11_as 23 = .ok (.bipush (-102), 2) := by decide +kernel
theorem dX11_as_25 : decode cX11_as 25 = .ok (.ireturn, 1) := by decide +kernel
theorem dX11_as_26 : decode cX11_as 26 = .ok (.aload_n 3, 1) := by decide +kernel
theorem dX11_as_27 : decode cX11_as 27 = .ok (.iload_n 2, 1) := by decide +kernel
theorem dX11_as_28 : decode cX11_as 28 = .ok (.invokestatic 165, 3) := by decide +kernel
theorem dX11_as_31 : decode cX11_as 31 = .ok (.ifCond .eq 7, 3) := by decide +kernel
theorem dX11_as_34 : decode cX11_as 34 = .ok (.iload_n 1, 1) := by decide +kernel
theorem dX11_as_35 : decode cX11_as 35 = .ok (.goto 4, 3) := by decide +kernel
theorem dX11_as_38 : decode cX11_as 38 = .ok (.iconst (-1), 1) := by decide +kernel
theorem dX11_as_39 : decode cX11_as 39 = .ok (.ireturn, 1) := by decide +kernel
theorem dX11_carry_0 : decode cX11_carry 0 = .ok (.aload_n 0, 1) := by decide +kernel
theorem dX11_carry_1 : decode cX11_carry 1 = .ok (.getfield 26, 3) := by decide +kernel
theorem dX11_carry_4 : decode cX11_carry 4 = .ok (.iload_n 1, 1) := by decide +kernel
theorem dX11_carry_5 : decode cX11_carry 5 = .ok (.invokevirtual 144, 3) := by decide +kernel
theorem dX11_carry_8 : decode cX11_carry 8 = .ok (.astore_n 2, 1) := by decide +kernel
theorem dX11_carry_9 : decode cX11_carry 9 = .ok (.aload_n 2, 1) := by decide +kernel
theorem dX11_carry_10 : decode cX11_carry 10 = .ok (.ifnonnull 6, 3) := by decide +kernel
theorem dX11_carry_13 : decode cX11_carry 13 = .ok (.bipush (-101), 2) := by decide +kernel
theorem dX11_carry_15 : decode cX11_carry 15 = .ok (.ireturn, 1) := by decide +kernel
theorem dX11_carry_16 : decode cX11_carry 16 = .ok (.aload_n 0, 1) := by decide +kernel
theorem dX11_carry_17 : decode cX11_carry 17 = .ok (.getfield 19, 3) := by decide +kernel
theorem dX11_carry_20 : decode cX11_carry 20 = .ok (.invokevirtual 169, 3) := by decide +kernel
theorem dX11_carry_23 : decode cX11_carry 23 = .ok (.ifCond .eq 17, 3) := by decide +kernel
theorem dX11_carry_26 : decode cX11_carry 26 = .ok (.aload_n 2, 1) := by decide +kernel
theorem dX11_carry_27 : decode cX11_carry 27 = .ok (.aload_n 0, 1) := by decide +kernel
theorem dX11_carry_28 : decode cX11_carry 28 = .ok (.getfield 19, 3) := by decide +kernel
theorem dX11_carry_31 : decode cX11_carry 31 = .ok (.invokevirtual 172, 3) := by decide +kernel
theorem dX11_carry_34 : decode cX11_carry 34 = .ok (.invokevirtual 175, 3) := by decide +kernel
theorem dX11_carry_37 : decode cX11_carry 37 = .ok (.ifCond .ne 6, 3) := by decide +kernel
theorem dX11_carry_40 : decode cX11_carry 40 = .ok (.bipush (-103), 2) := by decide +kernel
theorem dX11_carry_42 : decode cX11_carry 42 = .ok (.ireturn, 1) := by decide +kernel
theorem dX11_carry_43 : decode cX11_carry 43 = .ok (.aload_n 2, 1) := by decide +kernel
theorem dX11_carry_44 : decode cX11_carry 44 = .ok (.iconst 1, 1) := by decide +kernel
theorem dX11_carry_45 : decode cX11_carry 45 = .ok (.aload_n 2, 1) := by decide +kernel
theorem dX11_carry_46 : decode cX11_carry 46 = .ok (.getfield 156, 3) := by decide +kernel
theorem dX11_carry_49 : decode cX11_carry 49 = .ok (.isub, 1) := by decide +kernel
theorem dX11_carry_50 : decode cX11_carry 50 = .ok (.putfield 156, 3) := by decide +kernel
theorem dX11_carry_53 : decode cX11_carry 53 = .ok (.aload_n 2, 1) := by decide +kernel
theorem dX11_carry_54 : decode cX11_carry 54 = .ok (.getfield 156, 3) := by decide +kernel
theorem dX11_carry_57 : decode cX11_carry 57 = .ok (.ireturn, 1) := by decide +kernel
theorem dX11_hour_0 : decode cX11_hour 0 = .ok (.iload_n 1, 1) := by decide +kernel
theorem dX11_hour_1 : decode cX11_hour 1 = .ok (.bipush (-3), 2) := by decide +kernel
theorem dX11_hour_3 : decode cX11_hour 3 = .ok (.if_icmp .lt 8, 3) := by decide +kernel
theorem dX11_hour_6 : decode cX11_hour 6 = .ok (.iload_n 1, 1) := by decide +kernel
theorem dX11_hour_7 : decode cX11_hour 7 = .ok (.iconst 3, 1) := by decide +kernel
theorem dX11_hour_8 : decode cX11_hour 8 = .ok (.if_icmp .le 6, 3) := by decide +kernel
theorem dX11_hour_11 : decode cX11_hour 11 = .ok (.bipush (-102), 2) := by decide +kernel
theorem dX11_hour_13 : decode cX11_hour 13 = .ok (.ireturn, 1) := by decide +kernel
theorem dX11_hour_14 : decode cX11_hour 14 = .ok (.aload_n 0, 1) := by decide +kernel
theorem dX11_hour_15 : decode cX11_hour 15 = .ok (.getfield 19, 3) := by decide +kernel
theorem dX11_hour_18 : decode cX11_hour 18 = .ok (.invokevirtual 169, 3) := by decide +kernel
theorem dX11_hour_21 : decode cX11_hour 21 = .ok (.ifCond .eq 18, 3) := by decide +kernel
theorem dX11_hour_24 : decode cX11_hour 24 = .ok (.aload_n 0, 1) := by decide +kernel
theorem dX11_hour_25 : decode cX11_hour 25 = .ok (.getfield 19, 3) := by decide +kernel
theorem dX11_hour_28 : decode cX11_hour 28 = .ok (.getfield 178, 3) := by decide +kernel
theorem dX11_hour_31 : decode cX11_hour 31 = .ok (.iload_n 1, 1) := by decide +kernel
theorem dX11_hour_32 : decode cX11_hour 32 = .ok (.isub, 1) := by decide +kernel
theorem dX11_hour_33 : decode cX11_hour 33 = .ok (.invokestatic 181, 3) := by decide +kernel
theorem dX11_hour_36 : decode cX11_hour 36 = .ok (.ifCond .ne 6, 3) := by decide +kernel
theorem dX11_hour_39 : decode cX11_hour 39 = .ok (.bipush (-103), 2) := by decide +kernel
theorem dX11_hour_41 : decode cX11_hour 41 = .ok (.ireturn, 1) := by decide +kernel
theorem dX11_hour_42 : decode cX11_hour 42 = .ok (.aload_n 0, 1) := by decide +kernel
theorem dX11_hour_43 : decode cX11_hour 43 = .ok (.getfield 19, 3) := by decide +kernel
theorem dX11_hour_46 : decode cX11_hour 46 = .ok (.iload_n 1, 1) := by decide +kernel
theorem dX11_hour_47 : decode cX11_hour 47 = .ok (.aload_n 0, 1) := by decide +kernel
theorem dX11_hour_48 : decode cX11_hour 48 = .ok (.getfield 26, 3) := by decide +kernel
theorem dX11_hour_51 : decode cX11_hour 51 = .ok (.invokevirtual 184, 3) := by decide +kernel
theorem dX11_hour_54 : decode cX11_hour 54 = .ok (.aload_n 0, 1) := by decide +kernel
theorem dX11_hour_55 : decode cX11_hour 55 = .ok (.getfield 19, 3) := by decide +kernel
theorem dX11_hour_58 : decode cX11_hour 58 = .ok (.getfield 188, 3) := by decide +kernel
theorem dX11_hour_61 : decode cX11_hour 61 = .ok (.ifCond .eq 7, 3) := by decide +kernel
theorem dX11_hour_64 : decode cX11_hour 64 = .ok (.iconst (-1), 1) := by decide +kernel
theorem dX11_hour_65 : decode cX11_hour 65 = .ok (.goto 10, 3) := by decide +kernel
theorem dX11_hour_68 : decode cX11_hour 68 = .ok (.aload_n 0, 1) := by decide +kernel
theorem dX11_hour_69 : decode cX11_hour 69 = .ok (.getfield 19, 3) := by decide +kernel
theorem dX11_hour_72 : decode cX11_hour 72 = .ok (.getfield 178, 3) := by decide +kernel
theorem dX11_hour_75 : decode cX11_hour 75 = .ok (.ireturn, 1) := by decide +kernel
theorem dX11_caught_0 : decode cX11_caught 0 = .ok (.iload_n 1, 1) := by decide +kernel
theorem dX11_caught_1 : decode cX11_caught 1 = .ok (.iconst 1, 1) := by decide +kernel
theorem dX11_caught_2 : decode cX11_caught 2 = .ok (.if_icmp .lt 9, 3) := by decide +kernel
theorem dX11_caught_5 : decode cX11_caught 5 = .ok (.iload_n 1, 1) := by decide +kernel
theorem dX11_caught_6 : decode cX11_caught 6 = .ok (.bipush 99, 2) := by decide +kernel
theorem dX11_caught_8 : decode cX11_caught 8 = .ok (.if_icmp .le 6, 3) := by decide +kernel
theorem dX11_caught_11 : decode cX11_caught 11 = .ok (.bipush (-102), 2) := by decide +kernel
theorem dX11_caught_13 : decode cX11_caught 13 = .ok (.ireturn, 1) := by decide +kernel
theorem dX11_caught_14 : decode cX11_caught 14 = .ok (.aload_n 0, 1) := by decide +kernel
theorem dX11_caught_15 : decode cX11_caught 15 = .ok (.getfield 19, 3) := by decide +kernel
theorem dX11_caught_18 : decode cX11_caught 18 = .ok (.invokevirtual 169, 3) := by decide +kernel
theorem dX11_caught_21 : decode cX11_caught 21 = .ok (.ifCond .ne 6, 3) := by decide +kernel
theorem dX11_caught_24 : decode cX11_caught 24 = .ok (.bipush (-103), 2) := by decide +kernel
theorem dX11_caught_26 : decode cX11_caught 26 = .ok (.ireturn, 1) := by decide +kernel
theorem dX11_caught_27 : decode cX11_caught 27 = .ok (.aload_n 0, 1) := by decide +kernel
theorem dX11_caught_28 : decode cX11_caught 28 = .ok (.getfield 19, 3) := by decide +kernel
theorem dX11_caught_31 : decode cX11_caught 31 = .ok (.invokevirtual 172, 3) := by decide +kernel
theorem dX11_caught_34 : decode cX11_caught 34 = .ok (.istore_n 2, 1) := by decide +kernel
theorem dX11_caught_35 : decode cX11_caught 35 = .ok (.bipush 90, 2) := by decide +kernel
theorem dX11_caught_37 : decode cX11_caught 37 = .ok (.iload_n 1, 1) := by decide +kernel
theorem dX11_caught_38 : decode cX11_caught 38 = .ok (.iload_n 2, 1) := by decide +kernel
theorem dX11_caught_39 : decode cX11_caught 39 = .ok (.imul, 1) := by decide +kernel
theorem dX11_caught_40 : decode cX11_caught 40 = .ok (.isub, 1) := by decide +kernel
theorem dX11_caught_41 : decode cX11_caught 41 = .ok (.sipush 360, 3) := by decide +kernel
theorem dX11_caught_44 : decode cX11_caught 44 = .ok (.invokestatic 208, 3) := by decide +kernel
theorem dX11_caught_47 : decode cX11_caught 47 = .ok (.istore_n 3, 1) := by decide +kernel
theorem dX11_caught_48 : decode cX11_caught 48 = .ok (.iconst 0, 1) := by decide +kernel
theorem dX11_caught_49 : decode cX11_caught 49 = .ok (.istore 4, 2) := by decide +kernel
theorem dX11_caught_51 : decode cX11_caught 51 = .ok (.iload 4, 2) := by decide +kernel
theorem dX11_caught_53 : decode cX11_caught 53 = .ok (.bipush 98, 2) := by decide +kernel
theorem dX11_caught_55 : decode cX11_caught 55 = .ok (.if_icmp .gt 29, 3) := by decide +kernel
theorem dX11_caught_58 : decode cX11_caught 58 = .ok (.aload_n 0, 1) := by decide +kernel
theorem dX11_caught_59 : decode cX11_caught 59 = .ok (.getfield 19, 3) := by decide +kernel
theorem dX11_caught_62 : decode cX11_caught 62 = .ok (.iload 4, 2) := by decide +kernel
theorem dX11_caught_64 : decode cX11_caught 64 = .ok (.invokevirtual 213, 3) := by decide +kernel
theorem dX11_caught_67 : decode cX11_caught 67 = .ok (.iload_n 3, 1) := by decide +kernel
theorem dX11_caught_68 : decode cX11_caught 68 = .ok (.invokestatic 216, 3) := by decide +kernel
theorem dX11_caught_71 : decode cX11_caught 71 = .ok (.iconst 5, 1) := by decide +kernel
theorem dX11_caught_72 : decode cX11_caught 72 = .ok (.if_icmp .gt 6, 3) := by decide +kernel
theorem dX11_caught_75 : decode cX11_caught 75 = .ok (.iload 4, 2) := by decide +kernel
theorem dX11_caught_77 : decode cX11_caught 77 = .ok (.ireturn, 1) := by decide +kernel
theorem dX11_caught_78 : decode cX11_caught 78 = .ok (.iinc 4 1, 3) := by decide +kernel
theorem dX11_caught_81 : decode cX11_caught 81 = .ok (.goto (-30), 3) := by decide +kernel
theorem dX11_caught_84 : decode cX11_caught 84 = .ok (.iconst (-1), 1) := by decide +kernel
theorem dX11_caught_85 : decode cX11_caught 85 = .ok (.ireturn, 1) := by decide +kernel
theorem dX11_whirls_0 : decode cX11_whirls 0 = .ok (.iload_n 1, 1) := by decide +kernel
theorem dX11_whirls_1 : decode cX11_whirls 1 = .ok (.iconst 1, 1) := by decide +kernel
theorem dX11_whirls_2 : decode cX11_whirls 2 = .ok (.if_icmp .lt 22, 3) := by decide +kernel
theorem dX11_whirls_5 : decode cX11_whirls 5 = .ok (.iload_n 1, 1) := by decide +kernel
theorem dX11_whirls_6 : decode cX11_whirls 6 = .ok (.bipush 60, 2) := by decide +kernel
theorem dX11_whirls_8 : decode cX11_whirls 8 = .ok (.if_icmp .gt 16, 3) := by decide +kernel
theorem dX11_whirls_11 : decode cX11_whirls 11 = .ok (.iload_n 2, 1) := by decide +kernel
theorem dX11_whirls_12 : decode cX11_whirls 12 = .ok (.ifCond .lt 12, 3) := by decide +kernel
theorem dX11_whirls_15 : decode cX11_whirls 15 = .ok (.iload_n 3, 1) := by decide +kernel
theorem dX11_whirls_16 : decode cX11_whirls 16 = .ok (.ifCond .lt 8, 3) := by decide +kernel
theorem dX11_whirls_19 : decode cX11_whirls 19 = .ok (.iload_n 3, 1) := by decide +kernel
theorem dX11_whirls_20 : decode cX11_whirls 20 = .ok (.iconst 3, 1) := by decide +kernel
theorem dX11_whirls_21 : decode cX11_whirls 21 = .ok (.if_icmp .le 6, 3) := by decide +kernel
theorem dX11_whirls_24 : decode cX11_whirls 24 = .ok (.bipush (-102), 2) := by decide +kernel
theorem dX11_whirls_26 : decode cX11_whirls 26 = .ok (.ireturn, 1) := by decide +kernel
theorem dX11_whirls_27 : decode cX11_whirls 27 = .ok (.aload_n 0, 1) := by decide +kernel
theorem dX11_whirls_28 : decode cX11_whirls 28 = .ok (.getfield 19, 3) := by decide +kernel
theorem dX11_whirls_31 : decode cX11_whirls 31 = .ok (.invokevirtual 169, 3) := by decide +kernel
theorem dX11_whirls_34 : decode cX11_whirls 34 = .ok (.ifCond .ne 6, 3) := by decide +kernel
theorem dX11_whirls_37 : decode cX11_whirls 37 = .ok (.bipush (-103), 2) := by decide +kernel
theorem dX11_whirls_39 : decode cX11_whirls 39 = .ok (.ireturn, 1) := by decide +kernel
theorem dX11_whirls_40 : decode cX11_whirls 40 = .ok (.aload_n 0, 1) := by decide +kernel
theorem dX11_whirls_41 : decode cX11_whirls 41 = .ok (.iload_n 1, 1) := by decide +kernel
theorem dX11_whirls_42 : decode cX11_whirls 42 = .ok (.iload_n 2, 1) := by decide +kernel
theorem dX11_whirls_43 : decode cX11_whirls 43 = .ok (.invokevirtual 246, 3) := by decide +kernel
theorem dX11_whirls_46 : decode cX11_whirls 46 = .ok (.istore 4, 2) := by decide +kernel
theorem dX11_whirls_48 : decode cX11_whirls 48 = .ok (.iload_n 3, 1) := by decide +kernel
theorem dX11_whirls_49 : decode cX11_whirls 49 = .ok (.tableswitch 59 0 2 #[27, 35, 43], 27) := by decide +kernel
theorem dX11_whirls_76 : decode cX11_whirls 76 = .ok (.aload_n 0, 1) := by decide +kernel
theorem dX11_whirls_77 : decode cX11_whirls 77 = .ok (.getfield 51, 3) := by decide +kernel
theorem dX11_whirls_80 : decode cX11_whirls 80 = .ok (.getfield 178, 3) := by decide +kernel
theorem dX11_whirls_83 : decode cX11_whirls 83 = .ok (.ireturn, 1) := by decide +kernel
theorem dX11_whirls_84 : decode cX11_whirls 84 = .ok (.aload_n 0, 1) := by decide +kernel
theorem dX11_whirls_85 : decode cX11_whirls 85 = .ok (.getfield 51, 3) := by decide +kernel
theorem dX11_whirls_88 : decode cX11_whirls 88 = .ok (.getfield 249, 3) := by decide +kernel
theorem dX11_whirls_91 : decode cX11_whirls 91 = .ok (.ireturn, 1) := by decide +kernel
theorem dX11_whirls_92 : decode cX11_whirls 92 = .ok (.aload_n 0, 1) := by decide +kernel
theorem dX11_whirls_93 : decode cX11_whirls 93 = .ok (.getfield 51, 3) := by decide +kernel
theorem dX11_whirls_96 : decode cX11_whirls 96 = .ok (.getfield 113, 3) := by decide +kernel
theorem dX11_whirls_99 : decode cX11_whirls 99 = .ok (.aload_n 0, 1) := by decide +kernel
theorem dX11_whirls_100 : decode cX11_whirls 100 = .ok (.getfield 19, 3) := by decide +kernel
theorem dX11_whirls_103 : decode cX11_whirls 103 = .ok (.getfield 113, 3) := by decide +kernel
theorem dX11_whirls_106 : decode cX11_whirls 106 = .ok (.isub, 1) := by decide +kernel
theorem dX11_whirls_107 : decode cX11_whirls 107 = .ok (.ireturn, 1) := by decide +kernel
theorem dX11_whirls_108 : decode cX11_whirls 108 = .ok (.iload 4, 2) := by decide +kernel
theorem dX11_whirls_110 : decode cX11_whirls 110 = .ok (.ireturn, 1) := by decide +kernel
theorem dX11_count_0 : decode cX11_count 0 = .ok (.iload_n 1, 1) := by decide +kernel
theorem dX11_count_1 : decode cX11_count 1 = .ok (.tableswitch 188 0 12 #[67, 75, 83, 91, 103, 111, 127, 135, 143, 159, 167, 175, 180], 67) := by decide +kernel
theorem dX11_count_68 : decode cX11_count 68 = .ok (.aload_n 0, 1) := by decide +kernel
theorem dX11_count_69 : decode cX11_count 69 = .ok (.getfield 19, 3) := by decide +kernel
theorem dX11_count_72 : decode cX11_count 72 = .ok (.getfield 178, 3) := by decide +kernel
theorem dX11_count_75 : decode cX11_count 75 = .ok (.ireturn, 1) := by decide +kernel
theorem dX11_count_76 : decode cX11_count 76 = .ok (.aload_n 0, 1) := by decide +kernel
theorem dX11_count_77 : decode cX11_count 77 = .ok (.getfield 19, 3) := by decide +kernel
theorem dX11_count_80 : decode cX11_count 80 = .ok (.invokevirtual 172, 3) := by decide +kernel
theorem dX11_count_83 : decode cX11_count 83 = .ok (.ireturn, 1) := by decide +kernel
theorem dX11_count_84 : decode cX11_count 84 = .ok (.aload_n 0, 1) := by decide +kernel
theorem dX11_count_85 : decode cX11_count 85 = .ok (.getfield 19, 3) := by decide +kernel
theorem dX11_count_88 : decode cX11_count 88 = .ok (.getfield 104, 3) := by decide +kernel
theorem dX11_count_91 : decode cX11_count 91 = .ok (.ireturn, 1) := by decide +kernel
theorem dX11_count_92 : decode cX11_count 92 = .ok (.aload_n 0, 1) := by decide +kernel
theorem dX11_count_93 : decode cX11_count 93 = .ok (.getfield 19, 3) := by decide +kernel
theorem dX11_count_96 : decode cX11_count 96 = .ok (.aload_n 0, 1) := by decide +kernel
theorem dX11_count_97 : decode cX11_count 97 = .ok (.getfield 26, 3) := by decide +kernel
theorem dX11_count_100 : decode cX11_count 100 = .ok (.invokevirtual 232, 3) := by decide +kernel
theorem dX11_count_103 : decode cX11_count 103 = .ok (.ireturn, 1) := by decide +kernel
theorem dX11_count_104 : decode cX11_count 104 = .ok (.aload_n 0, 1) := by decide +kernel
theorem dX11_count_105 : decode cX11_count 105 = .ok (.getfield 19, 3) := by decide +kernel
theorem dX11_count_108 : decode cX11_count 108 = .ok (.getfield 260, 3) := by decide +kernel
theorem dX11_count_111 : decode cX11_count 111 = .ok (.ireturn, 1) := by decide +kernel
theorem dX11_count_112 : decode cX11_count 112 = .ok (.aload_n 0, 1) := by decide +kernel
theorem dX11_count_113 : decode cX11_count 113 = .ok (.getfield 19, 3) := by decide +kernel
theorem dX11_count_116 : decode cX11_count 116 = .ok (.getfield 263, 3) := by decide +kernel
theorem dX11_count_119 : decode cX11_count 119 = .ok (.ifCond .eq 7, 3) := by decide +kernel
theorem dX11_count_122 : decode cX11_count 122 = .ok (.iconst 1, 1) := by decide +kernel
theorem dX11_count_123 : decode cX11_count 123 = .ok (.goto 4, 3) := by decide +kernel
theorem dX11_count_126 : decode cX11_count 126 = .ok (.iconst 0, 1) := by decide +kernel
theorem dX11_count_127 : decode cX11_count 127 = .ok (.ireturn, 1) := by decide +kernel
theorem dX11_count_128 : decode cX11_count 128 = .ok (.aload_n 0, 1) := by decide +kernel
theorem dX11_count_129 : decode cX11_count 129 = .ok (.getfield 19, 3) := by decide +kernel
theorem dX11_count_132 : decode cX11_count 132 = .ok (.getfield 249, 3) := by decide +kernel
theorem dX11_count_135 : decode cX11_count 135 = .ok (.ireturn, 1) := by decide +kernel
theorem dX11_count_136 : decode cX11_count 136 = .ok (.aload_n 0, 1) := by decide +kernel
theorem dX11_count_137 : decode cX11_count 137 = .ok (.getfield 19, 3) := by decide +kernel
theorem dX11_count_140 : decode cX11_count 140 = .ok (.getfield 113, 3) := by decide +kernel
theorem dX11_count_143 : decode cX11_count 143 = .ok (.ireturn, 1) := by decide +kernel
theorem dX11_count_144 : decode cX11_count 144 = .ok (.aload_n 0, 1) := by decide +kernel
theorem dX11_count_145 : decode cX11_count 145 = .ok (.getfield 19, 3) := by decide +kernel
theorem dX11_count_148 : decode cX11_count 148 = .ok (.getfield 188, 3) := by decide +kernel
theorem dX11_count_151 : decode cX11_count 151 = .ok (.ifCond .eq 7, 3) := by decide +kernel
theorem dX11_count_154 : decode cX11_count 154 = .ok (.iconst 1, 1) := by decide +kernel
theorem dX11_count_155 : decode cX11_count 155 = .ok (.goto 4, 3) := by decide +kernel
theorem dX11_count_158 : decode cX11_count 158 = .ok (.iconst 0, 1) := by decide +kernel
theorem dX11_count_159 : decode cX11_count 159 = .ok (.ireturn, 1) := by decide +kernel
theorem dX11_count_160 : decode cX11_count 160 = .ok (.aload_n 0, 1) := by decide +kernel
theorem dX11_count_161 : decode cX11_count 161 = .ok (.getfield 26, 3) := by decide +kernel
theorem dX11_count_164 : decode cX11_count 164 = .ok (.getfield 266, 3) := by decide +kernel
theorem dX11_count_167 : decode cX11_count 167 = .ok (.ireturn, 1) := by decide +kernel
theorem dX11_count_168 : decode cX11_count 168 = .ok (.aload_n 0, 1) := by decide +kernel
theorem dX11_count_169 : decode cX11_count 169 = .ok (.getfield 10, 3) := by decide +kernel
theorem dX11_count_172 : decode cX11_count 172 = .ok (.getfield 73, 3) := by decide +kernel
theorem dX11_count_175 : decode cX11_count 175 = .ok (.ireturn, 1) := by decide +kernel
theorem dX11_count_176 : decode cX11_count 176 = .ok (.aload_n 0, 1) := by decide +kernel
theorem dX11_count_177 : decode cX11_count 177 = .ok (.getfield 101, 3) := by decide +kernel
theorem dX11_count_180 : decode cX11_count 180 = .ok (.ireturn, 1) := by decide +kernel
theorem dX11_count_181 : decode cX11_count 181 = .ok (.aload_n 0, 1) := by decide +kernel
theorem dX11_count_182 : decode cX11_count 182 = .ok (.getfield 33, 3) := by decide +kernel
theorem dX11_count_185 : decode cX11_count 185 = .ok (.getfield 267, 3) := by decide +kernel
theorem dX11_count_188 : decode cX11_count 188 = .ok (.ireturn, 1) := by decide +kernel
theorem dX11_count_189 : decode cX11_count 189 = .ok (.bipush (-102), 2) := by decide +kernel
theorem dX11_count_191 : decode cX11_count 191 = .ok (.ireturn, 1) := by decide +kernel
theorem dX11_tryHours_0 : decode cX11_tryHours 0 = .ok (.aload_n 0, 1) := by decide +kernel
theorem dX11_tryHours_1 : decode cX11_tryHours 1 = .ok (.getfield 51, 3) := by decide +kernel
theorem dX11_tryHours_4 : decode cX11_tryHours 4 = .ok (.aload_n 0, 1) := by decide +kernel
theorem dX11_tryHours_5 : decode cX11_tryHours 5 = .ok (.getfield 19, 3) := by decide +kernel
theorem dX11_tryHours_8 : decode cX11_tryHours 8 = .ok (.invokevirtual 250, 3) := by decide +kernel
theorem dX11_tryHours_11 : decode cX11_tryHours 11 = .ok (.iload_n 2, 1) := by decide +kernel
theorem dX11_tryHours_12 : decode cX11_tryHours 12 = .ok (.istore_n 3, 1) := by decide +kernel
theorem dX11_tryHours_13 : decode cX11_tryHours 13 = .ok (.iconst 0, 1) := by decide +kernel
theorem dX11_tryHours_14 : decode cX11_tryHours 14 = .ok (.istore 4, 2) := by decide +kernel
theorem dX11_tryHours_16 : decode cX11_tryHours 16 = .ok (.iload 4, 2) := by decide +kernel
theorem dX11_tryHours_18 : decode cX11_tryHours 18 = .ok (.iload_n 1, 1) := by decide +kernel
theorem dX11_tryHours_19 : decode cX11_tryHours 19 = .ok (.if_icmp .ge 70, 3) := by decide +kernel
theorem dX11_tryHours_22 : decode cX11_tryHours 22 = .ok (.aload_n 0, 1) := by decide +kernel
theorem dX11_tryHours_23 : decode cX11_tryHours 23 = .ok (.getfield 51, 3) := by decide +kernel
theorem dX11_tryHours_26 : decode cX11_tryHours 26 = .ok (.getfield 188, 3) := by decide +kernel
theorem dX11_tryHours_29 : decode cX11_tryHours 29 = .ok (.ifCond .ne 60, 3) := by decide +kernel
theorem dX11_tryHours_32 : decode cX11_tryHours 32 = .ok (.iload_n 3, 1) := by decide +kernel
theorem dX11_tryHours_33 : decode cX11_tryHours 33 = .ok (.invokestatic 307, 3) := by decide +kernel
theorem dX11_tryHours_36 : decode cX11_tryHours 36 = .ok (.istore_n 3, 1) := by decide +kernel
theorem dX11_tryHours_37 : decode cX11_tryHours 37 = .ok (.iload_n 3, 1) := by decide +kernel
theorem dX11_tryHours_38 : decode cX11_tryHours 38 = .ok (.ldc_w 310, 3) := by decide +kernel
theorem dX11_tryHours_41 : decode cX11_tryHours 41 = .ok (.idiv, 1) := by decide +kernel
theorem dX11_tryHours_42 : decode cX11_tryHours 42 = .ok (.bipush 7, 2) := by decide +kernel
theorem dX11_tryHours_44 : decode cX11_tryHours 44 = .ok (.irem, 1) := by decide +kernel
theorem dX11_tryHours_45 : decode cX11_tryHours 45 = .ok (.invokestatic 311, 3) := by decide +kernel
theorem dX11_tryHours_48 : decode cX11_tryHours 48 = .ok (.istore 5, 2) := by decide +kernel
theorem dX11_tryHours_50 : decode cX11_tryHours 50 = .ok (.aload_n 0, 1) := by decide +kernel
theorem dX11_tryHours_51 : decode cX11_tryHours 51 = .ok (.getfield 51, 3) := by decide +kernel
theorem dX11_tryHours_54 : decode cX11_tryHours 54 = .ok (.aload_n 0, 1) := by decide +kernel
theorem dX11_tryHours_55 : decode cX11_tryHours 55 = .ok (.getfield 51, 3) := by decide +kernel
theorem dX11_tryHours_58 : decode cX11_tryHours 58 = .ok (.getfield 178, 3) := by decide +kernel
theorem dX11_tryHours_61 : decode cX11_tryHours 61 = .ok (.iload 5, 2) := by decide +kernel
theorem dX11_tryHours_63 : decode cX11_tryHours 63 = .ok (.isub, 1) := by decide +kernel
theorem dX11_tryHours_64 : decode cX11_tryHours 64 = .ok (.invokestatic 181, 3) := by decide +kernel
theorem dX11_tryHours_67 : decode cX11_tryHours 67 = .ok (.ifCond .eq 8, 3) := by decide +kernel
theorem dX11_tryHours_70 : decode cX11_tryHours 70 = .ok (.iload 5, 2) := by decide +kernel
theorem dX11_tryHours_72 : decode cX11_tryHours 72 = .ok (.goto 4, 3) := by decide +kernel
theorem dX11_tryHours_75 : decode cX11_tryHours 75 = .ok (.iconst 0, 1) := by decide +kernel
theorem dX11_tryHours_76 : decode cX11_tryHours 76 = .ok (.aload_n 0, 1) := by decide +kernel
theorem dX11_tryHours_77 : decode cX11_tryHours 77 = .ok (.getfield 26, 3) := by decide +kernel
theorem dX11_tryHours_80 : decode cX11_tryHours 80 = .ok (.invokevirtual 184, 3) := by decide +kernel
theorem dX11_tryHours_83 : decode cX11_tryHours 83 = .ok (.iinc 4 1, 3) := by decide +kernel
theorem dX11_tryHours_86 : decode cX11_tryHours 86 = .ok (.goto (-70), 3) := by decide +kernel
theorem dX11_tryHours_89 : decode cX11_tryHours 89 = .ok (.iload_n 3, 1) := by decide +kernel
theorem dX11_tryHours_90 : decode cX11_tryHours 90 = .ok (.ireturn, 1) := by decide +kernel
theorem dX11_nextSeed_0 : decode cX11_nextSeed 0 = .ok (.ldc2_w 314, 3) := by decide +kernel
theorem dX11_nextSeed_3 : decode cX11_nextSeed 3 = .ok (.iload_n 0, 1) := by decide +kernel
theorem dX11_nextSeed_4 : decode cX11_nextSeed 4 = .ok (.i2l, 1) := by decide +kernel
theorem dX11_nextSeed_5 : decode cX11_nextSeed 5 = .ok (.lmul, 1) := by decide +kernel
theorem dX11_nextSeed_6 : decode cX11_nextSeed 6 = .ok (.ldc2_w 316, 3) := by decide +kernel
theorem dX11_nextSeed_9 : decode cX11_nextSeed 9 = .ok (.ladd, 1) := by decide +kernel
theorem dX11_nextSeed_10 : decode cX11_nextSeed 10 = .ok (.ldc2_w 318, 3) := by decide +kernel
theorem dX11_nextSeed_13 : decode cX11_nextSeed 13 = .ok (.lrem, 1) := by decide +kernel
theorem dX11_nextSeed_14 : decode cX11_nextSeed 14 = .ok (.l2i, 1) := by decide +kernel
theorem dX11_nextSeed_15 : decode cX11_nextSeed 15 = .ok (.ireturn, 1) := by decide +kernel
theorem dX11_byteOf_0 : decode cX11_byteOf 0 = .ok (.lload_n 0, 1) := by decide +kernel
theorem dX11_byteOf_1 : decode cX11_byteOf 1 = .ok (.bipush 8, 2) := by decide +kernel
theorem dX11_byteOf_3 : decode cX11_byteOf 3 = .ok (.iload_n 2, 1) := by decide +kernel
theorem dX11_byteOf_4 : decode cX11_byteOf 4 = .ok (.imul, 1) := by decide +kernel
theorem dX11_byteOf_5 : decode cX11_byteOf 5 = .ok (.lushr, 1) := by decide +kernel
theorem dX11_byteOf_6 : decode cX11_byteOf 6 = .ok (.l2i, 1) := by decide +kernel
theorem dX11_byteOf_7 : decode cX11_byteOf 7 = .ok (.sipush 255, 3) := by decide +kernel
theorem dX11_byteOf_10 : decode cX11_byteOf 10 = .ok (.iand, 1) := by decide +kernel
theorem dX11_byteOf_11 : decode cX11_byteOf 11 = .ok (.ireturn, 1) := by decide +kernel
theorem dX11_lettersIn_0 : decode cX11_lettersIn 0 = .ok (.iconst 0, 1) := by decide +kernel
theorem dX11_lettersIn_1 : decode cX11_lettersIn 1 = .ok (.istore_n 2, 1) := by decide +kernel
theorem dX11_lettersIn_2 : decode cX11_lettersIn 2 = .ok (.iconst 0, 1) := by decide +kernel
theorem dX11_lettersIn_3 : decode cX11_lettersIn 3 = .ok (.istore_n 3, 1) := by decide +kernel
theorem dX11_lettersIn_4 : decode cX11_lettersIn 4 = .ok (.iconst 0, 1) := by decide +kernel
theorem dX11_lettersIn_5 : decode cX11_lettersIn 5 = .ok (.istore 4, 2) := by decide +kernel
theorem dX11_lettersIn_7 : decode cX11_lettersIn 7 = .ok (.iload 4, 2) := by decide +kernel
theorem dX11_lettersIn_9 : decode cX11_lettersIn 9 = .ok (.bipush 8, 2) := by decide +kernel
theorem dX11_lettersIn_11 : decode cX11_lettersIn 11 = .ok (.if_icmp .ge 48, 3) := by decide +kernel
theorem dX11_lettersIn_14 : decode cX11_lettersIn 14 = .ok (.lload_n 0, 1) := by decide +kernel
theorem dX11_lettersIn_15 : decode cX11_lettersIn 15 = .ok (.iload 4, 2) := by decide +kernel
theorem dX11_lettersIn_17 : decode cX11_lettersIn 17 = .ok (.invokestatic 65, 3) := by decide +kernel
theorem dX11_lettersIn_20 : decode cX11_lettersIn 20 = .ok (.istore 5, 2) := by decide +kernel
theorem dX11_lettersIn_22 : decode cX11_lettersIn 22 = .ok (.iload 5, 2) := by decide +kernel
theorem dX11_lettersIn_24 : decode cX11_lettersIn 24 = .ok (.bipush 126, 2) := by decide +kernel
theorem dX11_lettersIn_26 : decode cX11_lettersIn 26 = .ok (.if_icmp .gt 12, 3) := by decide +kernel
theorem dX11_lettersIn_29 : decode cX11_lettersIn 29 = .ok (.iload_n 3, 1) := by decide +kernel
theorem dX11_lettersIn_30 : decode cX11_lettersIn 30 = .ok (.ifCond .eq 10, 3) := by decide +kernel
theorem dX11_lettersIn_33 : decode cX11_lettersIn 33 = .ok (.iload 5, 2) := by decide +kernel
theorem dX11_lettersIn_35 : decode cX11_lettersIn 35 = .ok (.ifCond .eq 5, 3) := by decide +kernel
theorem dX11_lettersIn_38 : decode cX11_lettersIn 38 = .ok (.iconst (-1), 1) := by decide +kernel
theorem dX11_lettersIn_39 : decode cX11_lettersIn 39 = .ok (.ireturn, 1) := by decide +kernel
theorem dX11_lettersIn_40 : decode cX11_lettersIn 40 = .ok (.iload 5, 2) := by decide +kernel
theorem dX11_lettersIn_42 : decode cX11_lettersIn 42 = .ok (.ifCond .ne 8, 3) := by decide +kernel
theorem dX11_lettersIn_45 : decode cX11_lettersIn 45 = .ok (.iconst 1, 1) := by decide +kernel
theorem dX11_lettersIn_46 : decode cX11_lettersIn 46 = .ok (.istore_n 3, 1) := by decide +kernel
theorem dX11_lettersIn_47 : decode cX11_lettersIn 47 = .ok (.goto 6, 3) := by decide +kernel
theorem dX11_lettersIn_50 : decode cX11_lettersIn 50 = .ok (.iinc 2 1, 3) := by decide +kernel
theorem dX11_lettersIn_53 : decode cX11_lettersIn 53 = .ok (.iinc 4 1, 3) := by decide +kernel
theorem dX11_lettersIn_56 : decode cX11_lettersIn 56 = .ok (.goto (-49), 3) := by decide +kernel
theorem dX11_lettersIn_59 : decode cX11_lettersIn 59 = .ok (.iload_n 2, 1) := by decide +kernel
theorem dX11_lettersIn_60 : decode cX11_lettersIn 60 = .ok (.ireturn, 1) := by decide +kernel
theorem dX11_isCabin_0 : decode cX11_isCabin 0 = .ok (.iload_n 0, 1) := by decide +kernel
theorem dX11_isCabin_1 : decode cX11_isCabin 1 = .ok (.ifCond .lt 12, 3) := by decide +kernel
theorem dX11_isCabin_4 : decode cX11_isCabin 4 = .ok (.iload_n 0, 1) := by decide +kernel
theorem dX11_isCabin_5 : decode cX11_isCabin 5 = .ok (.iconst 2, 1) := by decide +kernel
theorem dX11_isCabin_6 : decode cX11_isCabin 6 = .ok (.if_icmp .ge 7, 3) := by decide +kernel
theorem dX11_isCabin_9 : decode cX11_isCabin 9 = .ok (.iconst 1, 1) := by decide +kernel
theorem dX11_isCabin_10 : decode cX11_isCabin 10 = .ok (.goto 4, 3) := by decide +kernel
theorem dX11_isCabin_13 : decode cX11_isCabin 13 = .ok (.iconst 0, 1) := by decide +kernel
theorem dX11_isCabin_14 : decode cX11_isCabin 14 = .ok (.ireturn, 1) := by decide +kernel
theorem dX11_isKind_0 : decode cX11_isKind 0 = .ok (.iload_n 0, 1) := by decide +kernel
theorem dX11_isKind_1 : decode cX11_isKind 1 = .ok (.ifCond .lt 12, 3) := by decide +kernel
theorem dX11_isKind_4 : decode cX11_isKind 4 = .ok (.iload_n 0, 1) := by decide +kernel
theorem dX11_isKind_5 : decode cX11_isKind 5 = .ok (.iconst 4, 1) := by decide +kernel
theorem dX11_isKind_6 : decode cX11_isKind 6 = .ok (.if_icmp .gt 7, 3) := by decide +kernel
theorem dX11_isKind_9 : decode cX11_isKind 9 = .ok (.iconst 1, 1) := by decide +kernel
theorem dX11_isKind_10 : decode cX11_isKind 10 = .ok (.goto 4, 3) := by decide +kernel
theorem dX11_isKind_13 : decode cX11_isKind 13 = .ok (.iconst 0, 1) := by decide +kernel
theorem dX11_isKind_14 : decode cX11_isKind 14 = .ok (.ireturn, 1) := by decide +kernel
theorem dX11_isLength_0 : decode cX11_isLength 0 = .ok (.iload_n 0, 1) := by decide +kernel
theorem dX11_isLength_1 : decode cX11_isLength 1 = .ok (.bipush 10, 2) := by decide +kernel
theorem dX11_isLength_3 : decode cX11_isLength 3 = .ok (.if_icmp .lt 13, 3) := by decide +kernel
theorem dX11_isLength_6 : decode cX11_isLength 6 = .ok (.iload_n 0, 1) := by decide +kernel
theorem dX11_isLength_7 : decode cX11_isLength 7 = .ok (.bipush 40, 2) := by decide +kernel
theorem dX11_isLength_9 : decode cX11_isLength 9 = .ok (.if_icmp .gt 7, 3) := by decide +kernel
theorem dX11_isLength_12 : decode cX11_isLength 12 = .ok (.iconst 1, 1) := by decide +kernel
theorem dX11_isLength_13 : decode cX11_isLength 13 = .ok (.goto 4, 3) := by decide +kernel
theorem dX11_isLength_16 : decode cX11_isLength 16 = .ok (.iconst 0, 1) := by decide +kernel
theorem dX11_isLength_17 : decode cX11_isLength 17 = .ok (.ireturn, 1) := by decide +kernel
theorem dX11_apartOnCircle_0 : decode cX11_apartOnCircle 0 = .ok (.iload_n 0, 1) := by decide +kernel
theorem dX11_apartOnCircle_1 : decode cX11_apartOnCircle 1 = .ok (.iload_n 1, 1) := by decide +kernel
theorem dX11_apartOnCircle_2 : decode cX11_apartOnCircle 2 = .ok (.isub, 1) := by decide +kernel
theorem dX11_apartOnCircle_3 : decode cX11_apartOnCircle 3 = .ok (.sipush 360, 3) := by decide +kernel
theorem dX11_apartOnCircle_6 : decode cX11_apartOnCircle 6 = .ok (.invokestatic 208, 3) := by decide +kernel
theorem dX11_apartOnCircle_9 : decode cX11_apartOnCircle 9 = .ok (.istore_n 2, 1) := by decide +kernel
theorem dX11_apartOnCircle_10 : decode cX11_apartOnCircle 10 = .ok (.iload_n 2, 1) := by decide +kernel
theorem dX11_apartOnCircle_11 : decode cX11_apartOnCircle 11 = .ok (.sipush 360, 3) := by decide +kernel
theorem dX11_apartOnCircle_14 : decode cX11_apartOnCircle 14 = .ok (.iload_n 2, 1) := by decide +kernel
theorem dX11_apartOnCircle_15 : decode cX11_apartOnCircle 15 = .ok (.isub, 1) := by decide +kernel
theorem dX11_apartOnCircle_16 : decode cX11_apartOnCircle 16 = .ok (.invokestatic 322, 3) := by decide +kernel
theorem dX11_apartOnCircle_19 : decode cX11_apartOnCircle 19 = .ok (.ireturn, 1) := by decide +kernel
theorem dX11_windingOf_0 : decode cX11_windingOf 0 = .ok (.iload_n 0, 1) := by decide +kernel
theorem dX11_windingOf_1 : decode cX11_windingOf 1 = .ok (.iconst 3, 1) := by decide +kernel
theorem dX11_windingOf_2 : decode cX11_windingOf 2 = .ok (.if_icmp .gt 7, 3) := by decide +kernel
theorem dX11_windingOf_5 : decode cX11_windingOf 5 = .ok (.iload_n 0, 1) := by decide +kernel
theorem dX11_windingOf_6 : decode cX11_windingOf 6 = .ok (.goto 6, 3) := by decide +kernel
theorem dX11_windingOf_9 : decode cX11_windingOf 9 = .ok (.iconst 3, 1) := by decide +kernel
theorem dX11_windingOf_10 : decode cX11_windingOf 10 = .ok (.iload_n 0, 1) := by decide +kernel
theorem dX11_windingOf_11 : decode cX11_windingOf 11 = .ok (.isub, 1) := by decide +kernel
theorem dX11_windingOf_12 : decode cX11_windingOf 12 = .ok (.ireturn, 1) := by decide +kernel
theorem dX11_newThing_0 : decode cX11_newThing 0 = .ok (.iload_n 0, 1) := by decide +kernel
theorem dX11_newThing_1 : decode cX11_newThing 1 = .ok (.tableswitch 75 1 4 #[31, 42, 53, 64], 31) := by decide +kernel
theorem dX11_newThing_32 : decode cX11_newThing 32 = .ok (.new 325, 3) := by decide +kernel
theorem dX11_newThing_35 : decode cX11_newThing 35 = .ok (.dup, 1) := by decide +kernel
theorem dX11_newThing_36 : decode cX11_newThing 36 = .ok (.iload_n 1, 1) := by decide +kernel
theorem dX11_newThing_37 : decode cX11_newThing 37 = .ok (.iload_n 2, 1) := by decide +kernel
theorem dX11_newThing_38 : decode cX11_newThing 38 = .ok (.iload_n 3, 1) := by decide +kernel
theorem dX11_newThing_39 : decode cX11_newThing 39 = .ok (.invokespecial 327, 3) := by decide +kernel
theorem dX11_newThing_42 : decode cX11_newThing 42 = .ok (.areturn, 1) := by decide +kernel
theorem dX11_newThing_43 : decode cX11_newThing 43 = .ok (.new 330, 3) := by decide +kernel
theorem dX11_newThing_46 : decode cX11_newThing 46 = .ok (.dup, 1) := by decide +kernel
theorem dX11_newThing_47 : decode cX11_newThing 47 = .ok (.iload_n 1, 1) := by decide +kernel
theorem dX11_newThing_48 : decode cX11_newThing 48 = .ok (.iload_n 2, 1) := by decide +kernel
theorem dX11_newThing_49 : decode cX11_newThing 49 = .ok (.iload_n 3, 1) := by decide +kernel
theorem dX11_newThing_50 : decode cX11_newThing 50 = .ok (.invokespecial 332, 3) := by decide +kernel
theorem dX11_newThing_53 : decode cX11_newThing 53 = .ok (.areturn, 1) := by decide +kernel
theorem dX11_newThing_54 : decode cX11_newThing 54 = .ok (.new 333, 3) := by decide +kernel
theorem dX11_newThing_57 : decode cX11_newThing 57 = .ok (.dup, 1) := by decide +kernel
theorem dX11_newThing_58 : decode cX11_newThing 58 = .ok (.iload_n 1, 1) := by decide +kernel
theorem dX11_newThing_59 : decode cX11_newThing 59 = .ok (.iload_n 2, 1) := by decide +kernel
theorem dX11_newThing_60 : decode cX11_newThing 60 = .ok (.iload_n 3, 1) := by decide +kernel
theorem dX11_newThing_61 : decode cX11_newThing 61 = .ok (.invokespecial 335, 3) := by decide +kernel
theorem dX11_newThing_64 : decode cX11_newThing 64 = .ok (.areturn, 1) := by decide +kernel
theorem dX11_newThing_65 : decode cX11_newThing 65 = .ok (.new 336, 3) := by decide +kernel
theorem dX11_newThing_68 : decode cX11_newThing 68 = .ok (.dup, 1) := by decide +kernel
theorem dX11_newThing_69 : decode cX11_newThing 69 = .ok (.iload_n 1, 1) := by decide +kernel
theorem dX11_newThing_70 : decode cX11_newThing 70 = .ok (.iload_n 2, 1) := by decide +kernel
theorem dX11_newThing_71 : decode cX11_newThing 71 = .ok (.iload_n 3, 1) := by decide +kernel
theorem dX11_newThing_72 : decode cX11_newThing 72 = .ok (.invokespecial 338, 3) := by decide +kernel
theorem dX11_newThing_75 : decode cX11_newThing 75 = .ok (.areturn, 1) := by decide +kernel
theorem dX11_newThing_76 : decode cX11_newThing 76 = .ok (.new 149, 3) := by decide +kernel
theorem dX11_newThing_79 : decode cX11_newThing 79 = .ok (.dup, 1) := by decide +kernel
theorem dX11_newThing_80 : decode cX11_newThing 80 = .ok (.iload_n 1, 1) := by decide +kernel
theorem dX11_newThing_81 : decode cX11_newThing 81 = .ok (.iload_n 2, 1) := by decide +kernel
theorem dX11_newThing_82 : decode cX11_newThing 82 = .ok (.iload_n 3, 1) := by decide +kernel
theorem dX11_newThing_83 : decode cX11_newThing 83 = .ok (.invokespecial 339, 3) := by decide +kernel
theorem dX11_newThing_86 : decode cX11_newThing 86 = .ok (.areturn, 1) := by decide +kernel
theorem dX11_isOfKind_0 : decode cX11_isOfKind 0 = .ok (.iload_n 1, 1) := by decide +kernel
theorem dX11_isOfKind_1 : decode cX11_isOfKind 1 = .ok (.tableswitch 51 1 4 #[31, 36, 41, 46], 31) := by decide +kernel
theorem dX11_isOfKind_32 : decode cX11_isOfKind 32 = .ok (.aload_n 0, 1) := by decide +kernel
theorem dX11_isOfKind_33 : decode cX11_isOfKind 33 = .ok (.instanceof 325, 3) := by decide +kernel
theorem dX11_isOfKind_36 : decode cX11_isOfKind 36 = .ok (.ireturn, 1) := by decide +kernel
theorem dX11_isOfKind_37 : decode cX11_isOfKind 37 = .ok (.aload_n 0, 1) := by decide +kernel
theorem dX11_isOfKind_38 : decode cX11_isOfKind 38 = .ok (.instanceof 330, 3) := by decide +kernel
theorem dX11_isOfKind_41 : decode cX11_isOfKind 41 = .ok (.ireturn, 1) := by decide +kernel
theorem dX11_isOfKind_42 : decode cX11_isOfKind 42 = .ok (.aload_n 0, 1) := by decide +kernel
theorem dX11_isOfKind_43 : decode cX11_isOfKind 43 = .ok (.instanceof 333, 3) := by decide +kernel
theorem dX11_isOfKind_46 : decode cX11_isOfKind 46 = .ok (.ireturn, 1) := by decide +kernel
theorem dX11_isOfKind_47 : decode cX11_isOfKind 47 = .ok (.aload_n 0, 1) := by decide +kernel
theorem dX11_isOfKind_48 : decode cX11_isOfKind 48 = .ok (.instanceof 336, 3) := by decide +kernel
theorem dX11_isOfKind_51 : decode cX11_isOfKind 51 = .ok (.ireturn, 1) := by decide +kernel
theorem dX11_isOfKind_52 : decode cX11_isOfKind 52 = .ok (.iload_n 1, 1) := by decide +kernel
theorem dX11_isOfKind_53 : decode cX11_isOfKind 53 = .ok (.ifCond .ne 7, 3) := by decide +kernel
theorem dX11_isOfKind_56 : decode cX11_isOfKind 56 = .ok (.iconst 1, 1) := by decide +kernel
theorem dX11_isOfKind_57 : decode cX11_isOfKind 57 = .ok (.goto 4, 3) := by decide +kernel
theorem dX11_isOfKind_60 : decode cX11_isOfKind 60 = .ok (.iconst 0, 1) := by decide +kernel
theorem dX11_isOfKind_61 : decode cX11_isOfKind 61 = .ok (.ireturn, 1) := by decide +kernel
