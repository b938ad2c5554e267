theorem dX11_init_0 : decode cX11_init 0 = .ok (.aload_n 0, 1) := by decide +kernel
theorem dX11_init_1 : decode cX11_init 1 = .ok (.invokespecial 1, 3) := by decide +kernel
theorem dX11_init_4 : decode cX11_init 4 = .ok (.aload_n 0, 1) := by decide +kernel
theorem dX11_init_5 : decode cX11_init 5 = .ok (.new 7, 3) := by decide +kernel
theorem dX11_init_8 : decode cX11_init 8 = .ok (.dup, 1) := by decide +kernel
theorem dX11_init_9 : decode cX11_init 9 = .ok (.invokespecial 9, 3) := by decide +kernel
theorem dX11_init_12 : decode cX11_init 12 = .ok (.putfield 10, 3) := by decide +kernel
theorem dX11_init_15 : decode cX11_init 15 = .ok (.aload_n 0, 1) := by decide +kernel
theorem dX11_init_16 : decode cX11_init 16 = .ok (.new 16, 3) := by decide +kernel
theorem dX11_init_19 : decode cX11_init 19 = .ok (.dup, 1) := by decide +kernel
theorem dX11_init_20 : decode cX11_init 20 = .ok (.invokespecial 18, 3) := by decide +kernel
theorem dX11_init_23 : decode cX11_init 23 = .ok (.putfield 19, 3) := by decide +kernel
theorem dX11_init_26 : decode cX11_init 26 = .ok (.aload_n 0, 1) := by decide +kernel
theorem dX11_init_27 : decode cX11_init 27 = .ok (.new 23, 3) := by decide +kernel
theorem dX11_init_30 : decode cX11_init 30 = .ok (.dup, 1) := by decide +kernel
theorem dX11_init_31 : decode cX11_init 31 = .ok (.invokespecial 25, 3) := by decide +kernel
theorem dX11_init_34 : decode cX11_init 34 = .ok (.putfield 26, 3) := by decide +kernel
theorem dX11_init_37 : decode cX11_init 37 = .ok (.aload_n 0, 1) := by decide +kernel
theorem dX11_init_38 : decode cX11_init 38 = .ok (.new 30, 3) := by decide +kernel
theorem dX11_init_41 : decode cX11_init 41 = .ok (.dup, 1) := by decide +kernel
theorem dX11_init_42 : decode cX11_init 42 = .ok (.invokespecial 32, 3) := by decide +kernel
theorem dX11_init_45 : decode cX11_init 45 = .ok (.putfield 33, 3) := by decide +kernel
theorem dX11_init_48 : decode cX11_init 48 = .ok (.aload_n 0, 1) := by decide +kernel
theorem dX11_init_49 : decode cX11_init 49 = .ok (.new 37, 3) := by decide +kernel
theorem dX11_init_52 : decode cX11_init 52 = .ok (.dup, 1) := by decide +kernel
theorem dX11_init_53 : decode cX11_init 53 = .ok (.invokespecial 39, 3) := by decide +kernel
theorem dX11_init_56 : decode cX11_init 56 = .ok (.putfield 40, 3) := by decide +kernel
theorem dX11_init_59 : decode cX11_init 59 = .ok (.aload_n 0, 1) := by decide +kernel
theorem dX11_init_60 : decode cX11_init 60 = .ok (.new 44, 3) := by decide +kernel
theorem dX11_init_63 : decode cX11_init 63 = .ok (.dup, 1) := by decide +kernel
theorem dX11_init_64 : decode cX11_init 64 = .ok (.invokespecial 46, 3) := by decide +kernel
theorem dX11_init_67 : decode cX11_init 67 = .ok (.putfield 47, 3) := by decide +kernel
theorem dX11_init_70 : decode cX11_init 70 = .ok (.aload_n 0, 1) := by decide +kernel
theorem dX11_init_71 : decode cX11_init 71 = .ok (.new 16, 3) := by decide +kernel
theorem dX11_init_74 : decode cX11_init 74 = .ok (.dup, 1) := by decide +kernel
theorem dX11_init_75 : decode cX11_init 75 = .ok (.invokespecial 18, 3) := by decide +kernel
theorem dX11_init_78 : decode cX11_init 78 = .ok (.putfield 51, 3) := by decide +kernel
theorem dX11_init_81 : decode cX11_init 81 = .ok (.aload_n 0, 1) := by decide +kernel
theorem dX11_init_82 : decode cX11_init 82 = .ok (.new 16, 3) := by decide +kernel
theorem dX11_init_85 : decode cX11_init 85 = .ok (.dup, 1) := by decide +kernel
theorem dX11_init_86 : decode cX11_init 86 = .ok (.invokespecial 18, 3) := by decide +kernel
theorem dX11_init_89 : decode cX11_init 89 = .ok (.putfield 54, 3) := by decide +kernel
theorem dX11_init_92 : decode cX11_init 92 = .ok (.return_, 1) := by decide +kernel
theorem dX11_letters_0 : decode cX11_letters 0 = .ok (.lload_n 1, 1) := by decide +kernel
theorem dX11_letters_1 : decode cX11_letters 1 = .ok (.invokestatic 57, 3) := by decide +kernel
theorem dX11_letters_4 : decode cX11_letters 4 = .ok (.istore_n 3, 1) := by decide +kernel
theorem dX11_letters_5 : decode cX11_letters 5 = .ok (.iload_n 3, 1) := by decide +kernel
theorem dX11_letters_6 : decode cX11_letters 6 = .ok (.ifCond .ge 6, 3) := by decide +kernel
theorem dX11_letters_9 : decode cX11_letters 9 = .ok (.bipush (-102), 2) := by decide +kernel
theorem dX11_letters_11 : decode cX11_letters 11 = .ok (.ireturn, 1) := by decide +kernel
theorem dX11_letters_12 : decode cX11_letters 12 = .ok (.aload_n 0, 1) := by decide +kernel
theorem dX11_letters_13 : decode cX11_letters 13 = .ok (.getfield 10, 3) := by decide +kernel
theorem dX11_letters_16 : decode cX11_letters 16 = .ok (.iload_n 3, 1) := by decide +kernel
theorem dX11_letters_17 : decode cX11_letters 17 = .ok (.invokevirtual 61, 3) := by decide +kernel
theorem dX11_letters_20 : decode cX11_letters 20 = .ok (.ifCond .ne 6, 3) := by decide +kernel
theorem dX11_letters_23 : decode cX11_letters 23 = .ok (.bipush (-104), 2) := by decide +kernel
theorem dX11_letters_25 : decode cX11_letters 25 = .ok (.ireturn, 1) := by decide +kernel
theorem dX11_letters_26 : decode cX11_letters 26 = .ok (.iconst 0, 1) := by decide +kernel
theorem dX11_letters_27 : decode cX11_letters 27 = .ok (.istore 4, 2) := by decide +kernel
theorem dX11_letters_29 : decode cX11_letters 29 = .ok (.iload 4, 2) := by decide +kernel
theorem dX11_letters_31 : decode cX11_letters 31 = .ok (.iload_n 3, 1) := by decide +kernel
theorem dX11_letters_32 : decode cX11_letters 32 = .ok (.if_icmp .ge 23, 3) := by decide +kernel
theorem dX11_letters_35 : decode cX11_letters 35 = .ok (.aload_n 0, 1) := by decide +kernel
theorem dX11_letters_36 : decode cX11_letters 36 = .ok (.getfield 10, 3) := by decide +kernel
theorem dX11_letters_39 : decode cX11_letters 39 = .ok (.lload_n 1, 1) := by decide +kernel
theorem dX11_letters_40 : decode cX11_letters 40 = .ok (.iload 4, 2) := by decide +kernel
theorem dX11_letters_42 : decode cX11_letters 42 = .ok (.invokestatic 65, 3) := by decide +kernel
theorem dX11_letters_45 : decode cX11_letters 45 = .ok (.i2c, 1) := by decide +kernel
theorem dX11_letters_46 : decode cX11_letters 46 = .ok (.invokevirtual 69, 3) := by decide +kernel
theorem dX11_letters_49 : decode cX11_letters 49 = .ok (.iinc 4 1, 3) := by decide +kernel
theorem dX11_letters_52 : decode cX11_letters 52 = .ok (.goto (-23), 3) := by decide +kernel
theorem dX11_letters_55 : decode cX11_letters 55 = .ok (.aload_n 0, 1) := by decide +kernel
theorem dX11_letters_56 : decode cX11_letters 56 = .ok (.getfield 10, 3) := by decide +kernel
theorem dX11_letters_59 : decode cX11_letters 59 = .ok (.getfield 73, 3) := by decide +kernel
theorem dX11_letters_62 : decode cX11_letters 62 = .ok (.ireturn, 1) := by decide +kernel
theorem dX11_blank_0 : decode cX11_blank 0 = .ok (.aload_n 0, 1) := by decide +kernel
theorem dX11_blank_1 : decode cX11_blank 1 = .ok (.getfield 10, 3) := by decide +kernel
theorem dX11_blank_4 : decode cX11_blank 4 = .ok (.invokevirtual 77, 3) := by decide +kernel
theorem dX11_blank_7 : decode cX11_blank 7 = .ok (.ireturn, 1) := by decide +kernel
theorem dX11_fault_0 : decode cX11_fault 0 = .ok (.aload_n 0, 1) := by decide +kernel
theorem dX11_fault_1 : decode cX11_fault 1 = .ok (.getfield 10, 3) := by decide +kernel
theorem dX11_fault_4 : decode cX11_fault 4 = .ok (.invokevirtual 81, 3) := by decide +kernel
theorem dX11_fault_7 : decode cX11_fault 7 = .ok (.ireturn, 1) := by decide +kernel
theorem dX11_wire_0 : decode cX11_wire 0 = .ok (.aload_n 0, 1) := by decide +kernel
theorem dX11_wire_1 : decode cX11_wire 1 = .ok (.getfield 10, 3) := by decide +kernel
theorem dX11_wire_4 : decode cX11_wire 4 = .ok (.invokevirtual 84, 3) := by decide +kernel
theorem dX11_wire_7 : decode cX11_wire 7 = .ok (.ifCond .ne 6, 3) := by decide +kernel
theorem dX11_wire_10 : decode cX11_wire 10 = .ok (.bipush (-103), 2) := by decide +kernel
theorem dX11_wire_12 : decode cX11_wire 12 = .ok (.ireturn, 1) := by decide +kernel
theorem dX11_wire_13 : decode cX11_wire 13 = .ok (.aload_n 0, 1) := by decide +kernel
theorem dX11_wire_14 : decode cX11_wire 14 = .ok (.getfield 19, 3) := by decide +kernel
theorem dX11_wire_17 : decode cX11_wire 17 = .ok (.aload_n 0, 1) := by decide +kernel
theorem dX11_wire_18 : decode cX11_wire 18 = .ok (.getfield 10, 3) := by decide +kernel
theorem dX11_wire_21 : decode cX11_wire 21 = .ok (.invokevirtual 88, 3) := by decide +kernel
theorem dX11_wire_24 : decode cX11_wire 24 = .ok (.aload_n 0, 1) := by decide +kernel
theorem dX11_wire_25 : decode cX11_wire 25 = .ok (.getfield 10, 3) := by decide +kernel
theorem dX11_wire_28 : decode cX11_wire 28 = .ok (.invokevirtual 77, 3) := by decide +kernel
theorem dX11_wire_31 : decode cX11_wire 31 = .ok (.pop, 1) := by decide +kernel
theorem dX11_wire_32 : decode cX11_wire 32 = .ok (.aload_n 0, 1) := by decide +kernel
theorem dX11_wire_33 : decode cX11_wire 33 = .ok (.getfield 26, 3) := by decide +kernel
theorem dX11_wire_36 : decode cX11_wire 36 = .ok (.iconst 0, 1) := by decide +kernel
theorem dX11_wire_37 : decode cX11_wire 37 = .ok (.invokevirtual 92, 3) := by decide +kernel
theorem dX11_wire_40 : decode cX11_wire 40 = .ok (.aload_n 0, 1) := by decide +kernel
theorem dX11_wire_41 : decode cX11_wire 41 = .ok (.getfield 33, 3) := by decide +kernel
theorem dX11_wire_44 : decode cX11_wire 44 = .ok (.invokevirtual 96, 3) := by decide +kernel
theorem dX11_wire_47 : decode cX11_wire 47 = .ok (.pop, 1) := by decide +kernel
theorem dX11_wire_48 : decode cX11_wire 48 = .ok (.aload_n 0, 1) := by decide +kernel
theorem dX11_wire_49 : decode cX11_wire 49 = .ok (.iconst 0, 1) := by decide +kernel
theorem dX11_wire_50 : decode cX11_wire 50 = .ok (.putfield 97, 3) := by decide +kernel
theorem dX11_wire_53 : decode cX11_wire 53 = .ok (.aload_n 0, 1) := by decide +kernel
theorem dX11_wire_54 : decode cX11_wire 54 = .ok (.dup, 1) := by decide +kernel
theorem dX11_wire_55 : decode cX11_wire 55 = .ok (.getfield 101, 3) := by decide +kernel
theorem dX11_wire_58 : decode cX11_wire 58 = .ok (.iconst 1, 1) := by decide +kernel
theorem dX11_wire_59 : decode cX11_wire 59 = .ok (.iadd, 1) := by decide +kernel
theorem dX11_wire_60 : decode cX11_wire 60 = .ok (.putfield 101, 3) := by decide +kernel
theorem dX11_wire_63 : decode cX11_wire 63 = .ok (.aload_n 0, 1) := by decide +kernel
theorem dX11_wire_64 : decode cX11_wire 64 = .ok (.getfield 19, 3) := by decide +kernel
theorem dX11_wire_67 : decode cX11_wire 67 = .ok (.getfield 104, 3) := by decide +kernel
theorem dX11_wire_70 : decode cX11_wire 70 = .ok (.ireturn, 1) := by decide +kernel
theorem dX11_cabin_0 : decode cX11_cabin 0 = .ok (.iload_n 1, 1) := by decide +kernel
theorem dX11_cabin_1 : decode cX11_cabin 1 = .ok (.invokestatic 107, 3) := by decide +kernel
theorem dX11_cabin_4 : decode cX11_cabin 4 = .ok (.ifCond .ne 6, 3) := by decide +kernel
theorem dX11_cabin_7 : decode cX11_cabin 7 = .ok (.bipush (-101), 2) := by decide +kernel
theorem dX11_cabin_9 : decode cX11_cabin 9 = .ok (.ireturn, 1) := by decide +kernel
theorem dX11_cabin_10 : decode cX11_cabin 10 = .ok (.iload_n 2, 1) := by decide +kernel
theorem dX11_cabin_11 : decode cX11_cabin 11 = .ok (.ifCond .lt 8, 3) := by decide +kernel
theorem dX11_cabin_14 : decode cX11_cabin 14 = .ok (.iload_n 2, 1) := by decide +kernel
theorem dX11_cabin_15 : decode cX11_cabin 15 = .ok (.iconst 3, 1) := by decide +kernel
theorem dX11_cabin_16 : decode cX11_cabin 16 = .ok (.if_icmp .le 6, 3) := by decide +kernel
theorem dX11_cabin_19 : decode cX11_cabin 19 = .ok (.bipush (-102), 2) := by decide +kernel
theorem dX11_cabin_21 : decode cX11_cabin 21 = .ok (.ireturn, 1) := by decide +kernel
theorem dX11_cabin_22 : decode cX11_cabin 22 = .ok (.aload_n 0, 1) := by decide +kernel
theorem dX11_cabin_23 : decode cX11_cabin 23 = .ok (.getfield 19, 3) := by decide +kernel
theorem dX11_cabin_26 : decode cX11_cabin 26 = .ok (.invokevirtual 110, 3) := by decide +kernel
theorem dX11_cabin_29 : decode cX11_cabin 29 = .ok (.ifCond .ne 6, 3) := by decide +kernel
theorem dX11_cabin_32 : decode cX11_cabin 32 = .ok (.bipush (-103), 2) := by decide +kernel
theorem dX11_cabin_34 : decode cX11_cabin 34 = .ok (.ireturn, 1) := by decide +kernel
theorem dX11_cabin_35 : decode cX11_cabin 35 = .ok (.iload_n 2, 1) := by decide +kernel
theorem dX11_cabin_36 : decode cX11_cabin 36 = .ok (.tableswitch 70 0 2 #[28, 44, 57], 28) := by decide +kernel
theorem dX11_cabin_64 : decode cX11_cabin 64 = .ok (.aload_n 0, 1) := by decide +kernel
theorem dX11_cabin_65 : decode cX11_cabin 65 = .ok (.getfield 26, 3) := by decide +kernel
theorem dX11_cabin_68 : decode cX11_cabin 68 = .ok (.iload_n 1, 1) := by decide +kernel
theorem dX11_cabin_69 : decode cX11_cabin 69 = .ok (.aload_n 0, 1) := by decide +kernel
theorem dX11_cabin_70 : decode cX11_cabin 70 = .ok (.getfield 19, 3) := by decide +kernel
theorem dX11_cabin_73 : decode cX11_cabin 73 = .ok (.getfield 113, 3) := by decide +kernel
theorem dX11_cabin_76 : decode cX11_cabin 76 = .ok (.invokevirtual 116, 3) := by decide +kernel
theorem dX11_cabin_79 : decode cX11_cabin 79 = .ok (.ireturn, 1) := by decide +kernel
theorem dX11_cabin_80 : decode cX11_cabin 80 = .ok (.aload_n 0, 1) := by decide +kernel
theorem dX11_cabin_81 : decode cX11_cabin 81 = .ok (.getfield 19, 3) := by decide +kernel
theorem dX11_cabin_84 : decode cX11_cabin 84 = .ok (.iload_n 1, 1) := by decide +kernel
theorem dX11_cabin_85 : decode cX11_cabin 85 = .ok (.aload_n 0, 1) := by decide +kernel
theorem dX11_cabin_86 : decode cX11_cabin 86 = .ok (.getfield 26, 3) := by decide +kernel
theorem dX11_cabin_89 : decode cX11_cabin 89 = .ok (.invokevirtual 120, 3) := by decide +kernel
theorem dX11_cabin_92 : decode cX11_cabin 92 = .ok (.ireturn, 1) := by decide +kernel
theorem dX11_cabin_93 : decode cX11_cabin 93 = .ok (.aload_n 0, 1) := by decide +kernel
theorem dX11_cabin_94 : decode cX11_cabin 94 = .ok (.getfield 19, 3) := by decide +kernel
theorem dX11_cabin_97 : decode cX11_cabin 97 = .ok (.iload_n 1, 1) := by decide +kernel
theorem dX11_cabin_98 : decode cX11_cabin 98 = .ok (.aload_n 0, 1) := by decide +kernel
theorem dX11_cabin_99 : decode cX11_cabin 99 = .ok (.getfield 26, 3) := by decide +kernel
theorem dX11_cabin_102 : decode cX11_cabin 102 = .ok (.invokevirtual 124, 3) := by decide +kernel
theorem dX11_cabin_105 : decode cX11_cabin 105 = .ok (.ireturn, 1) := by decide +kernel
theorem dX11_cabin_106 : decode cX11_cabin 106 = .ok (.aload_n 0, 1) := by decide +kernel
theorem dX11_cabin_107 : decode cX11_cabin 107 = .ok (.getfield 26, 3) := by decide +kernel
theorem dX11_cabin_110 : decode cX11_cabin 110 = .ok (.iload_n 1, 1) := by decide +kernel
theorem dX11_cabin_111 : decode cX11_cabin 111 = .ok (.invokevirtual 127, 3) := by decide +kernel
theorem dX11_cabin_114 : decode cX11_cabin 114 = .ok (.ireturn, 1) := by decide +kernel
theorem dX11_thing_0 : decode cX11_thing 0 = .ok (.iload_n 3, 1) := by decide +kernel
theorem dX11_thing_1 : decode cX11_thing 1 = .ok (.invokestatic 107, 3) := by decide +kernel
theorem dX11_thing_4 : decode cX11_thing 4 = .ok (.ifCond .ne 6, 3) := by decide +kernel
theorem dX11_thing_7 : decode cX11_thing 7 = .ok (.bipush (-101), 2) := by decide +kernel
theorem dX11_thing_9 : decode cX11_thing 9 = .ok (.ireturn, 1) := by decide +kernel
theorem dX11_thing_10 : decode cX11_thing 10 = .ok (.iload_n 1, 1) := by decide +kernel
theorem dX11_thing_11 : decode cX11_thing 11 = .ok (.invokestatic 131, 3) := by decide +kernel
theorem dX11_thing_14 : decode cX11_thing 14 = .ok (.ifCond .eq 14, 3) := by decide +kernel
theorem dX11_thing_17 : decode cX11_thing 17 = .ok (.iload_n 2, 1) := by decide +kernel
theorem dX11_thing_18 : decode cX11_thing 18 = .ok (.iconst 1, 1) := by decide +kernel
theorem dX11_thing_19 : decode cX11_thing 19 = .ok (.if_icmp .lt 9, 3) := by decide +kernel
theorem dX11_thing_22 : decode cX11_thing 22 = .ok (.iload_n 2, 1) := by decide +kernel
theorem dX11_thing_23 : decode cX11_thing 23 = .ok (.bipush 20, 2) := by decide +kernel
theorem dX11_thing_25 : decode cX11_thing 25 = .ok (.if_icmp .le 6, 3) := by decide +kernel
theorem dX11_thing_28 : decode cX11_thing 28 = .ok (.bipush (-102), 2) := by decide +kernel
theorem dX11_thing_30 : decode cX11_thing 30 = .ok (.ireturn, 1) := by decide +kernel
theorem dX11_thing_31 : decode cX11_thing 31 = .ok (.aload_n 0, 1) := by decide +kernel
theorem dX11_thing_32 : decode cX11_thing 32 = .ok (.getfield 19, 3) := by decide +kernel
theorem dX11_thing_35 : decode cX11_thing 35 = .ok (.invokevirtual 110, 3) := by decide +kernel
theorem dX11_thing_38 : decode cX11_thing 38 = .ok (.ifCond .ne 6, 3) := by decide +kernel
theorem dX11_thing_41 : decode cX11_thing 41 = .ok (.bipush (-103), 2) := by decide +kernel
theorem dX11_thing_43 : decode cX11_thing 43 = .ok (.ireturn, 1) := by decide +kernel
theorem dX11_thing_44 : decode cX11_thing 44 = .ok (.aload_n 0, 1) := by decide +kernel
theorem dX11_thing_45 : decode cX11_thing 45 = .ok (.getfield 26, 3) := by decide +kernel
theorem dX11_thing_48 : decode cX11_thing 48 = .ok (.invokevirtual 134, 3) := by decide +kernel
theorem dX11_thing_51 : decode cX11_thing 51 = .ok (.ifCond .eq 6, 3) := by decide +kernel
theorem dX11_thing_54 : decode cX11_thing 54 = .ok (.bipush (-104), 2) := by decide +kernel
theorem dX11_thing_56 : decode cX11_thing 56 = .ok (.ireturn, 1) := by decide +kernel
theorem dX11_thing_57 : decode cX11_thing 57 = .ok (.aload_n 0, 1) := by decide +kernel
theorem dX11_thing_58 : decode cX11_thing 58 = .ok (.getfield 26, 3) := by decide +kernel
theorem dX11_thing_61 : decode cX11_thing 61 = .ok (.iload_n 1, 1) := by decide +kernel
theorem dX11_thing_62 : decode cX11_thing 62 = .ok (.iload_n 2, 1) := by decide +kernel
theorem dX11_thing_63 : decode cX11_thing 63 = .ok (.iload_n 3, 1) := by decide +kernel
theorem dX11_thing_64 : decode cX11_thing 64 = .ok (.aload_n 0, 1) := by decide +kernel
theorem dX11_thing_65 : decode cX11_thing 65 = .ok (.getfield 19, 3) := by decide +kernel
theorem dX11_thing_68 : decode cX11_thing 68 = .ok (.getfield 113, 3) := by decide +kernel
theorem dX11_thing_71 : decode cX11_thing 71 = .ok (.invokestatic 137, 3) := by decide +kernel
theorem dX11_thing_74 : decode cX11_thing 74 = .ok (.invokevirtual 141, 3) := by decide +kernel
theorem dX11_thing_77 : decode cX11_thing 77 = .ok (.ireturn, 1) := by decide +kernel
theorem dX11_about_0 : decode cX11_about 0 = .ok (.aload_n 0, 1) := by decide +kernel
theorem dX11_about_1 : decode cX11_about 1 = .ok (.getfield 26, 3) := by decide +kernel
theorem dX11_about_4 : decode cX11_about 4 = .ok (.iload_n 1, 1) := by decide +kernel
theorem dX11_about_5 : decode cX11_about 5 = .ok (.invokevirtual 144, 3) := by decide +kernel
theorem dX11_about_8 : decode cX11_about 8 = .ok (.astore_n 3, 1) := by decide +kernel
theorem dX11_about_9 : decode cX11_about 9 = .ok (.aload_n 3, 1) := by decide +kernel
theorem dX11_about_10 : decode cX11_about 10 = .ok (.ifnonnull 6, 3) := by decide +kernel
theorem dX11_about_13 : decode cX11_about 13 = .ok (.bipush (-101), 2) := by decide +kernel
theorem dX11_about_15 : decode cX11_about 15 = .ok (.ireturn, 1) := by decide +kernel
theorem dX11_about_16 : decode cX11_about 16 = .ok (.iload_n 2, 1) := by decide +kernel
theorem dX11_about_17 : decode cX11_about 17 = .ok (.tableswitch 74 0 4 #[35, 40, 45, 50, 62], 35) := by decide +kernel
theorem dX11_about_52 : decode cX11_about 52 = .ok (.aload_n 3, 1) := by decide +kernel
theorem dX11_about_53 : decode cX11_about 53 = .ok (.invokevirtual 148, 3) := by decide +kernel
theorem dX11_about_56 : decode cX11_about 56 = .ok (.ireturn, 1) := by decide +kernel
theorem dX11_about_57 : decode cX11_about 57 = .ok (.aload_n 3, 1) := by decide +kernel
theorem dX11_about_58 : decode cX11_about 58 = .ok (.getfield 153, 3) := by decide +kernel
theorem dX11_about_61 : decode cX11_about 61 = .ok (.ireturn, 1) := by decide +kernel
theorem dX11_about_62 : decode cX11_about 62 = .ok (.aload_n 3, 1) := by decide +kernel
theorem dX11_about_63 : decode cX11_about 63 = .ok (.getfield 156, 3) := by decide +kernel
theorem dX11_about_66 : decode cX11_about 66 = .ok (.ireturn, 1) := by decide +kernel
theorem dX11_about_67 : decode cX11_about 67 = .ok (.aload_n 3, 1) := by decide +kernel
theorem dX11_about_68 : decode cX11_about 68 = .ok (.aload_n 0, 1) := by decide +kernel
theorem dX11_about_69 : decode cX11_about 69 = .ok (.getfield 19, 3) := by decide +kernel
theorem dX11_about_72 : decode cX11_about 72 = .ok (.getfield 113, 3) := by decide +kernel
theorem dX11_about_75 : decode cX11_about 75 = .ok (.invokevirtual 159, 3) := by decide +kernel
theorem dX11_about_78 : decode cX11_about 78 = .ok (.ireturn, 1) := by decide +kernel
theorem dX11_about_79 : decode cX11_about 79 = .ok (.aload_n 3, 1) := by decide +kernel
theorem dX11_about_80 : decode cX11_about 80 = .ok (.aload_n 0, 1) := by decide +kernel
theorem dX11_about_81 : decode cX11_about 81 = .ok (.getfield 19, 3) := by decide +kernel
theorem dX11_about_84 : decode cX11_about 84 = .ok (.getfield 113, 3) := by decide +kernel
theorem dX11_about_87 : decode cX11_about 87 = .ok (.invokevirtual 162, 3) := by decide +kernel
theorem dX11_about_90 : decode cX11_about 90 = .ok (.ireturn, 1) := by decide +kernel
theorem dX11_about_91 : decode cX11_about 91 = .ok (.bipush (-102), 2) := by decide +kernel
theorem dX11_about_93 : decode cX11_about 93 = .ok (.ireturn, 1) := by decide +kernel
theorem dX11_as_0 : decode cX11_as 0 = .ok (.aload_n 0, 1) := by decide +kernel
theorem dX11_as_1 : decode cX11_as 1 = .ok (.getfield 26, 3) := by decide +kernel
theorem dX11_as_4 : decode cX11_as 4 = .ok (.iload_n 1, 1) := by decide +kernel
theorem dX11_as_5 : decode cX11_as 5 = .ok (.invokevirtual 144, 3) := by decide +kernel
theorem dX11_as_8 : decode cX11_as 8 = .ok (.astore_n 3, 1) := by decide +kernel
theorem dX11_as_9 : decode cX11_as 9 = .ok (.aload_n 3, 1) := by decide +kernel
theorem dX11_as_10 : decode cX11_as 10 = .ok (.ifnonnull 6, 3) := by decide +kernel
theorem dX11_as_13 : decode cX11_as 13 = .ok (.bipush (-101), 2) := by decide +kernel
theorem dX11_as_15 : decode cX11_as 15 = .ok (.ireturn, 1) := by decide +kernel
theorem dX11_as_16 : decode cX11_as 16 = .ok (.iload_n 2, 1) := by decide +kernel
theorem dX11_as_17 : decode cX11_as 17 = .ok (.invokestatic 131, 3) := by decide +kernel
theorem dX11_as_20 : decode cX11_as 20 = .ok (.ifCond .ne 6, 3) := by decide +kernel
theorem dX11_as_23 : decode cX11_as 23 = .ok (.bipush (-102), 2) := by decide +kernel
theorem dX11_as_25 : decode cX11_as 25 = .ok (.ireturn, 1) := by decide +kernel
theorem dX11_as_26 : decode cX11_as 26 = .ok (.aload_n 3, 1) := by decide +kernel
theorem dX11_as_27 : decode cX11_as 27 = .ok (.iload_n 2, 1) := by decide +kernel
theorem dX11_as_28 : decode cX11_as 28 = .ok (.invokestatic 165, 3) := by decide +kernel
theorem dX11_as_31 : decode cX11_as 31 = .ok (.ifCond .eq 7, 3) := by decide +kernel
theorem dX11_as_34 : decode cX11_as 34 = .ok (.iload_n 1, 1) := by decide +kernel
theorem dX11_as_35 : decode cX11_as 35 = .ok (.goto 4, 3) := by decide +kernel
theorem dX11_as_38 : decode cX11_as 38 = .ok (.iconst (-1), 1) := by decide +kernel
theorem dX11_as_39 : decode cX11_as 39 = .ok (.ireturn, 1) := by decide +kernel
theorem dX11_carry_0 : decode cX11_carry 0 = .ok (.aload_n 0, 1) := by decide +kernel
theorem dX11_carry_1 : decode cX11_carry 1 = .ok (.getfield 26, 3) := by decide +kernel
theorem dX11_carry_4 : decode cX11_carry 4 = .ok (.iload_n 1, 1) := by decide +kernel
theorem dX11_carry_5 : decode cX11_carry 5 = .ok (.invokevirtual 144, 3) := by decide +kernel
theorem dX11_carry_8 : decode cX11_carry 8 = .ok (.astore_n 2, 1) := by decide +kernel
theorem dX11_carry_9 : decode cX11_carry 9 = .ok (.aload_n 2, 1) := by decide +kernel
theorem dX11_carry_10 : decode cX11_carry 10 = .ok (.ifnonnull 6, 3) := by decide +kernel
theorem dX11_carry_13 : decode cX11_carry 13 = .ok (.bipush (-101), 2) := by decide +kernel
theorem dX11_carry_15 : decode cX11_carry 15 = .ok (.ireturn, 1) := by decide +kernel
theorem dX11_carry_16 : decode cX11_carry 16 = .ok (.aload_n 0, 1) := by decide +kernel
theorem dX11_carry_17 : decode cX11_carry 17 = .ok (.getfield 19, 3) := by decide +kernel
theorem dX11_carry_20 : decode cX11_carry 20 = .ok (.invokevirtual 169, 3) := by decide +kernel
theorem dX11_carry_23 : decode cX11_carry 23 = .ok (.ifCond .eq 17, 3) := by decide +kernel
theorem dX11_carry_26 : decode cX11_carry 26 = .ok (.aload_n 2, 1) := by decide +kernel
theorem dX11_carry_27 : decode cX11_carry 27 = .ok (.aload_n 0, 1) := by decide +kernel
theorem dX11_carry_28 : decode cX11_carry 28 = .ok (.getfield 19, 3) := by decide +kernel
theorem dX11_carry_31 : decode cX11_carry 31 = .ok (.invokevirtual 172, 3) := by decide +kernel
theorem dX11_carry_34 : decode cX11_carry 34 = .ok (.invokevirtual 175, 3) := by decide +kernel
theorem dX11_carry_37 : decode cX11_carry 37 = .ok (.ifCond .ne 6, 3) := by decide +kernel
theorem dX11_carry_40 : decode cX11_carry 40 = .ok (.bipush (-103), 2) := by decide +kernel
theorem dX11_carry_42 : decode cX11_carry 42 = .ok (.ireturn, 1) := by decide +kernel
theorem dX11_carry_43 : decode cX11_carry 43 = .ok (.aload_n 2, 1) := by decide +kernel
theorem dX11_carry_44 : decode cX11_carry 44 = .ok (.iconst 1, 1) := by decide +kernel
theorem dX11_carry_45 : decode cX11_carry 45 = .ok (.aload_n 2, 1) := by decide +kernel
theorem dX11_carry_46 : decode cX11_carry 46 = .ok (.getfield 156, 3) := by decide +kernel
theorem dX11_carry_49 : decode cX11_carry 49 = .ok (.isub, 1) := by decide +kernel
theorem dX11_carry_50 : decode cX11_carry 50 = .ok (.putfield 156, 3) := by decide +kernel
theorem dX11_carry_53 : decode cX11_carry 53 = .ok (.aload_n 2, 1) := by decide +kernel
theorem dX11_carry_54 : decode cX11_carry 54 = .ok (.getfield 156, 3) := by decide +kernel
theorem dX11_carry_57 : decode cX11_carry 57 = .ok (.ireturn, 1) := by decide +kernel
theorem dX11_hour_0 : decode cX11_hour 0 = .ok (.iload_n 1, 1) := by decide +kernel
theorem dX11_hour_1 : decode cX11_hour 1 = .ok (.bipush (-3), 2) := by decide +kernel
theorem dX11_hour_3 : decode cX11_hour 3 = .ok (.if_icmp .lt 8, 3) := by decide +kernel
theorem dX11_hour_6 : decode cX11_hour 6 = .ok (.iload_n 1, 1) := by decide +kernel
theorem dX11_hour_7 : decode cX11_hour 7 = .ok (.iconst 3, 1) := by decide +kernel
theorem dX11_hour_8 : decode cX11_hour 8 = .ok (.if_icmp .le 6, 3) := by decide +kernel
theorem dX11_hour_11 : decode cX11_hour 11 = .ok (.bipush (-102), 2) := by decide +kernel
theorem dX11_hour_13 : decode cX11_hour 13 = .ok (.ireturn, 1) := by decide +kernel
theorem dX11_hour_14 : decode cX11_hour 14 = .ok (.aload_n 0, 1) := by decide +kernel
theorem dX11_hour_15 : decode cX11_hour 15 = .ok (.getfield 19, 3) := by decide +kernel
theorem dX11_hour_18 : decode cX11_hour 18 = .ok (.invokevirtual 169, 3) := by decide +kernel
theorem dX11_hour_21 : decode cX11_hour 21 = .ok (.ifCond .eq 18, 3) := by decide +kernel
theorem dX11_hour_24 : decode cX11_hour 24 = .ok (.aload_n 0, 1) := by decide +kernel
theorem dX11_hour_25 : decode cX11_hour 25 = .ok (.getfield 19, 3) := by decide +kernel
theorem dX11_hour_28 : decode cX11_hour 28 = .ok (.getfield 178, 3) := by decide +kernel
theorem dX11_hour_31 : decode cX11_hour 31 = .ok (.iload_n 1, 1) := by decide +kernel
theorem dX11_hour_32 : decode cX11_hour 32 = .ok (.isub, 1) := by decide +kernel
theorem dX11_hour_33 : decode cX11_hour 33 = .ok (.invokestatic 181, 3) := by decide +kernel
theorem dX11_hour_36 : decode cX11_hour 36 = .ok (.ifCond .ne 6, 3) := by decide +kernel
theorem dX11_hour_39 : decode cX11_hour 39 = .ok (.bipush (-103), 2) := by decide +kernel
theorem dX11_hour_41 : decode cX11_hour 41 = .ok (.ireturn, 1) := by decide +kernel
theorem dX11_hour_42 : decode cX11_hour 42 = .ok (.aload_n 0, 1) := by decide +kernel
theorem dX11_hour_43 : decode cX11_hour 43 = .ok (.getfield 19, 3) := by decide +kernel
theorem dX11_hour_46 : decode cX11_hour 46 = .ok (.iload_n 1, 1) := by decide +kernel
theorem dX11_hour_47 : decode cX11_hour 47 = .ok (.aload_n 0, 1) := by decide +kernel
theorem dX11_hour_48 : decode cX11_hour 48 = .ok (.getfield 26, 3) := by decide +kernel
theorem dX11_hour_51 : decode cX11_hour 51 = .ok (.invokevirtual 184, 3) := by decide +kernel
theorem dX11_hour_54 : decode cX11_hour 54 = .ok (.aload_n 0, 1) := by decide +kernel
theorem dX11_hour_55 : decode cX11_hour 55 = .ok (.getfield 19, 3) := by decide +kernel
theorem dX11_hour_58 : decode cX11_hour 58 = .ok (.getfield 188, 3) := by decide +kernel
theorem dX11_hour_61 : decode cX11_hour 61 = .ok (.ifCond .eq 7, 3) := by decide +kernel
theorem dX11_hour_64 : decode cX11_hour 64 = .ok (.iconst (-1), 1) := by decide +kernel
theorem dX11_hour_65 : decode cX11_hour 65 = .ok (.goto 10, 3) := by decide +kernel
theorem dX11_hour_68 : decode cX11_hour 68 = .ok (.aload_n 0, 1) := by decide +kernel
theorem dX11_hour_69 : decode cX11_hour 69 = .ok (.getfield 19, 3) := by decide +kernel
theorem dX11_hour_72 : decode cX11_hour 72 = .ok (.getfield 178, 3) := by decide +kernel
theorem dX11_hour_75 : decode cX11_hour 75 = .ok (.ireturn, 1) := by decide +kernel
theorem dX11_even_0 : decode cX11_even 0 = .ok (.iload_n 1, 1) := by decide +kernel
theorem dX11_even_1 : decode cX11_even 1 = .ok (.ifCond .lt 8, 3) := by decide +kernel
theorem dX11_even_4 : decode cX11_even 4 = .ok (.iload_n 1, 1) := by decide +kernel
theorem dX11_even_5 : decode cX11_even 5 = .ok (.iconst 1, 1) := by decide +kernel
theorem dX11_even_6 : decode cX11_even 6 = .ok (.if_icmp .le 6, 3) := by decide +kernel
theorem dX11_even_9 : decode cX11_even 9 = .ok (.bipush (-102), 2) := by decide +kernel
theorem dX11_even_11 : decode cX11_even 11 = .ok (.ireturn, 1) := by decide +kernel
theorem dX11_even_12 : decode cX11_even 12 = .ok (.aload_n 0, 1) := by decide +kernel
theorem dX11_even_13 : decode cX11_even 13 = .ok (.getfield 19, 3) := by decide +kernel
theorem dX11_even_16 : decode cX11_even 16 = .ok (.invokevirtual 169, 3) := by decide +kernel
theorem dX11_even_19 : decode cX11_even 19 = .ok (.ifCond .ne 6, 3) := by decide +kernel
theorem dX11_even_22 : decode cX11_even 22 = .ok (.bipush (-103), 2) := by decide +kernel
theorem dX11_even_24 : decode cX11_even 24 = .ok (.ireturn, 1) := by decide +kernel
theorem dX11_even_25 : decode cX11_even 25 = .ok (.aload_n 0, 1) := by decide +kernel
theorem dX11_even_26 : decode cX11_even 26 = .ok (.getfield 40, 3) := by decide +kernel
theorem dX11_even_29 : decode cX11_even 29 = .ok (.aload_n 0, 1) := by decide +kernel
theorem dX11_even_30 : decode cX11_even 30 = .ok (.getfield 19, 3) := by decide +kernel
theorem dX11_even_33 : decode cX11_even 33 = .ok (.aload_n 0, 1) := by decide +kernel
theorem dX11_even_34 : decode cX11_even 34 = .ok (.getfield 26, 3) := by decide +kernel
theorem dX11_even_37 : decode cX11_even 37 = .ok (.invokevirtual 191, 3) := by decide +kernel
theorem dX11_even_40 : decode cX11_even 40 = .ok (.iload_n 1, 1) := by decide +kernel
theorem dX11_even_41 : decode cX11_even 41 = .ok (.ifCond .ne 13, 3) := by decide +kernel
theorem dX11_even_44 : decode cX11_even 44 = .ok (.aload_n 0, 1) := by decide +kernel
theorem dX11_even_45 : decode cX11_even 45 = .ok (.getfield 40, 3) := by decide +kernel
theorem dX11_even_48 : decode cX11_even 48 = .ok (.getfield 195, 3) := by decide +kernel
theorem dX11_even_51 : decode cX11_even 51 = .ok (.goto 10, 3) := by decide +kernel
theorem dX11_even_54 : decode cX11_even 54 = .ok (.aload_n 0, 1) := by decide +kernel
theorem dX11_even_55 : decode cX11_even 55 = .ok (.getfield 40, 3) := by decide +kernel
theorem dX11_even_58 : decode cX11_even 58 = .ok (.getfield 198, 3) := by decide +kernel
theorem dX11_even_61 : decode cX11_even 61 = .ok (.ireturn, 1) := by decide +kernel
theorem dX11_soonest_0 : decode cX11_soonest 0 = .ok (.iload_n 1, 1) := by decide +kernel
theorem dX11_soonest_1 : decode cX11_soonest 1 = .ok (.iconst 1, 1) := by decide +kernel
theorem dX11_soonest_2 : decode cX11_soonest 2 = .ok (.if_icmp .lt 19, 3) := by decide +kernel
theorem dX11_soonest_5 : decode cX11_soonest 5 = .ok (.iload_n 1, 1) := by decide +kernel
theorem dX11_soonest_6 : decode cX11_soonest 6 = .ok (.sipush 9999, 3) := by decide +kernel
theorem dX11_soonest_9 : decode cX11_soonest 9 = .ok (.if_icmp .gt 12, 3) := by decide +kernel
theorem dX11_soonest_12 : decode cX11_soonest 12 = .ok (.iload_n 2, 1) := by decide +kernel
theorem dX11_soonest_13 : decode cX11_soonest 13 = .ok (.ifCond .lt 8, 3) := by decide +kernel
theorem dX11_soonest_16 : decode cX11_soonest 16 = .ok (.iload_n 2, 1) := by decide +kernel
theorem dX11_soonest_17 : decode cX11_soonest 17 = .ok (.iconst 1, 1) := by decide +kernel
theorem dX11_soonest_18 : decode cX11_soonest 18 = .ok (.if_icmp .le 6, 3) := by decide +kernel
theorem dX11_soonest_21 : decode cX11_soonest 21 = .ok (.bipush (-102), 2) := by decide +kernel
theorem dX11_soonest_23 : decode cX11_soonest 23 = .ok (.ireturn, 1) := by decide +kernel
theorem dX11_soonest_24 : decode cX11_soonest 24 = .ok (.aload_n 0, 1) := by decide +kernel
theorem dX11_soonest_25 : decode cX11_soonest 25 = .ok (.getfield 19, 3) := by decide +kernel
theorem dX11_soonest_28 : decode cX11_soonest 28 = .ok (.invokevirtual 169, 3) := by decide +kernel
theorem dX11_soonest_31 : decode cX11_soonest 31 = .ok (.ifCond .ne 6, 3) := by decide +kernel
theorem dX11_soonest_34 : decode cX11_soonest 34 = .ok (.bipush (-103), 2) := by decide +kernel
theorem dX11_soonest_36 : decode cX11_soonest 36 = .ok (.ireturn, 1) := by decide +kernel
theorem dX11_soonest_37 : decode cX11_soonest 37 = .ok (.aload_n 0, 1) := by decide +kernel
theorem dX11_soonest_38 : decode cX11_soonest 38 = .ok (.getfield 47, 3) := by decide +kernel
theorem dX11_soonest_41 : decode cX11_soonest 41 = .ok (.aload_n 0, 1) := by decide +kernel
theorem dX11_soonest_42 : decode cX11_soonest 42 = .ok (.getfield 19, 3) := by decide +kernel
theorem dX11_soonest_45 : decode cX11_soonest 45 = .ok (.aload_n 0, 1) := by decide +kernel
theorem dX11_soonest_46 : decode cX11_soonest 46 = .ok (.getfield 26, 3) := by decide +kernel
theorem dX11_soonest_49 : decode cX11_soonest 49 = .ok (.iload_n 1, 1) := by decide +kernel
theorem dX11_soonest_50 : decode cX11_soonest 50 = .ok (.invokevirtual 201, 3) := by decide +kernel
theorem dX11_soonest_53 : decode cX11_soonest 53 = .ok (.iload_n 2, 1) := by decide +kernel
theorem dX11_soonest_54 : decode cX11_soonest 54 = .ok (.ifCond .ne 13, 3) := by decide +kernel
theorem dX11_soonest_57 : decode cX11_soonest 57 = .ok (.aload_n 0, 1) := by decide +kernel
theorem dX11_soonest_58 : decode cX11_soonest 58 = .ok (.getfield 47, 3) := by decide +kernel
theorem dX11_soonest_61 : decode cX11_soonest 61 = .ok (.getfield 204, 3) := by decide +kernel
theorem dX11_soonest_64 : decode cX11_soonest 64 = .ok (.goto 10, 3) := by decide +kernel
theorem dX11_soonest_67 : decode cX11_soonest 67 = .ok (.aload_n 0, 1) := by decide +kernel
theorem dX11_soonest_68 : decode cX11_soonest 68 = .ok (.getfield 47, 3) := by decide +kernel
theorem dX11_soonest_71 : decode cX11_soonest 71 = .ok (.getfield 205, 3) := by decide +kernel
theorem dX11_soonest_74 : decode cX11_soonest 74 = .ok (.ireturn, 1) := by decide +kernel
theorem dX11_caught_0 : decode cX11_caught 0 = .ok (.iload_n 1, 1) := by decide +kernel
theorem dX11_caught_1 : decode cX11_caught 1 = .ok (.iconst 1, 1) := by decide +kernel
theorem dX11_caught_2 : decode cX11_caught 2 = .ok (.if_icmp .lt 9, 3) := by decide +kernel
theorem dX11_caught_5 : decode cX11_caught 5 = .ok (.iload_n 1, 1) := by decide +kernel
theorem dX11_caught_6 : decode cX11_caught 6 = .ok (.bipush 99, 2) := by decide +kernel
theorem dX11_caught_8 : decode cX11_caught 8 = .ok (.if_icmp .le 6, 3) := by decide +kernel
theorem dX11_caught_11 : decode cX11_caught 11 = .ok (.bipush (-102), 2) := by decide +kernel
theorem dX11_caught_13 : decode cX11_caught 13 = .ok (.ireturn, 1) := by decide +kernel
theorem dX11_caught_14 : decode cX11_caught 14 = .ok (.aload_n 0, 1) := by decide +kernel
theorem dX11_caught_15 : decode cX11_caught 15 = .ok (.getfield 19, 3) := by decide +kernel
theorem dX11_caught_18 : decode cX11_caught 18 = .ok (.invokevirtual 169, 3) := by decide +kernel
theorem dX11_caught_21 : decode cX11_caught 21 = .ok (.ifCond .ne 6, 3) := by decide +kernel
theorem dX11_caught_24 : decode cX11_caught 24 = .ok (.bipush (-103), 2) := by decide +kernel
theorem dX11_caught_26 : decode cX11_caught 26 = .ok (.ireturn, 1) := by decide +kernel
theorem dX11_caught_27 : decode cX11_caught 27 = .ok (.aload_n 0, 1) := by decide +kernel
theorem dX11_caught_28 : decode cX11_caught 28 = .ok (.getfield 19, 3) := by decide +kernel
theorem dX11_caught_31 : decode cX11_caught 31 = .ok (.invokevirtual 172, 3) := by decide +kernel
theorem dX11_caught_34 : decode cX11_caught 34 = .ok (.istore_n 2, 1) := by decide +kernel
theorem dX11_caught_35 : decode cX11_caught 35 = .ok (.bipush 90, 2) := by decide +kernel
theorem dX11_caught_37 : decode cX11_caught 37 = .ok (.iload_n 1, 1) := by decide +kernel
theorem dX11_caught_38 : decode cX11_caught 38 = .ok (.iload_n 2, 1) := by decide +kernel
theorem dX11_caught_39 : decode cX11_caught 39 = .ok (.imul, 1) := by decide +kernel
theorem dX11_caught_40 : decode cX11_caught 40 = .ok (.isub, 1) := by decide +kernel
theorem dX11_caught_41 : decode cX11_caught 41 = .ok (.sipush 360, 3) := by decide +kernel
theorem dX11_caught_44 : decode cX11_caught 44 = .ok (.invokestatic 208, 3) := by decide +kernel
theorem dX11_caught_47 : decode cX11_caught 47 = .ok (.istore_n 3, 1) := by decide +kernel
theorem dX11_caught_48 : decode cX11_caught 48 = .ok (.iconst 0, 1) := by decide +kernel
theorem dX11_caught_49 : decode cX11_caught 49 = .ok (.istore 4, 2) := by decide +kernel
theorem dX11_caught_51 : decode cX11_caught 51 = .ok (.iload 4, 2) := by decide +kernel
theorem dX11_caught_53 : decode cX11_caught 53 = .ok (.bipush 98, 2) := by decide +kernel
theorem dX11_caught_55 : decode cX11_caught 55 = .ok (.if_icmp .gt 29, 3) := by decide +kernel
theorem dX11_caught_58 : decode cX11_caught 58 = .ok (.aload_n 0, 1) := by decide +kernel
theorem dX11_caught_59 : decode cX11_caught 59 = .ok (.getfield 19, 3) := by decide +kernel
theorem dX11_caught_62 : decode cX11_caught 62 = .ok (.iload 4, 2) := by decide +kernel
theorem dX11_caught_64 : decode cX11_caught 64 = .ok (.invokevirtual 213, 3) := by decide +kernel
theorem dX11_caught_67 : decode cX11_caught 67 = .ok (.iload_n 3, 1) := by decide +kernel
theorem dX11_caught_68 : decode cX11_caught 68 = .ok (.invokestatic 216, 3) := by decide +kernel
theorem dX11_caught_71 : decode cX11_caught 71 = .ok (.iconst 5, 1) := by decide +kernel
theorem dX11_caught_72 : decode cX11_caught 72 = .ok (.if_icmp .gt 6, 3) := by decide +kernel
theorem dX11_caught_75 : decode cX11_caught 75 = .ok (.iload 4, 2) := by decide +kernel
theorem dX11_caught_77 : decode cX11_caught 77 = .ok (.ireturn, 1) := by decide +kernel
theorem dX11_caught_78 : decode cX11_caught 78 = .ok (.iinc 4 1, 3) := by decide +kernel
theorem dX11_caught_81 : decode cX11_caught 81 = .ok (.goto (-30), 3) := by decide +kernel
theorem dX11_caught_84 : decode cX11_caught 84 = .ok (.iconst (-1), 1) := by decide +kernel
theorem dX11_caught_85 : decode cX11_caught 85 = .ok (.ireturn, 1) := by decide +kernel
theorem dX11_weighed_0 : decode cX11_weighed 0 = .ok (.iload_n 1, 1) := by decide +kernel
theorem dX11_weighed_1 : decode cX11_weighed 1 = .ok (.invokestatic 181, 3) := by decide +kernel
theorem dX11_weighed_4 : decode cX11_weighed 4 = .ok (.ifCond .eq 13, 3) := by decide +kernel
theorem dX11_weighed_7 : decode cX11_weighed 7 = .ok (.iload_n 2, 1) := by decide +kernel
theorem dX11_weighed_8 : decode cX11_weighed 8 = .ok (.ifCond .lt 9, 3) := by decide +kernel
theorem dX11_weighed_11 : decode cX11_weighed 11 = .ok (.iload_n 2, 1) := by decide +kernel
theorem dX11_weighed_12 : decode cX11_weighed 12 = .ok (.bipush 99, 2) := by decide +kernel
theorem dX11_weighed_14 : decode cX11_weighed 14 = .ok (.if_icmp .le 6, 3) := by decide +kernel
theorem dX11_weighed_17 : decode cX11_weighed 17 = .ok (.bipush (-102), 2) := by decide +kernel
theorem dX11_weighed_19 : decode cX11_weighed 19 = .ok (.ireturn, 1) := by decide +kernel
theorem dX11_weighed_20 : decode cX11_weighed 20 = .ok (.aload_n 0, 1) := by decide +kernel
theorem dX11_weighed_21 : decode cX11_weighed 21 = .ok (.getfield 19, 3) := by decide +kernel
theorem dX11_weighed_24 : decode cX11_weighed 24 = .ok (.invokevirtual 110, 3) := by decide +kernel
theorem dX11_weighed_27 : decode cX11_weighed 27 = .ok (.ifCond .ne 6, 3) := by decide +kernel
theorem dX11_weighed_30 : decode cX11_weighed 30 = .ok (.bipush (-103), 2) := by decide +kernel
theorem dX11_weighed_32 : decode cX11_weighed 32 = .ok (.ireturn, 1) := by decide +kernel
theorem dX11_weighed_33 : decode cX11_weighed 33 = .ok (.aload_n 0, 1) := by decide +kernel
theorem dX11_weighed_34 : decode cX11_weighed 34 = .ok (.getfield 33, 3) := by decide +kernel
theorem dX11_weighed_37 : decode cX11_weighed 37 = .ok (.invokevirtual 219, 3) := by decide +kernel
theorem dX11_weighed_40 : decode cX11_weighed 40 = .ok (.ifCond .eq 6, 3) := by decide +kernel
theorem dX11_weighed_43 : decode cX11_weighed 43 = .ok (.bipush (-104), 2) := by decide +kernel
theorem dX11_weighed_45 : decode cX11_weighed 45 = .ok (.ireturn, 1) := by decide +kernel
theorem dX11_weighed_46 : decode cX11_weighed 46 = .ok (.aload_n 0, 1) := by decide +kernel
theorem dX11_weighed_47 : decode cX11_weighed 47 = .ok (.getfield 33, 3) := by decide +kernel
theorem dX11_weighed_50 : decode cX11_weighed 50 = .ok (.iload_n 1, 1) := by decide +kernel
theorem dX11_weighed_51 : decode cX11_weighed 51 = .ok (.iload_n 2, 1) := by decide +kernel
theorem dX11_weighed_52 : decode cX11_weighed 52 = .ok (.invokevirtual 220, 3) := by decide +kernel
theorem dX11_weighed_55 : decode cX11_weighed 55 = .ok (.ireturn, 1) := by decide +kernel
theorem dX11_forget_0 : decode cX11_forget 0 = .ok (.aload_n 0, 1) := by decide +kernel
theorem dX11_forget_1 : decode cX11_forget 1 = .ok (.getfield 33, 3) := by decide +kernel
theorem dX11_forget_4 : decode cX11_forget 4 = .ok (.invokevirtual 96, 3) := by decide +kernel
theorem dX11_forget_7 : decode cX11_forget 7 = .ok (.ireturn, 1) := by decide +kernel
theorem dX11_fits_0 : decode cX11_fits 0 = .ok (.iload_n 1, 1) := by decide +kernel
theorem dX11_fits_1 : decode cX11_fits 1 = .ok (.ifCond .lt 8, 3) := by decide +kernel
theorem dX11_fits_4 : decode cX11_fits 4 = .ok (.iload_n 1, 1) := by decide +kernel
theorem dX11_fits_5 : decode cX11_fits 5 = .ok (.iconst 2, 1) := by decide +kernel
theorem dX11_fits_6 : decode cX11_fits 6 = .ok (.if_icmp .le 6, 3) := by decide +kernel
theorem dX11_fits_9 : decode cX11_fits 9 = .ok (.bipush (-102), 2) := by decide +kernel
theorem dX11_fits_11 : decode cX11_fits 11 = .ok (.ireturn, 1) := by decide +kernel
theorem dX11_fits_12 : decode cX11_fits 12 = .ok (.aload_n 0, 1) := by decide +kernel
theorem dX11_fits_13 : decode cX11_fits 13 = .ok (.getfield 33, 3) := by decide +kernel
theorem dX11_fits_16 : decode cX11_fits 16 = .ok (.invokevirtual 222, 3) := by decide +kernel
theorem dX11_fits_19 : decode cX11_fits 19 = .ok (.istore_n 2, 1) := by decide +kernel
theorem dX11_fits_20 : decode cX11_fits 20 = .ok (.aload_n 0, 1) := by decide +kernel
theorem dX11_fits_21 : decode cX11_fits 21 = .ok (.getfield 33, 3) := by decide +kernel
theorem dX11_fits_24 : decode cX11_fits 24 = .ok (.invokevirtual 225, 3) := by decide +kernel
theorem dX11_fits_27 : decode cX11_fits 27 = .ok (.istore_n 3, 1) := by decide +kernel
theorem dX11_fits_28 : decode cX11_fits 28 = .ok (.iload_n 1, 1) := by decide +kernel
theorem dX11_fits_29 : decode cX11_fits 29 = .ok (.ifCond .ne 18, 3) := by decide +kernel
theorem dX11_fits_32 : decode cX11_fits 32 = .ok (.iload_n 2, 1) := by decide +kernel
theorem dX11_fits_33 : decode cX11_fits 33 = .ok (.iload_n 3, 1) := by decide +kernel
theorem dX11_fits_34 : decode cX11_fits 34 = .ok (.if_icmp .le 7, 3) := by decide +kernel
theorem dX11_fits_37 : decode cX11_fits 37 = .ok (.iconst 0, 1) := by decide +kernel
theorem dX11_fits_38 : decode cX11_fits 38 = .ok (.goto 8, 3) := by decide +kernel
theorem dX11_fits_41 : decode cX11_fits 41 = .ok (.iload_n 3, 1) := by decide +kernel
theorem dX11_fits_42 : decode cX11_fits 42 = .ok (.iload_n 2, 1) := by decide +kernel
theorem dX11_fits_43 : decode cX11_fits 43 = .ok (.isub, 1) := by decide +kernel
theorem dX11_fits_44 : decode cX11_fits 44 = .ok (.iconst 1, 1) := by decide +kernel
theorem dX11_fits_45 : decode cX11_fits 45 = .ok (.iadd, 1) := by decide +kernel
theorem dX11_fits_46 : decode cX11_fits 46 = .ok (.ireturn, 1) := by decide +kernel
theorem dX11_fits_47 : decode cX11_fits 47 = .ok (.iload_n 2, 1) := by decide +kernel
theorem dX11_fits_48 : decode cX11_fits 48 = .ok (.iload_n 3, 1) := by decide +kernel
theorem dX11_fits_49 : decode cX11_fits 49 = .ok (.if_icmp .le 5, 3) := by decide +kernel
theorem dX11_fits_52 : decode cX11_fits 52 = .ok (.iconst (-1), 1) := by decide +kernel
theorem dX11_fits_53 : decode cX11_fits 53 = .ok (.ireturn, 1) := by decide +kernel
theorem dX11_fits_54 : decode cX11_fits 54 = .ok (.iload_n 1, 1) := by decide +kernel
theorem dX11_fits_55 : decode cX11_fits 55 = .ok (.iconst 1, 1) := by decide +kernel
theorem dX11_fits_56 : decode cX11_fits 56 = .ok (.if_icmp .ne 7, 3) := by decide +kernel
theorem dX11_fits_59 : decode cX11_fits 59 = .ok (.iload_n 2, 1) := by decide +kernel
theorem dX11_fits_60 : decode cX11_fits 60 = .ok (.goto 4, 3) := by decide +kernel
theorem dX11_fits_63 : decode cX11_fits 63 = .ok (.iload_n 3, 1) := by decide +kernel
theorem dX11_fits_64 : decode cX11_fits 64 = .ok (.ireturn, 1) := by decide +kernel
theorem dX11_lasts_0 : decode cX11_lasts 0 = .ok (.iload_n 1, 1) := by decide +kernel
theorem dX11_lasts_1 : decode cX11_lasts 1 = .ok (.iconst 1, 1) := by decide +kernel
theorem dX11_lasts_2 : decode cX11_lasts 2 = .ok (.if_icmp .lt 17, 3) := by decide +kernel
theorem dX11_lasts_5 : decode cX11_lasts 5 = .ok (.iload_n 1, 1) := by decide +kernel
theorem dX11_lasts_6 : decode cX11_lasts 6 = .ok (.iconst 4, 1) := by decide +kernel
theorem dX11_lasts_7 : decode cX11_lasts 7 = .ok (.if_icmp .gt 12, 3) := by decide +kernel
theorem dX11_lasts_10 : decode cX11_lasts 10 = .ok (.iload_n 2, 1) := by decide +kernel
theorem dX11_lasts_11 : decode cX11_lasts 11 = .ok (.ifCond .lt 8, 3) := by decide +kernel
theorem dX11_lasts_14 : decode cX11_lasts 14 = .ok (.iload_n 2, 1) := by decide +kernel
theorem dX11_lasts_15 : decode cX11_lasts 15 = .ok (.iconst 1, 1) := by decide +kernel
theorem dX11_lasts_16 : decode cX11_lasts 16 = .ok (.if_icmp .le 7, 3) := by decide +kernel
theorem dX11_lasts_19 : decode cX11_lasts 19 = .ok (.ldc2_w 228, 3) := by decide +kernel
theorem dX11_lasts_22 : decode cX11_lasts 22 = .ok (.lreturn, 1) := by decide +kernel
theorem dX11_lasts_23 : decode cX11_lasts 23 = .ok (.aload_n 0, 1) := by decide +kernel
theorem dX11_lasts_24 : decode cX11_lasts 24 = .ok (.getfield 19, 3) := by decide +kernel
theorem dX11_lasts_27 : decode cX11_lasts 27 = .ok (.invokevirtual 169, 3) := by decide +kernel
theorem dX11_lasts_30 : decode cX11_lasts 30 = .ok (.ifCond .ne 7, 3) := by decide +kernel
theorem dX11_lasts_33 : decode cX11_lasts 33 = .ok (.ldc2_w 230, 3) := by decide +kernel
theorem dX11_lasts_36 : decode cX11_lasts 36 = .ok (.lreturn, 1) := by decide +kernel
theorem dX11_lasts_37 : decode cX11_lasts 37 = .ok (.bipush 100, 2) := by decide +kernel
theorem dX11_lasts_39 : decode cX11_lasts 39 = .ok (.aload_n 0, 1) := by decide +kernel
theorem dX11_lasts_40 : decode cX11_lasts 40 = .ok (.getfield 19, 3) := by decide +kernel
theorem dX11_lasts_43 : decode cX11_lasts 43 = .ok (.aload_n 0, 1) := by decide +kernel
theorem dX11_lasts_44 : decode cX11_lasts 44 = .ok (.getfield 19, 3) := by decide +kernel
theorem dX11_lasts_47 : decode cX11_lasts 47 = .ok (.aload_n 0, 1) := by decide +kernel
theorem dX11_lasts_48 : decode cX11_lasts 48 = .ok (.getfield 26, 3) := by decide +kernel
theorem dX11_lasts_51 : decode cX11_lasts 51 = .ok (.invokevirtual 232, 3) := by decide +kernel
theorem dX11_lasts_54 : decode cX11_lasts 54 = .ok (.invokevirtual 236, 3) := by decide +kernel
theorem dX11_lasts_57 : decode cX11_lasts 57 = .ok (.isub, 1) := by decide +kernel
theorem dX11_lasts_58 : decode cX11_lasts 58 = .ok (.istore_n 3, 1) := by decide +kernel
theorem dX11_lasts_59 : decode cX11_lasts 59 = .ok (.iload_n 2, 1) := by decide +kernel
theorem dX11_lasts_60 : decode cX11_lasts 60 = .ok (.ifCond .ne 12, 3) := by decide +kernel
theorem dX11_lasts_63 : decode cX11_lasts 63 = .ok (.iload_n 3, 1) := by decide +kernel
theorem dX11_lasts_64 : decode cX11_lasts 64 = .ok (.bipush 100, 2) := by decide +kernel
theorem dX11_lasts_66 : decode cX11_lasts 66 = .ok (.invokestatic 239, 3) := by decide +kernel
theorem dX11_lasts_69 : decode cX11_lasts 69 = .ok (.goto 9, 3) := by decide +kernel
theorem dX11_lasts_72 : decode cX11_lasts 72 = .ok (.bipush 100, 2) := by decide +kernel
theorem dX11_lasts_74 : decode cX11_lasts 74 = .ok (.iload_n 3, 1) := by decide +kernel
theorem dX11_lasts_75 : decode cX11_lasts 75 = .ok (.invokestatic 239, 3) := by decide +kernel
theorem dX11_lasts_78 : decode cX11_lasts 78 = .ok (.istore 4, 2) := by decide +kernel
theorem dX11_lasts_80 : decode cX11_lasts 80 = .ok (.iload 4, 2) := by decide +kernel
theorem dX11_lasts_82 : decode cX11_lasts 82 = .ok (.iload_n 1, 1) := by decide +kernel
theorem dX11_lasts_83 : decode cX11_lasts 83 = .ok (.invokestatic 242, 3) := by decide +kernel
theorem dX11_lasts_86 : decode cX11_lasts 86 = .ok (.lreturn, 1) := by decide +kernel
theorem dX11_whirls_0 : decode cX11_whirls 0 = .ok (.iload_n 1, 1) := by decide +kernel
theorem dX11_whirls_1 : decode cX11_whirls 1 = .ok (.iconst 1, 1) := by decide +kernel
theorem dX11_whirls_2 : decode cX11_whirls 2 = .ok (.if_icmp .lt 22, 3) := by decide +kernel
theorem dX11_whirls_5 : decode cX11_whirls 5 = .ok (.iload_n 1, 1) := by decide +kernel
theorem dX11_whirls_6 : decode cX11_whirls 6 = .ok (.bipush 60, 2) := by decide +kernel
theorem dX11_whirls_8 : decode cX11_whirls 8 = .ok (.if_icmp .gt 16, 3) := by decide +kernel
theorem dX11_whirls_11 : decode cX11_whirls 11 = .ok (.iload_n 2, 1) := by decide +kernel
theorem dX11_whirls_12 : decode cX11_whirls 12 = .ok (.ifCond .lt 12, 3) := by decide +kernel
theorem dX11_whirls_15 : decode cX11_whirls 15 = .ok (.iload_n 3, 1) := by decide +kernel
theorem dX11_whirls_16 : decode cX11_whirls 16 = .ok (.ifCond .lt 8, 3) := by decide +kernel
theorem dX11_whirls_19 : decode cX11_whirls 19 = .ok (.iload_n 3, 1) := by decide +kernel
theorem dX11_whirls_20 : decode cX11_whirls 20 = .ok (.iconst 3, 1) := by decide +kernel
theorem dX11_whirls_21 : decode cX11_whirls 21 = .ok (.if_icmp .le 6, 3) := by decide +kernel
theorem dX11_whirls_24 : decode cX11_whirls 24 = .ok (.bipush (-102), 2) := by decide +kernel
theorem dX11_whirls_26 : decode cX11_whirls 26 = .ok (.ireturn, 1) := by decide +kernel
theorem dX11_whirls_27 : decode cX11_whirls 27 = .ok (.aload_n 0, 1) := by decide +kernel
theorem dX11_whirls_28 : decode cX11_whirls 28 = .ok (.getfield 19, 3) := by decide +kernel
theorem dX11_whirls_31 : decode cX11_whirls 31 = .ok (.invokevirtual 169, 3) := by decide +kernel
theorem dX11_whirls_34 : decode cX11_whirls 34 = .ok (.ifCond .ne 6, 3) := by decide +kernel
theorem dX11_whirls_37 : decode cX11_whirls 37 = .ok (.bipush (-103), 2) := by decide +kernel
theorem dX11_whirls_39 : decode cX11_whirls 39 = .ok (.ireturn, 1) := by decide +kernel
theorem dX11_whirls_40 : decode cX11_whirls 40 = .ok (.aload_n 0, 1) := by decide +kernel
theorem dX11_whirls_41 : decode cX11_whirls 41 = .ok (.iload_n 1, 1) := by decide +kernel
theorem dX11_whirls_42 : decode cX11_whirls 42 = .ok (.iload_n 2, 1) := by decide +kernel
theorem dX11_whirls_43 : decode cX11_whirls 43 = .ok (.invokevirtual 246, 3) := by decide +kernel
theorem dX11_whirls_46 : decode cX11_whirls 46 = .ok (.istore 4, 2) := by decide +kernel
theorem dX11_whirls_48 : decode cX11_whirls 48 = .ok (.iload_n 3, 1) := by decide +kernel
theorem dX11_whirls_49 : decode cX11_whirls 49 = .ok (.tableswitch 59 0 2 #[27, 35, 43], 27) := by decide +kernel
theorem dX11_whirls_76 : decode cX11_whirls 76 = .ok (.aload_n 0, 1) := by decide +kernel
theorem dX11_whirls_77 : decode cX11_whirls 77 = .ok (.getfield 51, 3) := by decide +kernel
theorem dX11_whirls_80 : decode cX11_whirls 80 = .ok (.getfield 178, 3) := by decide +kernel
theorem dX11_whirls_83 : decode cX11_whirls 83 = .ok (.ireturn, 1) := by decide +kernel
theorem dX11_whirls_84 : decode cX11_whirls 84 = .ok (.aload_n 0, 1) := by decide +kernel
theorem dX11_whirls_85 : decode cX11_whirls 85 = .ok (.getfield 51, 3) := by decide +kernel
theorem dX11_whirls_88 : decode cX11_whirls 88 = .ok (.getfield 249, 3) := by decide +kernel
theorem dX11_whirls_91 : decode cX11_whirls 91 = .ok (.ireturn, 1) := by decide +kernel
theorem dX11_whirls_92 : decode cX11_whirls 92 = .ok (.aload_n 0, 1) := by decide +kernel
theorem dX11_whirls_93 : decode cX11_whirls 93 = .ok (.getfield 51, 3) := by decide +kernel
theorem dX11_whirls_96 : decode cX11_whirls 96 = .ok (.getfield 113, 3) := by decide +kernel
theorem dX11_whirls_99 : decode cX11_whirls 99 = .ok (.aload_n 0, 1) := by decide +kernel
theorem dX11_whirls_100 : decode cX11_whirls 100 = .ok (.getfield 19, 3) := by decide +kernel
theorem dX11_whirls_103 : decode cX11_whirls 103 = .ok (.getfield 113, 3) := by decide +kernel
theorem dX11_whirls_106 : decode cX11_whirls 106 = .ok (.isub, 1) := by decide +kernel
theorem dX11_whirls_107 : decode cX11_whirls 107 = .ok (.ireturn, 1) := by decide +kernel
theorem dX11_whirls_108 : decode cX11_whirls 108 = .ok (.iload 4, 2) := by decide +kernel
theorem dX11_whirls_110 : decode cX11_whirls 110 = .ok (.ireturn, 1) := by decide +kernel
theorem dX11_image_0 : decode cX11_image 0 = .ok (.aload_n 0, 1) := by decide +kernel
theorem dX11_image_1 : decode cX11_image 1 = .ok (.getfield 19, 3) := by decide +kernel
theorem dX11_image_4 : decode cX11_image 4 = .ok (.invokevirtual 110, 3) := by decide +kernel
theorem dX11_image_7 : decode cX11_image 7 = .ok (.ifCond .ne 6, 3) := by decide +kernel
theorem dX11_image_10 : decode cX11_image 10 = .ok (.bipush (-103), 2) := by decide +kernel
theorem dX11_image_12 : decode cX11_image 12 = .ok (.ireturn, 1) := by decide +kernel
theorem dX11_image_13 : decode cX11_image 13 = .ok (.aload_n 0, 1) := by decide +kernel
theorem dX11_image_14 : decode cX11_image 14 = .ok (.getfield 54, 3) := by decide +kernel
theorem dX11_image_17 : decode cX11_image 17 = .ok (.aload_n 0, 1) := by decide +kernel
theorem dX11_image_18 : decode cX11_image 18 = .ok (.getfield 19, 3) := by decide +kernel
theorem dX11_image_21 : decode cX11_image 21 = .ok (.invokevirtual 250, 3) := by decide +kernel
theorem dX11_image_24 : decode cX11_image 24 = .ok (.aload_n 0, 1) := by decide +kernel
theorem dX11_image_25 : decode cX11_image 25 = .ok (.getfield 26, 3) := by decide +kernel
theorem dX11_image_28 : decode cX11_image 28 = .ok (.invokevirtual 254, 3) := by decide +kernel
theorem dX11_image_31 : decode cX11_image 31 = .ok (.aload_n 0, 1) := by decide +kernel
theorem dX11_image_32 : decode cX11_image 32 = .ok (.iconst 1, 1) := by decide +kernel
theorem dX11_image_33 : decode cX11_image 33 = .ok (.putfield 97, 3) := by decide +kernel
theorem dX11_image_36 : decode cX11_image 36 = .ok (.aload_n 0, 1) := by decide +kernel
theorem dX11_image_37 : decode cX11_image 37 = .ok (.getfield 19, 3) := by decide +kernel
theorem dX11_image_40 : decode cX11_image 40 = .ok (.getfield 113, 3) := by decide +kernel
theorem dX11_image_43 : decode cX11_image 43 = .ok (.ireturn, 1) := by decide +kernel
theorem dX11_restore_0 : decode cX11_restore 0 = .ok (.aload_n 0, 1) := by decide +kernel
theorem dX11_restore_1 : decode cX11_restore 1 = .ok (.getfield 97, 3) := by decide +kernel
theorem dX11_restore_4 : decode cX11_restore 4 = .ok (.ifCond .ne 6, 3) := by decide +kernel
theorem dX11_restore_7 : decode cX11_restore 7 = .ok (.bipush (-103), 2) := by decide +kernel
theorem dX11_restore_9 : decode cX11_restore 9 = .ok (.ireturn, 1) := by decide +kernel
theorem dX11_restore_10 : decode cX11_restore 10 = .ok (.aload_n 0, 1) := by decide +kernel
theorem dX11_restore_11 : decode cX11_restore 11 = .ok (.getfield 19, 3) := by decide +kernel
theorem dX11_restore_14 : decode cX11_restore 14 = .ok (.aload_n 0, 1) := by decide +kernel
theorem dX11_restore_15 : decode cX11_restore 15 = .ok (.getfield 54, 3) := by decide +kernel
theorem dX11_restore_18 : decode cX11_restore 18 = .ok (.invokevirtual 250, 3) := by decide +kernel
theorem dX11_restore_21 : decode cX11_restore 21 = .ok (.aload_n 0, 1) := by decide +kernel
theorem dX11_restore_22 : decode cX11_restore 22 = .ok (.getfield 26, 3) := by decide +kernel
theorem dX11_restore_25 : decode cX11_restore 25 = .ok (.invokevirtual 257, 3) := by decide +kernel
theorem dX11_restore_28 : decode cX11_restore 28 = .ok (.aload_n 0, 1) := by decide +kernel
theorem dX11_restore_29 : decode cX11_restore 29 = .ok (.getfield 19, 3) := by decide +kernel
theorem dX11_restore_32 : decode cX11_restore 32 = .ok (.getfield 113, 3) := by decide +kernel
theorem dX11_restore_35 : decode cX11_restore 35 = .ok (.ireturn, 1) := by decide +kernel
theorem dX11_count_0 : decode cX11_count 0 = .ok (.iload_n 1, 1) := by decide +kernel
theorem dX11_count_1 : decode cX11_count 1 = .ok (.tableswitch 188 0 12 #[67, 75, 83, 91, 103, 111, 127, 135, 143, 159, 167, 175, 180], 67) := by decide +kernel
theorem dX11_count_68 : decode cX11_count 68 = .ok (.aload_n 0, 1) := by decide +kernel
theorem dX11_count_69 : decode cX11_count 69 = .ok (.getfield 19, 3) := by decide +kernel
theorem dX11_count_72 : decode cX11_count 72 = .ok (.getfield 178, 3) := by decide +kernel
theorem dX11_count_75 : decode cX11_count 75 = .ok (.ireturn, 1) := by decide +kernel
theorem dX11_count_76 : decode cX11_count 76 = .ok (.aload_n 0, 1) := by decide +kernel
theorem dX11_count_77 : decode cX11_count 77 = .ok (.getfield 19, 3) := by decide +kernel
theorem dX11_count_80 : decode cX11_count 80 = .ok (.invokevirtual 172, 3) := by decide +kernel
theorem dX11_count_83 : decode cX11_count 83 = .ok (.ireturn, 1) := by decide +kernel
theorem dX11_count_84 : decode cX11_count 84 = .ok (.aload_n 0, 1) := by decide +kernel
theorem dX11_count_85 : decode cX11_count 85 = .ok (.getfield 19, 3) := by decide +kernel
theorem dX11_count_88 : decode cX11_count 88 = .ok (.getfield 104, 3) := by decide +kernel
theorem dX11_count_91 : decode cX11_count 91 = .ok (.ireturn, 1) := by decide +kernel
theorem dX11_count_92 : decode cX11_count 92 = .ok (.aload_n 0, 1) := by decide +kernel
theorem dX11_count_93 : decode cX11_count 93 = .ok (.getfield 19, 3) := by decide +kernel
theorem dX11_count_96 : decode cX11_count 96 = .ok (.aload_n 0, 1) := by decide +kernel
theorem dX11_count_97 : decode cX11_count 97 = .ok (.getfield 26, 3) := by decide +kernel
theorem dX11_count_100 : decode cX11_count 100 = .ok (.invokevirtual 232, 3) := by decide +kernel
theorem dX11_count_103 : decode cX11_count 103 = .ok (.ireturn, 1) := by decide +kernel
theorem dX11_count_104 : decode cX11_count 104 = .ok (.aload_n 0, 1) := by decide +kernel
theorem dX11_count_105 : decode cX11_count 105 = .ok (.getfield 19, 3) := by decide +kernel
theorem dX11_count_108 : decode cX11_count 108 = .ok (.getfield 260, 3) := by decide +kernel
theorem dX11_count_111 : decode cX11_count 111 = .ok (.ireturn, 1) := by decide +kernel
theorem dX11_count_112 : decode cX11_count 112 = .ok (.aload_n 0, 1) := by decide +kernel
theorem dX11_count_113 : decode cX11_count 113 = .ok (.getfield 19, 3) := by decide +kernel
theorem dX11_count_116 : decode cX11_count 116 = .ok (.getfield 263, 3) := by decide +kernel
theorem dX11_count_119 : decode cX11_count 119 = .ok (.ifCond .eq 7, 3) := by decide +kernel
theorem dX11_count_122 : decode cX11_count 122 = .ok (.iconst 1, 1) := by decide +kernel
theorem dX11_count_123 : decode cX11_count 123 = .ok (.goto 4, 3) := by decide +kernel
theorem dX11_count_126 : decode cX11_count 126 = .ok (.iconst 0, 1) := by decide +kernel
theorem dX11_count_127 : decode cX11_count 127 = .ok (.ireturn, 1) := by decide +kernel
theorem dX11_count_128 : decode cX11_count 128 = .ok (.aload_n 0, 1) := by decide +kernel
theorem dX11_count_129 : decode cX11_count 129 = .ok (.getfield 19, 3) := by decide +kernel
theorem dX11_count_132 : decode cX11_count 132 = .ok (.getfield 249, 3) := by decide +kernel
theorem dX11_count_135 : decode cX11_count 135 = .ok (.ireturn, 1) := by decide +kernel
theorem dX11_count_136 : decode cX11_count 136 = .ok (.aload_n 0, 1) := by decide +kernel
theorem dX11_count_137 : decode cX11_count 137 = .ok (.getfield 19, 3) := by decide +kernel
theorem dX11_count_140 : decode cX11_count 140 = .ok (.getfield 113, 3) := by decide +kernel
theorem dX11_count_143 : decode cX11_count 143 = .ok (.ireturn, 1) := by decide +kernel
theorem dX11_count_144 : decode cX11_count 144 = .ok (.aload_n 0, 1) := by decide +kernel
theorem dX11_count_145 : decode cX11_count 145 = .ok (.getfield 19, 3) := by decide +kernel
theorem dX11_count_148 : decode cX11_count 148 = .ok (.getfield 188, 3) := by decide +kernel
theorem dX11_count_151 : decode cX11_count 151 = .ok (.ifCond .eq 7, 3) := by decide +kernel
theorem dX11_count_154 : decode cX11_count 154 = .ok (.iconst 1, 1) := by decide +kernel
theorem dX11_count_155 : decode cX11_count 155 = .ok (.goto 4, 3) := by decide +kernel
theorem dX11_count_158 : decode cX11_count 158 = .ok (.iconst 0, 1) := by decide +kernel
theorem dX11_count_159 : decode cX11_count 159 = .ok (.ireturn, 1) := by decide +kernel
theorem dX11_count_160 : decode cX11_count 160 = .ok (.aload_n 0, 1) := by decide +kernel
theorem dX11_count_161 : decode cX11_count 161 = .ok (.getfield 26, 3) := by decide +kernel
theorem dX11_count_164 : decode cX11_count 164 = .ok (.getfield 266, 3) := by decide +kernel
theorem dX11_count_167 : decode cX11_count 167 = .ok (.ireturn, 1) := by decide +kernel
theorem dX11_count_168 : decode cX11_count 168 = .ok (.aload_n 0, 1) := by decide +kernel
theorem dX11_count_169 : decode cX11_count 169 = .ok (.getfield 10, 3) := by decide +kernel
theorem dX11_count_172 : decode cX11_count 172 = .ok (.getfield 73, 3) := by decide +kernel
theorem dX11_count_175 : decode cX11_count 175 = .ok (.ireturn, 1) := by decide +kernel
theorem dX11_count_176 : decode cX11_count 176 = .ok (.aload_n 0, 1) := by decide +kernel
theorem dX11_count_177 : decode cX11_count 177 = .ok (.getfield 101, 3) := by decide +kernel
theorem dX11_count_180 : decode cX11_count 180 = .ok (.ireturn, 1) := by decide +kernel
theorem dX11_count_181 : decode cX11_count 181 = .ok (.aload_n 0, 1) := by decide +kernel
theorem dX11_count_182 : decode cX11_count 182 = .ok (.getfield 33, 3) := by decide +kernel
theorem dX11_count_185 : decode cX11_count 185 = .ok (.getfield 267, 3) := by decide +kernel
theorem dX11_count_188 : decode cX11_count 188 = .ok (.ireturn, 1) := by decide +kernel
theorem dX11_count_189 : decode cX11_count 189 = .ok (.bipush (-102), 2) := by decide +kernel
theorem dX11_count_191 : decode cX11_count 191 = .ok (.ireturn, 1) := by decide +kernel
theorem dX11_digest_0 : decode cX11_digest 0 = .ok (.ldc2_w 268, 3) := by decide +kernel
theorem dX11_digest_3 : decode cX11_digest 3 = .ok (.lstore_n 1, 1) := by decide +kernel
theorem dX11_digest_4 : decode cX11_digest 4 = .ok (.aload_n 0, 1) := by decide +kernel
theorem dX11_digest_5 : decode cX11_digest 5 = .ok (.getfield 19, 3) := by decide +kernel
theorem dX11_digest_8 : decode cX11_digest 8 = .ok (.invokevirtual 110, 3) := by decide +kernel
theorem dX11_digest_11 : decode cX11_digest 11 = .ok (.ifCond .eq 9, 3) := by decide +kernel
theorem dX11_digest_14 : decode cX11_digest 14 = .ok (.aload_n 0, 1) := by decide +kernel
theorem dX11_digest_15 : decode cX11_digest 15 = .ok (.lload_n 1, 1) := by decide +kernel
theorem dX11_digest_16 : decode cX11_digest 16 = .ok (.invokevirtual 270, 3) := by decide +kernel
theorem dX11_digest_19 : decode cX11_digest 19 = .ok (.lstore_n 1, 1) := by decide +kernel
theorem dX11_digest_20 : decode cX11_digest 20 = .ok (.aload_n 0, 1) := by decide +kernel
theorem dX11_digest_21 : decode cX11_digest 21 = .ok (.lload_n 1, 1) := by decide +kernel
theorem dX11_digest_22 : decode cX11_digest 22 = .ok (.invokevirtual 274, 3) := by decide +kernel
theorem dX11_digest_25 : decode cX11_digest 25 = .ok (.lstore_n 1, 1) := by decide +kernel
theorem dX11_digest_26 : decode cX11_digest 26 = .ok (.aload_n 0, 1) := by decide +kernel
theorem dX11_digest_27 : decode cX11_digest 27 = .ok (.getfield 19, 3) := by decide +kernel
theorem dX11_digest_30 : decode cX11_digest 30 = .ok (.invokevirtual 169, 3) := by decide +kernel
theorem dX11_digest_33 : decode cX11_digest 33 = .ok (.ifCond .eq 9, 3) := by decide +kernel
theorem dX11_digest_36 : decode cX11_digest 36 = .ok (.aload_n 0, 1) := by decide +kernel
theorem dX11_digest_37 : decode cX11_digest 37 = .ok (.lload_n 1, 1) := by decide +kernel
theorem dX11_digest_38 : decode cX11_digest 38 = .ok (.invokevirtual 277, 3) := by decide +kernel
theorem dX11_digest_41 : decode cX11_digest 41 = .ok (.lstore_n 1, 1) := by decide +kernel
theorem dX11_digest_42 : decode cX11_digest 42 = .ok (.iconst 0, 1) := by decide +kernel
theorem dX11_digest_43 : decode cX11_digest 43 = .ok (.istore_n 3, 1) := by decide +kernel
theorem dX11_digest_44 : decode cX11_digest 44 = .ok (.iload_n 3, 1) := by decide +kernel
theorem dX11_digest_45 : decode cX11_digest 45 = .ok (.iconst 2, 1) := by decide +kernel
theorem dX11_digest_46 : decode cX11_digest 46 = .ok (.if_icmp .gt 20, 3) := by decide +kernel
theorem dX11_digest_49 : decode cX11_digest 49 = .ok (.lload_n 1, 1) := by decide +kernel
theorem dX11_digest_50 : decode cX11_digest 50 = .ok (.aload_n 0, 1) := by decide +kernel
theorem dX11_digest_51 : decode cX11_digest 51 = .ok (.iload_n 3, 1) := by decide +kernel
theorem dX11_digest_52 : decode cX11_digest 52 = .ok (.invokevirtual 280, 3) := by decide +kernel
theorem dX11_digest_55 : decode cX11_digest 55 = .ok (.i2l, 1) := by decide +kernel
theorem dX11_digest_56 : decode cX11_digest 56 = .ok (.invokestatic 283, 3) := by decide +kernel
theorem dX11_digest_59 : decode cX11_digest 59 = .ok (.lstore_n 1, 1) := by decide +kernel
theorem dX11_digest_60 : decode cX11_digest 60 = .ok (.iinc 3 1, 3) := by decide +kernel
theorem dX11_digest_63 : decode cX11_digest 63 = .ok (.goto (-19), 3) := by decide +kernel
theorem dX11_digest_66 : decode cX11_digest 66 = .ok (.iconst 0, 1) := by decide +kernel
theorem dX11_digest_67 : decode cX11_digest 67 = .ok (.istore_n 3, 1) := by decide +kernel
theorem dX11_digest_68 : decode cX11_digest 68 = .ok (.iload_n 3, 1) := by decide +kernel
theorem dX11_digest_69 : decode cX11_digest 69 = .ok (.aload_n 0, 1) := by decide +kernel
theorem dX11_digest_70 : decode cX11_digest 70 = .ok (.getfield 10, 3) := by decide +kernel
theorem dX11_digest_73 : decode cX11_digest 73 = .ok (.getfield 73, 3) := by decide +kernel
theorem dX11_digest_76 : decode cX11_digest 76 = .ok (.if_icmp .ge 23, 3) := by decide +kernel
theorem dX11_digest_79 : decode cX11_digest 79 = .ok (.lload_n 1, 1) := by decide +kernel
theorem dX11_digest_80 : decode cX11_digest 80 = .ok (.aload_n 0, 1) := by decide +kernel
theorem dX11_digest_81 : decode cX11_digest 81 = .ok (.getfield 10, 3) := by decide +kernel
theorem dX11_digest_84 : decode cX11_digest 84 = .ok (.iload_n 3, 1) := by decide +kernel
theorem dX11_digest_85 : decode cX11_digest 85 = .ok (.invokevirtual 287, 3) := by decide +kernel
theorem dX11_digest_88 : decode cX11_digest 88 = .ok (.i2l, 1) := by decide +kernel
theorem dX11_digest_89 : decode cX11_digest 89 = .ok (.invokestatic 283, 3) := by decide +kernel
theorem dX11_digest_92 : decode cX11_digest 92 = .ok (.lstore_n 1, 1) := by decide +kernel
theorem dX11_digest_93 : decode cX11_digest 93 = .ok (.iinc 3 1, 3) := by decide +kernel
theorem dX11_digest_96 : decode cX11_digest 96 = .ok (.goto (-28), 3) := by decide +kernel
theorem dX11_digest_99 : decode cX11_digest 99 = .ok (.iconst 0, 1) := by decide +kernel
theorem dX11_digest_100 : decode cX11_digest 100 = .ok (.istore_n 3, 1) := by decide +kernel
theorem dX11_digest_101 : decode cX11_digest 101 = .ok (.iload_n 3, 1) := by decide +kernel
theorem dX11_digest_102 : decode cX11_digest 102 = .ok (.bipush 13, 2) := by decide +kernel
theorem dX11_digest_104 : decode cX11_digest 104 = .ok (.if_icmp .ge 20, 3) := by decide +kernel
theorem dX11_digest_107 : decode cX11_digest 107 = .ok (.lload_n 1, 1) := by decide +kernel
theorem dX11_digest_108 : decode cX11_digest 108 = .ok (.aload_n 0, 1) := by decide +kernel
theorem dX11_digest_109 : decode cX11_digest 109 = .ok (.iload_n 3, 1) := by decide +kernel
theorem dX11_digest_110 : decode cX11_digest 110 = .ok (.invokevirtual 289, 3) := by decide +kernel
theorem dX11_digest_113 : decode cX11_digest 113 = .ok (.i2l, 1) := by decide +kernel
theorem dX11_digest_114 : decode cX11_digest 114 = .ok (.invokestatic 283, 3) := by decide +kernel
theorem dX11_digest_117 : decode cX11_digest 117 = .ok (.lstore_n 1, 1) := by decide +kernel
theorem dX11_digest_118 : decode cX11_digest 118 = .ok (.iinc 3 1, 3) := by decide +kernel
theorem dX11_digest_121 : decode cX11_digest 121 = .ok (.goto (-20), 3) := by decide +kernel
theorem dX11_digest_124 : decode cX11_digest 124 = .ok (.lload_n 1, 1) := by decide +kernel
theorem dX11_digest_125 : decode cX11_digest 125 = .ok (.lreturn, 1) := by decide +kernel
theorem dX11_withCabins_0 : decode cX11_withCabins 0 = .ok (.lload_n 1, 1) := by decide +kernel
theorem dX11_withCabins_1 : decode cX11_withCabins 1 = .ok (.lstore_n 3, 1) := by decide +kernel
theorem dX11_withCabins_2 : decode cX11_withCabins 2 = .ok (.iconst 0, 1) := by decide +kernel
theorem dX11_withCabins_3 : decode cX11_withCabins 3 = .ok (.istore 5, 2) := by decide +kernel
theorem dX11_withCabins_5 : decode cX11_withCabins 5 = .ok (.iload 5, 2) := by decide +kernel
theorem dX11_withCabins_7 : decode cX11_withCabins 7 = .ok (.iconst 2, 1) := by decide +kernel
theorem dX11_withCabins_8 : decode cX11_withCabins 8 = .ok (.if_icmp .ge 38, 3) := by decide +kernel
theorem dX11_withCabins_11 : decode cX11_withCabins 11 = .ok (.iconst 0, 1) := by decide +kernel
theorem dX11_withCabins_12 : decode cX11_withCabins 12 = .ok (.istore 6, 2) := by decide +kernel
theorem dX11_withCabins_14 : decode cX11_withCabins 14 = .ok (.iload 6, 2) := by decide +kernel
theorem dX11_withCabins_16 : decode cX11_withCabins 16 = .ok (.iconst 3, 1) := by decide +kernel
theorem dX11_withCabins_17 : decode cX11_withCabins 17 = .ok (.if_icmp .gt 23, 3) := by decide +kernel
theorem dX11_withCabins_20 : decode cX11_withCabins 20 = .ok (.lload_n 3, 1) := by decide +kernel
theorem dX11_withCabins_21 : decode cX11_withCabins 21 = .ok (.aload_n 0, 1) := by decide +kernel
theorem dX11_withCabins_22 : decode cX11_withCabins 22 = .ok (.iload 5, 2) := by decide +kernel
theorem dX11_withCabins_24 : decode cX11_withCabins 24 = .ok (.iload 6, 2) := by decide +kernel
theorem dX11_withCabins_26 : decode cX11_withCabins 26 = .ok (.invokevirtual 292, 3) := by decide +kernel
theorem dX11_withCabins_29 : decode cX11_withCabins 29 = .ok (.i2l, 1) := by decide +kernel
theorem dX11_withCabins_30 : decode cX11_withCabins 30 = .ok (.invokestatic 283, 3) := by decide +kernel
theorem dX11_withCabins_33 : decode cX11_withCabins 33 = .ok (.lstore_n 3, 1) := by decide +kernel
theorem dX11_withCabins_34 : decode cX11_withCabins 34 = .ok (.iinc 6 1, 3) := by decide +kernel
theorem dX11_withCabins_37 : decode cX11_withCabins 37 = .ok (.goto (-23), 3) := by decide +kernel
theorem dX11_withCabins_40 : decode cX11_withCabins 40 = .ok (.iinc 5 1, 3) := by decide +kernel
theorem dX11_withCabins_43 : decode cX11_withCabins 43 = .ok (.goto (-38), 3) := by decide +kernel
theorem dX11_withCabins_46 : decode cX11_withCabins 46 = .ok (.lload_n 3, 1) := by decide +kernel
theorem dX11_withCabins_47 : decode cX11_withCabins 47 = .ok (.lreturn, 1) := by decide +kernel
theorem dX11_withThings_0 : decode cX11_withThings 0 = .ok (.lload_n 1, 1) := by decide +kernel
theorem dX11_withThings_1 : decode cX11_withThings 1 = .ok (.lstore_n 3, 1) := by decide +kernel
theorem dX11_withThings_2 : decode cX11_withThings 2 = .ok (.iconst 0, 1) := by decide +kernel
theorem dX11_withThings_3 : decode cX11_withThings 3 = .ok (.istore 5, 2) := by decide +kernel
theorem dX11_withThings_5 : decode cX11_withThings 5 = .ok (.iload 5, 2) := by decide +kernel
theorem dX11_withThings_7 : decode cX11_withThings 7 = .ok (.aload_n 0, 1) := by decide +kernel
theorem dX11_withThings_8 : decode cX11_withThings 8 = .ok (.getfield 26, 3) := by decide +kernel
theorem dX11_withThings_11 : decode cX11_withThings 11 = .ok (.getfield 266, 3) := by decide +kernel
theorem dX11_withThings_14 : decode cX11_withThings 14 = .ok (.if_icmp .ge 38, 3) := by decide +kernel
theorem dX11_withThings_17 : decode cX11_withThings 17 = .ok (.iconst 0, 1) := by decide +kernel
theorem dX11_withThings_18 : decode cX11_withThings 18 = .ok (.istore 6, 2) := by decide +kernel
theorem dX11_withThings_20 : decode cX11_withThings 20 = .ok (.iload 6, 2) := by decide +kernel
theorem dX11_withThings_22 : decode cX11_withThings 22 = .ok (.iconst 4, 1) := by decide +kernel
theorem dX11_withThings_23 : decode cX11_withThings 23 = .ok (.if_icmp .gt 23, 3) := by decide +kernel
theorem dX11_withThings_26 : decode cX11_withThings 26 = .ok (.lload_n 3, 1) := by decide +kernel
theorem dX11_withThings_27 : decode cX11_withThings 27 = .ok (.aload_n 0, 1) := by decide +kernel
theorem dX11_withThings_28 : decode cX11_withThings 28 = .ok (.iload 5, 2) := by decide +kernel
theorem dX11_withThings_30 : decode cX11_withThings 30 = .ok (.iload 6, 2) := by decide +kernel
theorem dX11_withThings_32 : decode cX11_withThings 32 = .ok (.invokevirtual 295, 3) := by decide +kernel
theorem dX11_withThings_35 : decode cX11_withThings 35 = .ok (.i2l, 1) := by decide +kernel
theorem dX11_withThings_36 : decode cX11_withThings 36 = .ok (.invokestatic 283, 3) := by decide +kernel
theorem dX11_withThings_39 : decode cX11_withThings 39 = .ok (.lstore_n 3, 1) := by decide +kernel
theorem dX11_withThings_40 : decode cX11_withThings 40 = .ok (.iinc 6 1, 3) := by decide +kernel
theorem dX11_withThings_43 : decode cX11_withThings 43 = .ok (.goto (-23), 3) := by decide +kernel
theorem dX11_withThings_46 : decode cX11_withThings 46 = .ok (.iinc 5 1, 3) := by decide +kernel
theorem dX11_withThings_49 : decode cX11_withThings 49 = .ok (.goto (-44), 3) := by decide +kernel
theorem dX11_withThings_52 : decode cX11_withThings 52 = .ok (.lload_n 3, 1) := by decide +kernel
theorem dX11_withThings_53 : decode cX11_withThings 53 = .ok (.lreturn, 1) := by decide +kernel
theorem dX11_withOutlook_0 : decode cX11_withOutlook 0 = .ok (.lload_n 1, 1) := by decide +kernel
theorem dX11_withOutlook_1 : decode cX11_withOutlook 1 = .ok (.lstore_n 3, 1) := by decide +kernel
theorem dX11_withOutlook_2 : decode cX11_withOutlook 2 = .ok (.iconst 0, 1) := by decide +kernel
theorem dX11_withOutlook_3 : decode cX11_withOutlook 3 = .ok (.istore 5, 2) := by decide +kernel
theorem dX11_withOutlook_5 : decode cX11_withOutlook 5 = .ok (.iload 5, 2) := by decide +kernel
theorem dX11_withOutlook_7 : decode cX11_withOutlook 7 = .ok (.iconst 1, 1) := by decide +kernel
theorem dX11_withOutlook_8 : decode cX11_withOutlook 8 = .ok (.if_icmp .gt 21, 3) := by decide +kernel
theorem dX11_withOutlook_11 : decode cX11_withOutlook 11 = .ok (.lload_n 3, 1) := by decide +kernel
theorem dX11_withOutlook_12 : decode cX11_withOutlook 12 = .ok (.aload_n 0, 1) := by decide +kernel
theorem dX11_withOutlook_13 : decode cX11_withOutlook 13 = .ok (.iload 5, 2) := by decide +kernel
theorem dX11_withOutlook_15 : decode cX11_withOutlook 15 = .ok (.invokevirtual 298, 3) := by decide +kernel
theorem dX11_withOutlook_18 : decode cX11_withOutlook 18 = .ok (.i2l, 1) := by decide +kernel
theorem dX11_withOutlook_19 : decode cX11_withOutlook 19 = .ok (.invokestatic 283, 3) := by decide +kernel
theorem dX11_withOutlook_22 : decode cX11_withOutlook 22 = .ok (.lstore_n 3, 1) := by decide +kernel
theorem dX11_withOutlook_23 : decode cX11_withOutlook 23 = .ok (.iinc 5 1, 3) := by decide +kernel
theorem dX11_withOutlook_26 : decode cX11_withOutlook 26 = .ok (.goto (-21), 3) := by decide +kernel
theorem dX11_withOutlook_29 : decode cX11_withOutlook 29 = .ok (.iconst 0, 1) := by decide +kernel
theorem dX11_withOutlook_30 : decode cX11_withOutlook 30 = .ok (.istore 5, 2) := by decide +kernel
theorem dX11_withOutlook_32 : decode cX11_withOutlook 32 = .ok (.iload 5, 2) := by decide +kernel
theorem dX11_withOutlook_34 : decode cX11_withOutlook 34 = .ok (.iconst 1, 1) := by decide +kernel
theorem dX11_withOutlook_35 : decode cX11_withOutlook 35 = .ok (.if_icmp .gt 23, 3) := by decide +kernel
theorem dX11_withOutlook_38 : decode cX11_withOutlook 38 = .ok (.lload_n 3, 1) := by decide +kernel
theorem dX11_withOutlook_39 : decode cX11_withOutlook 39 = .ok (.aload_n 0, 1) := by decide +kernel
theorem dX11_withOutlook_40 : decode cX11_withOutlook 40 = .ok (.bipush 100, 2) := by decide +kernel
theorem dX11_withOutlook_42 : decode cX11_withOutlook 42 = .ok (.iload 5, 2) := by decide +kernel
theorem dX11_withOutlook_44 : decode cX11_withOutlook 44 = .ok (.invokevirtual 301, 3) := by decide +kernel
theorem dX11_withOutlook_47 : decode cX11_withOutlook 47 = .ok (.i2l, 1) := by decide +kernel
theorem dX11_withOutlook_48 : decode cX11_withOutlook 48 = .ok (.invokestatic 283, 3) := by decide +kernel
theorem dX11_withOutlook_51 : decode cX11_withOutlook 51 = .ok (.lstore_n 3, 1) := by decide +kernel
theorem dX11_withOutlook_52 : decode cX11_withOutlook 52 = .ok (.iinc 5 1, 3) := by decide +kernel
theorem dX11_withOutlook_55 : decode cX11_withOutlook 55 = .ok (.goto (-23), 3) := by decide +kernel
theorem dX11_withOutlook_58 : decode cX11_withOutlook 58 = .ok (.iconst 0, 1) := by decide +kernel
theorem dX11_withOutlook_59 : decode cX11_withOutlook 59 = .ok (.istore 5, 2) := by decide +kernel
theorem dX11_withOutlook_61 : decode cX11_withOutlook 61 = .ok (.iload 5, 2) := by decide +kernel
theorem dX11_withOutlook_63 : decode cX11_withOutlook 63 = .ok (.iconst 1, 1) := by decide +kernel
theorem dX11_withOutlook_64 : decode cX11_withOutlook 64 = .ok (.if_icmp .gt 21, 3) := by decide +kernel
theorem dX11_withOutlook_67 : decode cX11_withOutlook 67 = .ok (.lload_n 3, 1) := by decide +kernel
theorem dX11_withOutlook_68 : decode cX11_withOutlook 68 = .ok (.aload_n 0, 1) := by decide +kernel
theorem dX11_withOutlook_69 : decode cX11_withOutlook 69 = .ok (.iconst 2, 1) := by decide +kernel
theorem dX11_withOutlook_70 : decode cX11_withOutlook 70 = .ok (.iload 5, 2) := by decide +kernel
theorem dX11_withOutlook_72 : decode cX11_withOutlook 72 = .ok (.invokevirtual 304, 3) := by decide +kernel
theorem dX11_withOutlook_75 : decode cX11_withOutlook 75 = .ok (.invokestatic 283, 3) := by decide +kernel
theorem dX11_withOutlook_78 : decode cX11_withOutlook 78 = .ok (.lstore_n 3, 1) := by decide +kernel
theorem dX11_withOutlook_79 : decode cX11_withOutlook 79 = .ok (.iinc 5 1, 3) := by decide +kernel
theorem dX11_withOutlook_82 : decode cX11_withOutlook 82 = .ok (.goto (-21), 3) := by decide +kernel
theorem dX11_withOutlook_85 : decode cX11_withOutlook 85 = .ok (.lload_n 3, 1) := by decide +kernel
theorem dX11_withOutlook_86 : decode cX11_withOutlook 86 = .ok (.lreturn, 1) := by decide +kernel
theorem dX11_tryHours_0 : decode cX11_tryHours 0 = .ok (.aload_n 0, 1) := by decide +kernel
theorem dX11_tryHours_1 : decode cX11_tryHours 1 = .ok (.getfield 51, 3) := by decide +kernel
theorem dX11_tryHours_4 : decode cX11_tryHours 4 = .ok (.aload_n 0, 1) := by decide +kernel
theorem dX11_tryHours_5 : decode cX11_tryHours 5 = .ok (.getfield 19, 3) := by decide +kernel
theorem dX11_tryHours_8 : decode cX11_tryHours 8 = .ok (.invokevirtual 250, 3) := by decide +kernel
theorem dX11_tryHours_11 : decode cX11_tryHours 11 = .ok (.iload_n 2, 1) := by decide +kernel
theorem dX11_tryHours_12 : decode cX11_tryHours 12 = .ok (.istore_n 3, 1) := by decide +kernel
theorem dX11_tryHours_13 : decode cX11_tryHours 13 = .ok (.iconst 0, 1) := by decide +kernel
theorem dX11_tryHours_14 : decode cX11_tryHours 14 = .ok (.istore 4, 2) := by decide +kernel
theorem dX11_tryHours_16 : decode cX11_tryHours 16 = .ok (.iload 4, 2) := by decide +kernel
theorem dX11_tryHours_18 : decode cX11_tryHours 18 = .ok (.iload_n 1, 1) := by decide +kernel
theorem dX11_tryHours_19 : decode cX11_tryHours 19 = .ok (.if_icmp .ge 70, 3) := by decide +kernel
theorem dX11_tryHours_22 : decode cX11_tryHours 22 = .ok (.aload_n 0, 1) := by decide +kernel
theorem dX11_tryHours_23 : decode cX11_tryHours 23 = .ok (.getfield 51, 3) := by decide +kernel
theorem dX11_tryHours_26 : decode cX11_tryHours 26 = .ok (.getfield 188, 3) := by decide +kernel
theorem dX11_tryHours_29 : decode cX11_tryHours 29 = .ok (.ifCond .ne 60, 3) := by decide +kernel
theorem dX11_tryHours_32 : decode cX11_tryHours 32 = .ok (.iload_n 3, 1) := by decide +kernel
theorem dX11_tryHours_33 : decode cX11_tryHours 33 = .ok (.invokestatic 307, 3) := by decide +kernel
theorem dX11_tryHours_36 : decode cX11_tryHours 36 = .ok (.istore_n 3, 1) := by decide +kernel
theorem dX11_tryHours_37 : decode cX11_tryHours 37 = .ok (.iload_n 3, 1) := by decide +kernel
theorem dX11_tryHours_38 : decode cX11_tryHours 38 = .ok (.ldc_w 310, 3) := by decide +kernel
theorem dX11_tryHours_41 : decode cX11_tryHours 41 = .ok (.idiv, 1) := by decide +kernel
theorem dX11_tryHours_42 : decode cX11_tryHours 42 = .ok (.bipush 7, 2) := by decide +kernel
theorem dX11_tryHours_44 : decode cX11_tryHours 44 = .ok (.irem, 1) := by decide +kernel
theorem dX11_tryHours_45 : decode cX11_tryHours 45 = .ok (.invokestatic 311, 3) := by decide +kernel
theorem dX11_tryHours_48 : decode cX11_tryHours 48 = .ok (.istore 5, 2) := by decide +kernel
theorem dX11_tryHours_50 : decode cX11_tryHours 50 = .ok (.aload_n 0, 1) := by decide +kernel
theorem dX11_tryHours_51 : decode cX11_tryHours 51 = .ok (.getfield 51, 3) := by decide +kernel
theorem dX11_tryHours_54 : decode cX11_tryHours 54 = .ok (.aload_n 0, 1) := by decide +kernel
theorem dX11_tryHours_55 : decode cX11_tryHours 55 = .ok (.getfield 51, 3) := by decide +kernel
theorem dX11_tryHours_58 : decode cX11_tryHours 58 = .ok (.getfield 178, 3) := by decide +kernel
theorem dX11_tryHours_61 : decode cX11_tryHours 61 = .ok (.iload 5, 2) := by decide +kernel
theorem dX11_tryHours_63 : decode cX11_tryHours 63 = .ok (.isub, 1) := by decide +kernel
theorem dX11_tryHours_64 : decode cX11_tryHours 64 = .ok (.invokestatic 181, 3) := by decide +kernel
theorem dX11_tryHours_67 : decode cX11_tryHours 67 = .ok (.ifCond .eq 8, 3) := by decide +kernel
theorem dX11_tryHours_70 : decode cX11_tryHours 70 = .ok (.iload 5, 2) := by decide +kernel
theorem dX11_tryHours_72 : decode cX11_tryHours 72 = .ok (.goto 4, 3) := by decide +kernel
theorem dX11_tryHours_75 : decode cX11_tryHours 75 = .ok (.iconst 0, 1) := by decide +kernel
theorem dX11_tryHours_76 : decode cX11_tryHours 76 = .ok (.aload_n 0, 1) := by decide +kernel
theorem dX11_tryHours_77 : decode cX11_tryHours 77 = .ok (.getfield 26, 3) := by decide +kernel
theorem dX11_tryHours_80 : decode cX11_tryHours 80 = .ok (.invokevirtual 184, 3) := by decide +kernel
theorem dX11_tryHours_83 : decode cX11_tryHours 83 = .ok (.iinc 4 1, 3) := by decide +kernel
theorem dX11_tryHours_86 : decode cX11_tryHours 86 = .ok (.goto (-70), 3) := by decide +kernel
theorem dX11_tryHours_89 : decode cX11_tryHours 89 = .ok (.iload_n 3, 1) := by decide +kernel
theorem dX11_tryHours_90 : decode cX11_tryHours 90 = .ok (.ireturn, 1) := by decide +kernel
theorem dX11_nextSeed_0 : decode cX11_nextSeed 0 = .ok (.ldc2_w 314, 3) := by decide +kernel
theorem dX11_nextSeed_3 : decode cX11_nextSeed 3 = .ok (.iload_n 0, 1) := by decide +kernel
theorem dX11_nextSeed_4 : decode cX11_nextSeed 4 = .ok (.i2l, 1) := by decide +kernel
theorem dX11_nextSeed_5 : decode cX11_nextSeed 5 = .ok (.lmul, 1) := by decide +kernel
theorem dX11_nextSeed_6 : decode cX11_nextSeed 6 = .ok (.ldc2_w 316, 3) := by decide +kernel
theorem dX11_nextSeed_9 : decode cX11_nextSeed 9 = .ok (.ladd, 1) := by decide +kernel
theorem dX11_nextSeed_10 : decode cX11_nextSeed 10 = .ok (.ldc2_w 318, 3) := by decide +kernel
theorem dX11_nextSeed_13 : decode cX11_nextSeed 13 = .ok (.lrem, 1) := by decide +kernel
theorem dX11_nextSeed_14 : decode cX11_nextSeed 14 = .ok (.l2i, 1) := by decide +kernel
theorem dX11_nextSeed_15 : decode cX11_nextSeed 15 = .ok (.ireturn, 1) := by decide +kernel
theorem dX11_mixed_0 : decode cX11_mixed 0 = .ok (.ldc2_w 320, 3) := by decide +kernel
theorem dX11_mixed_3 : decode cX11_mixed 3 = .ok (.lload_n 0, 1) := by decide +kernel
theorem dX11_mixed_4 : decode cX11_mixed 4 = .ok (.lmul, 1) := by decide +kernel
theorem dX11_mixed_5 : decode cX11_mixed 5 = .ok (.lload_n 2, 1) := by decide +kernel
theorem dX11_mixed_6 : decode cX11_mixed 6 = .ok (.ladd, 1) := by decide +kernel
theorem dX11_mixed_7 : decode cX11_mixed 7 = .ok (.lreturn, 1) := by decide +kernel
theorem dX11_byteOf_0 : decode cX11_byteOf 0 = .ok (.lload_n 0, 1) := by decide +kernel
theorem dX11_byteOf_1 : decode cX11_byteOf 1 = .ok (.bipush 8, 2) := by decide +kernel
theorem dX11_byteOf_3 : decode cX11_byteOf 3 = .ok (.iload_n 2, 1) := by decide +kernel
theorem dX11_byteOf_4 : decode cX11_byteOf 4 = .ok (.imul, 1) := by decide +kernel
theorem dX11_byteOf_5 : decode cX11_byteOf 5 = .ok (.lushr, 1) := by decide +kernel
theorem dX11_byteOf_6 : decode cX11_byteOf 6 = .ok (.l2i, 1) := by decide +kernel
theorem dX11_byteOf_7 : decode cX11_byteOf 7 = .ok (.sipush 255, 3) := by decide +kernel
theorem dX11_byteOf_10 : decode cX11_byteOf 10 = .ok (.iand, 1) := by decide +kernel
theorem dX11_byteOf_11 : decode cX11_byteOf 11 = .ok (.ireturn, 1) := by decide +kernel
theorem dX11_lettersIn_0 : decode cX11_lettersIn 0 = .ok (.iconst 0, 1) := by decide +kernel
theorem dX11_lettersIn_1 : decode cX11_lettersIn 1 = .ok (.istore_n 2, 1) := by decide +kernel
theorem dX11_lettersIn_2 : decode cX11_lettersIn 2 = .ok (.iconst 0, 1) := by decide +kernel
theorem dX11_lettersIn_3 : decode cX11_lettersIn 3 = .ok (.istore_n 3, 1) := by decide +kernel
theorem dX11_lettersIn_4 : decode cX11_lettersIn 4 = .ok (.iconst 0, 1) := by decide +kernel
theorem dX11_lettersIn_5 : decode cX11_lettersIn 5 = .ok (.istore 4, 2) := by decide +kernel
theorem dX11_lettersIn_7 : decode cX11_lettersIn 7 = .ok (.iload 4, 2) := by decide +kernel
theorem dX11_lettersIn_9 : decode cX11_lettersIn 9 = .ok (.bipush 8, 2) := by decide +kernel
theorem dX11_lettersIn_11 : decode cX11_lettersIn 11 = .ok (.if_icmp .ge 48, 3) := by decide +kernel
theorem dX11_lettersIn_14 : decode cX11_lettersIn 14 = .ok (.lload_n 0, 1) := by decide +kernel
theorem dX11_lettersIn_15 : decode cX11_lettersIn 15 = .ok (.iload 4, 2) := by decide +kernel
theorem dX11_lettersIn_17 : decode cX11_lettersIn 17 = .ok (.invokestatic 65, 3) := by decide +kernel
theorem dX11_lettersIn_20 : decode cX11_lettersIn 20 = .ok (.istore 5, 2) := by decide +kernel
theorem dX11_lettersIn_22 : decode cX11_lettersIn 22 = .ok (.iload 5, 2) := by decide +kernel
theorem dX11_lettersIn_24 : decode cX11_lettersIn 24 = .ok (.bipush 126, 2) := by decide +kernel
theorem dX11_lettersIn_26 : decode cX11_lettersIn 26 = .ok (.if_icmp .gt 12, 3) := by decide +kernel
theorem dX11_lettersIn_29 : decode cX11_lettersIn 29 = .ok (.iload_n 3, 1) := by decide +kernel
theorem dX11_lettersIn_30 : decode cX11_lettersIn 30 = .ok (.ifCond .eq 10, 3) := by decide +kernel
theorem dX11_lettersIn_33 : decode cX11_lettersIn 33 = .ok (.iload 5, 2) := by decide +kernel
theorem dX11_lettersIn_35 : decode cX11_lettersIn 35 = .ok (.ifCond .eq 5, 3) := by decide +kernel
theorem dX11_lettersIn_38 : decode cX11_lettersIn 38 = .ok (.iconst (-1), 1) := by decide +kernel
theorem dX11_lettersIn_39 : decode cX11_lettersIn 39 = .ok (.ireturn, 1) := by decide +kernel
theorem dX11_lettersIn_40 : decode cX11_lettersIn 40 = .ok (.iload 5, 2) := by decide +kernel
theorem dX11_lettersIn_42 : decode cX11_lettersIn 42 = .ok (.ifCond .ne 8, 3) := by decide +kernel
theorem dX11_lettersIn_45 : decode cX11_lettersIn 45 = .ok (.iconst 1, 1) := by decide +kernel
theorem dX11_lettersIn_46 : decode cX11_lettersIn 46 = .ok (.istore_n 3, 1) := by decide +kernel
theorem dX11_lettersIn_47 : decode cX11_lettersIn 47 = .ok (.goto 6, 3) := by decide +kernel
theorem dX11_lettersIn_50 : decode cX11_lettersIn 50 = .ok (.iinc 2 1, 3) := by decide +kernel
theorem dX11_lettersIn_53 : decode cX11_lettersIn 53 = .ok (.iinc 4 1, 3) := by decide +kernel
theorem dX11_lettersIn_56 : decode cX11_lettersIn 56 = .ok (.goto (-49), 3) := by decide +kernel
theorem dX11_lettersIn_59 : decode cX11_lettersIn 59 = .ok (.iload_n 2, 1) := by decide +kernel
theorem dX11_lettersIn_60 : decode cX11_lettersIn 60 = .ok (.ireturn, 1) := by decide +kernel
theorem dX11_isCabin_0 : decode cX11_isCabin 0 = .ok (.iload_n 0, 1) := by decide +kernel
theorem dX11_isCabin_1 : decode cX11_isCabin 1 = .ok (.ifCond .lt 12, 3) := by decide +kernel
theorem dX11_isCabin_4 : decode cX11_isCabin 4 = .ok (.iload_n 0, 1) := by decide +kernel
theorem dX11_isCabin_5 : decode cX11_isCabin 5 = .ok (.iconst 2, 1) := by decide +kernel
theorem dX11_isCabin_6 : decode cX11_isCabin 6 = .ok (.if_icmp .ge 7, 3) := by decide +kernel
theorem dX11_isCabin_9 : decode cX11_isCabin 9 = .ok (.iconst 1, 1) := by decide +kernel
theorem dX11_isCabin_10 : decode cX11_isCabin 10 = .ok (.goto 4, 3) := by decide +kernel
theorem dX11_isCabin_13 : decode cX11_isCabin 13 = .ok (.iconst 0, 1) := by decide +kernel
theorem dX11_isCabin_14 : decode cX11_isCabin 14 = .ok (.ireturn, 1) := by decide +kernel
theorem dX11_isKind_0 : decode cX11_isKind 0 = .ok (.iload_n 0, 1) := by decide +kernel
theorem dX11_isKind_1 : decode cX11_isKind 1 = .ok (.ifCond .lt 12, 3) := by decide +kernel
theorem dX11_isKind_4 : decode cX11_isKind 4 = .ok (.iload_n 0, 1) := by decide +kernel
theorem dX11_isKind_5 : decode cX11_isKind 5 = .ok (.iconst 4, 1) := by decide +kernel
theorem dX11_isKind_6 : decode cX11_isKind 6 = .ok (.if_icmp .gt 7, 3) := by decide +kernel
theorem dX11_isKind_9 : decode cX11_isKind 9 = .ok (.iconst 1, 1) := by decide +kernel
theorem dX11_isKind_10 : decode cX11_isKind 10 = .ok (.goto 4, 3) := by decide +kernel
theorem dX11_isKind_13 : decode cX11_isKind 13 = .ok (.iconst 0, 1) := by decide +kernel
theorem dX11_isKind_14 : decode cX11_isKind 14 = .ok (.ireturn, 1) := by decide +kernel
theorem dX11_isLength_0 : decode cX11_isLength 0 = .ok (.iload_n 0, 1) := by decide +kernel
theorem dX11_isLength_1 : decode cX11_isLength 1 = .ok (.bipush 10, 2) := by decide +kernel
theorem dX11_isLength_3 : decode cX11_isLength 3 = .ok (.if_icmp .lt 13, 3) := by decide +kernel
theorem dX11_isLength_6 : decode cX11_isLength 6 = .ok (.iload_n 0, 1) := by decide +kernel
theorem dX11_isLength_7 : decode cX11_isLength 7 = .ok (.bipush 40, 2) := by decide +kernel
theorem dX11_isLength_9 : decode cX11_isLength 9 = .ok (.if_icmp .gt 7, 3) := by decide +kernel
theorem dX11_isLength_12 : decode cX11_isLength 12 = .ok (.iconst 1, 1) := by decide +kernel
theorem dX11_isLength_13 : decode cX11_isLength 13 = .ok (.goto 4, 3) := by decide +kernel
theorem dX11_isLength_16 : decode cX11_isLength 16 = .ok (.iconst 0, 1) := by decide +kernel
theorem dX11_isLength_17 : decode cX11_isLength 17 = .ok (.ireturn, 1) := by decide +kernel
theorem dX11_apartOnCircle_0 : decode cX11_apartOnCircle 0 = .ok (.iload_n 0, 1) := by decide +kernel
theorem dX11_apartOnCircle_1 : decode cX11_apartOnCircle 1 = .ok (.iload_n 1, 1) := by decide +kernel
theorem dX11_apartOnCircle_2 : decode cX11_apartOnCircle 2 = .ok (.isub, 1) := by decide +kernel
theorem dX11_apartOnCircle_3 : decode cX11_apartOnCircle 3 = .ok (.sipush 360, 3) := by decide +kernel
theorem dX11_apartOnCircle_6 : decode cX11_apartOnCircle 6 = .ok (.invokestatic 208, 3) := by decide +kernel
theorem dX11_apartOnCircle_9 : decode cX11_apartOnCircle 9 = .ok (.istore_n 2, 1) := by decide +kernel
theorem dX11_apartOnCircle_10 : decode cX11_apartOnCircle 10 = .ok (.iload_n 2, 1) := by decide +kernel
theorem dX11_apartOnCircle_11 : decode cX11_apartOnCircle 11 = .ok (.sipush 360, 3) := by decide +kernel
theorem dX11_apartOnCircle_14 : decode cX11_apartOnCircle 14 = .ok (.iload_n 2, 1) := by decide +kernel
theorem dX11_apartOnCircle_15 : decode cX11_apartOnCircle 15 = .ok (.isub, 1) := by decide +kernel
theorem dX11_apartOnCircle_16 : decode cX11_apartOnCircle 16 = .ok (.invokestatic 322, 3) := by decide +kernel
theorem dX11_apartOnCircle_19 : decode cX11_apartOnCircle 19 = .ok (.ireturn, 1) := by decide +kernel
theorem dX11_windingOf_0 : decode cX11_windingOf 0 = .ok (.iload_n 0, 1) := by decide +kernel
theorem dX11_windingOf_1 : decode cX11_windingOf 1 = .ok (.iconst 3, 1) := by decide +kernel
theorem dX11_windingOf_2 : decode cX11_windingOf 2 = .ok (.if_icmp .gt 7, 3) := by decide +kernel
theorem dX11_windingOf_5 : decode cX11_windingOf 5 = .ok (.iload_n 0, 1) := by decide +kernel
theorem dX11_windingOf_6 : decode cX11_windingOf 6 = .ok (.goto 6, 3) := by decide +kernel
theorem dX11_windingOf_9 : decode cX11_windingOf 9 = .ok (.iconst 3, 1) := by decide +kernel
theorem dX11_windingOf_10 : decode cX11_windingOf 10 = .ok (.iload_n 0, 1) := by decide +kernel
theorem dX11_windingOf_11 : decode cX11_windingOf 11 = .ok (.isub, 1) := by decide +kernel
theorem dX11_windingOf_12 : decode cX11_windingOf 12 = .ok (.ireturn, 1) := by decide +kernel
theorem dX11_reduced_0 : decode cX11_reduced 0 = .ok (.bipush 100, 2) := by decide +kernel
theorem dX11_reduced_2 : decode cX11_reduced 2 = .ok (.istore_n 2, 1) := by decide +kernel
theorem dX11_reduced_3 : decode cX11_reduced 3 = .ok (.iload_n 2, 1) := by decide +kernel
theorem dX11_reduced_4 : decode cX11_reduced 4 = .ok (.iconst 1, 1) := by decide +kernel
theorem dX11_reduced_5 : decode cX11_reduced 5 = .ok (.if_icmp .le 25, 3) := by decide +kernel
theorem dX11_reduced_8 : decode cX11_reduced 8 = .ok (.iload_n 0, 1) := by decide +kernel
theorem dX11_reduced_9 : decode cX11_reduced 9 = .ok (.iload_n 2, 1) := by decide +kernel
theorem dX11_reduced_10 : decode cX11_reduced 10 = .ok (.irem, 1) := by decide +kernel
theorem dX11_reduced_11 : decode cX11_reduced 11 = .ok (.ifCond .ne 13, 3) := by decide +kernel
theorem dX11_reduced_14 : decode cX11_reduced 14 = .ok (.iload_n 1, 1) := by decide +kernel
theorem dX11_reduced_15 : decode cX11_reduced 15 = .ok (.iload_n 2, 1) := by decide +kernel
theorem dX11_reduced_16 : decode cX11_reduced 16 = .ok (.irem, 1) := by decide +kernel
theorem dX11_reduced_17 : decode cX11_reduced 17 = .ok (.ifCond .ne 7, 3) := by decide +kernel
theorem dX11_reduced_20 : decode cX11_reduced 20 = .ok (.iload_n 0, 1) := by decide +kernel
theorem dX11_reduced_21 : decode cX11_reduced 21 = .ok (.iload_n 2, 1) := by decide +kernel
theorem dX11_reduced_22 : decode cX11_reduced 22 = .ok (.idiv, 1) := by decide +kernel
theorem dX11_reduced_23 : decode cX11_reduced 23 = .ok (.ireturn, 1) := by decide +kernel
theorem dX11_reduced_24 : decode cX11_reduced 24 = .ok (.iinc 2 (-1), 3) := by decide +kernel
theorem dX11_reduced_27 : decode cX11_reduced 27 = .ok (.goto (-24), 3) := by decide +kernel
theorem dX11_reduced_30 : decode cX11_reduced 30 = .ok (.iload_n 0, 1) := by decide +kernel
theorem dX11_reduced_31 : decode cX11_reduced 31 = .ok (.ireturn, 1) := by decide +kernel
theorem dX11_power_0 : decode cX11_power 0 = .ok (.lconst 1, 1) := by decide +kernel
theorem dX11_power_1 : decode cX11_power 1 = .ok (.lstore_n 2, 1) := by decide +kernel
theorem dX11_power_2 : decode cX11_power 2 = .ok (.iconst 0, 1) := by decide +kernel
theorem dX11_power_3 : decode cX11_power 3 = .ok (.istore 4, 2) := by decide +kernel
theorem dX11_power_5 : decode cX11_power 5 = .ok (.iload 4, 2) := by decide +kernel
theorem dX11_power_7 : decode cX11_power 7 = .ok (.iload_n 1, 1) := by decide +kernel
theorem dX11_power_8 : decode cX11_power 8 = .ok (.if_icmp .ge 14, 3) := by decide +kernel
theorem dX11_power_11 : decode cX11_power 11 = .ok (.lload_n 2, 1) := by decide +kernel
theorem dX11_power_12 : decode cX11_power 12 = .ok (.iload_n 0, 1) := by decide +kernel
theorem dX11_power_13 : decode cX11_power 13 = .ok (.i2l, 1) := by decide +kernel
theorem dX11_power_14 : decode cX11_power 14 = .ok (.lmul, 1) := by decide +kernel
theorem dX11_power_15 : decode cX11_power 15 = .ok (.lstore_n 2, 1) := by decide +kernel
theorem dX11_power_16 : decode cX11_power 16 = .ok (.iinc 4 1, 3) := by decide +kernel
theorem dX11_power_19 : decode cX11_power 19 = .ok (.goto (-14), 3) := by decide +kernel
theorem dX11_power_22 : decode cX11_power 22 = .ok (.lload_n 2, 1) := by decide +kernel
theorem dX11_power_23 : decode cX11_power 23 = .ok (.lreturn, 1) := by decide +kernel
theorem dX11_newThing_0 : decode cX11_newThing 0 = .ok (.iload_n 0, 1) := by decide +kernel
theorem dX11_newThing_1 : decode cX11_newThing 1 = .ok (.tableswitch 75 1 4 #[31, 42, 53, 64], 31) := by decide +kernel
theorem dX11_newThing_32 : decode cX11_newThing 32 = .ok (.new 325, 3) := by decide +kernel
theorem dX11_newThing_35 : decode cX11_newThing 35 = .ok (.dup, 1) := by decide +kernel
theorem dX11_newThing_36 : decode cX11_newThing 36 = .ok (.iload_n 1, 1) := by decide +kernel
theorem dX11_newThing_37 : decode cX11_newThing 37 = .ok (.iload_n 2, 1) := by decide +kernel
theorem dX11_newThing_38 : decode cX11_newThing 38 = .ok (.iload_n 3, 1) := by decide +kernel
theorem dX11_newThing_39 : decode cX11_newThing 39 = .ok (.invokespecial 327, 3) := by decide +kernel
theorem dX11_newThing_42 : decode cX11_newThing 42 = .ok (.areturn, 1) := by decide +kernel
theorem dX11_newThing_43 : decode cX11_newThing 43 = .ok (.new 330, 3) := by decide +kernel
theorem dX11_newThing_46 : decode cX11_newThing 46 = .ok (.dup, 1) := by decide +kernel
theorem dX11_newThing_47 : decode cX11_newThing 47 = .ok (.iload_n 1, 1) := by decide +kernel
theorem dX11_newThing_48 : decode cX11_newThing 48 = .ok (.iload_n 2, 1) := by decide +kernel
theorem dX11_newThing_49 : decode cX11_newThing 49 = .ok (.iload_n 3, 1) := by decide +kernel
theorem dX11_newThing_50 : decode cX11_newThing 50 = .ok (.invokespecial 332, 3) := by decide +kernel
theorem dX11_newThing_53 : decode cX11_newThing 53 = .ok (.areturn, 1) := by decide +kernel
theorem dX11_newThing_54 : decode cX11_newThing 54 = .ok (.new 333, 3) := by decide +kernel
theorem dX11_newThing_57 : decode cX11_newThing 57 = .ok (.dup, 1) := by decide +kernel
theorem dX11_newThing_58 : decode cX11_newThing 58 = .ok (.iload_n 1, 1) := by decide +kernel
theorem dX11_newThing_59 : decode cX11_newThing 59 = .ok (.iload_n 2, 1) := by decide +kernel
theorem dX11_newThing_60 : decode cX11_newThing 60 = .ok (.iload_n 3, 1) := by decide +kernel
theorem dX11_newThing_61 : decode cX11_newThing 61 = .ok (.invokespecial 335, 3) := by decide +kernel
theorem dX11_newThing_64 : decode cX11_newThing 64 = .ok (.areturn, 1) := by decide +kernel
theorem dX11_newThing_65 : decode cX11_newThing 65 = .ok (.new 336, 3) := by decide +kernel
theorem dX11_newThing_68 : decode cX11_newThing 68 = .ok (.dup, 1) := by decide +kernel
theorem dX11_newThing_69 : decode cX11_newThing 69 = .ok (.iload_n 1, 1) := by decide +kernel
theorem dX11_newThing_70 : decode cX11_newThing 70 = .ok (.iload_n 2, 1) := by decide +kernel
theorem dX11_newThing_71 : decode cX11_newThing 71 = .ok (.iload_n 3, 1) := by decide +kernel
theorem dX11_newThing_72 : decode cX11_newThing 72 = .ok (.invokespecial 338, 3) := by decide +kernel
theorem dX11_newThing_75 : decode cX11_newThing 75 = .ok (.areturn, 1) := by decide +kernel
theorem dX11_newThing_76 : decode cX11_newThing 76 = .ok (.new 149, 3) := by decide +kernel
theorem dX11_newThing_79 : decode cX11_newThing 79 = .ok (.dup, 1) := by decide +kernel
theorem dX11_newThing_80 : decode cX11_newThing 80 = .ok (.iload_n 1, 1) := by decide +kernel
theorem dX11_newThing_81 : decode cX11_newThing 81 = .ok (.iload_n 2, 1) := by decide +kernel
theorem dX11_newThing_82 : decode cX11_newThing 82 = .ok (.iload_n 3, 1) := by decide +kernel
theorem dX11_newThing_83 : decode cX11_newThing 83 = .ok (.invokespecial 339, 3) := by decide +kernel
theorem dX11_newThing_86 : decode cX11_newThing 86 = .ok (.areturn, 1) := by decide +kernel
theorem dX11_isOfKind_0 : decode cX11_isOfKind 0 = .ok (.iload_n 1, 1) := by decide +kernel
theorem dX11_isOfKind_1 : decode cX11_isOfKind 1 = .ok (.tableswitch 51 1 4 #[31, 36, 41, 46], 31) := by decide +kernel
theorem dX11_isOfKind_32 : decode cX11_isOfKind 32 = .ok (.aload_n 0, 1) := by decide +kernel
theorem dX11_isOfKind_33 : decode cX11_isOfKind 33 = .ok (.instanceof 325, 3) := by decide +kernel
theorem dX11_isOfKind_36 : decode cX11_isOfKind 36 = .ok (.ireturn, 1) := by decide +kernel
theorem dX11_isOfKind_37 : decode cX11_isOfKind 37 = .ok (.aload_n 0, 1) := by decide +kernel
theorem dX11_isOfKind_38 : decode cX11_isOfKind 38 = .ok (.instanceof 330, 3) := by decide +kernel
theorem dX11_isOfKind_41 : decode cX11_isOfKind 41 = .ok (.ireturn, 1) := by decide +kernel
theorem dX11_isOfKind_42 : decode cX11_isOfKind 42 = .ok (.aload_n 0, 1) := by decide +kernel
theorem dX11_isOfKind_43 : decode cX11_isOfKind 43 = .ok (.instanceof 333, 3) := by decide +kernel
theorem dX11_isOfKind_46 : decode cX11_isOfKind 46 = .ok (.ireturn, 1) := by decide +kernel
theorem dX11_isOfKind_47 : decode cX11_isOfKind 47 = .ok (.aload_n 0, 1) := by decide +kernel
theorem dX11_isOfKind_48 : decode cX11_isOfKind 48 = .ok (.instanceof 336, 3) := by decide +kernel
theorem dX11_isOfKind_51 : decode cX11_isOfKind 51 = .ok (.ireturn, 1) := by decide +kernel
theorem dX11_isOfKind_52 : decode cX11_isOfKind 52 = .ok (.iload_n 1, 1) := by decide +kernel
theorem dX11_isOfKind_53 : decode cX11_isOfKind 53 = .ok (.ifCond .ne 7, 3) := by decide +kernel
theorem dX11_isOfKind_56 : decode cX11_isOfKind 56 = .ok (.iconst 1, 1) := by decide +kernel
theorem dX11_isOfKind_57 : decode cX11_isOfKind 57 = .ok (.goto 4, 3) := by decide +kernel
theorem dX11_isOfKind_60 : decode cX11_isOfKind 60 = .ok (.iconst 0, 1) := by decide +kernel
theorem dX11_isOfKind_61 : decode cX11_isOfKind 61 = .ok (.ireturn, 1) := by decide +kernel
theorem dL_law_0 : decode cL_law 0 = .ok (.new 7, 3) := by decide +kernel
theorem dL_law_3 : decode cL_law 3 = .ok (.dup, 1) := by decide +kernel
theorem dL_law_4 : decode cL_law 4 = .ok (.invokespecial 9, 3) := by decide +kernel
theorem dL_law_7 : decode cL_law 7 = .ok (.astore_n 1, 1) := by decide +kernel
theorem dL_law_8 : decode cL_law 8 = .ok (.new 10, 3) := by decide +kernel
theorem dL_law_11 : decode cL_law 11 = .ok (.dup, 1) := by decide +kernel
theorem dL_law_12 : decode cL_law 12 = .ok (.invokespecial 12, 3) := by decide +kernel
theorem dL_law_15 : decode cL_law 15 = .ok (.astore_n 2, 1) := by decide +kernel
theorem dL_law_16 : decode cL_law 16 = .ok (.iconst 0, 1) := by decide +kernel
theorem dL_law_17 : decode cL_law 17 = .ok (.istore_n 3, 1) := by decide +kernel
theorem dL_law_18 : decode cL_law 18 = .ok (.iload_n 3, 1) := by decide +kernel
theorem dL_law_19 : decode cL_law 19 = .ok (.aload_n 0, 1) := by decide +kernel
theorem dL_law_20 : decode cL_law 20 = .ok (.arraylength, 1) := by decide +kernel
theorem dL_law_21 : decode cL_law 21 = .ok (.iconst 4, 1) := by decide +kernel
theorem dL_law_22 : decode cL_law 22 = .ok (.isub, 1) := by decide +kernel
theorem dL_law_23 : decode cL_law 23 = .ok (.if_icmp .gt 687, 3) := by decide +kernel
theorem dL_law_26 : decode cL_law 26 = .ok (.aload_n 0, 1) := by decide +kernel
theorem dL_law_27 : decode cL_law 27 = .ok (.iload_n 3, 1) := by decide +kernel
theorem dL_law_28 : decode cL_law 28 = .ok (.iaload, 1) := by decide +kernel
theorem dL_law_29 : decode cL_law 29 = .ok (.bipush 31, 2) := by decide +kernel
theorem dL_law_31 : decode cL_law 31 = .ok (.iand, 1) := by decide +kernel
theorem dL_law_32 : decode cL_law 32 = .ok (.tableswitch 672 0 21 #[104, 157, 170, 183, 196, 229, 272, 305, 338, 361, 384, 407, 440, 463, 496, 509, 532, 566, 609, 622, 635, 658], 104) := by decide +kernel
theorem dL_law_136 : decode cL_law 136 = .ok (.aload_n 1, 1) := by decide +kernel
theorem dL_law_137 : decode cL_law 137 = .ok (.aload_n 0, 1) := by decide +kernel
theorem dL_law_138 : decode cL_law 138 = .ok (.iload_n 3, 1) := by decide +kernel
theorem dL_law_139 : decode cL_law 139 = .ok (.iconst 1, 1) := by decide +kernel
theorem dL_law_140 : decode cL_law 140 = .ok (.iadd, 1) := by decide +kernel
theorem dL_law_141 : decode cL_law 141 = .ok (.iaload, 1) := by decide +kernel
theorem dL_law_142 : decode cL_law 142 = .ok (.i2l, 1) := by decide +kernel
theorem dL_law_143 : decode cL_law 143 = .ok (.bipush 32, 2) := by decide +kernel
theorem dL_law_145 : decode cL_law 145 = .ok (.lshl, 1) := by decide +kernel
theorem dL_law_146 : decode cL_law 146 = .ok (.aload_n 0, 1) := by decide +kernel
theorem dL_law_147 : decode cL_law 147 = .ok (.iload_n 3, 1) := by decide +kernel
theorem dL_law_148 : decode cL_law 148 = .ok (.iconst 2, 1) := by decide +kernel
theorem dL_law_149 : decode cL_law 149 = .ok (.iadd, 1) := by decide +kernel
theorem dL_law_150 : decode cL_law 150 = .ok (.iaload, 1) := by decide +kernel
theorem dL_law_151 : decode cL_law 151 = .ok (.i2l, 1) := by decide +kernel
theorem dL_law_152 : decode cL_law 152 = .ok (.ldc2_w 13, 3) := by decide +kernel
theorem dL_law_155 : decode cL_law 155 = .ok (.land, 1) := by decide +kernel
theorem dL_law_156 : decode cL_law 156 = .ok (.lor, 1) := by decide +kernel
theorem dL_law_157 : decode cL_law 157 = .ok (.invokevirtual 15, 3) := by decide +kernel
theorem dL_law_160 : decode cL_law 160 = .ok (.aload_n 2, 1) := by decide +kernel
theorem dL_law_161 : decode cL_law 161 = .ok (.aload_n 0, 1) := by decide +kernel
theorem dL_law_162 : decode cL_law 162 = .ok (.iload_n 3, 1) := by decide +kernel
theorem dL_law_163 : decode cL_law 163 = .ok (.iconst 1, 1) := by decide +kernel
theorem dL_law_164 : decode cL_law 164 = .ok (.iadd, 1) := by decide +kernel
theorem dL_law_165 : decode cL_law 165 = .ok (.iaload, 1) := by decide +kernel
theorem dL_law_166 : decode cL_law 166 = .ok (.i2l, 1) := by decide +kernel
theorem dL_law_167 : decode cL_law 167 = .ok (.bipush 32, 2) := by decide +kernel
theorem dL_law_169 : decode cL_law 169 = .ok (.lshl, 1) := by decide +kernel
theorem dL_law_170 : decode cL_law 170 = .ok (.aload_n 0, 1) := by decide +kernel
theorem dL_law_171 : decode cL_law 171 = .ok (.iload_n 3, 1) := by decide +kernel
theorem dL_law_172 : decode cL_law 172 = .ok (.iconst 2, 1) := by decide +kernel
theorem dL_law_173 : decode cL_law 173 = .ok (.iadd, 1) := by decide +kernel
theorem dL_law_174 : decode cL_law 174 = .ok (.iaload, 1) := by decide +kernel
theorem dL_law_175 : decode cL_law 175 = .ok (.i2l, 1) := by decide +kernel
theorem dL_law_176 : decode cL_law 176 = .ok (.ldc2_w 13, 3) := by decide +kernel
theorem dL_law_179 : decode cL_law 179 = .ok (.land, 1) := by decide +kernel
theorem dL_law_180 : decode cL_law 180 = .ok (.lor, 1) := by decide +kernel
theorem dL_law_181 : decode cL_law 181 = .ok (.invokevirtual 19, 3) := by decide +kernel
theorem dL_law_184 : decode cL_law 184 = .ok (.if_icmp .eq 520, 3) := by decide +kernel
theorem dL_law_187 : decode cL_law 187 = .ok (.iconst 0, 1) := by decide +kernel
theorem dL_law_188 : decode cL_law 188 = .ok (.ireturn, 1) := by decide +kernel
theorem dL_law_189 : decode cL_law 189 = .ok (.aload_n 1, 1) := by decide +kernel
theorem dL_law_190 : decode cL_law 190 = .ok (.invokevirtual 20, 3) := by decide +kernel
theorem dL_law_193 : decode cL_law 193 = .ok (.aload_n 2, 1) := by decide +kernel
theorem dL_law_194 : decode cL_law 194 = .ok (.invokevirtual 24, 3) := by decide +kernel
theorem dL_law_197 : decode cL_law 197 = .ok (.if_icmp .eq 507, 3) := by decide +kernel
theorem dL_law_200 : decode cL_law 200 = .ok (.iconst 0, 1) := by decide +kernel
theorem dL_law_201 : decode cL_law 201 = .ok (.ireturn, 1) := by decide +kernel
theorem dL_law_202 : decode cL_law 202 = .ok (.aload_n 1, 1) := by decide +kernel
theorem dL_law_203 : decode cL_law 203 = .ok (.invokevirtual 25, 3) := by decide +kernel
theorem dL_law_206 : decode cL_law 206 = .ok (.aload_n 2, 1) := by decide +kernel
theorem dL_law_207 : decode cL_law 207 = .ok (.invokevirtual 28, 3) := by decide +kernel
theorem dL_law_210 : decode cL_law 210 = .ok (.if_icmp .eq 494, 3) := by decide +kernel
theorem dL_law_213 : decode cL_law 213 = .ok (.iconst 0, 1) := by decide +kernel
theorem dL_law_214 : decode cL_law 214 = .ok (.ireturn, 1) := by decide +kernel
theorem dL_law_215 : decode cL_law 215 = .ok (.aload_n 1, 1) := by decide +kernel
theorem dL_law_216 : decode cL_law 216 = .ok (.invokevirtual 29, 3) := by decide +kernel
theorem dL_law_219 : decode cL_law 219 = .ok (.aload_n 2, 1) := by decide +kernel
theorem dL_law_220 : decode cL_law 220 = .ok (.invokevirtual 32, 3) := by decide +kernel
theorem dL_law_223 : decode cL_law 223 = .ok (.if_icmp .eq 481, 3) := by decide +kernel
theorem dL_law_226 : decode cL_law 226 = .ok (.iconst 0, 1) := by decide +kernel
theorem dL_law_227 : decode cL_law 227 = .ok (.ireturn, 1) := by decide +kernel
theorem dL_law_228 : decode cL_law 228 = .ok (.aload_n 1, 1) := by decide +kernel
theorem dL_law_229 : decode cL_law 229 = .ok (.aload_n 0, 1) := by decide +kernel
theorem dL_law_230 : decode cL_law 230 = .ok (.iload_n 3, 1) := by decide +kernel
theorem dL_law_231 : decode cL_law 231 = .ok (.iconst 1, 1) := by decide +kernel
theorem dL_law_232 : decode cL_law 232 = .ok (.iadd, 1) := by decide +kernel
theorem dL_law_233 : decode cL_law 233 = .ok (.iaload, 1) := by decide +kernel
theorem dL_law_234 : decode cL_law 234 = .ok (.aload_n 0, 1) := by decide +kernel
theorem dL_law_235 : decode cL_law 235 = .ok (.iload_n 3, 1) := by decide +kernel
theorem dL_law_236 : decode cL_law 236 = .ok (.iconst 2, 1) := by decide +kernel
theorem dL_law_237 : decode cL_law 237 = .ok (.iadd, 1) := by decide +kernel
theorem dL_law_238 : decode cL_law 238 = .ok (.iaload, 1) := by decide +kernel
theorem dL_law_239 : decode cL_law 239 = .ok (.invokevirtual 33, 3) := by decide +kernel
theorem dL_law_242 : decode cL_law 242 = .ok (.aload_n 2, 1) := by decide +kernel
theorem dL_law_243 : decode cL_law 243 = .ok (.aload_n 0, 1) := by decide +kernel
theorem dL_law_244 : decode cL_law 244 = .ok (.iload_n 3, 1) := by decide +kernel
theorem dL_law_245 : decode cL_law 245 = .ok (.iconst 1, 1) := by decide +kernel
theorem dL_law_246 : decode cL_law 246 = .ok (.iadd, 1) := by decide +kernel
theorem dL_law_247 : decode cL_law 247 = .ok (.iaload, 1) := by decide +kernel
theorem dL_law_248 : decode cL_law 248 = .ok (.aload_n 0, 1) := by decide +kernel
theorem dL_law_249 : decode cL_law 249 = .ok (.iload_n 3, 1) := by decide +kernel
theorem dL_law_250 : decode cL_law 250 = .ok (.iconst 2, 1) := by decide +kernel
theorem dL_law_251 : decode cL_law 251 = .ok (.iadd, 1) := by decide +kernel
theorem dL_law_252 : decode cL_law 252 = .ok (.iaload, 1) := by decide +kernel
theorem dL_law_253 : decode cL_law 253 = .ok (.invokevirtual 37, 3) := by decide +kernel
theorem dL_law_256 : decode cL_law 256 = .ok (.if_icmp .eq 448, 3) := by decide +kernel
theorem dL_law_259 : decode cL_law 259 = .ok (.iconst 0, 1) := by decide +kernel
theorem dL_law_260 : decode cL_law 260 = .ok (.ireturn, 1) := by decide +kernel
theorem dL_law_261 : decode cL_law 261 = .ok (.aload_n 1, 1) := by decide +kernel
theorem dL_law_262 : decode cL_law 262 = .ok (.aload_n 0, 1) := by decide +kernel
theorem dL_law_263 : decode cL_law 263 = .ok (.iload_n 3, 1) := by decide +kernel
theorem dL_law_264 : decode cL_law 264 = .ok (.iconst 1, 1) := by decide +kernel
theorem dL_law_265 : decode cL_law 265 = .ok (.iadd, 1) := by decide +kernel
theorem dL_law_266 : decode cL_law 266 = .ok (.iaload, 1) := by decide +kernel
theorem dL_law_267 : decode cL_law 267 = .ok (.aload_n 0, 1) := by decide +kernel
theorem dL_law_268 : decode cL_law 268 = .ok (.iload_n 3, 1) := by decide +kernel
theorem dL_law_269 : decode cL_law 269 = .ok (.iconst 2, 1) := by decide +kernel
theorem dL_law_270 : decode cL_law 270 = .ok (.iadd, 1) := by decide +kernel
theorem dL_law_271 : decode cL_law 271 = .ok (.iaload, 1) := by decide +kernel
theorem dL_law_272 : decode cL_law 272 = .ok (.aload_n 0, 1) := by decide +kernel
theorem dL_law_273 : decode cL_law 273 = .ok (.iload_n 3, 1) := by decide +kernel
theorem dL_law_274 : decode cL_law 274 = .ok (.iconst 3, 1) := by decide +kernel
theorem dL_law_275 : decode cL_law 275 = .ok (.iadd, 1) := by decide +kernel
theorem dL_law_276 : decode cL_law 276 = .ok (.iaload, 1) := by decide +kernel
theorem dL_law_277 : decode cL_law 277 = .ok (.invokevirtual 38, 3) := by decide +kernel
theorem dL_law_280 : decode cL_law 280 = .ok (.aload_n 2, 1) := by decide +kernel
theorem dL_law_281 : decode cL_law 281 = .ok (.aload_n 0, 1) := by decide +kernel
theorem dL_law_282 : decode cL_law 282 = .ok (.iload_n 3, 1) := by decide +kernel
theorem dL_law_283 : decode cL_law 283 = .ok (.iconst 1, 1) := by decide +kernel
theorem dL_law_284 : decode cL_law 284 = .ok (.iadd, 1) := by decide +kernel
theorem dL_law_285 : decode cL_law 285 = .ok (.iaload, 1) := by decide +kernel
theorem dL_law_286 : decode cL_law 286 = .ok (.aload_n 0, 1) := by decide +kernel
theorem dL_law_287 : decode cL_law 287 = .ok (.iload_n 3, 1) := by decide +kernel
theorem dL_law_288 : decode cL_law 288 = .ok (.iconst 2, 1) := by decide +kernel
theorem dL_law_289 : decode cL_law 289 = .ok (.iadd, 1) := by decide +kernel
theorem dL_law_290 : decode cL_law 290 = .ok (.iaload, 1) := by decide +kernel
theorem dL_law_291 : decode cL_law 291 = .ok (.aload_n 0, 1) := by decide +kernel
theorem dL_law_292 : decode cL_law 292 = .ok (.iload_n 3, 1) := by decide +kernel
theorem dL_law_293 : decode cL_law 293 = .ok (.iconst 3, 1) := by decide +kernel
theorem dL_law_294 : decode cL_law 294 = .ok (.iadd, 1) := by decide +kernel
theorem dL_law_295 : decode cL_law 295 = .ok (.iaload, 1) := by decide +kernel
theorem dL_law_296 : decode cL_law 296 = .ok (.invokevirtual 42, 3) := by decide +kernel
theorem dL_law_299 : decode cL_law 299 = .ok (.if_icmp .eq 405, 3) := by decide +kernel
theorem dL_law_302 : decode cL_law 302 = .ok (.iconst 0, 1) := by decide +kernel
theorem dL_law_303 : decode cL_law 303 = .ok (.ireturn, 1) := by decide +kernel
theorem dL_law_304 : decode cL_law 304 = .ok (.aload_n 1, 1) := by decide +kernel
theorem dL_law_305 : decode cL_law 305 = .ok (.aload_n 0, 1) := by decide +kernel
theorem dL_law_306 : decode cL_law 306 = .ok (.iload_n 3, 1) := by decide +kernel
theorem dL_law_307 : decode cL_law 307 = .ok (.iconst 1, 1) := by decide +kernel
theorem dL_law_308 : decode cL_law 308 = .ok (.iadd, 1) := by decide +kernel
theorem dL_law_309 : decode cL_law 309 = .ok (.iaload, 1) := by decide +kernel
theorem dL_law_310 : decode cL_law 310 = .ok (.aload_n 0, 1) := by decide +kernel
theorem dL_law_311 : decode cL_law 311 = .ok (.iload_n 3, 1) := by decide +kernel
theorem dL_law_312 : decode cL_law 312 = .ok (.iconst 2, 1) := by decide +kernel
theorem dL_law_313 : decode cL_law 313 = .ok (.iadd, 1) := by decide +kernel
theorem dL_law_314 : decode cL_law 314 = .ok (.iaload, 1) := by decide +kernel
theorem dL_law_315 : decode cL_law 315 = .ok (.invokevirtual 43, 3) := by decide +kernel
theorem dL_law_318 : decode cL_law 318 = .ok (.aload_n 2, 1) := by decide +kernel
theorem dL_law_319 : decode cL_law 319 = .ok (.aload_n 0, 1) := by decide +kernel
theorem dL_law_320 : decode cL_law 320 = .ok (.iload_n 3, 1) := by decide +kernel
theorem dL_law_321 : decode cL_law 321 = .ok (.iconst 1, 1) := by decide +kernel
theorem dL_law_322 : decode cL_law 322 = .ok (.iadd, 1) := by decide +kernel
theorem dL_law_323 : decode cL_law 323 = .ok (.iaload, 1) := by decide +kernel
theorem dL_law_324 : decode cL_law 324 = .ok (.aload_n 0, 1) := by decide +kernel
theorem dL_law_325 : decode cL_law 325 = .ok (.iload_n 3, 1) := by decide +kernel
theorem dL_law_326 : decode cL_law 326 = .ok (.iconst 2, 1) := by decide +kernel
theorem dL_law_327 : decode cL_law 327 = .ok (.iadd, 1) := by decide +kernel
theorem dL_law_328 : decode cL_law 328 = .ok (.iaload, 1) := by decide +kernel
theorem dL_law_329 : decode cL_law 329 = .ok (.invokevirtual 46, 3) := by decide +kernel
theorem dL_law_332 : decode cL_law 332 = .ok (.if_icmp .eq 372, 3) := by decide +kernel
theorem dL_law_335 : decode cL_law 335 = .ok (.iconst 0, 1) := by decide +kernel
theorem dL_law_336 : decode cL_law 336 = .ok (.ireturn, 1) := by decide +kernel
theorem dL_law_337 : decode cL_law 337 = .ok (.aload_n 1, 1) := by decide +kernel
theorem dL_law_338 : decode cL_law 338 = .ok (.aload_n 0, 1) := by decide +kernel
theorem dL_law_339 : decode cL_law 339 = .ok (.iload_n 3, 1) := by decide +kernel
theorem dL_law_340 : decode cL_law 340 = .ok (.iconst 1, 1) := by decide +kernel
theorem dL_law_341 : decode cL_law 341 = .ok (.iadd, 1) := by decide +kernel
theorem dL_law_342 : decode cL_law 342 = .ok (.iaload, 1) := by decide +kernel
theorem dL_law_343 : decode cL_law 343 = .ok (.aload_n 0, 1) := by decide +kernel
theorem dL_law_344 : decode cL_law 344 = .ok (.iload_n 3, 1) := by decide +kernel
theorem dL_law_345 : decode cL_law 345 = .ok (.iconst 2, 1) := by decide +kernel
theorem dL_law_346 : decode cL_law 346 = .ok (.iadd, 1) := by decide +kernel
theorem dL_law_347 : decode cL_law 347 = .ok (.iaload, 1) := by decide +kernel
theorem dL_law_348 : decode cL_law 348 = .ok (.invokevirtual 47, 3) := by decide +kernel
theorem dL_law_351 : decode cL_law 351 = .ok (.aload_n 2, 1) := by decide +kernel
theorem dL_law_352 : decode cL_law 352 = .ok (.aload_n 0, 1) := by decide +kernel
theorem dL_law_353 : decode cL_law 353 = .ok (.iload_n 3, 1) := by decide +kernel
theorem dL_law_354 : decode cL_law 354 = .ok (.iconst 1, 1) := by decide +kernel
theorem dL_law_355 : decode cL_law 355 = .ok (.iadd, 1) := by decide +kernel
theorem dL_law_356 : decode cL_law 356 = .ok (.iaload, 1) := by decide +kernel
theorem dL_law_357 : decode cL_law 357 = .ok (.aload_n 0, 1) := by decide +kernel
theorem dL_law_358 : decode cL_law 358 = .ok (.iload_n 3, 1) := by decide +kernel
theorem dL_law_359 : decode cL_law 359 = .ok (.iconst 2, 1) := by decide +kernel
theorem dL_law_360 : decode cL_law 360 = .ok (.iadd, 1) := by decide +kernel
theorem dL_law_361 : decode cL_law 361 = .ok (.iaload, 1) := by decide +kernel
theorem dL_law_362 : decode cL_law 362 = .ok (.invokevirtual 50, 3) := by decide +kernel
theorem dL_law_365 : decode cL_law 365 = .ok (.if_icmp .eq 339, 3) := by decide +kernel
theorem dL_law_368 : decode cL_law 368 = .ok (.iconst 0, 1) := by decide +kernel
theorem dL_law_369 : decode cL_law 369 = .ok (.ireturn, 1) := by decide +kernel
theorem dL_law_370 : decode cL_law 370 = .ok (.aload_n 1, 1) := by decide +kernel
theorem dL_law_371 : decode cL_law 371 = .ok (.aload_n 0, 1) := by decide +kernel
theorem dL_law_372 : decode cL_law 372 = .ok (.iload_n 3, 1) := by decide +kernel
theorem dL_law_373 : decode cL_law 373 = .ok (.iconst 1, 1) := by decide +kernel
theorem dL_law_374 : decode cL_law 374 = .ok (.iadd, 1) := by decide +kernel
theorem dL_law_375 : decode cL_law 375 = .ok (.iaload, 1) := by decide +kernel
theorem dL_law_376 : decode cL_law 376 = .ok (.invokevirtual 51, 3) := by decide +kernel
theorem dL_law_379 : decode cL_law 379 = .ok (.aload_n 2, 1) := by decide +kernel
theorem dL_law_380 : decode cL_law 380 = .ok (.aload_n 0, 1) := by decide +kernel
theorem dL_law_381 : decode cL_law 381 = .ok (.iload_n 3, 1) := by decide +kernel
theorem dL_law_382 : decode cL_law 382 = .ok (.iconst 1, 1) := by decide +kernel
theorem dL_law_383 : decode cL_law 383 = .ok (.iadd, 1) := by decide +kernel
theorem dL_law_384 : decode cL_law 384 = .ok (.iaload, 1) := by decide +kernel
theorem dL_law_385 : decode cL_law 385 = .ok (.invokevirtual 55, 3) := by decide +kernel
theorem dL_law_388 : decode cL_law 388 = .ok (.if_icmp .eq 316, 3) := by decide +kernel
theorem dL_law_391 : decode cL_law 391 = .ok (.iconst 0, 1) := by decide +kernel
theorem dL_law_392 : decode cL_law 392 = .ok (.ireturn, 1) := by decide +kernel
theorem dL_law_393 : decode cL_law 393 = .ok (.aload_n 1, 1) := by decide +kernel
theorem dL_law_394 : decode cL_law 394 = .ok (.aload_n 0, 1) := by decide +kernel
theorem dL_law_395 : decode cL_law 395 = .ok (.iload_n 3, 1) := by decide +kernel
theorem dL_law_396 : decode cL_law 396 = .ok (.iconst 1, 1) := by decide +kernel
theorem dL_law_397 : decode cL_law 397 = .ok (.iadd, 1) := by decide +kernel
theorem dL_law_398 : decode cL_law 398 = .ok (.iaload, 1) := by decide +kernel
theorem dL_law_399 : decode cL_law 399 = .ok (.invokevirtual 56, 3) := by decide +kernel
theorem dL_law_402 : decode cL_law 402 = .ok (.aload_n 2, 1) := by decide +kernel
theorem dL_law_403 : decode cL_law 403 = .ok (.aload_n 0, 1) := by decide +kernel
theorem dL_law_404 : decode cL_law 404 = .ok (.iload_n 3, 1) := by decide +kernel
theorem dL_law_405 : decode cL_law 405 = .ok (.iconst 1, 1) := by decide +kernel
theorem dL_law_406 : decode cL_law 406 = .ok (.iadd, 1) := by decide +kernel
theorem dL_law_407 : decode cL_law 407 = .ok (.iaload, 1) := by decide +kernel
theorem dL_law_408 : decode cL_law 408 = .ok (.invokevirtual 59, 3) := by decide +kernel
theorem dL_law_411 : decode cL_law 411 = .ok (.if_icmp .eq 293, 3) := by decide +kernel
theorem dL_law_414 : decode cL_law 414 = .ok (.iconst 0, 1) := by decide +kernel
theorem dL_law_415 : decode cL_law 415 = .ok (.ireturn, 1) := by decide +kernel
theorem dL_law_416 : decode cL_law 416 = .ok (.aload_n 1, 1) := by decide +kernel
theorem dL_law_417 : decode cL_law 417 = .ok (.aload_n 0, 1) := by decide +kernel
theorem dL_law_418 : decode cL_law 418 = .ok (.iload_n 3, 1) := by decide +kernel
theorem dL_law_419 : decode cL_law 419 = .ok (.iconst 1, 1) := by decide +kernel
theorem dL_law_420 : decode cL_law 420 = .ok (.iadd, 1) := by decide +kernel
theorem dL_law_421 : decode cL_law 421 = .ok (.iaload, 1) := by decide +kernel
theorem dL_law_422 : decode cL_law 422 = .ok (.invokevirtual 60, 3) := by decide +kernel
theorem dL_law_425 : decode cL_law 425 = .ok (.aload_n 2, 1) := by decide +kernel
theorem dL_law_426 : decode cL_law 426 = .ok (.aload_n 0, 1) := by decide +kernel
theorem dL_law_427 : decode cL_law 427 = .ok (.iload_n 3, 1) := by decide +kernel
theorem dL_law_428 : decode cL_law 428 = .ok (.iconst 1, 1) := by decide +kernel
theorem dL_law_429 : decode cL_law 429 = .ok (.iadd, 1) := by decide +kernel
theorem dL_law_430 : decode cL_law 430 = .ok (.iaload, 1) := by decide +kernel
theorem dL_law_431 : decode cL_law 431 = .ok (.invokevirtual 63, 3) := by decide +kernel
theorem dL_law_434 : decode cL_law 434 = .ok (.if_icmp .eq 270, 3) := by decide +kernel
theorem dL_law_437 : decode cL_law 437 = .ok (.iconst 0, 1) := by decide +kernel
theorem dL_law_438 : decode cL_law 438 = .ok (.ireturn, 1) := by decide +kernel
theorem dL_law_439 : decode cL_law 439 = .ok (.aload_n 1, 1) := by decide +kernel
theorem dL_law_440 : decode cL_law 440 = .ok (.aload_n 0, 1) := by decide +kernel
theorem dL_law_441 : decode cL_law 441 = .ok (.iload_n 3, 1) := by decide +kernel
theorem dL_law_442 : decode cL_law 442 = .ok (.iconst 1, 1) := by decide +kernel
theorem dL_law_443 : decode cL_law 443 = .ok (.iadd, 1) := by decide +kernel
theorem dL_law_444 : decode cL_law 444 = .ok (.iaload, 1) := by decide +kernel
theorem dL_law_445 : decode cL_law 445 = .ok (.aload_n 0, 1) := by decide +kernel
theorem dL_law_446 : decode cL_law 446 = .ok (.iload_n 3, 1) := by decide +kernel
theorem dL_law_447 : decode cL_law 447 = .ok (.iconst 2, 1) := by decide +kernel
theorem dL_law_448 : decode cL_law 448 = .ok (.iadd, 1) := by decide +kernel
theorem dL_law_449 : decode cL_law 449 = .ok (.iaload, 1) := by decide +kernel
theorem dL_law_450 : decode cL_law 450 = .ok (.invokevirtual 64, 3) := by decide +kernel
theorem dL_law_453 : decode cL_law 453 = .ok (.aload_n 2, 1) := by decide +kernel
theorem dL_law_454 : decode cL_law 454 = .ok (.aload_n 0, 1) := by decide +kernel
theorem dL_law_455 : decode cL_law 455 = .ok (.iload_n 3, 1) := by decide +kernel
theorem dL_law_456 : decode cL_law 456 = .ok (.iconst 1, 1) := by decide +kernel
theorem dL_law_457 : decode cL_law 457 = .ok (.iadd, 1) := by decide +kernel
theorem dL_law_458 : decode cL_law 458 = .ok (.iaload, 1) := by decide +kernel
theorem dL_law_459 : decode cL_law 459 = .ok (.aload_n 0, 1) := by decide +kernel
theorem dL_law_460 : decode cL_law 460 = .ok (.iload_n 3, 1) := by decide +kernel
theorem dL_law_461 : decode cL_law 461 = .ok (.iconst 2, 1) := by decide +kernel
theorem dL_law_462 : decode cL_law 462 = .ok (.iadd, 1) := by decide +kernel
theorem dL_law_463 : decode cL_law 463 = .ok (.iaload, 1) := by decide +kernel
theorem dL_law_464 : decode cL_law 464 = .ok (.invokevirtual 67, 3) := by decide +kernel
theorem dL_law_467 : decode cL_law 467 = .ok (.if_icmp .eq 237, 3) := by decide +kernel
theorem dL_law_470 : decode cL_law 470 = .ok (.iconst 0, 1) := by decide +kernel
theorem dL_law_471 : decode cL_law 471 = .ok (.ireturn, 1) := by decide +kernel
theorem dL_law_472 : decode cL_law 472 = .ok (.aload_n 1, 1) := by decide +kernel
theorem dL_law_473 : decode cL_law 473 = .ok (.aload_n 0, 1) := by decide +kernel
theorem dL_law_474 : decode cL_law 474 = .ok (.iload_n 3, 1) := by decide +kernel
theorem dL_law_475 : decode cL_law 475 = .ok (.iconst 1, 1) := by decide +kernel
theorem dL_law_476 : decode cL_law 476 = .ok (.iadd, 1) := by decide +kernel
theorem dL_law_477 : decode cL_law 477 = .ok (.iaload, 1) := by decide +kernel
theorem dL_law_478 : decode cL_law 478 = .ok (.invokevirtual 68, 3) := by decide +kernel
theorem dL_law_481 : decode cL_law 481 = .ok (.aload_n 2, 1) := by decide +kernel
theorem dL_law_482 : decode cL_law 482 = .ok (.aload_n 0, 1) := by decide +kernel
theorem dL_law_483 : decode cL_law 483 = .ok (.iload_n 3, 1) := by decide +kernel
theorem dL_law_484 : decode cL_law 484 = .ok (.iconst 1, 1) := by decide +kernel
theorem dL_law_485 : decode cL_law 485 = .ok (.iadd, 1) := by decide +kernel
theorem dL_law_486 : decode cL_law 486 = .ok (.iaload, 1) := by decide +kernel
theorem dL_law_487 : decode cL_law 487 = .ok (.invokevirtual 71, 3) := by decide +kernel
theorem dL_law_490 : decode cL_law 490 = .ok (.if_icmp .eq 214, 3) := by decide +kernel
theorem dL_law_493 : decode cL_law 493 = .ok (.iconst 0, 1) := by decide +kernel
theorem dL_law_494 : decode cL_law 494 = .ok (.ireturn, 1) := by decide +kernel
theorem dL_law_495 : decode cL_law 495 = .ok (.aload_n 1, 1) := by decide +kernel
theorem dL_law_496 : decode cL_law 496 = .ok (.aload_n 0, 1) := by decide +kernel
theorem dL_law_497 : decode cL_law 497 = .ok (.iload_n 3, 1) := by decide +kernel
theorem dL_law_498 : decode cL_law 498 = .ok (.iconst 1, 1) := by decide +kernel
theorem dL_law_499 : decode cL_law 499 = .ok (.iadd, 1) := by decide +kernel
theorem dL_law_500 : decode cL_law 500 = .ok (.iaload, 1) := by decide +kernel
theorem dL_law_501 : decode cL_law 501 = .ok (.aload_n 0, 1) := by decide +kernel
theorem dL_law_502 : decode cL_law 502 = .ok (.iload_n 3, 1) := by decide +kernel
theorem dL_law_503 : decode cL_law 503 = .ok (.iconst 2, 1) := by decide +kernel
theorem dL_law_504 : decode cL_law 504 = .ok (.iadd, 1) := by decide +kernel
theorem dL_law_505 : decode cL_law 505 = .ok (.iaload, 1) := by decide +kernel
theorem dL_law_506 : decode cL_law 506 = .ok (.invokevirtual 72, 3) := by decide +kernel
theorem dL_law_509 : decode cL_law 509 = .ok (.aload_n 2, 1) := by decide +kernel
theorem dL_law_510 : decode cL_law 510 = .ok (.aload_n 0, 1) := by decide +kernel
theorem dL_law_511 : decode cL_law 511 = .ok (.iload_n 3, 1) := by decide +kernel
theorem dL_law_512 : decode cL_law 512 = .ok (.iconst 1, 1) := by decide +kernel
theorem dL_law_513 : decode cL_law 513 = .ok (.iadd, 1) := by decide +kernel
theorem dL_law_514 : decode cL_law 514 = .ok (.iaload, 1) := by decide +kernel
theorem dL_law_515 : decode cL_law 515 = .ok (.aload_n 0, 1) := by decide +kernel
theorem dL_law_516 : decode cL_law 516 = .ok (.iload_n 3, 1) := by decide +kernel
theorem dL_law_517 : decode cL_law 517 = .ok (.iconst 2, 1) := by decide +kernel
theorem dL_law_518 : decode cL_law 518 = .ok (.iadd, 1) := by decide +kernel
theorem dL_law_519 : decode cL_law 519 = .ok (.iaload, 1) := by decide +kernel
theorem dL_law_520 : decode cL_law 520 = .ok (.invokevirtual 75, 3) := by decide +kernel
theorem dL_law_523 : decode cL_law 523 = .ok (.if_icmp .eq 181, 3) := by decide +kernel
theorem dL_law_526 : decode cL_law 526 = .ok (.iconst 0, 1) := by decide +kernel
theorem dL_law_527 : decode cL_law 527 = .ok (.ireturn, 1) := by decide +kernel
theorem dL_law_528 : decode cL_law 528 = .ok (.aload_n 1, 1) := by decide +kernel
theorem dL_law_529 : decode cL_law 529 = .ok (.invokevirtual 76, 3) := by decide +kernel
theorem dL_law_532 : decode cL_law 532 = .ok (.aload_n 2, 1) := by decide +kernel
theorem dL_law_533 : decode cL_law 533 = .ok (.invokevirtual 79, 3) := by decide +kernel
theorem dL_law_536 : decode cL_law 536 = .ok (.if_icmp .eq 168, 3) := by decide +kernel
theorem dL_law_539 : decode cL_law 539 = .ok (.iconst 0, 1) := by decide +kernel
theorem dL_law_540 : decode cL_law 540 = .ok (.ireturn, 1) := by decide +kernel
theorem dL_law_541 : decode cL_law 541 = .ok (.aload_n 1, 1) := by decide +kernel
theorem dL_law_542 : decode cL_law 542 = .ok (.aload_n 0, 1) := by decide +kernel
theorem dL_law_543 : decode cL_law 543 = .ok (.iload_n 3, 1) := by decide +kernel
theorem dL_law_544 : decode cL_law 544 = .ok (.iconst 1, 1) := by decide +kernel
theorem dL_law_545 : decode cL_law 545 = .ok (.iadd, 1) := by decide +kernel
theorem dL_law_546 : decode cL_law 546 = .ok (.iaload, 1) := by decide +kernel
theorem dL_law_547 : decode cL_law 547 = .ok (.invokevirtual 80, 3) := by decide +kernel
theorem dL_law_550 : decode cL_law 550 = .ok (.aload_n 2, 1) := by decide +kernel
theorem dL_law_551 : decode cL_law 551 = .ok (.aload_n 0, 1) := by decide +kernel
theorem dL_law_552 : decode cL_law 552 = .ok (.iload_n 3, 1) := by decide +kernel
theorem dL_law_553 : decode cL_law 553 = .ok (.iconst 1, 1) := by decide +kernel
theorem dL_law_554 : decode cL_law 554 = .ok (.iadd, 1) := by decide +kernel
theorem dL_law_555 : decode cL_law 555 = .ok (.iaload, 1) := by decide +kernel
theorem dL_law_556 : decode cL_law 556 = .ok (.invokevirtual 83, 3) := by decide +kernel
theorem dL_law_559 : decode cL_law 559 = .ok (.if_icmp .eq 145, 3) := by decide +kernel
theorem dL_law_562 : decode cL_law 562 = .ok (.iconst 0, 1) := by decide +kernel
theorem dL_law_563 : decode cL_law 563 = .ok (.ireturn, 1) := by decide +kernel
theorem dL_law_564 : decode cL_law 564 = .ok (.aload_n 1, 1) := by decide +kernel
theorem dL_law_565 : decode cL_law 565 = .ok (.aload_n 0, 1) := by decide +kernel
theorem dL_law_566 : decode cL_law 566 = .ok (.iload_n 3, 1) := by decide +kernel
theorem dL_law_567 : decode cL_law 567 = .ok (.iconst 1, 1) := by decide +kernel
theorem dL_law_568 : decode cL_law 568 = .ok (.iadd, 1) := by decide +kernel
theorem dL_law_569 : decode cL_law 569 = .ok (.iaload, 1) := by decide +kernel
theorem dL_law_570 : decode cL_law 570 = .ok (.aload_n 0, 1) := by decide +kernel
theorem dL_law_571 : decode cL_law 571 = .ok (.iload_n 3, 1) := by decide +kernel
theorem dL_law_572 : decode cL_law 572 = .ok (.iconst 2, 1) := by decide +kernel
theorem dL_law_573 : decode cL_law 573 = .ok (.iadd, 1) := by decide +kernel
theorem dL_law_574 : decode cL_law 574 = .ok (.iaload, 1) := by decide +kernel
theorem dL_law_575 : decode cL_law 575 = .ok (.invokevirtual 84, 3) := by decide +kernel
theorem dL_law_578 : decode cL_law 578 = .ok (.aload_n 2, 1) := by decide +kernel
theorem dL_law_579 : decode cL_law 579 = .ok (.aload_n 0, 1) := by decide +kernel
theorem dL_law_580 : decode cL_law 580 = .ok (.iload_n 3, 1) := by decide +kernel
theorem dL_law_581 : decode cL_law 581 = .ok (.iconst 1, 1) := by decide +kernel
theorem dL_law_582 : decode cL_law 582 = .ok (.iadd, 1) := by decide +kernel
theorem dL_law_583 : decode cL_law 583 = .ok (.iaload, 1) := by decide +kernel
theorem dL_law_584 : decode cL_law 584 = .ok (.aload_n 0, 1) := by decide +kernel
theorem dL_law_585 : decode cL_law 585 = .ok (.iload_n 3, 1) := by decide +kernel
theorem dL_law_586 : decode cL_law 586 = .ok (.iconst 2, 1) := by decide +kernel
theorem dL_law_587 : decode cL_law 587 = .ok (.iadd, 1) := by decide +kernel
theorem dL_law_588 : decode cL_law 588 = .ok (.iaload, 1) := by decide +kernel
theorem dL_law_589 : decode cL_law 589 = .ok (.invokevirtual 88, 3) := by decide +kernel
theorem dL_law_592 : decode cL_law 592 = .ok (.lcmp, 1) := by decide +kernel
theorem dL_law_593 : decode cL_law 593 = .ok (.ifCond .eq 111, 3) := by decide +kernel
theorem dL_law_596 : decode cL_law 596 = .ok (.iconst 0, 1) := by decide +kernel
theorem dL_law_597 : decode cL_law 597 = .ok (.ireturn, 1) := by decide +kernel
theorem dL_law_598 : decode cL_law 598 = .ok (.aload_n 1, 1) := by decide +kernel
theorem dL_law_599 : decode cL_law 599 = .ok (.aload_n 0, 1) := by decide +kernel
theorem dL_law_600 : decode cL_law 600 = .ok (.iload_n 3, 1) := by decide +kernel
theorem dL_law_601 : decode cL_law 601 = .ok (.iconst 1, 1) := by decide +kernel
theorem dL_law_602 : decode cL_law 602 = .ok (.iadd, 1) := by decide +kernel
theorem dL_law_603 : decode cL_law 603 = .ok (.iaload, 1) := by decide +kernel
theorem dL_law_604 : decode cL_law 604 = .ok (.aload_n 0, 1) := by decide +kernel
theorem dL_law_605 : decode cL_law 605 = .ok (.iload_n 3, 1) := by decide +kernel
theorem dL_law_606 : decode cL_law 606 = .ok (.iconst 2, 1) := by decide +kernel
theorem dL_law_607 : decode cL_law 607 = .ok (.iadd, 1) := by decide +kernel
theorem dL_law_608 : decode cL_law 608 = .ok (.iaload, 1) := by decide +kernel
theorem dL_law_609 : decode cL_law 609 = .ok (.aload_n 0, 1) := by decide +kernel
theorem dL_law_610 : decode cL_law 610 = .ok (.iload_n 3, 1) := by decide +kernel
theorem dL_law_611 : decode cL_law 611 = .ok (.iconst 3, 1) := by decide +kernel
theorem dL_law_612 : decode cL_law 612 = .ok (.iadd, 1) := by decide +kernel
theorem dL_law_613 : decode cL_law 613 = .ok (.iaload, 1) := by decide +kernel
theorem dL_law_614 : decode cL_law 614 = .ok (.invokevirtual 89, 3) := by decide +kernel
theorem dL_law_617 : decode cL_law 617 = .ok (.aload_n 2, 1) := by decide +kernel
theorem dL_law_618 : decode cL_law 618 = .ok (.aload_n 0, 1) := by decide +kernel
theorem dL_law_619 : decode cL_law 619 = .ok (.iload_n 3, 1) := by decide +kernel
theorem dL_law_620 : decode cL_law 620 = .ok (.iconst 1, 1) := by decide +kernel
theorem dL_law_621 : decode cL_law 621 = .ok (.iadd, 1) := by decide +kernel
theorem dL_law_622 : decode cL_law 622 = .ok (.iaload, 1) := by decide +kernel
theorem dL_law_623 : decode cL_law 623 = .ok (.aload_n 0, 1) := by decide +kernel
theorem dL_law_624 : decode cL_law 624 = .ok (.iload_n 3, 1) := by decide +kernel
theorem dL_law_625 : decode cL_law 625 = .ok (.iconst 2, 1) := by decide +kernel
theorem dL_law_626 : decode cL_law 626 = .ok (.iadd, 1) := by decide +kernel
theorem dL_law_627 : decode cL_law 627 = .ok (.iaload, 1) := by decide +kernel
theorem dL_law_628 : decode cL_law 628 = .ok (.aload_n 0, 1) := by decide +kernel
theorem dL_law_629 : decode cL_law 629 = .ok (.iload_n 3, 1) := by decide +kernel
theorem dL_law_630 : decode cL_law 630 = .ok (.iconst 3, 1) := by decide +kernel
theorem dL_law_631 : decode cL_law 631 = .ok (.iadd, 1) := by decide +kernel
theorem dL_law_632 : decode cL_law 632 = .ok (.iaload, 1) := by decide +kernel
theorem dL_law_633 : decode cL_law 633 = .ok (.invokevirtual 92, 3) := by decide +kernel
theorem dL_law_636 : decode cL_law 636 = .ok (.if_icmp .eq 68, 3) := by decide +kernel
theorem dL_law_639 : decode cL_law 639 = .ok (.iconst 0, 1) := by decide +kernel
theorem dL_law_640 : decode cL_law 640 = .ok (.ireturn, 1) := by decide +kernel
theorem dL_law_641 : decode cL_law 641 = .ok (.aload_n 1, 1) := by decide +kernel
theorem dL_law_642 : decode cL_law 642 = .ok (.invokevirtual 93, 3) := by decide +kernel
theorem dL_law_645 : decode cL_law 645 = .ok (.aload_n 2, 1) := by decide +kernel
theorem dL_law_646 : decode cL_law 646 = .ok (.invokevirtual 96, 3) := by decide +kernel
theorem dL_law_649 : decode cL_law 649 = .ok (.if_icmp .eq 55, 3) := by decide +kernel
theorem dL_law_652 : decode cL_law 652 = .ok (.iconst 0, 1) := by decide +kernel
theorem dL_law_653 : decode cL_law 653 = .ok (.ireturn, 1) := by decide +kernel
theorem dL_law_654 : decode cL_law 654 = .ok (.aload_n 1, 1) := by decide +kernel
theorem dL_law_655 : decode cL_law 655 = .ok (.invokevirtual 97, 3) := by decide +kernel
theorem dL_law_658 : decode cL_law 658 = .ok (.aload_n 2, 1) := by decide +kernel
theorem dL_law_659 : decode cL_law 659 = .ok (.invokevirtual 100, 3) := by decide +kernel
theorem dL_law_662 : decode cL_law 662 = .ok (.if_icmp .eq 42, 3) := by decide +kernel
theorem dL_law_665 : decode cL_law 665 = .ok (.iconst 0, 1) := by decide +kernel
theorem dL_law_666 : decode cL_law 666 = .ok (.ireturn, 1) := by decide +kernel
theorem dL_law_667 : decode cL_law 667 = .ok (.aload_n 1, 1) := by decide +kernel
theorem dL_law_668 : decode cL_law 668 = .ok (.aload_n 0, 1) := by decide +kernel
theorem dL_law_669 : decode cL_law 669 = .ok (.iload_n 3, 1) := by decide +kernel
theorem dL_law_670 : decode cL_law 670 = .ok (.iconst 1, 1) := by decide +kernel
theorem dL_law_671 : decode cL_law 671 = .ok (.iadd, 1) := by decide +kernel
theorem dL_law_672 : decode cL_law 672 = .ok (.iaload, 1) := by decide +kernel
theorem dL_law_673 : decode cL_law 673 = .ok (.invokevirtual 101, 3) := by decide +kernel
theorem dL_law_676 : decode cL_law 676 = .ok (.aload_n 2, 1) := by decide +kernel
theorem dL_law_677 : decode cL_law 677 = .ok (.aload_n 0, 1) := by decide +kernel
theorem dL_law_678 : decode cL_law 678 = .ok (.iload_n 3, 1) := by decide +kernel
theorem dL_law_679 : decode cL_law 679 = .ok (.iconst 1, 1) := by decide +kernel
theorem dL_law_680 : decode cL_law 680 = .ok (.iadd, 1) := by decide +kernel
theorem dL_law_681 : decode cL_law 681 = .ok (.iaload, 1) := by decide +kernel
theorem dL_law_682 : decode cL_law 682 = .ok (.invokevirtual 104, 3) := by decide +kernel
theorem dL_law_685 : decode cL_law 685 = .ok (.if_icmp .eq 19, 3) := by decide +kernel
theorem dL_law_688 : decode cL_law 688 = .ok (.iconst 0, 1) := by decide +kernel
theorem dL_law_689 : decode cL_law 689 = .ok (.ireturn, 1) := by decide +kernel
theorem dL_law_690 : decode cL_law 690 = .ok (.aload_n 1, 1) := by decide +kernel
theorem dL_law_691 : decode cL_law 691 = .ok (.invokevirtual 105, 3) := by decide +kernel
theorem dL_law_694 : decode cL_law 694 = .ok (.aload_n 2, 1) := by decide +kernel
theorem dL_law_695 : decode cL_law 695 = .ok (.invokevirtual 109, 3) := by decide +kernel
theorem dL_law_698 : decode cL_law 698 = .ok (.lcmp, 1) := by decide +kernel
theorem dL_law_699 : decode cL_law 699 = .ok (.ifCond .eq 5, 3) := by decide +kernel
theorem dL_law_702 : decode cL_law 702 = .ok (.iconst 0, 1) := by decide +kernel
theorem dL_law_703 : decode cL_law 703 = .ok (.ireturn, 1) := by decide +kernel
theorem dL_law_704 : decode cL_law 704 = .ok (.iinc 3 4, 3) := by decide +kernel
theorem dL_law_707 : decode cL_law 707 = .ok (.goto (-689), 3) := by decide +kernel
theorem dL_law_710 : decode cL_law 710 = .ok (.iconst 1, 1) := by decide +kernel
theorem dL_law_711 : decode cL_law 711 = .ok (.ireturn, 1) := by decide +kernel
