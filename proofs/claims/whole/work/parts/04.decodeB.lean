theorem dX12_init_0 : decode cX12_init 0 = .ok (.aload_n 0, 1) := by decide +kernel
theorem dX12_init_1 : decode cX12_init 1 = .ok (.invokespecial 1, 3) := by decide +kernel
theorem dX12_init_4 : decode cX12_init 4 = .ok (.aload_n 0, 1) := by decide +kernel
theorem dX12_init_5 : decode cX12_init 5 = .ok (.bipush 6, 2) := by decide +kernel
theorem dX12_init_7 : decode cX12_init 7 = .ok (.newarray .int, 2) := by decide +kernel
theorem dX12_init_9 : decode cX12_init 9 = .ok (.putfield 7, 3) := by decide +kernel
theorem dX12_init_12 : decode cX12_init 12 = .ok (.aload_n 0, 1) := by decide +kernel
theorem dX12_init_13 : decode cX12_init 13 = .ok (.bipush 6, 2) := by decide +kernel
theorem dX12_init_15 : decode cX12_init 15 = .ok (.newarray .int, 2) := by decide +kernel
theorem dX12_init_17 : decode cX12_init 17 = .ok (.putfield 13, 3) := by decide +kernel
theorem dX12_init_20 : decode cX12_init 20 = .ok (.aload_n 0, 1) := by decide +kernel
theorem dX12_init_21 : decode cX12_init 21 = .ok (.bipush 6, 2) := by decide +kernel
theorem dX12_init_23 : decode cX12_init 23 = .ok (.newarray .int, 2) := by decide +kernel
theorem dX12_init_25 : decode cX12_init 25 = .ok (.putfield 16, 3) := by decide +kernel
theorem dX12_init_28 : decode cX12_init 28 = .ok (.aload_n 0, 1) := by decide +kernel
theorem dX12_init_29 : decode cX12_init 29 = .ok (.bipush 6, 2) := by decide +kernel
theorem dX12_init_31 : decode cX12_init 31 = .ok (.newarray .int, 2) := by decide +kernel
theorem dX12_init_33 : decode cX12_init 33 = .ok (.putfield 19, 3) := by decide +kernel
theorem dX12_init_36 : decode cX12_init 36 = .ok (.aload_n 0, 1) := by decide +kernel
theorem dX12_init_37 : decode cX12_init 37 = .ok (.bipush 6, 2) := by decide +kernel
theorem dX12_init_39 : decode cX12_init 39 = .ok (.newarray .int, 2) := by decide +kernel
theorem dX12_init_41 : decode cX12_init 41 = .ok (.putfield 22, 3) := by decide +kernel
theorem dX12_init_44 : decode cX12_init 44 = .ok (.aload_n 0, 1) := by decide +kernel
theorem dX12_init_45 : decode cX12_init 45 = .ok (.bipush 6, 2) := by decide +kernel
theorem dX12_init_47 : decode cX12_init 47 = .ok (.newarray .int, 2) := by decide +kernel
theorem dX12_init_49 : decode cX12_init 49 = .ok (.putfield 25, 3) := by decide +kernel
theorem dX12_init_52 : decode cX12_init 52 = .ok (.aload_n 0, 1) := by decide +kernel
theorem dX12_init_53 : decode cX12_init 53 = .ok (.bipush 12, 2) := by decide +kernel
theorem dX12_init_55 : decode cX12_init 55 = .ok (.newarray .byte, 2) := by decide +kernel
theorem dX12_init_57 : decode cX12_init 57 = .ok (.putfield 28, 3) := by decide +kernel
theorem dX12_init_60 : decode cX12_init 60 = .ok (.aload_n 0, 1) := by decide +kernel
theorem dX12_init_61 : decode cX12_init 61 = .ok (.bipush 41, 2) := by decide +kernel
theorem dX12_init_63 : decode cX12_init 63 = .ok (.newarray .int, 2) := by decide +kernel
theorem dX12_init_65 : decode cX12_init 65 = .ok (.putfield 32, 3) := by decide +kernel
theorem dX12_init_68 : decode cX12_init 68 = .ok (.aload_n 0, 1) := by decide +kernel
theorem dX12_init_69 : decode cX12_init 69 = .ok (.bipush 41, 2) := by decide +kernel
theorem dX12_init_71 : decode cX12_init 71 = .ok (.newarray .int, 2) := by decide +kernel
theorem dX12_init_73 : decode cX12_init 73 = .ok (.putfield 35, 3) := by decide +kernel
theorem dX12_init_76 : decode cX12_init 76 = .ok (.aload_n 0, 1) := by decide +kernel
theorem dX12_init_77 : decode cX12_init 77 = .ok (.bipush 6, 2) := by decide +kernel
theorem dX12_init_79 : decode cX12_init 79 = .ok (.newarray .int, 2) := by decide +kernel
theorem dX12_init_81 : decode cX12_init 81 = .ok (.putfield 38, 3) := by decide +kernel
theorem dX12_init_84 : decode cX12_init 84 = .ok (.aload_n 0, 1) := by decide +kernel
theorem dX12_init_85 : decode cX12_init 85 = .ok (.bipush 6, 2) := by decide +kernel
theorem dX12_init_87 : decode cX12_init 87 = .ok (.newarray .int, 2) := by decide +kernel
theorem dX12_init_89 : decode cX12_init 89 = .ok (.putfield 41, 3) := by decide +kernel
theorem dX12_init_92 : decode cX12_init 92 = .ok (.return_, 1) := by decide +kernel
theorem dX12_within_0 : decode cX12_within 0 = .ok (.iload_n 0, 1) := by decide +kernel
theorem dX12_within_1 : decode cX12_within 1 = .ok (.iload_n 1, 1) := by decide +kernel
theorem dX12_within_2 : decode cX12_within 2 = .ok (.if_icmp .lt 12, 3) := by decide +kernel
theorem dX12_within_5 : decode cX12_within 5 = .ok (.iload_n 0, 1) := by decide +kernel
theorem dX12_within_6 : decode cX12_within 6 = .ok (.iload_n 2, 1) := by decide +kernel
theorem dX12_within_7 : decode cX12_within 7 = .ok (.if_icmp .gt 7, 3) := by decide +kernel
theorem dX12_within_10 : decode cX12_within 10 = .ok (.iconst 1, 1) := by decide +kernel
theorem dX12_within_11 : decode cX12_within 11 = .ok (.goto 4, 3) := by decide +kernel
theorem dX12_within_14 : decode cX12_within 14 = .ok (.iconst 0, 1) := by decide +kernel
theorem dX12_within_15 : decode cX12_within 15 = .ok (.ireturn, 1) := by decide +kernel
theorem dX12_has_0 : decode cX12_has 0 = .ok (.iload_n 0, 1) := by decide +kernel
theorem dX12_has_1 : decode cX12_has 1 = .ok (.iload_n 1, 1) := by decide +kernel
theorem dX12_has_2 : decode cX12_has 2 = .ok (.ishr, 1) := by decide +kernel
theorem dX12_has_3 : decode cX12_has 3 = .ok (.iconst 1, 1) := by decide +kernel
theorem dX12_has_4 : decode cX12_has 4 = .ok (.iand, 1) := by decide +kernel
theorem dX12_has_5 : decode cX12_has 5 = .ok (.iconst 1, 1) := by decide +kernel
theorem dX12_has_6 : decode cX12_has 6 = .ok (.if_icmp .ne 7, 3) := by decide +kernel
theorem dX12_has_9 : decode cX12_has 9 = .ok (.iconst 1, 1) := by decide +kernel
theorem dX12_has_10 : decode cX12_has 10 = .ok (.goto 4, 3) := by decide +kernel
theorem dX12_has_13 : decode cX12_has 13 = .ok (.iconst 0, 1) := by decide +kernel
theorem dX12_has_14 : decode cX12_has 14 = .ok (.ireturn, 1) := by decide +kernel
theorem dX12_letters_0 : decode cX12_letters 0 = .ok (.iconst 0, 1) := by decide +kernel
theorem dX12_letters_1 : decode cX12_letters 1 = .ok (.istore_n 3, 1) := by decide +kernel
theorem dX12_letters_2 : decode cX12_letters 2 = .ok (.iconst 0, 1) := by decide +kernel
theorem dX12_letters_3 : decode cX12_letters 3 = .ok (.istore 4, 2) := by decide +kernel
theorem dX12_letters_5 : decode cX12_letters 5 = .ok (.iconst 0, 1) := by decide +kernel
theorem dX12_letters_6 : decode cX12_letters 6 = .ok (.istore 5, 2) := by decide +kernel
theorem dX12_letters_8 : decode cX12_letters 8 = .ok (.iload 5, 2) := by decide +kernel
theorem dX12_letters_10 : decode cX12_letters 10 = .ok (.bipush 8, 2) := by decide +kernel
theorem dX12_letters_12 : decode cX12_letters 12 = .ok (.if_icmp .ge 73, 3) := by decide +kernel
theorem dX12_letters_15 : decode cX12_letters 15 = .ok (.lload_n 1, 1) := by decide +kernel
theorem dX12_letters_16 : decode cX12_letters 16 = .ok (.bipush 8, 2) := by decide +kernel
theorem dX12_letters_18 : decode cX12_letters 18 = .ok (.iload 5, 2) := by decide +kernel
theorem dX12_letters_20 : decode cX12_letters 20 = .ok (.imul, 1) := by decide +kernel
theorem dX12_letters_21 : decode cX12_letters 21 = .ok (.lshr, 1) := by decide +kernel
theorem dX12_letters_22 : decode cX12_letters 22 = .ok (.ldc2_w 44, 3) := by decide +kernel
theorem dX12_letters_25 : decode cX12_letters 25 = .ok (.land, 1) := by decide +kernel
theorem dX12_letters_26 : decode cX12_letters 26 = .ok (.l2i, 1) := by decide +kernel
theorem dX12_letters_27 : decode cX12_letters 27 = .ok (.istore 6, 2) := by decide +kernel
theorem dX12_letters_29 : decode cX12_letters 29 = .ok (.iload 6, 2) := by decide +kernel
theorem dX12_letters_31 : decode cX12_letters 31 = .ok (.bipush 126, 2) := by decide +kernel
theorem dX12_letters_33 : decode cX12_letters 33 = .ok (.if_icmp .gt 13, 3) := by decide +kernel
theorem dX12_letters_36 : decode cX12_letters 36 = .ok (.iload 4, 2) := by decide +kernel
theorem dX12_letters_38 : decode cX12_letters 38 = .ok (.ifCond .eq 11, 3) := by decide +kernel
theorem dX12_letters_41 : decode cX12_letters 41 = .ok (.iload 6, 2) := by decide +kernel
theorem dX12_letters_43 : decode cX12_letters 43 = .ok (.ifCond .eq 6, 3) := by decide +kernel
theorem dX12_letters_46 : decode cX12_letters 46 = .ok (.bipush (-102), 2) := by decide +kernel
theorem dX12_letters_48 : decode cX12_letters 48 = .ok (.ireturn, 1) := by decide +kernel
theorem dX12_letters_49 : decode cX12_letters 49 = .ok (.iload 4, 2) := by decide +kernel
theorem dX12_letters_51 : decode cX12_letters 51 = .ok (.ifCond .ne 8, 3) := by decide +kernel
theorem dX12_letters_54 : decode cX12_letters 54 = .ok (.iload 6, 2) := by decide +kernel
theorem dX12_letters_56 : decode cX12_letters 56 = .ok (.ifCond .ne 7, 3) := by decide +kernel
theorem dX12_letters_59 : decode cX12_letters 59 = .ok (.iconst 1, 1) := by decide +kernel
theorem dX12_letters_60 : decode cX12_letters 60 = .ok (.goto 4, 3) := by decide +kernel
theorem dX12_letters_63 : decode cX12_letters 63 = .ok (.iconst 0, 1) := by decide +kernel
theorem dX12_letters_64 : decode cX12_letters 64 = .ok (.istore 4, 2) := by decide +kernel
theorem dX12_letters_66 : decode cX12_letters 66 = .ok (.iload_n 3, 1) := by decide +kernel
theorem dX12_letters_67 : decode cX12_letters 67 = .ok (.iload 6, 2) := by decide +kernel
theorem dX12_letters_69 : decode cX12_letters 69 = .ok (.ifCond .ne 7, 3) := by decide +kernel
theorem dX12_letters_72 : decode cX12_letters 72 = .ok (.iconst 0, 1) := by decide +kernel
theorem dX12_letters_73 : decode cX12_letters 73 = .ok (.goto 4, 3) := by decide +kernel
theorem dX12_letters_76 : decode cX12_letters 76 = .ok (.iconst 1, 1) := by decide +kernel
theorem dX12_letters_77 : decode cX12_letters 77 = .ok (.iadd, 1) := by decide +kernel
theorem dX12_letters_78 : decode cX12_letters 78 = .ok (.istore_n 3, 1) := by decide +kernel
theorem dX12_letters_79 : decode cX12_letters 79 = .ok (.iinc 5 1, 3) := by decide +kernel
theorem dX12_letters_82 : decode cX12_letters 82 = .ok (.goto (-74), 3) := by decide +kernel
theorem dX12_letters_85 : decode cX12_letters 85 = .ok (.aload_n 0, 1) := by decide +kernel
theorem dX12_letters_86 : decode cX12_letters 86 = .ok (.getfield 46, 3) := by decide +kernel
theorem dX12_letters_89 : decode cX12_letters 89 = .ok (.iload_n 3, 1) := by decide +kernel
theorem dX12_letters_90 : decode cX12_letters 90 = .ok (.iadd, 1) := by decide +kernel
theorem dX12_letters_91 : decode cX12_letters 91 = .ok (.bipush 12, 2) := by decide +kernel
theorem dX12_letters_93 : decode cX12_letters 93 = .ok (.if_icmp .le 6, 3) := by decide +kernel
theorem dX12_letters_96 : decode cX12_letters 96 = .ok (.bipush (-104), 2) := by decide +kernel
theorem dX12_letters_98 : decode cX12_letters 98 = .ok (.ireturn, 1) := by decide +kernel
theorem dX12_letters_99 : decode cX12_letters 99 = .ok (.iconst 0, 1) := by decide +kernel
theorem dX12_letters_100 : decode cX12_letters 100 = .ok (.istore 5, 2) := by decide +kernel
theorem dX12_letters_102 : decode cX12_letters 102 = .ok (.iload 5, 2) := by decide +kernel
theorem dX12_letters_104 : decode cX12_letters 104 = .ok (.iload_n 3, 1) := by decide +kernel
theorem dX12_letters_105 : decode cX12_letters 105 = .ok (.if_icmp .ge 30, 3) := by decide +kernel
theorem dX12_letters_108 : decode cX12_letters 108 = .ok (.aload_n 0, 1) := by decide +kernel
theorem dX12_letters_109 : decode cX12_letters 109 = .ok (.getfield 28, 3) := by decide +kernel
theorem dX12_letters_112 : decode cX12_letters 112 = .ok (.aload_n 0, 1) := by decide +kernel
theorem dX12_letters_113 : decode cX12_letters 113 = .ok (.getfield 46, 3) := by decide +kernel
theorem dX12_letters_116 : decode cX12_letters 116 = .ok (.iload 5, 2) := by decide +kernel
theorem dX12_letters_118 : decode cX12_letters 118 = .ok (.iadd, 1) := by decide +kernel
theorem dX12_letters_119 : decode cX12_letters 119 = .ok (.lload_n 1, 1) := by decide +kernel
theorem dX12_letters_120 : decode cX12_letters 120 = .ok (.bipush 8, 2) := by decide +kernel
theorem dX12_letters_122 : decode cX12_letters 122 = .ok (.iload 5, 2) := by decide +kernel
theorem dX12_letters_124 : decode cX12_letters 124 = .ok (.imul, 1) := by decide +kernel
theorem dX12_letters_125 : decode cX12_letters 125 = .ok (.lshr, 1) := by decide +kernel
theorem dX12_letters_126 : decode cX12_letters 126 = .ok (.l2i, 1) := by decide +kernel
theorem dX12_letters_127 : decode cX12_letters 127 = .ok (.i2b, 1) := by decide +kernel
theorem dX12_letters_128 : decode cX12_letters 128 = .ok (.bastore, 1) := by decide +kernel
theorem dX12_letters_129 : decode cX12_letters 129 = .ok (.iinc 5 1, 3) := by decide +kernel
theorem dX12_letters_132 : decode cX12_letters 132 = .ok (.goto (-30), 3) := by decide +kernel
theorem dX12_letters_135 : decode cX12_letters 135 = .ok (.aload_n 0, 1) := by decide +kernel
theorem dX12_letters_136 : decode cX12_letters 136 = .ok (.dup, 1) := by decide +kernel
theorem dX12_letters_137 : decode cX12_letters 137 = .ok (.getfield 46, 3) := by decide +kernel
theorem dX12_letters_140 : decode cX12_letters 140 = .ok (.iload_n 3, 1) := by decide +kernel
theorem dX12_letters_141 : decode cX12_letters 141 = .ok (.iadd, 1) := by decide +kernel
theorem dX12_letters_142 : decode cX12_letters 142 = .ok (.putfield 46, 3) := by decide +kernel
theorem dX12_letters_145 : decode cX12_letters 145 = .ok (.aload_n 0, 1) := by decide +kernel
theorem dX12_letters_146 : decode cX12_letters 146 = .ok (.getfield 46, 3) := by decide +kernel
theorem dX12_letters_149 : decode cX12_letters 149 = .ok (.ireturn, 1) := by decide +kernel
theorem dX12_blank_0 : decode cX12_blank 0 = .ok (.aload_n 0, 1) := by decide +kernel
theorem dX12_blank_1 : decode cX12_blank 1 = .ok (.getfield 46, 3) := by decide +kernel
theorem dX12_blank_4 : decode cX12_blank 4 = .ok (.istore_n 1, 1) := by decide +kernel
theorem dX12_blank_5 : decode cX12_blank 5 = .ok (.aload_n 0, 1) := by decide +kernel
theorem dX12_blank_6 : decode cX12_blank 6 = .ok (.iconst 0, 1) := by decide +kernel
theorem dX12_blank_7 : decode cX12_blank 7 = .ok (.putfield 46, 3) := by decide +kernel
theorem dX12_blank_10 : decode cX12_blank 10 = .ok (.iload_n 1, 1) := by decide +kernel
theorem dX12_blank_11 : decode cX12_blank 11 = .ok (.ireturn, 1) := by decide +kernel
theorem dX12_takes_0 : decode cX12_takes 0 = .ok (.iload_n 2, 1) := by decide +kernel
theorem dX12_takes_1 : decode cX12_takes 1 = .ok (.bipush 48, 2) := by decide +kernel
theorem dX12_takes_3 : decode cX12_takes 3 = .ok (.isub, 1) := by decide +kernel
theorem dX12_takes_4 : decode cX12_takes 4 = .ok (.istore_n 3, 1) := by decide +kernel
theorem dX12_takes_5 : decode cX12_takes 5 = .ok (.iload_n 1, 1) := by decide +kernel
theorem dX12_takes_6 : decode cX12_takes 6 = .ok (.tableswitch 155 0 7 #[46, 58, 96, 108, 96, 121, 134, 134], 46) := by decide +kernel
theorem dX12_takes_52 : decode cX12_takes 52 = .ok (.aload_n 0, 1) := by decide +kernel
theorem dX12_takes_53 : decode cX12_takes 53 = .ok (.iload_n 3, 1) := by decide +kernel
theorem dX12_takes_54 : decode cX12_takes 54 = .ok (.putfield 50, 3) := by decide +kernel
theorem dX12_takes_57 : decode cX12_takes 57 = .ok (.iload_n 3, 1) := by decide +kernel
theorem dX12_takes_58 : decode cX12_takes 58 = .ok (.iconst 1, 1) := by decide +kernel
theorem dX12_takes_59 : decode cX12_takes 59 = .ok (.iconst 4, 1) := by decide +kernel
theorem dX12_takes_60 : decode cX12_takes 60 = .ok (.invokestatic 53, 3) := by decide +kernel
theorem dX12_takes_63 : decode cX12_takes 63 = .ok (.ireturn, 1) := by decide +kernel
theorem dX12_takes_64 : decode cX12_takes 64 = .ok (.aload_n 0, 1) := by decide +kernel
theorem dX12_takes_65 : decode cX12_takes 65 = .ok (.bipush 10, 2) := by decide +kernel
theorem dX12_takes_67 : decode cX12_takes 67 = .ok (.aload_n 0, 1) := by decide +kernel
theorem dX12_takes_68 : decode cX12_takes 68 = .ok (.getfield 50, 3) := by decide +kernel
theorem dX12_takes_71 : decode cX12_takes 71 = .ok (.imul, 1) := by decide +kernel
theorem dX12_takes_72 : decode cX12_takes 72 = .ok (.iload_n 3, 1) := by decide +kernel
theorem dX12_takes_73 : decode cX12_takes 73 = .ok (.iadd, 1) := by decide +kernel
theorem dX12_takes_74 : decode cX12_takes 74 = .ok (.putfield 50, 3) := by decide +kernel
theorem dX12_takes_77 : decode cX12_takes 77 = .ok (.iload_n 3, 1) := by decide +kernel
theorem dX12_takes_78 : decode cX12_takes 78 = .ok (.iconst 0, 1) := by decide +kernel
theorem dX12_takes_79 : decode cX12_takes 79 = .ok (.bipush 9, 2) := by decide +kernel
theorem dX12_takes_81 : decode cX12_takes 81 = .ok (.invokestatic 53, 3) := by decide +kernel
theorem dX12_takes_84 : decode cX12_takes 84 = .ok (.ifCond .eq 16, 3) := by decide +kernel
theorem dX12_takes_87 : decode cX12_takes 87 = .ok (.aload_n 0, 1) := by decide +kernel
theorem dX12_takes_88 : decode cX12_takes 88 = .ok (.getfield 50, 3) := by decide +kernel
theorem dX12_takes_91 : decode cX12_takes 91 = .ok (.bipush 40, 2) := by decide +kernel
theorem dX12_takes_93 : decode cX12_takes 93 = .ok (.if_icmp .gt 7, 3) := by decide +kernel
theorem dX12_takes_96 : decode cX12_takes 96 = .ok (.iconst 1, 1) := by decide +kernel
theorem dX12_takes_97 : decode cX12_takes 97 = .ok (.goto 4, 3) := by decide +kernel
theorem dX12_takes_100 : decode cX12_takes 100 = .ok (.iconst 0, 1) := by decide +kernel
theorem dX12_takes_101 : decode cX12_takes 101 = .ok (.ireturn, 1) := by decide +kernel
theorem dX12_takes_102 : decode cX12_takes 102 = .ok (.iload_n 2, 1) := by decide +kernel
theorem dX12_takes_103 : decode cX12_takes 103 = .ok (.bipush 58, 2) := by decide +kernel
theorem dX12_takes_105 : decode cX12_takes 105 = .ok (.if_icmp .ne 7, 3) := by decide +kernel
theorem dX12_takes_108 : decode cX12_takes 108 = .ok (.iconst 1, 1) := by decide +kernel
theorem dX12_takes_109 : decode cX12_takes 109 = .ok (.goto 4, 3) := by decide +kernel
theorem dX12_takes_112 : decode cX12_takes 112 = .ok (.iconst 0, 1) := by decide +kernel
theorem dX12_takes_113 : decode cX12_takes 113 = .ok (.ireturn, 1) := by decide +kernel
theorem dX12_takes_114 : decode cX12_takes 114 = .ok (.aload_n 0, 1) := by decide +kernel
theorem dX12_takes_115 : decode cX12_takes 115 = .ok (.iload_n 3, 1) := by decide +kernel
theorem dX12_takes_116 : decode cX12_takes 116 = .ok (.putfield 57, 3) := by decide +kernel
theorem dX12_takes_119 : decode cX12_takes 119 = .ok (.iload_n 3, 1) := by decide +kernel
theorem dX12_takes_120 : decode cX12_takes 120 = .ok (.iconst 1, 1) := by decide +kernel
theorem dX12_takes_121 : decode cX12_takes 121 = .ok (.bipush 9, 2) := by decide +kernel
theorem dX12_takes_123 : decode cX12_takes 123 = .ok (.invokestatic 53, 3) := by decide +kernel
theorem dX12_takes_126 : decode cX12_takes 126 = .ok (.ireturn, 1) := by decide +kernel
theorem dX12_takes_127 : decode cX12_takes 127 = .ok (.aload_n 0, 1) := by decide +kernel
theorem dX12_takes_128 : decode cX12_takes 128 = .ok (.iload_n 3, 1) := by decide +kernel
theorem dX12_takes_129 : decode cX12_takes 129 = .ok (.putfield 60, 3) := by decide +kernel
theorem dX12_takes_132 : decode cX12_takes 132 = .ok (.iload_n 3, 1) := by decide +kernel
theorem dX12_takes_133 : decode cX12_takes 133 = .ok (.iconst 1, 1) := by decide +kernel
theorem dX12_takes_134 : decode cX12_takes 134 = .ok (.bipush 9, 2) := by decide +kernel
theorem dX12_takes_136 : decode cX12_takes 136 = .ok (.invokestatic 53, 3) := by decide +kernel
theorem dX12_takes_139 : decode cX12_takes 139 = .ok (.ireturn, 1) := by decide +kernel
theorem dX12_takes_140 : decode cX12_takes 140 = .ok (.aload_n 0, 1) := by decide +kernel
theorem dX12_takes_141 : decode cX12_takes 141 = .ok (.bipush 10, 2) := by decide +kernel
theorem dX12_takes_143 : decode cX12_takes 143 = .ok (.aload_n 0, 1) := by decide +kernel
theorem dX12_takes_144 : decode cX12_takes 144 = .ok (.getfield 60, 3) := by decide +kernel
theorem dX12_takes_147 : decode cX12_takes 147 = .ok (.imul, 1) := by decide +kernel
theorem dX12_takes_148 : decode cX12_takes 148 = .ok (.iload_n 3, 1) := by decide +kernel
theorem dX12_takes_149 : decode cX12_takes 149 = .ok (.iadd, 1) := by decide +kernel
theorem dX12_takes_150 : decode cX12_takes 150 = .ok (.putfield 60, 3) := by decide +kernel
theorem dX12_takes_153 : decode cX12_takes 153 = .ok (.iload_n 3, 1) := by decide +kernel
theorem dX12_takes_154 : decode cX12_takes 154 = .ok (.iconst 0, 1) := by decide +kernel
theorem dX12_takes_155 : decode cX12_takes 155 = .ok (.bipush 9, 2) := by decide +kernel
theorem dX12_takes_157 : decode cX12_takes 157 = .ok (.invokestatic 53, 3) := by decide +kernel
theorem dX12_takes_160 : decode cX12_takes 160 = .ok (.ireturn, 1) := by decide +kernel
theorem dX12_takes_161 : decode cX12_takes 161 = .ok (.aload_n 0, 1) := by decide +kernel
theorem dX12_takes_162 : decode cX12_takes 162 = .ok (.iload_n 1, 1) := by decide +kernel
theorem dX12_takes_163 : decode cX12_takes 163 = .ok (.bipush 8, 2) := by decide +kernel
theorem dX12_takes_165 : decode cX12_takes 165 = .ok (.if_icmp .ne 13, 3) := by decide +kernel
theorem dX12_takes_168 : decode cX12_takes 168 = .ok (.iload_n 2, 1) := by decide +kernel
theorem dX12_takes_169 : decode cX12_takes 169 = .ok (.bipush 111, 2) := by decide +kernel
theorem dX12_takes_171 : decode cX12_takes 171 = .ok (.if_icmp .ne 7, 3) := by decide +kernel
theorem dX12_takes_174 : decode cX12_takes 174 = .ok (.iconst 1, 1) := by decide +kernel
theorem dX12_takes_175 : decode cX12_takes 175 = .ok (.goto 4, 3) := by decide +kernel
theorem dX12_takes_178 : decode cX12_takes 178 = .ok (.iconst 0, 1) := by decide +kernel
theorem dX12_takes_179 : decode cX12_takes 179 = .ok (.putfield 63, 3) := by decide +kernel
theorem dX12_takes_182 : decode cX12_takes 182 = .ok (.aload_n 0, 1) := by decide +kernel
theorem dX12_takes_183 : decode cX12_takes 183 = .ok (.getfield 63, 3) := by decide +kernel
theorem dX12_takes_186 : decode cX12_takes 186 = .ok (.ireturn, 1) := by decide +kernel
theorem dX12_readWire_0 : decode cX12_readWire 0 = .ok (.aload_n 0, 1) := by decide +kernel
theorem dX12_readWire_1 : decode cX12_readWire 1 = .ok (.iconst 0, 1) := by decide +kernel
theorem dX12_readWire_2 : decode cX12_readWire 2 = .ok (.putfield 63, 3) := by decide +kernel
theorem dX12_readWire_5 : decode cX12_readWire 5 = .ok (.iconst 0, 1) := by decide +kernel
theorem dX12_readWire_6 : decode cX12_readWire 6 = .ok (.istore_n 1, 1) := by decide +kernel
theorem dX12_readWire_7 : decode cX12_readWire 7 = .ok (.iload_n 1, 1) := by decide +kernel
theorem dX12_readWire_8 : decode cX12_readWire 8 = .ok (.aload_n 0, 1) := by decide +kernel
theorem dX12_readWire_9 : decode cX12_readWire 9 = .ok (.getfield 46, 3) := by decide +kernel
theorem dX12_readWire_12 : decode cX12_readWire 12 = .ok (.if_icmp .ge 23, 3) := by decide +kernel
theorem dX12_readWire_15 : decode cX12_readWire 15 = .ok (.aload_n 0, 1) := by decide +kernel
theorem dX12_readWire_16 : decode cX12_readWire 16 = .ok (.iload_n 1, 1) := by decide +kernel
theorem dX12_readWire_17 : decode cX12_readWire 17 = .ok (.aload_n 0, 1) := by decide +kernel
theorem dX12_readWire_18 : decode cX12_readWire 18 = .ok (.getfield 28, 3) := by decide +kernel
theorem dX12_readWire_21 : decode cX12_readWire 21 = .ok (.iload_n 1, 1) := by decide +kernel
theorem dX12_readWire_22 : decode cX12_readWire 22 = .ok (.baload, 1) := by decide +kernel
theorem dX12_readWire_23 : decode cX12_readWire 23 = .ok (.invokevirtual 67, 3) := by decide +kernel
theorem dX12_readWire_26 : decode cX12_readWire 26 = .ok (.ifCond .eq 9, 3) := by decide +kernel
theorem dX12_readWire_29 : decode cX12_readWire 29 = .ok (.iinc 1 1, 3) := by decide +kernel
theorem dX12_readWire_32 : decode cX12_readWire 32 = .ok (.goto (-25), 3) := by decide +kernel
theorem dX12_readWire_35 : decode cX12_readWire 35 = .ok (.aload_n 0, 1) := by decide +kernel
theorem dX12_readWire_36 : decode cX12_readWire 36 = .ok (.iload_n 1, 1) := by decide +kernel
theorem dX12_readWire_37 : decode cX12_readWire 37 = .ok (.putfield 71, 3) := by decide +kernel
theorem dX12_readWire_40 : decode cX12_readWire 40 = .ok (.aload_n 0, 1) := by decide +kernel
theorem dX12_readWire_41 : decode cX12_readWire 41 = .ok (.iload_n 1, 1) := by decide +kernel
theorem dX12_readWire_42 : decode cX12_readWire 42 = .ok (.aload_n 0, 1) := by decide +kernel
theorem dX12_readWire_43 : decode cX12_readWire 43 = .ok (.getfield 46, 3) := by decide +kernel
theorem dX12_readWire_46 : decode cX12_readWire 46 = .ok (.if_icmp .ne 13, 3) := by decide +kernel
theorem dX12_readWire_49 : decode cX12_readWire 49 = .ok (.iload_n 1, 1) := by decide +kernel
theorem dX12_readWire_50 : decode cX12_readWire 50 = .ok (.bipush 7, 2) := by decide +kernel
theorem dX12_readWire_52 : decode cX12_readWire 52 = .ok (.if_icmp .le 7, 3) := by decide +kernel
theorem dX12_readWire_55 : decode cX12_readWire 55 = .ok (.iconst 1, 1) := by decide +kernel
theorem dX12_readWire_56 : decode cX12_readWire 56 = .ok (.goto 4, 3) := by decide +kernel
theorem dX12_readWire_59 : decode cX12_readWire 59 = .ok (.iconst 0, 1) := by decide +kernel
theorem dX12_readWire_60 : decode cX12_readWire 60 = .ok (.putfield 74, 3) := by decide +kernel
theorem dX12_readWire_63 : decode cX12_readWire 63 = .ok (.return_, 1) := by decide +kernel
theorem dX12_fault_0 : decode cX12_fault 0 = .ok (.aload_n 0, 1) := by decide +kernel
theorem dX12_fault_1 : decode cX12_fault 1 = .ok (.invokevirtual 77, 3) := by decide +kernel
theorem dX12_fault_4 : decode cX12_fault 4 = .ok (.aload_n 0, 1) := by decide +kernel
theorem dX12_fault_5 : decode cX12_fault 5 = .ok (.getfield 71, 3) := by decide +kernel
theorem dX12_fault_8 : decode cX12_fault 8 = .ok (.ireturn, 1) := by decide +kernel
theorem dX12_wire_0 : decode cX12_wire 0 = .ok (.aload_n 0, 1) := by decide +kernel
theorem dX12_wire_1 : decode cX12_wire 1 = .ok (.invokevirtual 77, 3) := by decide +kernel
theorem dX12_wire_4 : decode cX12_wire 4 = .ok (.aload_n 0, 1) := by decide +kernel
theorem dX12_wire_5 : decode cX12_wire 5 = .ok (.getfield 74, 3) := by decide +kernel
theorem dX12_wire_8 : decode cX12_wire 8 = .ok (.ifCond .ne 6, 3) := by decide +kernel
theorem dX12_wire_11 : decode cX12_wire 11 = .ok (.bipush (-103), 2) := by decide +kernel
theorem dX12_wire_13 : decode cX12_wire 13 = .ok (.ireturn, 1) := by decide +kernel
theorem dX12_wire_14 : decode cX12_wire 14 = .ok (.aload_n 0, 1) := by decide +kernel
theorem dX12_wire_15 : decode cX12_wire 15 = .ok (.aload_n 0, 1) := by decide +kernel
theorem dX12_wire_16 : decode cX12_wire 16 = .ok (.getfield 50, 3) := by decide +kernel
theorem dX12_wire_19 : decode cX12_wire 19 = .ok (.putfield 80, 3) := by decide +kernel
theorem dX12_wire_22 : decode cX12_wire 22 = .ok (.aload_n 0, 1) := by decide +kernel
theorem dX12_wire_23 : decode cX12_wire 23 = .ok (.aload_n 0, 1) := by decide +kernel
theorem dX12_wire_24 : decode cX12_wire 24 = .ok (.getfield 50, 3) := by decide +kernel
theorem dX12_wire_27 : decode cX12_wire 27 = .ok (.aload_n 0, 1) := by decide +kernel
theorem dX12_wire_28 : decode cX12_wire 28 = .ok (.getfield 50, 3) := by decide +kernel
theorem dX12_wire_31 : decode cX12_wire 31 = .ok (.imul, 1) := by decide +kernel
theorem dX12_wire_32 : decode cX12_wire 32 = .ok (.aload_n 0, 1) := by decide +kernel
theorem dX12_wire_33 : decode cX12_wire 33 = .ok (.getfield 57, 3) := by decide +kernel
theorem dX12_wire_36 : decode cX12_wire 36 = .ok (.imul, 1) := by decide +kernel
theorem dX12_wire_37 : decode cX12_wire 37 = .ok (.putfield 83, 3) := by decide +kernel
theorem dX12_wire_40 : decode cX12_wire 40 = .ok (.aload_n 0, 1) := by decide +kernel
theorem dX12_wire_41 : decode cX12_wire 41 = .ok (.aload_n 0, 1) := by decide +kernel
theorem dX12_wire_42 : decode cX12_wire 42 = .ok (.getfield 60, 3) := by decide +kernel
theorem dX12_wire_45 : decode cX12_wire 45 = .ok (.putfield 86, 3) := by decide +kernel
theorem dX12_wire_48 : decode cX12_wire 48 = .ok (.aload_n 0, 1) := by decide +kernel
theorem dX12_wire_49 : decode cX12_wire 49 = .ok (.aload_n 0, 1) := by decide +kernel
theorem dX12_wire_50 : decode cX12_wire 50 = .ok (.getfield 63, 3) := by decide +kernel
theorem dX12_wire_53 : decode cX12_wire 53 = .ok (.putfield 89, 3) := by decide +kernel
theorem dX12_wire_56 : decode cX12_wire 56 = .ok (.aload_n 0, 1) := by decide +kernel
theorem dX12_wire_57 : decode cX12_wire 57 = .ok (.iconst 0, 1) := by decide +kernel
theorem dX12_wire_58 : decode cX12_wire 58 = .ok (.putfield 92, 3) := by decide +kernel
theorem dX12_wire_61 : decode cX12_wire 61 = .ok (.aload_n 0, 1) := by decide +kernel
theorem dX12_wire_62 : decode cX12_wire 62 = .ok (.iconst 1, 1) := by decide +kernel
theorem dX12_wire_63 : decode cX12_wire 63 = .ok (.putfield 95, 3) := by decide +kernel
theorem dX12_wire_66 : decode cX12_wire 66 = .ok (.aload_n 0, 1) := by decide +kernel
theorem dX12_wire_67 : decode cX12_wire 67 = .ok (.dup, 1) := by decide +kernel
theorem dX12_wire_68 : decode cX12_wire 68 = .ok (.getfield 98, 3) := by decide +kernel
theorem dX12_wire_71 : decode cX12_wire 71 = .ok (.iconst 1, 1) := by decide +kernel
theorem dX12_wire_72 : decode cX12_wire 72 = .ok (.iadd, 1) := by decide +kernel
theorem dX12_wire_73 : decode cX12_wire 73 = .ok (.putfield 98, 3) := by decide +kernel
theorem dX12_wire_76 : decode cX12_wire 76 = .ok (.aload_n 0, 1) := by decide +kernel
theorem dX12_wire_77 : decode cX12_wire 77 = .ok (.iconst 0, 1) := by decide +kernel
theorem dX12_wire_78 : decode cX12_wire 78 = .ok (.putfield 101, 3) := by decide +kernel
theorem dX12_wire_81 : decode cX12_wire 81 = .ok (.aload_n 0, 1) := by decide +kernel
theorem dX12_wire_82 : decode cX12_wire 82 = .ok (.iconst 0, 1) := by decide +kernel
theorem dX12_wire_83 : decode cX12_wire 83 = .ok (.putfield 104, 3) := by decide +kernel
theorem dX12_wire_86 : decode cX12_wire 86 = .ok (.aload_n 0, 1) := by decide +kernel
theorem dX12_wire_87 : decode cX12_wire 87 = .ok (.iconst 0, 1) := by decide +kernel
theorem dX12_wire_88 : decode cX12_wire 88 = .ok (.putfield 107, 3) := by decide +kernel
theorem dX12_wire_91 : decode cX12_wire 91 = .ok (.aload_n 0, 1) := by decide +kernel
theorem dX12_wire_92 : decode cX12_wire 92 = .ok (.iconst 0, 1) := by decide +kernel
theorem dX12_wire_93 : decode cX12_wire 93 = .ok (.putfield 110, 3) := by decide +kernel
theorem dX12_wire_96 : decode cX12_wire 96 = .ok (.aload_n 0, 1) := by decide +kernel
theorem dX12_wire_97 : decode cX12_wire 97 = .ok (.iconst 0, 1) := by decide +kernel
theorem dX12_wire_98 : decode cX12_wire 98 = .ok (.putfield 46, 3) := by decide +kernel
theorem dX12_wire_101 : decode cX12_wire 101 = .ok (.aload_n 0, 1) := by decide +kernel
theorem dX12_wire_102 : decode cX12_wire 102 = .ok (.getfield 83, 3) := by decide +kernel
theorem dX12_wire_105 : decode cX12_wire 105 = .ok (.ireturn, 1) := by decide +kernel
theorem dX12_weighs_0 : decode cX12_weighs 0 = .ok (.iload_n 2, 1) := by decide +kernel
theorem dX12_weighs_1 : decode cX12_weighs 1 = .ok (.aload_n 0, 1) := by decide +kernel
theorem dX12_weighs_2 : decode cX12_weighs 2 = .ok (.getfield 19, 3) := by decide +kernel
theorem dX12_weighs_5 : decode cX12_weighs 5 = .ok (.iload_n 1, 1) := by decide +kernel
theorem dX12_weighs_6 : decode cX12_weighs 6 = .ok (.iaload, 1) := by decide +kernel
theorem dX12_weighs_7 : decode cX12_weighs 7 = .ok (.isub, 1) := by decide +kernel
theorem dX12_weighs_8 : decode cX12_weighs 8 = .ok (.bipush 6, 2) := by decide +kernel
theorem dX12_weighs_10 : decode cX12_weighs 10 = .ok (.idiv, 1) := by decide +kernel
theorem dX12_weighs_11 : decode cX12_weighs 11 = .ok (.istore_n 3, 1) := by decide +kernel
theorem dX12_weighs_12 : decode cX12_weighs 12 = .ok (.aload_n 0, 1) := by decide +kernel
theorem dX12_weighs_13 : decode cX12_weighs 13 = .ok (.getfield 13, 3) := by decide +kernel
theorem dX12_weighs_16 : decode cX12_weighs 16 = .ok (.iload_n 1, 1) := by decide +kernel
theorem dX12_weighs_17 : decode cX12_weighs 17 = .ok (.iaload, 1) := by decide +kernel
theorem dX12_weighs_18 : decode cX12_weighs 18 = .ok (.aload_n 0, 1) := by decide +kernel
theorem dX12_weighs_19 : decode cX12_weighs 19 = .ok (.getfield 7, 3) := by decide +kernel
theorem dX12_weighs_22 : decode cX12_weighs 22 = .ok (.iload_n 1, 1) := by decide +kernel
theorem dX12_weighs_23 : decode cX12_weighs 23 = .ok (.iaload, 1) := by decide +kernel
theorem dX12_weighs_24 : decode cX12_weighs 24 = .ok (.iconst 1, 1) := by decide +kernel
theorem dX12_weighs_25 : decode cX12_weighs 25 = .ok (.if_icmp .ne 7, 3) := by decide +kernel
theorem dX12_weighs_28 : decode cX12_weighs 28 = .ok (.iconst 2, 1) := by decide +kernel
theorem dX12_weighs_29 : decode cX12_weighs 29 = .ok (.goto 34, 3) := by decide +kernel
theorem dX12_weighs_32 : decode cX12_weighs 32 = .ok (.aload_n 0, 1) := by decide +kernel
theorem dX12_weighs_33 : decode cX12_weighs 33 = .ok (.getfield 7, 3) := by decide +kernel
theorem dX12_weighs_36 : decode cX12_weighs 36 = .ok (.iload_n 1, 1) := by decide +kernel
theorem dX12_weighs_37 : decode cX12_weighs 37 = .ok (.iaload, 1) := by decide +kernel
theorem dX12_weighs_38 : decode cX12_weighs 38 = .ok (.iconst 3, 1) := by decide +kernel
theorem dX12_weighs_39 : decode cX12_weighs 39 = .ok (.if_icmp .ne 7, 3) := by decide +kernel
theorem dX12_weighs_42 : decode cX12_weighs 42 = .ok (.iload_n 3, 1) := by decide +kernel
theorem dX12_weighs_43 : decode cX12_weighs 43 = .ok (.goto 20, 3) := by decide +kernel
theorem dX12_weighs_46 : decode cX12_weighs 46 = .ok (.aload_n 0, 1) := by decide +kernel
theorem dX12_weighs_47 : decode cX12_weighs 47 = .ok (.getfield 7, 3) := by decide +kernel
theorem dX12_weighs_50 : decode cX12_weighs 50 = .ok (.iload_n 1, 1) := by decide +kernel
theorem dX12_weighs_51 : decode cX12_weighs 51 = .ok (.iaload, 1) := by decide +kernel
theorem dX12_weighs_52 : decode cX12_weighs 52 = .ok (.iconst 4, 1) := by decide +kernel
theorem dX12_weighs_53 : decode cX12_weighs 53 = .ok (.if_icmp .ne 9, 3) := by decide +kernel
theorem dX12_weighs_56 : decode cX12_weighs 56 = .ok (.iconst 2, 1) := by decide +kernel
theorem dX12_weighs_57 : decode cX12_weighs 57 = .ok (.iload_n 3, 1) := by decide +kernel
theorem dX12_weighs_58 : decode cX12_weighs 58 = .ok (.imul, 1) := by decide +kernel
theorem dX12_weighs_59 : decode cX12_weighs 59 = .ok (.goto 4, 3) := by decide +kernel
theorem dX12_weighs_62 : decode cX12_weighs 62 = .ok (.iconst 0, 1) := by decide +kernel
theorem dX12_weighs_63 : decode cX12_weighs 63 = .ok (.iadd, 1) := by decide +kernel
theorem dX12_weighs_64 : decode cX12_weighs 64 = .ok (.ireturn, 1) := by decide +kernel
theorem dX12_cabinWeighs_0 : decode cX12_cabinWeighs 0 = .ok (.bipush 10, 2) := by decide +kernel
theorem dX12_cabinWeighs_2 : decode cX12_cabinWeighs 2 = .ok (.istore 4, 2) := by decide +kernel
theorem dX12_cabinWeighs_4 : decode cX12_cabinWeighs 4 = .ok (.iconst 0, 1) := by decide +kernel
theorem dX12_cabinWeighs_5 : decode cX12_cabinWeighs 5 = .ok (.istore 5, 2) := by decide +kernel
theorem dX12_cabinWeighs_7 : decode cX12_cabinWeighs 7 = .ok (.iload 5, 2) := by decide +kernel
theorem dX12_cabinWeighs_9 : decode cX12_cabinWeighs 9 = .ok (.aload_n 0, 1) := by decide +kernel
theorem dX12_cabinWeighs_10 : decode cX12_cabinWeighs 10 = .ok (.getfield 107, 3) := by decide +kernel
theorem dX12_cabinWeighs_13 : decode cX12_cabinWeighs 13 = .ok (.if_icmp .ge 62, 3) := by decide +kernel
theorem dX12_cabinWeighs_16 : decode cX12_cabinWeighs 16 = .ok (.aload_n 0, 1) := by decide +kernel
theorem dX12_cabinWeighs_17 : decode cX12_cabinWeighs 17 = .ok (.getfield 16, 3) := by decide +kernel
theorem dX12_cabinWeighs_20 : decode cX12_cabinWeighs 20 = .ok (.iload 5, 2) := by decide +kernel
theorem dX12_cabinWeighs_22 : decode cX12_cabinWeighs 22 = .ok (.iaload, 1) := by decide +kernel
theorem dX12_cabinWeighs_23 : decode cX12_cabinWeighs 23 = .ok (.iload_n 1, 1) := by decide +kernel
theorem dX12_cabinWeighs_24 : decode cX12_cabinWeighs 24 = .ok (.if_icmp .ne 7, 3) := by decide +kernel
theorem dX12_cabinWeighs_27 : decode cX12_cabinWeighs 27 = .ok (.iconst 1, 1) := by decide +kernel
theorem dX12_cabinWeighs_28 : decode cX12_cabinWeighs 28 = .ok (.goto 4, 3) := by decide +kernel
theorem dX12_cabinWeighs_31 : decode cX12_cabinWeighs 31 = .ok (.iconst 0, 1) := by decide +kernel
theorem dX12_cabinWeighs_32 : decode cX12_cabinWeighs 32 = .ok (.iload_n 3, 1) := by decide +kernel
theorem dX12_cabinWeighs_33 : decode cX12_cabinWeighs 33 = .ok (.iload 5, 2) := by decide +kernel
theorem dX12_cabinWeighs_35 : decode cX12_cabinWeighs 35 = .ok (.invokestatic 113, 3) := by decide +kernel
theorem dX12_cabinWeighs_38 : decode cX12_cabinWeighs 38 = .ok (.if_icmp .eq 7, 3) := by decide +kernel
theorem dX12_cabinWeighs_41 : decode cX12_cabinWeighs 41 = .ok (.iconst 1, 1) := by decide +kernel
theorem dX12_cabinWeighs_42 : decode cX12_cabinWeighs 42 = .ok (.goto 4, 3) := by decide +kernel
theorem dX12_cabinWeighs_45 : decode cX12_cabinWeighs 45 = .ok (.iconst 0, 1) := by decide +kernel
theorem dX12_cabinWeighs_46 : decode cX12_cabinWeighs 46 = .ok (.istore 6, 2) := by decide +kernel
theorem dX12_cabinWeighs_48 : decode cX12_cabinWeighs 48 = .ok (.iload 4, 2) := by decide +kernel
theorem dX12_cabinWeighs_50 : decode cX12_cabinWeighs 50 = .ok (.iload 6, 2) := by decide +kernel
theorem dX12_cabinWeighs_52 : decode cX12_cabinWeighs 52 = .ok (.ifCond .eq 13, 3) := by decide +kernel
theorem dX12_cabinWeighs_55 : decode cX12_cabinWeighs 55 = .ok (.aload_n 0, 1) := by decide +kernel
theorem dX12_cabinWeighs_56 : decode cX12_cabinWeighs 56 = .ok (.iload 5, 2) := by decide +kernel
theorem dX12_cabinWeighs_58 : decode cX12_cabinWeighs 58 = .ok (.iload_n 2, 1) := by decide +kernel
theorem dX12_cabinWeighs_59 : decode cX12_cabinWeighs 59 = .ok (.invokevirtual 116, 3) := by decide +kernel
theorem dX12_cabinWeighs_62 : decode cX12_cabinWeighs 62 = .ok (.goto 4, 3) := by decide +kernel
theorem dX12_cabinWeighs_65 : decode cX12_cabinWeighs 65 = .ok (.iconst 0, 1) := by decide +kernel
theorem dX12_cabinWeighs_66 : decode cX12_cabinWeighs 66 = .ok (.iadd, 1) := by decide +kernel
theorem dX12_cabinWeighs_67 : decode cX12_cabinWeighs 67 = .ok (.istore 4, 2) := by decide +kernel
theorem dX12_cabinWeighs_69 : decode cX12_cabinWeighs 69 = .ok (.iinc 5 1, 3) := by decide +kernel
theorem dX12_cabinWeighs_72 : decode cX12_cabinWeighs 72 = .ok (.goto (-65), 3) := by decide +kernel
theorem dX12_cabinWeighs_75 : decode cX12_cabinWeighs 75 = .ok (.iload 4, 2) := by decide +kernel
theorem dX12_cabinWeighs_77 : decode cX12_cabinWeighs 77 = .ok (.ireturn, 1) := by decide +kernel
theorem dX12_turnsAt_0 : decode cX12_turnsAt 0 = .ok (.iload_n 1, 1) := by decide +kernel
theorem dX12_turnsAt_1 : decode cX12_turnsAt 1 = .ok (.ifCond .ne 7, 3) := by decide +kernel
theorem dX12_turnsAt_4 : decode cX12_turnsAt 4 = .ok (.iconst 0, 1) := by decide +kernel
theorem dX12_turnsAt_5 : decode cX12_turnsAt 5 = .ok (.goto 11, 3) := by decide +kernel
theorem dX12_turnsAt_8 : decode cX12_turnsAt 8 = .ok (.aload_n 0, 1) := by decide +kernel
theorem dX12_turnsAt_9 : decode cX12_turnsAt 9 = .ok (.getfield 83, 3) := by decide +kernel
theorem dX12_turnsAt_12 : decode cX12_turnsAt 12 = .ok (.iload_n 1, 1) := by decide +kernel
theorem dX12_turnsAt_13 : decode cX12_turnsAt 13 = .ok (.iload_n 1, 1) := by decide +kernel
theorem dX12_turnsAt_14 : decode cX12_turnsAt 14 = .ok (.imul, 1) := by decide +kernel
theorem dX12_turnsAt_15 : decode cX12_turnsAt 15 = .ok (.idiv, 1) := by decide +kernel
theorem dX12_turnsAt_16 : decode cX12_turnsAt 16 = .ok (.ireturn, 1) := by decide +kernel
theorem dX12_armBy_0 : decode cX12_armBy 0 = .ok (.aload_n 0, 1) := by decide +kernel
theorem dX12_armBy_1 : decode cX12_armBy 1 = .ok (.iconst 0, 1) := by decide +kernel
theorem dX12_armBy_2 : decode cX12_armBy 2 = .ok (.iload_n 3, 1) := by decide +kernel
theorem dX12_armBy_3 : decode cX12_armBy 3 = .ok (.iload 4, 2) := by decide +kernel
theorem dX12_armBy_5 : decode cX12_armBy 5 = .ok (.invokevirtual 120, 3) := by decide +kernel
theorem dX12_armBy_8 : decode cX12_armBy 8 = .ok (.istore 5, 2) := by decide +kernel
theorem dX12_armBy_10 : decode cX12_armBy 10 = .ok (.aload_n 0, 1) := by decide +kernel
theorem dX12_armBy_11 : decode cX12_armBy 11 = .ok (.iconst 1, 1) := by decide +kernel
theorem dX12_armBy_12 : decode cX12_armBy 12 = .ok (.iload_n 3, 1) := by decide +kernel
theorem dX12_armBy_13 : decode cX12_armBy 13 = .ok (.iload 4, 2) := by decide +kernel
theorem dX12_armBy_15 : decode cX12_armBy 15 = .ok (.invokevirtual 120, 3) := by decide +kernel
theorem dX12_armBy_18 : decode cX12_armBy 18 = .ok (.istore 6, 2) := by decide +kernel
theorem dX12_armBy_20 : decode cX12_armBy 20 = .ok (.iload_n 2, 1) := by decide +kernel
theorem dX12_armBy_21 : decode cX12_armBy 21 = .ok (.iload 6, 2) := by decide +kernel
theorem dX12_armBy_23 : decode cX12_armBy 23 = .ok (.imul, 1) := by decide +kernel
theorem dX12_armBy_24 : decode cX12_armBy 24 = .ok (.iload 5, 2) := by decide +kernel
theorem dX12_armBy_26 : decode cX12_armBy 26 = .ok (.iload 6, 2) := by decide +kernel
theorem dX12_armBy_28 : decode cX12_armBy 28 = .ok (.iadd, 1) := by decide +kernel
theorem dX12_armBy_29 : decode cX12_armBy 29 = .ok (.idiv, 1) := by decide +kernel
theorem dX12_armBy_30 : decode cX12_armBy 30 = .ok (.istore 7, 2) := by decide +kernel
theorem dX12_armBy_32 : decode cX12_armBy 32 = .ok (.iload_n 1, 1) := by decide +kernel
theorem dX12_armBy_33 : decode cX12_armBy 33 = .ok (.ifCond .ne 8, 3) := by decide +kernel
theorem dX12_armBy_36 : decode cX12_armBy 36 = .ok (.iload 7, 2) := by decide +kernel
theorem dX12_armBy_38 : decode cX12_armBy 38 = .ok (.goto 7, 3) := by decide +kernel
theorem dX12_armBy_41 : decode cX12_armBy 41 = .ok (.iload_n 2, 1) := by decide +kernel
theorem dX12_armBy_42 : decode cX12_armBy 42 = .ok (.iload 7, 2) := by decide +kernel
theorem dX12_armBy_44 : decode cX12_armBy 44 = .ok (.isub, 1) := by decide +kernel
theorem dX12_armBy_45 : decode cX12_armBy 45 = .ok (.ireturn, 1) := by decide +kernel
theorem dX12_floorBy_0 : decode cX12_floorBy 0 = .ok (.aload_n 0, 1) := by decide +kernel
theorem dX12_floorBy_1 : decode cX12_floorBy 1 = .ok (.iload_n 1, 1) := by decide +kernel
theorem dX12_floorBy_2 : decode cX12_floorBy 2 = .ok (.iload_n 2, 1) := by decide +kernel
theorem dX12_floorBy_3 : decode cX12_floorBy 3 = .ok (.iload_n 3, 1) := by decide +kernel
theorem dX12_floorBy_4 : decode cX12_floorBy 4 = .ok (.iload 4, 2) := by decide +kernel
theorem dX12_floorBy_6 : decode cX12_floorBy 6 = .ok (.invokevirtual 124, 3) := by decide +kernel
theorem dX12_floorBy_9 : decode cX12_floorBy 9 = .ok (.aload_n 0, 1) := by decide +kernel
theorem dX12_floorBy_10 : decode cX12_floorBy 10 = .ok (.iload_n 2, 1) := by decide +kernel
theorem dX12_floorBy_11 : decode cX12_floorBy 11 = .ok (.invokevirtual 128, 3) := by decide +kernel
theorem dX12_floorBy_14 : decode cX12_floorBy 14 = .ok (.imul, 1) := by decide +kernel
theorem dX12_floorBy_15 : decode cX12_floorBy 15 = .ok (.aload_n 0, 1) := by decide +kernel
theorem dX12_floorBy_16 : decode cX12_floorBy 16 = .ok (.iload_n 2, 1) := by decide +kernel
theorem dX12_floorBy_17 : decode cX12_floorBy 17 = .ok (.invokevirtual 128, 3) := by decide +kernel
theorem dX12_floorBy_20 : decode cX12_floorBy 20 = .ok (.imul, 1) := by decide +kernel
theorem dX12_floorBy_21 : decode cX12_floorBy 21 = .ok (.ireturn, 1) := by decide +kernel
theorem dX12_strainAt_0 : decode cX12_strainAt 0 = .ok (.aload_n 0, 1) := by decide +kernel
theorem dX12_strainAt_1 : decode cX12_strainAt 1 = .ok (.iconst 0, 1) := by decide +kernel
theorem dX12_strainAt_2 : decode cX12_strainAt 2 = .ok (.iload_n 2, 1) := by decide +kernel
theorem dX12_strainAt_3 : decode cX12_strainAt 3 = .ok (.iconst 0, 1) := by decide +kernel
theorem dX12_strainAt_4 : decode cX12_strainAt 4 = .ok (.invokevirtual 120, 3) := by decide +kernel
theorem dX12_strainAt_7 : decode cX12_strainAt 7 = .ok (.aload_n 0, 1) := by decide +kernel
theorem dX12_strainAt_8 : decode cX12_strainAt 8 = .ok (.iconst 0, 1) := by decide +kernel
theorem dX12_strainAt_9 : decode cX12_strainAt 9 = .ok (.iload_n 1, 1) := by decide +kernel
theorem dX12_strainAt_10 : decode cX12_strainAt 10 = .ok (.iload_n 2, 1) := by decide +kernel
theorem dX12_strainAt_11 : decode cX12_strainAt 11 = .ok (.iconst 0, 1) := by decide +kernel
theorem dX12_strainAt_12 : decode cX12_strainAt 12 = .ok (.invokevirtual 132, 3) := by decide +kernel
theorem dX12_strainAt_15 : decode cX12_strainAt 15 = .ok (.imul, 1) := by decide +kernel
theorem dX12_strainAt_16 : decode cX12_strainAt 16 = .ok (.bipush 100, 2) := by decide +kernel
theorem dX12_strainAt_18 : decode cX12_strainAt 18 = .ok (.idiv, 1) := by decide +kernel
theorem dX12_strainAt_19 : decode cX12_strainAt 19 = .ok (.ireturn, 1) := by decide +kernel
theorem dX12_inCabin_0 : decode cX12_inCabin 0 = .ok (.iconst 0, 1) := by decide +kernel
theorem dX12_inCabin_1 : decode cX12_inCabin 1 = .ok (.istore_n 2, 1) := by decide +kernel
theorem dX12_inCabin_2 : decode cX12_inCabin 2 = .ok (.iconst 0, 1) := by decide +kernel
theorem dX12_inCabin_3 : decode cX12_inCabin 3 = .ok (.istore_n 3, 1) := by decide +kernel
theorem dX12_inCabin_4 : decode cX12_inCabin 4 = .ok (.iload_n 3, 1) := by decide +kernel
theorem dX12_inCabin_5 : decode cX12_inCabin 5 = .ok (.aload_n 0, 1) := by decide +kernel
theorem dX12_inCabin_6 : decode cX12_inCabin 6 = .ok (.getfield 107, 3) := by decide +kernel
theorem dX12_inCabin_9 : decode cX12_inCabin 9 = .ok (.if_icmp .ge 27, 3) := by decide +kernel
theorem dX12_inCabin_12 : decode cX12_inCabin 12 = .ok (.iload_n 2, 1) := by decide +kernel
theorem dX12_inCabin_13 : decode cX12_inCabin 13 = .ok (.aload_n 0, 1) := by decide +kernel
theorem dX12_inCabin_14 : decode cX12_inCabin 14 = .ok (.getfield 16, 3) := by decide +kernel
theorem dX12_inCabin_17 : decode cX12_inCabin 17 = .ok (.iload_n 3, 1) := by decide +kernel
theorem dX12_inCabin_18 : decode cX12_inCabin 18 = .ok (.iaload, 1) := by decide +kernel
theorem dX12_inCabin_19 : decode cX12_inCabin 19 = .ok (.iload_n 1, 1) := by decide +kernel
theorem dX12_inCabin_20 : decode cX12_inCabin 20 = .ok (.if_icmp .ne 7, 3) := by decide +kernel
theorem dX12_inCabin_23 : decode cX12_inCabin 23 = .ok (.iconst 1, 1) := by decide +kernel
theorem dX12_inCabin_24 : decode cX12_inCabin 24 = .ok (.goto 4, 3) := by decide +kernel
theorem dX12_inCabin_27 : decode cX12_inCabin 27 = .ok (.iconst 0, 1) := by decide +kernel
theorem dX12_inCabin_28 : decode cX12_inCabin 28 = .ok (.iadd, 1) := by decide +kernel
theorem dX12_inCabin_29 : decode cX12_inCabin 29 = .ok (.istore_n 2, 1) := by decide +kernel
theorem dX12_inCabin_30 : decode cX12_inCabin 30 = .ok (.iinc 3 1, 3) := by decide +kernel
theorem dX12_inCabin_33 : decode cX12_inCabin 33 = .ok (.goto (-29), 3) := by decide +kernel
theorem dX12_inCabin_36 : decode cX12_inCabin 36 = .ok (.iload_n 2, 1) := by decide +kernel
theorem dX12_inCabin_37 : decode cX12_inCabin 37 = .ok (.ireturn, 1) := by decide +kernel
theorem dX12_cabinNow_0 : decode cX12_cabinNow 0 = .ok (.iload_n 2, 1) := by decide +kernel
theorem dX12_cabinNow_1 : decode cX12_cabinNow 1 = .ok (.tableswitch 68 0 2 #[27, 38, 53], 27) := by decide +kernel
theorem dX12_cabinNow_28 : decode cX12_cabinNow 28 = .ok (.aload_n 0, 1) := by decide +kernel
theorem dX12_cabinNow_29 : decode cX12_cabinNow 29 = .ok (.iload_n 1, 1) := by decide +kernel
theorem dX12_cabinNow_30 : decode cX12_cabinNow 30 = .ok (.aload_n 0, 1) := by decide +kernel
theorem dX12_cabinNow_31 : decode cX12_cabinNow 31 = .ok (.getfield 104, 3) := by decide +kernel
theorem dX12_cabinNow_34 : decode cX12_cabinNow 34 = .ok (.iconst 0, 1) := by decide +kernel
theorem dX12_cabinNow_35 : decode cX12_cabinNow 35 = .ok (.invokevirtual 120, 3) := by decide +kernel
theorem dX12_cabinNow_38 : decode cX12_cabinNow 38 = .ok (.ireturn, 1) := by decide +kernel
theorem dX12_cabinNow_39 : decode cX12_cabinNow 39 = .ok (.aload_n 0, 1) := by decide +kernel
theorem dX12_cabinNow_40 : decode cX12_cabinNow 40 = .ok (.iload_n 1, 1) := by decide +kernel
theorem dX12_cabinNow_41 : decode cX12_cabinNow 41 = .ok (.aload_n 0, 1) := by decide +kernel
theorem dX12_cabinNow_42 : decode cX12_cabinNow 42 = .ok (.getfield 80, 3) := by decide +kernel
theorem dX12_cabinNow_45 : decode cX12_cabinNow 45 = .ok (.aload_n 0, 1) := by decide +kernel
theorem dX12_cabinNow_46 : decode cX12_cabinNow 46 = .ok (.getfield 104, 3) := by decide +kernel
theorem dX12_cabinNow_49 : decode cX12_cabinNow 49 = .ok (.iconst 0, 1) := by decide +kernel
theorem dX12_cabinNow_50 : decode cX12_cabinNow 50 = .ok (.invokevirtual 124, 3) := by decide +kernel
theorem dX12_cabinNow_53 : decode cX12_cabinNow 53 = .ok (.ireturn, 1) := by decide +kernel
theorem dX12_cabinNow_54 : decode cX12_cabinNow 54 = .ok (.aload_n 0, 1) := by decide +kernel
theorem dX12_cabinNow_55 : decode cX12_cabinNow 55 = .ok (.iload_n 1, 1) := by decide +kernel
theorem dX12_cabinNow_56 : decode cX12_cabinNow 56 = .ok (.aload_n 0, 1) := by decide +kernel
theorem dX12_cabinNow_57 : decode cX12_cabinNow 57 = .ok (.getfield 80, 3) := by decide +kernel
theorem dX12_cabinNow_60 : decode cX12_cabinNow 60 = .ok (.aload_n 0, 1) := by decide +kernel
theorem dX12_cabinNow_61 : decode cX12_cabinNow 61 = .ok (.getfield 104, 3) := by decide +kernel
theorem dX12_cabinNow_64 : decode cX12_cabinNow 64 = .ok (.iconst 0, 1) := by decide +kernel
theorem dX12_cabinNow_65 : decode cX12_cabinNow 65 = .ok (.invokevirtual 132, 3) := by decide +kernel
theorem dX12_cabinNow_68 : decode cX12_cabinNow 68 = .ok (.ireturn, 1) := by decide +kernel
theorem dX12_cabinNow_69 : decode cX12_cabinNow 69 = .ok (.aload_n 0, 1) := by decide +kernel
theorem dX12_cabinNow_70 : decode cX12_cabinNow 70 = .ok (.iload_n 1, 1) := by decide +kernel
theorem dX12_cabinNow_71 : decode cX12_cabinNow 71 = .ok (.invokevirtual 135, 3) := by decide +kernel
theorem dX12_cabinNow_74 : decode cX12_cabinNow 74 = .ok (.ireturn, 1) := by decide +kernel
theorem dX12_cabin_0 : decode cX12_cabin 0 = .ok (.iload_n 1, 1) := by decide +kernel
theorem dX12_cabin_1 : decode cX12_cabin 1 = .ok (.iconst 0, 1) := by decide +kernel
theorem dX12_cabin_2 : decode cX12_cabin 2 = .ok (.iconst 1, 1) := by decide +kernel
theorem dX12_cabin_3 : decode cX12_cabin 3 = .ok (.invokestatic 53, 3) := by decide +kernel
theorem dX12_cabin_6 : decode cX12_cabin 6 = .ok (.ifCond .ne 6, 3) := by decide +kernel
theorem dX12_cabin_9 : decode cX12_cabin 9 = .ok (.bipush (-101), 2) := by decide +kernel
theorem dX12_cabin_11 : decode cX12_cabin 11 = .ok (.ireturn, 1) := by decide +kernel
theorem dX12_cabin_12 : decode cX12_cabin 12 = .ok (.iload_n 2, 1) := by decide +kernel
theorem dX12_cabin_13 : decode cX12_cabin 13 = .ok (.iconst 0, 1) := by decide +kernel
theorem dX12_cabin_14 : decode cX12_cabin 14 = .ok (.iconst 3, 1) := by decide +kernel
theorem dX12_cabin_15 : decode cX12_cabin 15 = .ok (.invokestatic 53, 3) := by decide +kernel
theorem dX12_cabin_18 : decode cX12_cabin 18 = .ok (.ifCond .ne 6, 3) := by decide +kernel
theorem dX12_cabin_21 : decode cX12_cabin 21 = .ok (.bipush (-102), 2) := by decide +kernel
theorem dX12_cabin_23 : decode cX12_cabin 23 = .ok (.ireturn, 1) := by decide +kernel
theorem dX12_cabin_24 : decode cX12_cabin 24 = .ok (.aload_n 0, 1) := by decide +kernel
theorem dX12_cabin_25 : decode cX12_cabin 25 = .ok (.getfield 95, 3) := by decide +kernel
theorem dX12_cabin_28 : decode cX12_cabin 28 = .ok (.ifCond .eq 12, 3) := by decide +kernel
theorem dX12_cabin_31 : decode cX12_cabin 31 = .ok (.aload_n 0, 1) := by decide +kernel
theorem dX12_cabin_32 : decode cX12_cabin 32 = .ok (.iload_n 1, 1) := by decide +kernel
theorem dX12_cabin_33 : decode cX12_cabin 33 = .ok (.iload_n 2, 1) := by decide +kernel
theorem dX12_cabin_34 : decode cX12_cabin 34 = .ok (.invokevirtual 138, 3) := by decide +kernel
theorem dX12_cabin_37 : decode cX12_cabin 37 = .ok (.goto 5, 3) := by decide +kernel
theorem dX12_cabin_40 : decode cX12_cabin 40 = .ok (.bipush (-103), 2) := by decide +kernel
theorem dX12_cabin_42 : decode cX12_cabin 42 = .ok (.ireturn, 1) := by decide +kernel
theorem dX12_isThing_0 : decode cX12_isThing 0 = .ok (.iload_n 1, 1) := by decide +kernel
theorem dX12_isThing_1 : decode cX12_isThing 1 = .ok (.iconst 0, 1) := by decide +kernel
theorem dX12_isThing_2 : decode cX12_isThing 2 = .ok (.aload_n 0, 1) := by decide +kernel
theorem dX12_isThing_3 : decode cX12_isThing 3 = .ok (.getfield 107, 3) := by decide +kernel
theorem dX12_isThing_6 : decode cX12_isThing 6 = .ok (.iconst 1, 1) := by decide +kernel
theorem dX12_isThing_7 : decode cX12_isThing 7 = .ok (.isub, 1) := by decide +kernel
theorem dX12_isThing_8 : decode cX12_isThing 8 = .ok (.invokestatic 53, 3) := by decide +kernel
theorem dX12_isThing_11 : decode cX12_isThing 11 = .ok (.ireturn, 1) := by decide +kernel
theorem dX12_thing_0 : decode cX12_thing 0 = .ok (.iload_n 3, 1) := by decide +kernel
theorem dX12_thing_1 : decode cX12_thing 1 = .ok (.iconst 0, 1) := by decide +kernel
theorem dX12_thing_2 : decode cX12_thing 2 = .ok (.iconst 1, 1) := by decide +kernel
theorem dX12_thing_3 : decode cX12_thing 3 = .ok (.invokestatic 53, 3) := by decide +kernel
theorem dX12_thing_6 : decode cX12_thing 6 = .ok (.ifCond .ne 6, 3) := by decide +kernel
theorem dX12_thing_9 : decode cX12_thing 9 = .ok (.bipush (-101), 2) := by decide +kernel
theorem dX12_thing_11 : decode cX12_thing 11 = .ok (.ireturn, 1) := by decide +kernel
theorem dX12_thing_12 : decode cX12_thing 12 = .ok (.iload_n 1, 1) := by decide +kernel
theorem dX12_thing_13 : decode cX12_thing 13 = .ok (.iconst 0, 1) := by decide +kernel
theorem dX12_thing_14 : decode cX12_thing 14 = .ok (.iconst 4, 1) := by decide +kernel
theorem dX12_thing_15 : decode cX12_thing 15 = .ok (.invokestatic 53, 3) := by decide +kernel
theorem dX12_thing_18 : decode cX12_thing 18 = .ok (.ifCond .eq 13, 3) := by decide +kernel
theorem dX12_thing_21 : decode cX12_thing 21 = .ok (.iload_n 2, 1) := by decide +kernel
theorem dX12_thing_22 : decode cX12_thing 22 = .ok (.iconst 1, 1) := by decide +kernel
theorem dX12_thing_23 : decode cX12_thing 23 = .ok (.bipush 20, 2) := by decide +kernel
theorem dX12_thing_25 : decode cX12_thing 25 = .ok (.invokestatic 53, 3) := by decide +kernel
theorem dX12_thing_28 : decode cX12_thing 28 = .ok (.ifCond .ne 6, 3) := by decide +kernel
theorem dX12_thing_31 : decode cX12_thing 31 = .ok (.bipush (-102), 2) := by decide +kernel
theorem dX12_thing_33 : decode cX12_thing 33 = .ok (.ireturn, 1) := by decide +kernel
theorem dX12_thing_34 : decode cX12_thing 34 = .ok (.aload_n 0, 1) := by decide +kernel
theorem dX12_thing_35 : decode cX12_thing 35 = .ok (.getfield 95, 3) := by decide +kernel
theorem dX12_thing_38 : decode cX12_thing 38 = .ok (.ifCond .ne 6, 3) := by decide +kernel
theorem dX12_thing_41 : decode cX12_thing 41 = .ok (.bipush (-103), 2) := by decide +kernel
theorem dX12_thing_43 : decode cX12_thing 43 = .ok (.ireturn, 1) := by decide +kernel
theorem dX12_thing_44 : decode cX12_thing 44 = .ok (.aload_n 0, 1) := by decide +kernel
theorem dX12_thing_45 : decode cX12_thing 45 = .ok (.getfield 107, 3) := by decide +kernel
theorem dX12_thing_48 : decode cX12_thing 48 = .ok (.bipush 6, 2) := by decide +kernel
theorem dX12_thing_50 : decode cX12_thing 50 = .ok (.if_icmp .ne 6, 3) := by decide +kernel
theorem dX12_thing_53 : decode cX12_thing 53 = .ok (.bipush (-104), 2) := by decide +kernel
theorem dX12_thing_55 : decode cX12_thing 55 = .ok (.ireturn, 1) := by decide +kernel
theorem dX12_thing_56 : decode cX12_thing 56 = .ok (.aload_n 0, 1) := by decide +kernel
theorem dX12_thing_57 : decode cX12_thing 57 = .ok (.getfield 7, 3) := by decide +kernel
theorem dX12_thing_60 : decode cX12_thing 60 = .ok (.aload_n 0, 1) := by decide +kernel
theorem dX12_thing_61 : decode cX12_thing 61 = .ok (.getfield 107, 3) := by decide +kernel
theorem dX12_thing_64 : decode cX12_thing 64 = .ok (.iload_n 1, 1) := by decide +kernel
theorem dX12_thing_65 : decode cX12_thing 65 = .ok (.iastore, 1) := by decide +kernel
theorem dX12_thing_66 : decode cX12_thing 66 = .ok (.aload_n 0, 1) := by decide +kernel
theorem dX12_thing_67 : decode cX12_thing 67 = .ok (.getfield 13, 3) := by decide +kernel
theorem dX12_thing_70 : decode cX12_thing 70 = .ok (.aload_n 0, 1) := by decide +kernel
theorem dX12_thing_71 : decode cX12_thing 71 = .ok (.getfield 107, 3) := by decide +kernel
theorem dX12_thing_74 : decode cX12_thing 74 = .ok (.iload_n 2, 1) := by decide +kernel
theorem dX12_thing_75 : decode cX12_thing 75 = .ok (.iastore, 1) := by decide +kernel
theorem dX12_thing_76 : decode cX12_thing 76 = .ok (.aload_n 0, 1) := by decide +kernel
theorem dX12_thing_77 : decode cX12_thing 77 = .ok (.getfield 16, 3) := by decide +kernel
theorem dX12_thing_80 : decode cX12_thing 80 = .ok (.aload_n 0, 1) := by decide +kernel
theorem dX12_thing_81 : decode cX12_thing 81 = .ok (.getfield 107, 3) := by decide +kernel
theorem dX12_thing_84 : decode cX12_thing 84 = .ok (.iload_n 3, 1) := by decide +kernel
theorem dX12_thing_85 : decode cX12_thing 85 = .ok (.iastore, 1) := by decide +kernel
theorem dX12_thing_86 : decode cX12_thing 86 = .ok (.aload_n 0, 1) := by decide +kernel
theorem dX12_thing_87 : decode cX12_thing 87 = .ok (.getfield 19, 3) := by decide +kernel
theorem dX12_thing_90 : decode cX12_thing 90 = .ok (.aload_n 0, 1) := by decide +kernel
theorem dX12_thing_91 : decode cX12_thing 91 = .ok (.getfield 107, 3) := by decide +kernel
theorem dX12_thing_94 : decode cX12_thing 94 = .ok (.aload_n 0, 1) := by decide +kernel
theorem dX12_thing_95 : decode cX12_thing 95 = .ok (.getfield 104, 3) := by decide +kernel
theorem dX12_thing_98 : decode cX12_thing 98 = .ok (.iastore, 1) := by decide +kernel
theorem dX12_thing_99 : decode cX12_thing 99 = .ok (.aload_n 0, 1) := by decide +kernel
theorem dX12_thing_100 : decode cX12_thing 100 = .ok (.dup, 1) := by decide +kernel
theorem dX12_thing_101 : decode cX12_thing 101 = .ok (.getfield 107, 3) := by decide +kernel
theorem dX12_thing_104 : decode cX12_thing 104 = .ok (.iconst 1, 1) := by decide +kernel
theorem dX12_thing_105 : decode cX12_thing 105 = .ok (.iadd, 1) := by decide +kernel
theorem dX12_thing_106 : decode cX12_thing 106 = .ok (.putfield 107, 3) := by decide +kernel
theorem dX12_thing_109 : decode cX12_thing 109 = .ok (.aload_n 0, 1) := by decide +kernel
theorem dX12_thing_110 : decode cX12_thing 110 = .ok (.getfield 107, 3) := by decide +kernel
theorem dX12_thing_113 : decode cX12_thing 113 = .ok (.iconst 1, 1) := by decide +kernel
theorem dX12_thing_114 : decode cX12_thing 114 = .ok (.isub, 1) := by decide +kernel
theorem dX12_thing_115 : decode cX12_thing 115 = .ok (.ireturn, 1) := by decide +kernel
theorem dX12_thingNow_0 : decode cX12_thingNow 0 = .ok (.iload_n 2, 1) := by decide +kernel
theorem dX12_thingNow_1 : decode cX12_thingNow 1 = .ok (.tableswitch 62 0 3 #[31, 38, 45, 52], 31) := by decide +kernel
theorem dX12_thingNow_32 : decode cX12_thingNow 32 = .ok (.aload_n 0, 1) := by decide +kernel
theorem dX12_thingNow_33 : decode cX12_thingNow 33 = .ok (.getfield 7, 3) := by decide +kernel
theorem dX12_thingNow_36 : decode cX12_thingNow 36 = .ok (.iload_n 1, 1) := by decide +kernel
theorem dX12_thingNow_37 : decode cX12_thingNow 37 = .ok (.iaload, 1) := by decide +kernel
theorem dX12_thingNow_38 : decode cX12_thingNow 38 = .ok (.ireturn, 1) := by decide +kernel
theorem dX12_thingNow_39 : decode cX12_thingNow 39 = .ok (.aload_n 0, 1) := by decide +kernel
theorem dX12_thingNow_40 : decode cX12_thingNow 40 = .ok (.getfield 13, 3) := by decide +kernel
theorem dX12_thingNow_43 : decode cX12_thingNow 43 = .ok (.iload_n 1, 1) := by decide +kernel
theorem dX12_thingNow_44 : decode cX12_thingNow 44 = .ok (.iaload, 1) := by decide +kernel
theorem dX12_thingNow_45 : decode cX12_thingNow 45 = .ok (.ireturn, 1) := by decide +kernel
theorem dX12_thingNow_46 : decode cX12_thingNow 46 = .ok (.aload_n 0, 1) := by decide +kernel
theorem dX12_thingNow_47 : decode cX12_thingNow 47 = .ok (.getfield 16, 3) := by decide +kernel
theorem dX12_thingNow_50 : decode cX12_thingNow 50 = .ok (.iload_n 1, 1) := by decide +kernel
theorem dX12_thingNow_51 : decode cX12_thingNow 51 = .ok (.iaload, 1) := by decide +kernel
theorem dX12_thingNow_52 : decode cX12_thingNow 52 = .ok (.ireturn, 1) := by decide +kernel
theorem dX12_thingNow_53 : decode cX12_thingNow 53 = .ok (.aload_n 0, 1) := by decide +kernel
theorem dX12_thingNow_54 : decode cX12_thingNow 54 = .ok (.iload_n 1, 1) := by decide +kernel
theorem dX12_thingNow_55 : decode cX12_thingNow 55 = .ok (.aload_n 0, 1) := by decide +kernel
theorem dX12_thingNow_56 : decode cX12_thingNow 56 = .ok (.getfield 104, 3) := by decide +kernel
theorem dX12_thingNow_59 : decode cX12_thingNow 59 = .ok (.invokevirtual 116, 3) := by decide +kernel
theorem dX12_thingNow_62 : decode cX12_thingNow 62 = .ok (.ireturn, 1) := by decide +kernel
theorem dX12_thingNow_63 : decode cX12_thingNow 63 = .ok (.aload_n 0, 1) := by decide +kernel
theorem dX12_thingNow_64 : decode cX12_thingNow 64 = .ok (.getfield 104, 3) := by decide +kernel
theorem dX12_thingNow_67 : decode cX12_thingNow 67 = .ok (.aload_n 0, 1) := by decide +kernel
theorem dX12_thingNow_68 : decode cX12_thingNow 68 = .ok (.getfield 19, 3) := by decide +kernel
theorem dX12_thingNow_71 : decode cX12_thingNow 71 = .ok (.iload_n 1, 1) := by decide +kernel
theorem dX12_thingNow_72 : decode cX12_thingNow 72 = .ok (.iaload, 1) := by decide +kernel
theorem dX12_thingNow_73 : decode cX12_thingNow 73 = .ok (.isub, 1) := by decide +kernel
theorem dX12_thingNow_74 : decode cX12_thingNow 74 = .ok (.ireturn, 1) := by decide +kernel
theorem dX12_about_0 : decode cX12_about 0 = .ok (.aload_n 0, 1) := by decide +kernel
theorem dX12_about_1 : decode cX12_about 1 = .ok (.iload_n 1, 1) := by decide +kernel
theorem dX12_about_2 : decode cX12_about 2 = .ok (.invokevirtual 141, 3) := by decide +kernel
theorem dX12_about_5 : decode cX12_about 5 = .ok (.ifCond .ne 8, 3) := by decide +kernel
theorem dX12_about_8 : decode cX12_about 8 = .ok (.bipush (-101), 2) := by decide +kernel
theorem dX12_about_10 : decode cX12_about 10 = .ok (.goto 23, 3) := by decide +kernel
theorem dX12_about_13 : decode cX12_about 13 = .ok (.iload_n 2, 1) := by decide +kernel
theorem dX12_about_14 : decode cX12_about 14 = .ok (.iconst 0, 1) := by decide +kernel
theorem dX12_about_15 : decode cX12_about 15 = .ok (.iconst 4, 1) := by decide +kernel
theorem dX12_about_16 : decode cX12_about 16 = .ok (.invokestatic 53, 3) := by decide +kernel
theorem dX12_about_19 : decode cX12_about 19 = .ok (.ifCond .eq 12, 3) := by decide +kernel
theorem dX12_about_22 : decode cX12_about 22 = .ok (.aload_n 0, 1) := by decide +kernel
theorem dX12_about_23 : decode cX12_about 23 = .ok (.iload_n 1, 1) := by decide +kernel
theorem dX12_about_24 : decode cX12_about 24 = .ok (.iload_n 2, 1) := by decide +kernel
theorem dX12_about_25 : decode cX12_about 25 = .ok (.invokevirtual 145, 3) := by decide +kernel
theorem dX12_about_28 : decode cX12_about 28 = .ok (.goto 5, 3) := by decide +kernel
theorem dX12_about_31 : decode cX12_about 31 = .ok (.bipush (-102), 2) := by decide +kernel
theorem dX12_about_33 : decode cX12_about 33 = .ok (.ireturn, 1) := by decide +kernel
theorem dX12_as_0 : decode cX12_as 0 = .ok (.aload_n 0, 1) := by decide +kernel
theorem dX12_as_1 : decode cX12_as 1 = .ok (.iload_n 1, 1) := by decide +kernel
theorem dX12_as_2 : decode cX12_as 2 = .ok (.invokevirtual 141, 3) := by decide +kernel
theorem dX12_as_5 : decode cX12_as 5 = .ok (.ifCond .ne 6, 3) := by decide +kernel
theorem dX12_as_8 : decode cX12_as 8 = .ok (.bipush (-101), 2) := by decide +kernel
theorem dX12_as_10 : decode cX12_as 10 = .ok (.ireturn, 1) := by decide +kernel
theorem dX12_as_11 : decode cX12_as 11 = .ok (.iload_n 2, 1) := by decide +kernel
theorem dX12_as_12 : decode cX12_as 12 = .ok (.iconst 0, 1) := by decide +kernel
theorem dX12_as_13 : decode cX12_as 13 = .ok (.iconst 4, 1) := by decide +kernel
theorem dX12_as_14 : decode cX12_as 14 = .ok (.invokestatic 53, 3) := by decide +kernel
theorem dX12_as_17 : decode cX12_as 17 = .ok (.ifCond .ne 6, 3) := by decide +kernel
theorem dX12_as_20 : decode cX12_as 20 = .ok (.bipush (-102), 2) := by decide +kernel
theorem dX12_as_22 : decode cX12_as 22 = .ok (.ireturn, 1) := by decide +kernel
theorem dX12_as_23 : decode cX12_as 23 = .ok (.aload_n 0, 1) := by decide +kernel
theorem dX12_as_24 : decode cX12_as 24 = .ok (.getfield 7, 3) := by decide +kernel
theorem dX12_as_27 : decode cX12_as 27 = .ok (.iload_n 1, 1) := by decide +kernel
theorem dX12_as_28 : decode cX12_as 28 = .ok (.iaload, 1) := by decide +kernel
theorem dX12_as_29 : decode cX12_as 29 = .ok (.istore_n 3, 1) := by decide +kernel
theorem dX12_as_30 : decode cX12_as 30 = .ok (.iload_n 2, 1) := by decide +kernel
theorem dX12_as_31 : decode cX12_as 31 = .ok (.ifCond .eq 18, 3) := by decide +kernel
theorem dX12_as_34 : decode cX12_as 34 = .ok (.iload_n 3, 1) := by decide +kernel
theorem dX12_as_35 : decode cX12_as 35 = .ok (.iload_n 2, 1) := by decide +kernel
theorem dX12_as_36 : decode cX12_as 36 = .ok (.if_icmp .eq 13, 3) := by decide +kernel
theorem dX12_as_39 : decode cX12_as 39 = .ok (.iload_n 2, 1) := by decide +kernel
theorem dX12_as_40 : decode cX12_as 40 = .ok (.iconst 3, 1) := by decide +kernel
theorem dX12_as_41 : decode cX12_as 41 = .ok (.if_icmp .ne 12, 3) := by decide +kernel
theorem dX12_as_44 : decode cX12_as 44 = .ok (.iload_n 3, 1) := by decide +kernel
theorem dX12_as_45 : decode cX12_as 45 = .ok (.iconst 4, 1) := by decide +kernel
theorem dX12_as_46 : decode cX12_as 46 = .ok (.if_icmp .ne 7, 3) := by decide +kernel
theorem dX12_as_49 : decode cX12_as 49 = .ok (.iload_n 1, 1) := by decide +kernel
theorem dX12_as_50 : decode cX12_as 50 = .ok (.goto 4, 3) := by decide +kernel
theorem dX12_as_53 : decode cX12_as 53 = .ok (.iconst (-1), 1) := by decide +kernel
theorem dX12_as_54 : decode cX12_as 54 = .ok (.ireturn, 1) := by decide +kernel
theorem dX12_mayCarry_0 : decode cX12_mayCarry 0 = .ok (.aload_n 0, 1) := by decide +kernel
theorem dX12_mayCarry_1 : decode cX12_mayCarry 1 = .ok (.getfield 7, 3) := by decide +kernel
theorem dX12_mayCarry_4 : decode cX12_mayCarry 4 = .ok (.iload_n 1, 1) := by decide +kernel
theorem dX12_mayCarry_5 : decode cX12_mayCarry 5 = .ok (.iaload, 1) := by decide +kernel
theorem dX12_mayCarry_6 : decode cX12_mayCarry 6 = .ok (.iconst 2, 1) := by decide +kernel
theorem dX12_mayCarry_7 : decode cX12_mayCarry 7 = .ok (.if_icmp .ne 15, 3) := by decide +kernel
theorem dX12_mayCarry_10 : decode cX12_mayCarry 10 = .ok (.aload_n 0, 1) := by decide +kernel
theorem dX12_mayCarry_11 : decode cX12_mayCarry 11 = .ok (.aload_n 0, 1) := by decide +kernel
theorem dX12_mayCarry_12 : decode cX12_mayCarry 12 = .ok (.getfield 80, 3) := by decide +kernel
theorem dX12_mayCarry_15 : decode cX12_mayCarry 15 = .ok (.invokevirtual 128, 3) := by decide +kernel
theorem dX12_mayCarry_18 : decode cX12_mayCarry 18 = .ok (.iconst 2, 1) := by decide +kernel
theorem dX12_mayCarry_19 : decode cX12_mayCarry 19 = .ok (.if_icmp .gt 7, 3) := by decide +kernel
theorem dX12_mayCarry_22 : decode cX12_mayCarry 22 = .ok (.iconst 1, 1) := by decide +kernel
theorem dX12_mayCarry_23 : decode cX12_mayCarry 23 = .ok (.goto 4, 3) := by decide +kernel
theorem dX12_mayCarry_26 : decode cX12_mayCarry 26 = .ok (.iconst 0, 1) := by decide +kernel
theorem dX12_mayCarry_27 : decode cX12_mayCarry 27 = .ok (.ireturn, 1) := by decide +kernel
theorem dX12_carry_0 : decode cX12_carry 0 = .ok (.aload_n 0, 1) := by decide +kernel
theorem dX12_carry_1 : decode cX12_carry 1 = .ok (.iload_n 1, 1) := by decide +kernel
theorem dX12_carry_2 : decode cX12_carry 2 = .ok (.invokevirtual 141, 3) := by decide +kernel
theorem dX12_carry_5 : decode cX12_carry 5 = .ok (.ifCond .ne 6, 3) := by decide +kernel
theorem dX12_carry_8 : decode cX12_carry 8 = .ok (.bipush (-101), 2) := by decide +kernel
theorem dX12_carry_10 : decode cX12_carry 10 = .ok (.ireturn, 1) := by decide +kernel
theorem dX12_carry_11 : decode cX12_carry 11 = .ok (.aload_n 0, 1) := by decide +kernel
theorem dX12_carry_12 : decode cX12_carry 12 = .ok (.getfield 92, 3) := by decide +kernel
theorem dX12_carry_15 : decode cX12_carry 15 = .ok (.ifCond .ne 11, 3) := by decide +kernel
theorem dX12_carry_18 : decode cX12_carry 18 = .ok (.aload_n 0, 1) := by decide +kernel
theorem dX12_carry_19 : decode cX12_carry 19 = .ok (.iload_n 1, 1) := by decide +kernel
theorem dX12_carry_20 : decode cX12_carry 20 = .ok (.invokevirtual 148, 3) := by decide +kernel
theorem dX12_carry_23 : decode cX12_carry 23 = .ok (.ifCond .ne 6, 3) := by decide +kernel
theorem dX12_carry_26 : decode cX12_carry 26 = .ok (.bipush (-103), 2) := by decide +kernel
theorem dX12_carry_28 : decode cX12_carry 28 = .ok (.ireturn, 1) := by decide +kernel
theorem dX12_carry_29 : decode cX12_carry 29 = .ok (.aload_n 0, 1) := by decide +kernel
theorem dX12_carry_30 : decode cX12_carry 30 = .ok (.getfield 16, 3) := by decide +kernel
theorem dX12_carry_33 : decode cX12_carry 33 = .ok (.iload_n 1, 1) := by decide +kernel
theorem dX12_carry_34 : decode cX12_carry 34 = .ok (.iconst 1, 1) := by decide +kernel
theorem dX12_carry_35 : decode cX12_carry 35 = .ok (.aload_n 0, 1) := by decide +kernel
theorem dX12_carry_36 : decode cX12_carry 36 = .ok (.getfield 16, 3) := by decide +kernel
theorem dX12_carry_39 : decode cX12_carry 39 = .ok (.iload_n 1, 1) := by decide +kernel
theorem dX12_carry_40 : decode cX12_carry 40 = .ok (.iaload, 1) := by decide +kernel
theorem dX12_carry_41 : decode cX12_carry 41 = .ok (.isub, 1) := by decide +kernel
theorem dX12_carry_42 : decode cX12_carry 42 = .ok (.iastore, 1) := by decide +kernel
theorem dX12_carry_43 : decode cX12_carry 43 = .ok (.aload_n 0, 1) := by decide +kernel
theorem dX12_carry_44 : decode cX12_carry 44 = .ok (.getfield 16, 3) := by decide +kernel
theorem dX12_carry_47 : decode cX12_carry 47 = .ok (.iload_n 1, 1) := by decide +kernel
theorem dX12_carry_48 : decode cX12_carry 48 = .ok (.iaload, 1) := by decide +kernel
theorem dX12_carry_49 : decode cX12_carry 49 = .ok (.ireturn, 1) := by decide +kernel
theorem dX12_isLength_0 : decode cX12_isLength 0 = .ok (.iload_n 0, 1) := by decide +kernel
theorem dX12_isLength_1 : decode cX12_isLength 1 = .ok (.bipush 10, 2) := by decide +kernel
theorem dX12_isLength_3 : decode cX12_isLength 3 = .ok (.bipush 40, 2) := by decide +kernel
theorem dX12_isLength_5 : decode cX12_isLength 5 = .ok (.invokestatic 53, 3) := by decide +kernel
theorem dX12_isLength_8 : decode cX12_isLength 8 = .ok (.ireturn, 1) := by decide +kernel
theorem dX12_mayBe_0 : decode cX12_mayBe 0 = .ok (.iload_n 0, 1) := by decide +kernel
theorem dX12_mayBe_1 : decode cX12_mayBe 1 = .ok (.bipush 10, 2) := by decide +kernel
theorem dX12_mayBe_3 : decode cX12_mayBe 3 = .ok (.bipush 40, 2) := by decide +kernel
theorem dX12_mayBe_5 : decode cX12_mayBe 5 = .ok (.invokestatic 53, 3) := by decide +kernel
theorem dX12_mayBe_8 : decode cX12_mayBe 8 = .ok (.ireturn, 1) := by decide +kernel
theorem dX12_goHour_0 : decode cX12_goHour 0 = .ok (.aload_n 0, 1) := by decide +kernel
theorem dX12_goHour_1 : decode cX12_goHour 1 = .ok (.iload_n 1, 1) := by decide +kernel
theorem dX12_goHour_2 : decode cX12_goHour 2 = .ok (.putfield 80, 3) := by decide +kernel
theorem dX12_goHour_5 : decode cX12_goHour 5 = .ok (.aload_n 0, 1) := by decide +kernel
theorem dX12_goHour_6 : decode cX12_goHour 6 = .ok (.dup, 1) := by decide +kernel
theorem dX12_goHour_7 : decode cX12_goHour 7 = .ok (.getfield 104, 3) := by decide +kernel
theorem dX12_goHour_10 : decode cX12_goHour 10 = .ok (.iconst 1, 1) := by decide +kernel
theorem dX12_goHour_11 : decode cX12_goHour 11 = .ok (.iadd, 1) := by decide +kernel
theorem dX12_goHour_12 : decode cX12_goHour 12 = .ok (.putfield 104, 3) := by decide +kernel
theorem dX12_goHour_15 : decode cX12_goHour 15 = .ok (.aload_n 0, 1) := by decide +kernel
theorem dX12_goHour_16 : decode cX12_goHour 16 = .ok (.aload_n 0, 1) := by decide +kernel
theorem dX12_goHour_17 : decode cX12_goHour 17 = .ok (.getfield 101, 3) := by decide +kernel
theorem dX12_goHour_20 : decode cX12_goHour 20 = .ok (.bipush 10, 2) := by decide +kernel
theorem dX12_goHour_22 : decode cX12_goHour 22 = .ok (.aload_n 0, 1) := by decide +kernel
theorem dX12_goHour_23 : decode cX12_goHour 23 = .ok (.iload_n 1, 1) := by decide +kernel
theorem dX12_goHour_24 : decode cX12_goHour 24 = .ok (.invokevirtual 128, 3) := by decide +kernel
theorem dX12_goHour_27 : decode cX12_goHour 27 = .ok (.imul, 1) := by decide +kernel
theorem dX12_goHour_28 : decode cX12_goHour 28 = .ok (.iadd, 1) := by decide +kernel
theorem dX12_goHour_29 : decode cX12_goHour 29 = .ok (.sipush 360, 3) := by decide +kernel
theorem dX12_goHour_32 : decode cX12_goHour 32 = .ok (.irem, 1) := by decide +kernel
theorem dX12_goHour_33 : decode cX12_goHour 33 = .ok (.putfield 101, 3) := by decide +kernel
theorem dX12_goHour_36 : decode cX12_goHour 36 = .ok (.aload_n 0, 1) := by decide +kernel
theorem dX12_goHour_37 : decode cX12_goHour 37 = .ok (.aload_n 0, 1) := by decide +kernel
theorem dX12_goHour_38 : decode cX12_goHour 38 = .ok (.iload_n 1, 1) := by decide +kernel
theorem dX12_goHour_39 : decode cX12_goHour 39 = .ok (.aload_n 0, 1) := by decide +kernel
theorem dX12_goHour_40 : decode cX12_goHour 40 = .ok (.getfield 104, 3) := by decide +kernel
theorem dX12_goHour_43 : decode cX12_goHour 43 = .ok (.invokevirtual 151, 3) := by decide +kernel
theorem dX12_goHour_46 : decode cX12_goHour 46 = .ok (.aload_n 0, 1) := by decide +kernel
theorem dX12_goHour_47 : decode cX12_goHour 47 = .ok (.getfield 86, 3) := by decide +kernel
theorem dX12_goHour_50 : decode cX12_goHour 50 = .ok (.if_icmp .le 7, 3) := by decide +kernel
theorem dX12_goHour_53 : decode cX12_goHour 53 = .ok (.iconst 1, 1) := by decide +kernel
theorem dX12_goHour_54 : decode cX12_goHour 54 = .ok (.goto 4, 3) := by decide +kernel
theorem dX12_goHour_57 : decode cX12_goHour 57 = .ok (.iconst 0, 1) := by decide +kernel
theorem dX12_goHour_58 : decode cX12_goHour 58 = .ok (.putfield 92, 3) := by decide +kernel
theorem dX12_goHour_61 : decode cX12_goHour 61 = .ok (.aload_n 0, 1) := by decide +kernel
theorem dX12_goHour_62 : decode cX12_goHour 62 = .ok (.getfield 92, 3) := by decide +kernel
theorem dX12_goHour_65 : decode cX12_goHour 65 = .ok (.ifCond .ne 7, 3) := by decide +kernel
theorem dX12_goHour_68 : decode cX12_goHour 68 = .ok (.iconst 1, 1) := by decide +kernel
theorem dX12_goHour_69 : decode cX12_goHour 69 = .ok (.goto 4, 3) := by decide +kernel
theorem dX12_goHour_72 : decode cX12_goHour 72 = .ok (.iconst 0, 1) := by decide +kernel
theorem dX12_goHour_73 : decode cX12_goHour 73 = .ok (.ireturn, 1) := by decide +kernel
theorem dX12_hour_0 : decode cX12_hour 0 = .ok (.iload_n 1, 1) := by decide +kernel
theorem dX12_hour_1 : decode cX12_hour 1 = .ok (.bipush (-3), 2) := by decide +kernel
theorem dX12_hour_3 : decode cX12_hour 3 = .ok (.iconst 3, 1) := by decide +kernel
theorem dX12_hour_4 : decode cX12_hour 4 = .ok (.invokestatic 53, 3) := by decide +kernel
theorem dX12_hour_7 : decode cX12_hour 7 = .ok (.ifCond .ne 6, 3) := by decide +kernel
theorem dX12_hour_10 : decode cX12_hour 10 = .ok (.bipush (-102), 2) := by decide +kernel
theorem dX12_hour_12 : decode cX12_hour 12 = .ok (.ireturn, 1) := by decide +kernel
theorem dX12_hour_13 : decode cX12_hour 13 = .ok (.aload_n 0, 1) := by decide +kernel
theorem dX12_hour_14 : decode cX12_hour 14 = .ok (.getfield 95, 3) := by decide +kernel
theorem dX12_hour_17 : decode cX12_hour 17 = .ok (.ifCond .eq 22, 3) := by decide +kernel
theorem dX12_hour_20 : decode cX12_hour 20 = .ok (.aload_n 0, 1) := by decide +kernel
theorem dX12_hour_21 : decode cX12_hour 21 = .ok (.getfield 92, 3) := by decide +kernel
theorem dX12_hour_24 : decode cX12_hour 24 = .ok (.ifCond .ne 15, 3) := by decide +kernel
theorem dX12_hour_27 : decode cX12_hour 27 = .ok (.aload_n 0, 1) := by decide +kernel
theorem dX12_hour_28 : decode cX12_hour 28 = .ok (.getfield 80, 3) := by decide +kernel
theorem dX12_hour_31 : decode cX12_hour 31 = .ok (.iload_n 1, 1) := by decide +kernel
theorem dX12_hour_32 : decode cX12_hour 32 = .ok (.isub, 1) := by decide +kernel
theorem dX12_hour_33 : decode cX12_hour 33 = .ok (.invokestatic 154, 3) := by decide +kernel
theorem dX12_hour_36 : decode cX12_hour 36 = .ok (.ifCond .ne 6, 3) := by decide +kernel
theorem dX12_hour_39 : decode cX12_hour 39 = .ok (.bipush (-103), 2) := by decide +kernel
theorem dX12_hour_41 : decode cX12_hour 41 = .ok (.ireturn, 1) := by decide +kernel
theorem dX12_hour_42 : decode cX12_hour 42 = .ok (.aload_n 0, 1) := by decide +kernel
theorem dX12_hour_43 : decode cX12_hour 43 = .ok (.aload_n 0, 1) := by decide +kernel
theorem dX12_hour_44 : decode cX12_hour 44 = .ok (.getfield 80, 3) := by decide +kernel
theorem dX12_hour_47 : decode cX12_hour 47 = .ok (.iload_n 1, 1) := by decide +kernel
theorem dX12_hour_48 : decode cX12_hour 48 = .ok (.isub, 1) := by decide +kernel
theorem dX12_hour_49 : decode cX12_hour 49 = .ok (.invokevirtual 157, 3) := by decide +kernel
theorem dX12_hour_52 : decode cX12_hour 52 = .ok (.ifCond .eq 10, 3) := by decide +kernel
theorem dX12_hour_55 : decode cX12_hour 55 = .ok (.aload_n 0, 1) := by decide +kernel
theorem dX12_hour_56 : decode cX12_hour 56 = .ok (.getfield 80, 3) := by decide +kernel
theorem dX12_hour_59 : decode cX12_hour 59 = .ok (.goto 4, 3) := by decide +kernel
theorem dX12_hour_62 : decode cX12_hour 62 = .ok (.iconst (-1), 1) := by decide +kernel
theorem dX12_hour_63 : decode cX12_hour 63 = .ok (.ireturn, 1) := by decide +kernel
theorem dX12_sized_0 : decode cX12_sized 0 = .ok (.iload_n 0, 1) := by decide +kernel
theorem dX12_sized_1 : decode cX12_sized 1 = .ok (.ifCond .ge 8, 3) := by decide +kernel
theorem dX12_sized_4 : decode cX12_sized 4 = .ok (.iload_n 0, 1) := by decide +kernel
theorem dX12_sized_5 : decode cX12_sized 5 = .ok (.ineg, 1) := by decide +kernel
theorem dX12_sized_6 : decode cX12_sized 6 = .ok (.goto 4, 3) := by decide +kernel
theorem dX12_sized_9 : decode cX12_sized 9 = .ok (.iload_n 0, 1) := by decide +kernel
theorem dX12_sized_10 : decode cX12_sized 10 = .ok (.ireturn, 1) := by decide +kernel
theorem dX12_layEven_0 : decode cX12_layEven 0 = .ok (.iconst 0, 1) := by decide +kernel
theorem dX12_layEven_1 : decode cX12_layEven 1 = .ok (.istore_n 1, 1) := by decide +kernel
theorem dX12_layEven_2 : decode cX12_layEven 2 = .ok (.iconst 0, 1) := by decide +kernel
theorem dX12_layEven_3 : decode cX12_layEven 3 = .ok (.istore_n 2, 1) := by decide +kernel
theorem dX12_layEven_4 : decode cX12_layEven 4 = .ok (.iload_n 2, 1) := by decide +kernel
theorem dX12_layEven_5 : decode cX12_layEven 5 = .ok (.aload_n 0, 1) := by decide +kernel
theorem dX12_layEven_6 : decode cX12_layEven 6 = .ok (.getfield 107, 3) := by decide +kernel
theorem dX12_layEven_9 : decode cX12_layEven 9 = .ok (.if_icmp .ge 27, 3) := by decide +kernel
theorem dX12_layEven_12 : decode cX12_layEven 12 = .ok (.iload_n 1, 1) := by decide +kernel
theorem dX12_layEven_13 : decode cX12_layEven 13 = .ok (.aload_n 0, 1) := by decide +kernel
theorem dX12_layEven_14 : decode cX12_layEven 14 = .ok (.iload_n 2, 1) := by decide +kernel
theorem dX12_layEven_15 : decode cX12_layEven 15 = .ok (.invokevirtual 148, 3) := by decide +kernel
theorem dX12_layEven_18 : decode cX12_layEven 18 = .ok (.ifCond .eq 9, 3) := by decide +kernel
theorem dX12_layEven_21 : decode cX12_layEven 21 = .ok (.iconst 1, 1) := by decide +kernel
theorem dX12_layEven_22 : decode cX12_layEven 22 = .ok (.iload_n 2, 1) := by decide +kernel
theorem dX12_layEven_23 : decode cX12_layEven 23 = .ok (.ishl, 1) := by decide +kernel
theorem dX12_layEven_24 : decode cX12_layEven 24 = .ok (.goto 4, 3) := by decide +kernel
theorem dX12_layEven_27 : decode cX12_layEven 27 = .ok (.iconst 0, 1) := by decide +kernel
theorem dX12_layEven_28 : decode cX12_layEven 28 = .ok (.ior, 1) := by decide +kernel
theorem dX12_layEven_29 : decode cX12_layEven 29 = .ok (.istore_n 1, 1) := by decide +kernel
theorem dX12_layEven_30 : decode cX12_layEven 30 = .ok (.iinc 2 1, 3) := by decide +kernel
theorem dX12_layEven_33 : decode cX12_layEven 33 = .ok (.goto (-29), 3) := by decide +kernel
theorem dX12_layEven_36 : decode cX12_layEven 36 = .ok (.aload_n 0, 1) := by decide +kernel
theorem dX12_layEven_37 : decode cX12_layEven 37 = .ok (.ldc 160, 2) := by decide +kernel
theorem dX12_layEven_39 : decode cX12_layEven 39 = .ok (.putfield 161, 3) := by decide +kernel
theorem dX12_layEven_42 : decode cX12_layEven 42 = .ok (.aload_n 0, 1) := by decide +kernel
theorem dX12_layEven_43 : decode cX12_layEven 43 = .ok (.iconst 0, 1) := by decide +kernel
theorem dX12_layEven_44 : decode cX12_layEven 44 = .ok (.putfield 164, 3) := by decide +kernel
theorem dX12_layEven_47 : decode cX12_layEven 47 = .ok (.iconst 0, 1) := by decide +kernel
theorem dX12_layEven_48 : decode cX12_layEven 48 = .ok (.istore_n 2, 1) := by decide +kernel
theorem dX12_layEven_49 : decode cX12_layEven 49 = .ok (.iconst 0, 1) := by decide +kernel
theorem dX12_layEven_50 : decode cX12_layEven 50 = .ok (.istore_n 3, 1) := by decide +kernel
theorem dX12_layEven_51 : decode cX12_layEven 51 = .ok (.iload_n 3, 1) := by decide +kernel
theorem dX12_layEven_52 : decode cX12_layEven 52 = .ok (.iconst 1, 1) := by decide +kernel
theorem dX12_layEven_53 : decode cX12_layEven 53 = .ok (.aload_n 0, 1) := by decide +kernel
theorem dX12_layEven_54 : decode cX12_layEven 54 = .ok (.getfield 107, 3) := by decide +kernel
theorem dX12_layEven_57 : decode cX12_layEven 57 = .ok (.ishl, 1) := by decide +kernel
theorem dX12_layEven_58 : decode cX12_layEven 58 = .ok (.if_icmp .ge 138, 3) := by decide +kernel
theorem dX12_layEven_61 : decode cX12_layEven 61 = .ok (.aload_n 0, 1) := by decide +kernel
theorem dX12_layEven_62 : decode cX12_layEven 62 = .ok (.iconst 0, 1) := by decide +kernel
theorem dX12_layEven_63 : decode cX12_layEven 63 = .ok (.aload_n 0, 1) := by decide +kernel
theorem dX12_layEven_64 : decode cX12_layEven 64 = .ok (.getfield 80, 3) := by decide +kernel
theorem dX12_layEven_67 : decode cX12_layEven 67 = .ok (.aload_n 0, 1) := by decide +kernel
theorem dX12_layEven_68 : decode cX12_layEven 68 = .ok (.getfield 104, 3) := by decide +kernel
theorem dX12_layEven_71 : decode cX12_layEven 71 = .ok (.iload_n 3, 1) := by decide +kernel
theorem dX12_layEven_72 : decode cX12_layEven 72 = .ok (.invokevirtual 132, 3) := by decide +kernel
theorem dX12_layEven_75 : decode cX12_layEven 75 = .ok (.aload_n 0, 1) := by decide +kernel
theorem dX12_layEven_76 : decode cX12_layEven 76 = .ok (.iconst 1, 1) := by decide +kernel
theorem dX12_layEven_77 : decode cX12_layEven 77 = .ok (.aload_n 0, 1) := by decide +kernel
theorem dX12_layEven_78 : decode cX12_layEven 78 = .ok (.getfield 80, 3) := by decide +kernel
theorem dX12_layEven_81 : decode cX12_layEven 81 = .ok (.aload_n 0, 1) := by decide +kernel
theorem dX12_layEven_82 : decode cX12_layEven 82 = .ok (.getfield 104, 3) := by decide +kernel
theorem dX12_layEven_85 : decode cX12_layEven 85 = .ok (.iload_n 3, 1) := by decide +kernel
theorem dX12_layEven_86 : decode cX12_layEven 86 = .ok (.invokevirtual 132, 3) := by decide +kernel
theorem dX12_layEven_89 : decode cX12_layEven 89 = .ok (.isub, 1) := by decide +kernel
theorem dX12_layEven_90 : decode cX12_layEven 90 = .ok (.invokestatic 167, 3) := by decide +kernel
theorem dX12_layEven_93 : decode cX12_layEven 93 = .ok (.istore 4, 2) := by decide +kernel
theorem dX12_layEven_95 : decode cX12_layEven 95 = .ok (.iconst 0, 1) := by decide +kernel
theorem dX12_layEven_96 : decode cX12_layEven 96 = .ok (.istore 5, 2) := by decide +kernel
theorem dX12_layEven_98 : decode cX12_layEven 98 = .ok (.iconst 0, 1) := by decide +kernel
theorem dX12_layEven_99 : decode cX12_layEven 99 = .ok (.istore 6, 2) := by decide +kernel
theorem dX12_layEven_101 : decode cX12_layEven 101 = .ok (.iload 6, 2) := by decide +kernel
theorem dX12_layEven_103 : decode cX12_layEven 103 = .ok (.aload_n 0, 1) := by decide +kernel
theorem dX12_layEven_104 : decode cX12_layEven 104 = .ok (.getfield 107, 3) := by decide +kernel
theorem dX12_layEven_107 : decode cX12_layEven 107 = .ok (.if_icmp .ge 37, 3) := by decide +kernel
theorem dX12_layEven_110 : decode cX12_layEven 110 = .ok (.iload 5, 2) := by decide +kernel
theorem dX12_layEven_112 : decode cX12_layEven 112 = .ok (.iload_n 3, 1) := by decide +kernel
theorem dX12_layEven_113 : decode cX12_layEven 113 = .ok (.iload 6, 2) := by decide +kernel
theorem dX12_layEven_115 : decode cX12_layEven 115 = .ok (.invokestatic 113, 3) := by decide +kernel
theorem dX12_layEven_118 : decode cX12_layEven 118 = .ok (.ifCond .eq 16, 3) := by decide +kernel
theorem dX12_layEven_121 : decode cX12_layEven 121 = .ok (.aload_n 0, 1) := by decide +kernel
theorem dX12_layEven_122 : decode cX12_layEven 122 = .ok (.iload 6, 2) := by decide +kernel
theorem dX12_layEven_124 : decode cX12_layEven 124 = .ok (.aload_n 0, 1) := by decide +kernel
theorem dX12_layEven_125 : decode cX12_layEven 125 = .ok (.getfield 104, 3) := by decide +kernel
theorem dX12_layEven_128 : decode cX12_layEven 128 = .ok (.invokevirtual 116, 3) := by decide +kernel
theorem dX12_layEven_131 : decode cX12_layEven 131 = .ok (.goto 4, 3) := by decide +kernel
theorem dX12_layEven_134 : decode cX12_layEven 134 = .ok (.iconst 0, 1) := by decide +kernel
theorem dX12_layEven_135 : decode cX12_layEven 135 = .ok (.iadd, 1) := by decide +kernel
theorem dX12_layEven_136 : decode cX12_layEven 136 = .ok (.istore 5, 2) := by decide +kernel
theorem dX12_layEven_138 : decode cX12_layEven 138 = .ok (.iinc 6 1, 3) := by decide +kernel
theorem dX12_layEven_141 : decode cX12_layEven 141 = .ok (.goto (-40), 3) := by decide +kernel
theorem dX12_layEven_144 : decode cX12_layEven 144 = .ok (.iload_n 3, 1) := by decide +kernel
theorem dX12_layEven_145 : decode cX12_layEven 145 = .ok (.iload_n 1, 1) := by decide +kernel
theorem dX12_layEven_146 : decode cX12_layEven 146 = .ok (.iconst (-1), 1) := by decide +kernel
theorem dX12_layEven_147 : decode cX12_layEven 147 = .ok (.ixor, 1) := by decide +kernel
theorem dX12_layEven_148 : decode cX12_layEven 148 = .ok (.iand, 1) := by decide +kernel
theorem dX12_layEven_149 : decode cX12_layEven 149 = .ok (.ifCond .ne 41, 3) := by decide +kernel
theorem dX12_layEven_152 : decode cX12_layEven 152 = .ok (.iload 4, 2) := by decide +kernel
theorem dX12_layEven_154 : decode cX12_layEven 154 = .ok (.aload_n 0, 1) := by decide +kernel
theorem dX12_layEven_155 : decode cX12_layEven 155 = .ok (.getfield 161, 3) := by decide +kernel
theorem dX12_layEven_158 : decode cX12_layEven 158 = .ok (.if_icmp .lt 18, 3) := by decide +kernel
theorem dX12_layEven_161 : decode cX12_layEven 161 = .ok (.iload 4, 2) := by decide +kernel
theorem dX12_layEven_163 : decode cX12_layEven 163 = .ok (.aload_n 0, 1) := by decide +kernel
theorem dX12_layEven_164 : decode cX12_layEven 164 = .ok (.getfield 161, 3) := by decide +kernel
theorem dX12_layEven_167 : decode cX12_layEven 167 = .ok (.if_icmp .ne 23, 3) := by decide +kernel
theorem dX12_layEven_170 : decode cX12_layEven 170 = .ok (.iload 5, 2) := by decide +kernel
theorem dX12_layEven_172 : decode cX12_layEven 172 = .ok (.iload_n 2, 1) := by decide +kernel
theorem dX12_layEven_173 : decode cX12_layEven 173 = .ok (.if_icmp .ge 17, 3) := by decide +kernel
theorem dX12_layEven_176 : decode cX12_layEven 176 = .ok (.aload_n 0, 1) := by decide +kernel
theorem dX12_layEven_177 : decode cX12_layEven 177 = .ok (.iload 4, 2) := by decide +kernel
theorem dX12_layEven_179 : decode cX12_layEven 179 = .ok (.putfield 161, 3) := by decide +kernel
theorem dX12_layEven_182 : decode cX12_layEven 182 = .ok (.aload_n 0, 1) := by decide +kernel
theorem dX12_layEven_183 : decode cX12_layEven 183 = .ok (.iload_n 3, 1) := by decide +kernel
theorem dX12_layEven_184 : decode cX12_layEven 184 = .ok (.putfield 164, 3) := by decide +kernel
theorem dX12_layEven_187 : decode cX12_layEven 187 = .ok (.iload 5, 2) := by decide +kernel
theorem dX12_layEven_189 : decode cX12_layEven 189 = .ok (.istore_n 2, 1) := by decide +kernel
theorem dX12_layEven_190 : decode cX12_layEven 190 = .ok (.iinc 3 1, 3) := by decide +kernel
theorem dX12_layEven_193 : decode cX12_layEven 193 = .ok (.goto (-142), 3) := by decide +kernel
theorem dX12_layEven_196 : decode cX12_layEven 196 = .ok (.return_, 1) := by decide +kernel
theorem dX12_evenNow_0 : decode cX12_evenNow 0 = .ok (.aload_n 0, 1) := by decide +kernel
theorem dX12_evenNow_1 : decode cX12_evenNow 1 = .ok (.invokevirtual 170, 3) := by decide +kernel
theorem dX12_evenNow_4 : decode cX12_evenNow 4 = .ok (.iload_n 1, 1) := by decide +kernel
theorem dX12_evenNow_5 : decode cX12_evenNow 5 = .ok (.ifCond .ne 10, 3) := by decide +kernel
theorem dX12_evenNow_8 : decode cX12_evenNow 8 = .ok (.aload_n 0, 1) := by decide +kernel
theorem dX12_evenNow_9 : decode cX12_evenNow 9 = .ok (.getfield 161, 3) := by decide +kernel
theorem dX12_evenNow_12 : decode cX12_evenNow 12 = .ok (.goto 7, 3) := by decide +kernel
theorem dX12_evenNow_15 : decode cX12_evenNow 15 = .ok (.aload_n 0, 1) := by decide +kernel
theorem dX12_evenNow_16 : decode cX12_evenNow 16 = .ok (.getfield 164, 3) := by decide +kernel
theorem dX12_evenNow_19 : decode cX12_evenNow 19 = .ok (.ireturn, 1) := by decide +kernel
theorem dX12_even_0 : decode cX12_even 0 = .ok (.iload_n 1, 1) := by decide +kernel
theorem dX12_even_1 : decode cX12_even 1 = .ok (.iconst 0, 1) := by decide +kernel
theorem dX12_even_2 : decode cX12_even 2 = .ok (.iconst 1, 1) := by decide +kernel
theorem dX12_even_3 : decode cX12_even 3 = .ok (.invokestatic 53, 3) := by decide +kernel
theorem dX12_even_6 : decode cX12_even 6 = .ok (.ifCond .ne 6, 3) := by decide +kernel
theorem dX12_even_9 : decode cX12_even 9 = .ok (.bipush (-102), 2) := by decide +kernel
theorem dX12_even_11 : decode cX12_even 11 = .ok (.ireturn, 1) := by decide +kernel
theorem dX12_even_12 : decode cX12_even 12 = .ok (.aload_n 0, 1) := by decide +kernel
theorem dX12_even_13 : decode cX12_even 13 = .ok (.getfield 95, 3) := by decide +kernel
theorem dX12_even_16 : decode cX12_even 16 = .ok (.ifCond .eq 18, 3) := by decide +kernel
theorem dX12_even_19 : decode cX12_even 19 = .ok (.aload_n 0, 1) := by decide +kernel
theorem dX12_even_20 : decode cX12_even 20 = .ok (.getfield 92, 3) := by decide +kernel
theorem dX12_even_23 : decode cX12_even 23 = .ok (.ifCond .ne 11, 3) := by decide +kernel
theorem dX12_even_26 : decode cX12_even 26 = .ok (.aload_n 0, 1) := by decide +kernel
theorem dX12_even_27 : decode cX12_even 27 = .ok (.iload_n 1, 1) := by decide +kernel
theorem dX12_even_28 : decode cX12_even 28 = .ok (.invokevirtual 173, 3) := by decide +kernel
theorem dX12_even_31 : decode cX12_even 31 = .ok (.goto 5, 3) := by decide +kernel
theorem dX12_even_34 : decode cX12_even 34 = .ok (.bipush (-103), 2) := by decide +kernel
theorem dX12_even_36 : decode cX12_even 36 = .ok (.ireturn, 1) := by decide +kernel
theorem dX12_by_0 : decode cX12_by 0 = .ok (.iload_n 0, 1) := by decide +kernel
theorem dX12_by_1 : decode cX12_by 1 = .ok (.iconst 4, 1) := by decide +kernel
theorem dX12_by_2 : decode cX12_by 2 = .ok (.if_icmp .ge 7, 3) := by decide +kernel
theorem dX12_by_5 : decode cX12_by 5 = .ok (.iload_n 0, 1) := by decide +kernel
theorem dX12_by_6 : decode cX12_by 6 = .ok (.goto 6, 3) := by decide +kernel
theorem dX12_by_9 : decode cX12_by 9 = .ok (.iconst 3, 1) := by decide +kernel
theorem dX12_by_10 : decode cX12_by 10 = .ok (.iload_n 0, 1) := by decide +kernel
theorem dX12_by_11 : decode cX12_by 11 = .ok (.isub, 1) := by decide +kernel
theorem dX12_by_12 : decode cX12_by 12 = .ok (.ireturn, 1) := by decide +kernel
theorem dX12_goLengths_0 : decode cX12_goLengths 0 = .ok (.iconst 0, 1) := by decide +kernel
theorem dX12_goLengths_1 : decode cX12_goLengths 1 = .ok (.istore_n 2, 1) := by decide +kernel
theorem dX12_goLengths_2 : decode cX12_goLengths 2 = .ok (.iload_n 2, 1) := by decide +kernel
theorem dX12_goLengths_3 : decode cX12_goLengths 3 = .ok (.bipush 40, 2) := by decide +kernel
theorem dX12_goLengths_5 : decode cX12_goLengths 5 = .ok (.if_icmp .gt 16, 3) := by decide +kernel
theorem dX12_goLengths_8 : decode cX12_goLengths 8 = .ok (.aload_n 0, 1) := by decide +kernel
theorem dX12_goLengths_9 : decode cX12_goLengths 9 = .ok (.getfield 35, 3) := by decide +kernel
theorem dX12_goLengths_12 : decode cX12_goLengths 12 = .ok (.iload_n 2, 1) := by decide +kernel
theorem dX12_goLengths_13 : decode cX12_goLengths 13 = .ok (.iconst (-1), 1) := by decide +kernel
theorem dX12_goLengths_14 : decode cX12_goLengths 14 = .ok (.iastore, 1) := by decide +kernel
theorem dX12_goLengths_15 : decode cX12_goLengths 15 = .ok (.iinc 2 1, 3) := by decide +kernel
theorem dX12_goLengths_18 : decode cX12_goLengths 18 = .ok (.goto (-16), 3) := by decide +kernel
theorem dX12_goLengths_21 : decode cX12_goLengths 21 = .ok (.bipush 10, 2) := by decide +kernel
theorem dX12_goLengths_23 : decode cX12_goLengths 23 = .ok (.istore_n 2, 1) := by decide +kernel
theorem dX12_goLengths_24 : decode cX12_goLengths 24 = .ok (.iload_n 2, 1) := by decide +kernel
theorem dX12_goLengths_25 : decode cX12_goLengths 25 = .ok (.bipush 40, 2) := by decide +kernel
theorem dX12_goLengths_27 : decode cX12_goLengths 27 = .ok (.if_icmp .gt 128, 3) := by decide +kernel
theorem dX12_goLengths_30 : decode cX12_goLengths 30 = .ok (.iconst 0, 1) := by decide +kernel
theorem dX12_goLengths_31 : decode cX12_goLengths 31 = .ok (.istore_n 3, 1) := by decide +kernel
theorem dX12_goLengths_32 : decode cX12_goLengths 32 = .ok (.iload_n 3, 1) := by decide +kernel
theorem dX12_goLengths_33 : decode cX12_goLengths 33 = .ok (.bipush 7, 2) := by decide +kernel
theorem dX12_goLengths_35 : decode cX12_goLengths 35 = .ok (.if_icmp .ge 114, 3) := by decide +kernel
theorem dX12_goLengths_38 : decode cX12_goLengths 38 = .ok (.aload_n 0, 1) := by decide +kernel
theorem dX12_goLengths_39 : decode cX12_goLengths 39 = .ok (.getfield 32, 3) := by decide +kernel
theorem dX12_goLengths_42 : decode cX12_goLengths 42 = .ok (.iload_n 2, 1) := by decide +kernel
theorem dX12_goLengths_43 : decode cX12_goLengths 43 = .ok (.iaload, 1) := by decide +kernel
theorem dX12_goLengths_44 : decode cX12_goLengths 44 = .ok (.iconst (-1), 1) := by decide +kernel
theorem dX12_goLengths_45 : decode cX12_goLengths 45 = .ok (.if_icmp .eq 104, 3) := by decide +kernel
theorem dX12_goLengths_48 : decode cX12_goLengths 48 = .ok (.iload_n 2, 1) := by decide +kernel
theorem dX12_goLengths_49 : decode cX12_goLengths 49 = .ok (.iload_n 3, 1) := by decide +kernel
theorem dX12_goLengths_50 : decode cX12_goLengths 50 = .ok (.invokestatic 176, 3) := by decide +kernel
theorem dX12_goLengths_53 : decode cX12_goLengths 53 = .ok (.isub, 1) := by decide +kernel
theorem dX12_goLengths_54 : decode cX12_goLengths 54 = .ok (.istore 4, 2) := by decide +kernel
theorem dX12_goLengths_56 : decode cX12_goLengths 56 = .ok (.iload 4, 2) := by decide +kernel
theorem dX12_goLengths_58 : decode cX12_goLengths 58 = .ok (.invokestatic 154, 3) := by decide +kernel
theorem dX12_goLengths_61 : decode cX12_goLengths 61 = .ok (.ifCond .eq 82, 3) := by decide +kernel
theorem dX12_goLengths_64 : decode cX12_goLengths 64 = .ok (.aload_n 0, 1) := by decide +kernel
theorem dX12_goLengths_65 : decode cX12_goLengths 65 = .ok (.iload 4, 2) := by decide +kernel
theorem dX12_goLengths_67 : decode cX12_goLengths 67 = .ok (.iload_n 1, 1) := by decide +kernel
theorem dX12_goLengths_68 : decode cX12_goLengths 68 = .ok (.invokevirtual 151, 3) := by decide +kernel
theorem dX12_goLengths_71 : decode cX12_goLengths 71 = .ok (.aload_n 0, 1) := by decide +kernel
theorem dX12_goLengths_72 : decode cX12_goLengths 72 = .ok (.getfield 86, 3) := by decide +kernel
theorem dX12_goLengths_75 : decode cX12_goLengths 75 = .ok (.if_icmp .gt 68, 3) := by decide +kernel
theorem dX12_goLengths_78 : decode cX12_goLengths 78 = .ok (.aload_n 0, 1) := by decide +kernel
theorem dX12_goLengths_79 : decode cX12_goLengths 79 = .ok (.getfield 32, 3) := by decide +kernel
theorem dX12_goLengths_82 : decode cX12_goLengths 82 = .ok (.iload_n 2, 1) := by decide +kernel
theorem dX12_goLengths_83 : decode cX12_goLengths 83 = .ok (.iaload, 1) := by decide +kernel
theorem dX12_goLengths_84 : decode cX12_goLengths 84 = .ok (.bipush 9, 2) := by decide +kernel
theorem dX12_goLengths_86 : decode cX12_goLengths 86 = .ok (.if_icmp .ne 7, 3) := by decide +kernel
theorem dX12_goLengths_89 : decode cX12_goLengths 89 = .ok (.iload_n 3, 1) := by decide +kernel
theorem dX12_goLengths_90 : decode cX12_goLengths 90 = .ok (.goto 9, 3) := by decide +kernel
theorem dX12_goLengths_93 : decode cX12_goLengths 93 = .ok (.aload_n 0, 1) := by decide +kernel
theorem dX12_goLengths_94 : decode cX12_goLengths 94 = .ok (.getfield 32, 3) := by decide +kernel
theorem dX12_goLengths_97 : decode cX12_goLengths 97 = .ok (.iload_n 2, 1) := by decide +kernel
theorem dX12_goLengths_98 : decode cX12_goLengths 98 = .ok (.iaload, 1) := by decide +kernel
theorem dX12_goLengths_99 : decode cX12_goLengths 99 = .ok (.istore 5, 2) := by decide +kernel
theorem dX12_goLengths_101 : decode cX12_goLengths 101 = .ok (.aload_n 0, 1) := by decide +kernel
theorem dX12_goLengths_102 : decode cX12_goLengths 102 = .ok (.getfield 35, 3) := by decide +kernel
theorem dX12_goLengths_105 : decode cX12_goLengths 105 = .ok (.iload 4, 2) := by decide +kernel
theorem dX12_goLengths_107 : decode cX12_goLengths 107 = .ok (.aload_n 0, 1) := by decide +kernel
theorem dX12_goLengths_108 : decode cX12_goLengths 108 = .ok (.getfield 35, 3) := by decide +kernel
theorem dX12_goLengths_111 : decode cX12_goLengths 111 = .ok (.iload 4, 2) := by decide +kernel
theorem dX12_goLengths_113 : decode cX12_goLengths 113 = .ok (.iaload, 1) := by decide +kernel
theorem dX12_goLengths_114 : decode cX12_goLengths 114 = .ok (.iconst (-1), 1) := by decide +kernel
theorem dX12_goLengths_115 : decode cX12_goLengths 115 = .ok (.if_icmp .eq 15, 3) := by decide +kernel
theorem dX12_goLengths_118 : decode cX12_goLengths 118 = .ok (.iload 5, 2) := by decide +kernel
theorem dX12_goLengths_120 : decode cX12_goLengths 120 = .ok (.aload_n 0, 1) := by decide +kernel
theorem dX12_goLengths_121 : decode cX12_goLengths 121 = .ok (.getfield 35, 3) := by decide +kernel
theorem dX12_goLengths_124 : decode cX12_goLengths 124 = .ok (.iload 4, 2) := by decide +kernel
theorem dX12_goLengths_126 : decode cX12_goLengths 126 = .ok (.iaload, 1) := by decide +kernel
theorem dX12_goLengths_127 : decode cX12_goLengths 127 = .ok (.if_icmp .ge 8, 3) := by decide +kernel
theorem dX12_goLengths_130 : decode cX12_goLengths 130 = .ok (.iload 5, 2) := by decide +kernel
theorem dX12_goLengths_132 : decode cX12_goLengths 132 = .ok (.goto 10, 3) := by decide +kernel
theorem dX12_goLengths_135 : decode cX12_goLengths 135 = .ok (.aload_n 0, 1) := by decide +kernel
theorem dX12_goLengths_136 : decode cX12_goLengths 136 = .ok (.getfield 35, 3) := by decide +kernel
theorem dX12_goLengths_139 : decode cX12_goLengths 139 = .ok (.iload 4, 2) := by decide +kernel
theorem dX12_goLengths_141 : decode cX12_goLengths 141 = .ok (.iaload, 1) := by decide +kernel
theorem dX12_goLengths_142 : decode cX12_goLengths 142 = .ok (.iastore, 1) := by decide +kernel
theorem dX12_goLengths_143 : decode cX12_goLengths 143 = .ok (.iinc 3 1, 3) := by decide +kernel
theorem dX12_goLengths_146 : decode cX12_goLengths 146 = .ok (.goto (-114), 3) := by decide +kernel
theorem dX12_goLengths_149 : decode cX12_goLengths 149 = .ok (.iinc 2 1, 3) := by decide +kernel
theorem dX12_goLengths_152 : decode cX12_goLengths 152 = .ok (.goto (-128), 3) := by decide +kernel
theorem dX12_goLengths_155 : decode cX12_goLengths 155 = .ok (.iconst 0, 1) := by decide +kernel
theorem dX12_goLengths_156 : decode cX12_goLengths 156 = .ok (.istore_n 2, 1) := by decide +kernel
theorem dX12_goLengths_157 : decode cX12_goLengths 157 = .ok (.iload_n 2, 1) := by decide +kernel
theorem dX12_goLengths_158 : decode cX12_goLengths 158 = .ok (.bipush 40, 2) := by decide +kernel
theorem dX12_goLengths_160 : decode cX12_goLengths 160 = .ok (.if_icmp .gt 21, 3) := by decide +kernel
theorem dX12_goLengths_163 : decode cX12_goLengths 163 = .ok (.aload_n 0, 1) := by decide +kernel
theorem dX12_goLengths_164 : decode cX12_goLengths 164 = .ok (.getfield 32, 3) := by decide +kernel
theorem dX12_goLengths_167 : decode cX12_goLengths 167 = .ok (.iload_n 2, 1) := by decide +kernel
theorem dX12_goLengths_168 : decode cX12_goLengths 168 = .ok (.aload_n 0, 1) := by decide +kernel
theorem dX12_goLengths_169 : decode cX12_goLengths 169 = .ok (.getfield 35, 3) := by decide +kernel
theorem dX12_goLengths_172 : decode cX12_goLengths 172 = .ok (.iload_n 2, 1) := by decide +kernel
theorem dX12_goLengths_173 : decode cX12_goLengths 173 = .ok (.iaload, 1) := by decide +kernel
theorem dX12_goLengths_174 : decode cX12_goLengths 174 = .ok (.iastore, 1) := by decide +kernel
theorem dX12_goLengths_175 : decode cX12_goLengths 175 = .ok (.iinc 2 1, 3) := by decide +kernel
theorem dX12_goLengths_178 : decode cX12_goLengths 178 = .ok (.goto (-21), 3) := by decide +kernel
theorem dX12_goLengths_181 : decode cX12_goLengths 181 = .ok (.return_, 1) := by decide +kernel
theorem dX12_firstBy_0 : decode cX12_firstBy 0 = .ok (.iconst (-1), 1) := by decide +kernel
theorem dX12_firstBy_1 : decode cX12_firstBy 1 = .ok (.istore_n 3, 1) := by decide +kernel
theorem dX12_firstBy_2 : decode cX12_firstBy 2 = .ok (.bipush 10, 2) := by decide +kernel
theorem dX12_firstBy_4 : decode cX12_firstBy 4 = .ok (.istore 4, 2) := by decide +kernel
theorem dX12_firstBy_6 : decode cX12_firstBy 6 = .ok (.iload 4, 2) := by decide +kernel
theorem dX12_firstBy_8 : decode cX12_firstBy 8 = .ok (.bipush 40, 2) := by decide +kernel
theorem dX12_firstBy_10 : decode cX12_firstBy 10 = .ok (.if_icmp .gt 81, 3) := by decide +kernel
theorem dX12_firstBy_13 : decode cX12_firstBy 13 = .ok (.aload_n 0, 1) := by decide +kernel
theorem dX12_firstBy_14 : decode cX12_firstBy 14 = .ok (.getfield 32, 3) := by decide +kernel
theorem dX12_firstBy_17 : decode cX12_firstBy 17 = .ok (.iload 4, 2) := by decide +kernel
theorem dX12_firstBy_19 : decode cX12_firstBy 19 = .ok (.iaload, 1) := by decide +kernel
theorem dX12_firstBy_20 : decode cX12_firstBy 20 = .ok (.iconst (-1), 1) := by decide +kernel
theorem dX12_firstBy_21 : decode cX12_firstBy 21 = .ok (.if_icmp .eq 28, 3) := by decide +kernel
theorem dX12_firstBy_24 : decode cX12_firstBy 24 = .ok (.aload_n 0, 1) := by decide +kernel
theorem dX12_firstBy_25 : decode cX12_firstBy 25 = .ok (.iconst 0, 1) := by decide +kernel
theorem dX12_firstBy_26 : decode cX12_firstBy 26 = .ok (.iload 4, 2) := by decide +kernel
theorem dX12_firstBy_28 : decode cX12_firstBy 28 = .ok (.iload_n 2, 1) := by decide +kernel
theorem dX12_firstBy_29 : decode cX12_firstBy 29 = .ok (.iconst 0, 1) := by decide +kernel
theorem dX12_firstBy_30 : decode cX12_firstBy 30 = .ok (.invokevirtual 132, 3) := by decide +kernel
theorem dX12_firstBy_33 : decode cX12_firstBy 33 = .ok (.iload_n 1, 1) := by decide +kernel
theorem dX12_firstBy_34 : decode cX12_firstBy 34 = .ok (.iload_n 1, 1) := by decide +kernel
theorem dX12_firstBy_35 : decode cX12_firstBy 35 = .ok (.iload_n 1, 1) := by decide +kernel
theorem dX12_firstBy_36 : decode cX12_firstBy 36 = .ok (.iconst 2, 1) := by decide +kernel
theorem dX12_firstBy_37 : decode cX12_firstBy 37 = .ok (.idiv, 1) := by decide +kernel
theorem dX12_firstBy_38 : decode cX12_firstBy 38 = .ok (.iadd, 1) := by decide +kernel
theorem dX12_firstBy_39 : decode cX12_firstBy 39 = .ok (.invokestatic 53, 3) := by decide +kernel
theorem dX12_firstBy_42 : decode cX12_firstBy 42 = .ok (.ifCond .eq 7, 3) := by decide +kernel
theorem dX12_firstBy_45 : decode cX12_firstBy 45 = .ok (.iconst 1, 1) := by decide +kernel
theorem dX12_firstBy_46 : decode cX12_firstBy 46 = .ok (.goto 4, 3) := by decide +kernel
theorem dX12_firstBy_49 : decode cX12_firstBy 49 = .ok (.iconst 0, 1) := by decide +kernel
theorem dX12_firstBy_50 : decode cX12_firstBy 50 = .ok (.istore 5, 2) := by decide +kernel
theorem dX12_firstBy_52 : decode cX12_firstBy 52 = .ok (.iload 5, 2) := by decide +kernel
theorem dX12_firstBy_54 : decode cX12_firstBy 54 = .ok (.ifCond .eq 29, 3) := by decide +kernel
theorem dX12_firstBy_57 : decode cX12_firstBy 57 = .ok (.iload_n 3, 1) := by decide +kernel
theorem dX12_firstBy_58 : decode cX12_firstBy 58 = .ok (.iconst (-1), 1) := by decide +kernel
theorem dX12_firstBy_59 : decode cX12_firstBy 59 = .ok (.if_icmp .eq 14, 3) := by decide +kernel
theorem dX12_firstBy_62 : decode cX12_firstBy 62 = .ok (.aload_n 0, 1) := by decide +kernel
theorem dX12_firstBy_63 : decode cX12_firstBy 63 = .ok (.getfield 32, 3) := by decide +kernel
theorem dX12_firstBy_66 : decode cX12_firstBy 66 = .ok (.iload 4, 2) := by decide +kernel
theorem dX12_firstBy_68 : decode cX12_firstBy 68 = .ok (.iaload, 1) := by decide +kernel
theorem dX12_firstBy_69 : decode cX12_firstBy 69 = .ok (.iload_n 3, 1) := by decide +kernel
theorem dX12_firstBy_70 : decode cX12_firstBy 70 = .ok (.if_icmp .ge 13, 3) := by decide +kernel
theorem dX12_firstBy_73 : decode cX12_firstBy 73 = .ok (.aload_n 0, 1) := by decide +kernel
theorem dX12_firstBy_74 : decode cX12_firstBy 74 = .ok (.getfield 32, 3) := by decide +kernel
theorem dX12_firstBy_77 : decode cX12_firstBy 77 = .ok (.iload 4, 2) := by decide +kernel
theorem dX12_firstBy_79 : decode cX12_firstBy 79 = .ok (.iaload, 1) := by decide +kernel
theorem dX12_firstBy_80 : decode cX12_firstBy 80 = .ok (.goto 4, 3) := by decide +kernel
theorem dX12_firstBy_83 : decode cX12_firstBy 83 = .ok (.iload_n 3, 1) := by decide +kernel
theorem dX12_firstBy_84 : decode cX12_firstBy 84 = .ok (.istore_n 3, 1) := by decide +kernel
theorem dX12_firstBy_85 : decode cX12_firstBy 85 = .ok (.iinc 4 1, 3) := by decide +kernel
theorem dX12_firstBy_88 : decode cX12_firstBy 88 = .ok (.goto (-82), 3) := by decide +kernel
theorem dX12_firstBy_91 : decode cX12_firstBy 91 = .ok (.iload_n 3, 1) := by decide +kernel
theorem dX12_firstBy_92 : decode cX12_firstBy 92 = .ok (.ireturn, 1) := by decide +kernel
theorem dX12_soonestNow_0 : decode cX12_soonestNow 0 = .ok (.iconst 0, 1) := by decide +kernel
theorem dX12_soonestNow_1 : decode cX12_soonestNow 1 = .ok (.istore_n 3, 1) := by decide +kernel
theorem dX12_soonestNow_2 : decode cX12_soonestNow 2 = .ok (.iload_n 3, 1) := by decide +kernel
theorem dX12_soonestNow_3 : decode cX12_soonestNow 3 = .ok (.bipush 40, 2) := by decide +kernel
theorem dX12_soonestNow_5 : decode cX12_soonestNow 5 = .ok (.if_icmp .gt 29, 3) := by decide +kernel
theorem dX12_soonestNow_8 : decode cX12_soonestNow 8 = .ok (.aload_n 0, 1) := by decide +kernel
theorem dX12_soonestNow_9 : decode cX12_soonestNow 9 = .ok (.getfield 32, 3) := by decide +kernel
theorem dX12_soonestNow_12 : decode cX12_soonestNow 12 = .ok (.iload_n 3, 1) := by decide +kernel
theorem dX12_soonestNow_13 : decode cX12_soonestNow 13 = .ok (.iload_n 3, 1) := by decide +kernel
theorem dX12_soonestNow_14 : decode cX12_soonestNow 14 = .ok (.aload_n 0, 1) := by decide +kernel
theorem dX12_soonestNow_15 : decode cX12_soonestNow 15 = .ok (.getfield 80, 3) := by decide +kernel
theorem dX12_soonestNow_18 : decode cX12_soonestNow 18 = .ok (.if_icmp .ne 8, 3) := by decide +kernel
theorem dX12_soonestNow_21 : decode cX12_soonestNow 21 = .ok (.bipush 9, 2) := by decide +kernel
theorem dX12_soonestNow_23 : decode cX12_soonestNow 23 = .ok (.goto 4, 3) := by decide +kernel
theorem dX12_soonestNow_26 : decode cX12_soonestNow 26 = .ok (.iconst (-1), 1) := by decide +kernel
theorem dX12_soonestNow_27 : decode cX12_soonestNow 27 = .ok (.iastore, 1) := by decide +kernel
theorem dX12_soonestNow_28 : decode cX12_soonestNow 28 = .ok (.iinc 3 1, 3) := by decide +kernel
theorem dX12_soonestNow_31 : decode cX12_soonestNow 31 = .ok (.goto (-29), 3) := by decide +kernel
theorem dX12_soonestNow_34 : decode cX12_soonestNow 34 = .ok (.iconst 0, 1) := by decide +kernel
theorem dX12_soonestNow_35 : decode cX12_soonestNow 35 = .ok (.istore_n 3, 1) := by decide +kernel
theorem dX12_soonestNow_36 : decode cX12_soonestNow 36 = .ok (.iload_n 3, 1) := by decide +kernel
theorem dX12_soonestNow_37 : decode cX12_soonestNow 37 = .ok (.bipush 12, 2) := by decide +kernel
theorem dX12_soonestNow_39 : decode cX12_soonestNow 39 = .ok (.if_icmp .gt 59, 3) := by decide +kernel
theorem dX12_soonestNow_42 : decode cX12_soonestNow 42 = .ok (.aload_n 0, 1) := by decide +kernel
theorem dX12_soonestNow_43 : decode cX12_soonestNow 43 = .ok (.iload_n 1, 1) := by decide +kernel
theorem dX12_soonestNow_44 : decode cX12_soonestNow 44 = .ok (.aload_n 0, 1) := by decide +kernel
theorem dX12_soonestNow_45 : decode cX12_soonestNow 45 = .ok (.getfield 104, 3) := by decide +kernel
theorem dX12_soonestNow_48 : decode cX12_soonestNow 48 = .ok (.iload_n 3, 1) := by decide +kernel
theorem dX12_soonestNow_49 : decode cX12_soonestNow 49 = .ok (.iadd, 1) := by decide +kernel
theorem dX12_soonestNow_50 : decode cX12_soonestNow 50 = .ok (.invokevirtual 179, 3) := by decide +kernel
theorem dX12_soonestNow_53 : decode cX12_soonestNow 53 = .ok (.istore 4, 2) := by decide +kernel
theorem dX12_soonestNow_55 : decode cX12_soonestNow 55 = .ok (.iload 4, 2) := by decide +kernel
theorem dX12_soonestNow_57 : decode cX12_soonestNow 57 = .ok (.iconst (-1), 1) := by decide +kernel
theorem dX12_soonestNow_58 : decode cX12_soonestNow 58 = .ok (.if_icmp .eq 22, 3) := by decide +kernel
theorem dX12_soonestNow_61 : decode cX12_soonestNow 61 = .ok (.iload_n 2, 1) := by decide +kernel
theorem dX12_soonestNow_62 : decode cX12_soonestNow 62 = .ok (.ifCond .ne 7, 3) := by decide +kernel
theorem dX12_soonestNow_65 : decode cX12_soonestNow 65 = .ok (.iload_n 3, 1) := by decide +kernel
theorem dX12_soonestNow_66 : decode cX12_soonestNow 66 = .ok (.goto 13, 3) := by decide +kernel
theorem dX12_soonestNow_69 : decode cX12_soonestNow 69 = .ok (.iload_n 3, 1) := by decide +kernel
theorem dX12_soonestNow_70 : decode cX12_soonestNow 70 = .ok (.ifCond .ne 7, 3) := by decide +kernel
theorem dX12_soonestNow_73 : decode cX12_soonestNow 73 = .ok (.iconst (-1), 1) := by decide +kernel
theorem dX12_soonestNow_74 : decode cX12_soonestNow 74 = .ok (.goto 5, 3) := by decide +kernel
theorem dX12_soonestNow_77 : decode cX12_soonestNow 77 = .ok (.iload 4, 2) := by decide +kernel
theorem dX12_soonestNow_79 : decode cX12_soonestNow 79 = .ok (.ireturn, 1) := by decide +kernel
theorem dX12_soonestNow_80 : decode cX12_soonestNow 80 = .ok (.aload_n 0, 1) := by decide +kernel
theorem dX12_soonestNow_81 : decode cX12_soonestNow 81 = .ok (.aload_n 0, 1) := by decide +kernel
theorem dX12_soonestNow_82 : decode cX12_soonestNow 82 = .ok (.getfield 104, 3) := by decide +kernel
theorem dX12_soonestNow_85 : decode cX12_soonestNow 85 = .ok (.iload_n 3, 1) := by decide +kernel
theorem dX12_soonestNow_86 : decode cX12_soonestNow 86 = .ok (.iadd, 1) := by decide +kernel
theorem dX12_soonestNow_87 : decode cX12_soonestNow 87 = .ok (.iconst 1, 1) := by decide +kernel
theorem dX12_soonestNow_88 : decode cX12_soonestNow 88 = .ok (.iadd, 1) := by decide +kernel
theorem dX12_soonestNow_89 : decode cX12_soonestNow 89 = .ok (.invokevirtual 182, 3) := by decide +kernel
theorem dX12_soonestNow_92 : decode cX12_soonestNow 92 = .ok (.iinc 3 1, 3) := by decide +kernel
theorem dX12_soonestNow_95 : decode cX12_soonestNow 95 = .ok (.goto (-59), 3) := by decide +kernel
theorem dX12_soonestNow_98 : decode cX12_soonestNow 98 = .ok (.iconst (-1), 1) := by decide +kernel
theorem dX12_soonestNow_99 : decode cX12_soonestNow 99 = .ok (.ireturn, 1) := by decide +kernel
theorem dX12_soonest_0 : decode cX12_soonest 0 = .ok (.iload_n 1, 1) := by decide +kernel
theorem dX12_soonest_1 : decode cX12_soonest 1 = .ok (.iconst 1, 1) := by decide +kernel
theorem dX12_soonest_2 : decode cX12_soonest 2 = .ok (.sipush 9999, 3) := by decide +kernel
theorem dX12_soonest_5 : decode cX12_soonest 5 = .ok (.invokestatic 53, 3) := by decide +kernel
theorem dX12_soonest_8 : decode cX12_soonest 8 = .ok (.ifCond .eq 12, 3) := by decide +kernel
theorem dX12_soonest_11 : decode cX12_soonest 11 = .ok (.iload_n 2, 1) := by decide +kernel
theorem dX12_soonest_12 : decode cX12_soonest 12 = .ok (.iconst 0, 1) := by decide +kernel
theorem dX12_soonest_13 : decode cX12_soonest 13 = .ok (.iconst 1, 1) := by decide +kernel
theorem dX12_soonest_14 : decode cX12_soonest 14 = .ok (.invokestatic 53, 3) := by decide +kernel
theorem dX12_soonest_17 : decode cX12_soonest 17 = .ok (.ifCond .ne 6, 3) := by decide +kernel
theorem dX12_soonest_20 : decode cX12_soonest 20 = .ok (.bipush (-102), 2) := by decide +kernel
theorem dX12_soonest_22 : decode cX12_soonest 22 = .ok (.ireturn, 1) := by decide +kernel
theorem dX12_soonest_23 : decode cX12_soonest 23 = .ok (.aload_n 0, 1) := by decide +kernel
theorem dX12_soonest_24 : decode cX12_soonest 24 = .ok (.getfield 95, 3) := by decide +kernel
theorem dX12_soonest_27 : decode cX12_soonest 27 = .ok (.ifCond .eq 19, 3) := by decide +kernel
theorem dX12_soonest_30 : decode cX12_soonest 30 = .ok (.aload_n 0, 1) := by decide +kernel
theorem dX12_soonest_31 : decode cX12_soonest 31 = .ok (.getfield 92, 3) := by decide +kernel
theorem dX12_soonest_34 : decode cX12_soonest 34 = .ok (.ifCond .ne 12, 3) := by decide +kernel
theorem dX12_soonest_37 : decode cX12_soonest 37 = .ok (.aload_n 0, 1) := by decide +kernel
theorem dX12_soonest_38 : decode cX12_soonest 38 = .ok (.iload_n 1, 1) := by decide +kernel
theorem dX12_soonest_39 : decode cX12_soonest 39 = .ok (.iload_n 2, 1) := by decide +kernel
theorem dX12_soonest_40 : decode cX12_soonest 40 = .ok (.invokevirtual 186, 3) := by decide +kernel
theorem dX12_soonest_43 : decode cX12_soonest 43 = .ok (.goto 5, 3) := by decide +kernel
theorem dX12_soonest_46 : decode cX12_soonest 46 = .ok (.bipush (-103), 2) := by decide +kernel
theorem dX12_soonest_48 : decode cX12_soonest 48 = .ok (.ireturn, 1) := by decide +kernel
theorem dX12_caughtNow_0 : decode cX12_caughtNow 0 = .ok (.aload_n 0, 1) := by decide +kernel
theorem dX12_caughtNow_1 : decode cX12_caughtNow 1 = .ok (.aload_n 0, 1) := by decide +kernel
theorem dX12_caughtNow_2 : decode cX12_caughtNow 2 = .ok (.getfield 80, 3) := by decide +kernel
theorem dX12_caughtNow_5 : decode cX12_caughtNow 5 = .ok (.invokevirtual 128, 3) := by decide +kernel
theorem dX12_caughtNow_8 : decode cX12_caughtNow 8 = .ok (.istore_n 2, 1) := by decide +kernel
theorem dX12_caughtNow_9 : decode cX12_caughtNow 9 = .ok (.bipush 90, 2) := by decide +kernel
theorem dX12_caughtNow_11 : decode cX12_caughtNow 11 = .ok (.iload_n 1, 1) := by decide +kernel
theorem dX12_caughtNow_12 : decode cX12_caughtNow 12 = .ok (.iload_n 2, 1) := by decide +kernel
theorem dX12_caughtNow_13 : decode cX12_caughtNow 13 = .ok (.imul, 1) := by decide +kernel
theorem dX12_caughtNow_14 : decode cX12_caughtNow 14 = .ok (.isub, 1) := by decide +kernel
theorem dX12_caughtNow_15 : decode cX12_caughtNow 15 = .ok (.sipush 360, 3) := by decide +kernel
theorem dX12_caughtNow_18 : decode cX12_caughtNow 18 = .ok (.irem, 1) := by decide +kernel
theorem dX12_caughtNow_19 : decode cX12_caughtNow 19 = .ok (.sipush 360, 3) := by decide +kernel
theorem dX12_caughtNow_22 : decode cX12_caughtNow 22 = .ok (.iadd, 1) := by decide +kernel
theorem dX12_caughtNow_23 : decode cX12_caughtNow 23 = .ok (.sipush 360, 3) := by decide +kernel
theorem dX12_caughtNow_26 : decode cX12_caughtNow 26 = .ok (.irem, 1) := by decide +kernel
theorem dX12_caughtNow_27 : decode cX12_caughtNow 27 = .ok (.istore_n 3, 1) := by decide +kernel
theorem dX12_caughtNow_28 : decode cX12_caughtNow 28 = .ok (.iconst 0, 1) := by decide +kernel
theorem dX12_caughtNow_29 : decode cX12_caughtNow 29 = .ok (.istore 4, 2) := by decide +kernel
theorem dX12_caughtNow_31 : decode cX12_caughtNow 31 = .ok (.iload 4, 2) := by decide +kernel
theorem dX12_caughtNow_33 : decode cX12_caughtNow 33 = .ok (.bipush 99, 2) := by decide +kernel
theorem dX12_caughtNow_35 : decode cX12_caughtNow 35 = .ok (.if_icmp .ge 69, 3) := by decide +kernel
theorem dX12_caughtNow_38 : decode cX12_caughtNow 38 = .ok (.aload_n 0, 1) := by decide +kernel
theorem dX12_caughtNow_39 : decode cX12_caughtNow 39 = .ok (.getfield 101, 3) := by decide +kernel
theorem dX12_caughtNow_42 : decode cX12_caughtNow 42 = .ok (.bipush 10, 2) := by decide +kernel
theorem dX12_caughtNow_44 : decode cX12_caughtNow 44 = .ok (.iload_n 2, 1) := by decide +kernel
theorem dX12_caughtNow_45 : decode cX12_caughtNow 45 = .ok (.imul, 1) := by decide +kernel
theorem dX12_caughtNow_46 : decode cX12_caughtNow 46 = .ok (.iload 4, 2) := by decide +kernel
theorem dX12_caughtNow_48 : decode cX12_caughtNow 48 = .ok (.imul, 1) := by decide +kernel
theorem dX12_caughtNow_49 : decode cX12_caughtNow 49 = .ok (.iadd, 1) := by decide +kernel
theorem dX12_caughtNow_50 : decode cX12_caughtNow 50 = .ok (.sipush 360, 3) := by decide +kernel
theorem dX12_caughtNow_53 : decode cX12_caughtNow 53 = .ok (.irem, 1) := by decide +kernel
theorem dX12_caughtNow_54 : decode cX12_caughtNow 54 = .ok (.istore 5, 2) := by decide +kernel
theorem dX12_caughtNow_56 : decode cX12_caughtNow 56 = .ok (.iload 5, 2) := by decide +kernel
theorem dX12_caughtNow_58 : decode cX12_caughtNow 58 = .ok (.iload_n 3, 1) := by decide +kernel
theorem dX12_caughtNow_59 : decode cX12_caughtNow 59 = .ok (.isub, 1) := by decide +kernel
theorem dX12_caughtNow_60 : decode cX12_caughtNow 60 = .ok (.invokestatic 167, 3) := by decide +kernel
theorem dX12_caughtNow_63 : decode cX12_caughtNow 63 = .ok (.istore 6, 2) := by decide +kernel
theorem dX12_caughtNow_65 : decode cX12_caughtNow 65 = .ok (.iload 6, 2) := by decide +kernel
theorem dX12_caughtNow_67 : decode cX12_caughtNow 67 = .ok (.sipush 360, 3) := by decide +kernel
theorem dX12_caughtNow_70 : decode cX12_caughtNow 70 = .ok (.iload 6, 2) := by decide +kernel
theorem dX12_caughtNow_72 : decode cX12_caughtNow 72 = .ok (.isub, 1) := by decide +kernel
theorem dX12_caughtNow_73 : decode cX12_caughtNow 73 = .ok (.if_icmp .le 12, 3) := by decide +kernel
theorem dX12_caughtNow_76 : decode cX12_caughtNow 76 = .ok (.sipush 360, 3) := by decide +kernel
theorem dX12_caughtNow_79 : decode cX12_caughtNow 79 = .ok (.iload 6, 2) := by decide +kernel
theorem dX12_caughtNow_81 : decode cX12_caughtNow 81 = .ok (.isub, 1) := by decide +kernel
theorem dX12_caughtNow_82 : decode cX12_caughtNow 82 = .ok (.goto 5, 3) := by decide +kernel
theorem dX12_caughtNow_85 : decode cX12_caughtNow 85 = .ok (.iload 6, 2) := by decide +kernel
theorem dX12_caughtNow_87 : decode cX12_caughtNow 87 = .ok (.istore 6, 2) := by decide +kernel
theorem dX12_caughtNow_89 : decode cX12_caughtNow 89 = .ok (.iload 6, 2) := by decide +kernel
theorem dX12_caughtNow_91 : decode cX12_caughtNow 91 = .ok (.iconst 5, 1) := by decide +kernel
theorem dX12_caughtNow_92 : decode cX12_caughtNow 92 = .ok (.if_icmp .gt 6, 3) := by decide +kernel
theorem dX12_caughtNow_95 : decode cX12_caughtNow 95 = .ok (.iload 4, 2) := by decide +kernel
theorem dX12_caughtNow_97 : decode cX12_caughtNow 97 = .ok (.ireturn, 1) := by decide +kernel
theorem dX12_caughtNow_98 : decode cX12_caughtNow 98 = .ok (.iinc 4 1, 3) := by decide +kernel
theorem dX12_caughtNow_101 : decode cX12_caughtNow 101 = .ok (.goto (-70), 3) := by decide +kernel
theorem dX12_caughtNow_104 : decode cX12_caughtNow 104 = .ok (.iconst (-1), 1) := by decide +kernel
theorem dX12_caughtNow_105 : decode cX12_caughtNow 105 = .ok (.ireturn, 1) := by decide +kernel
theorem dX12_caught_0 : decode cX12_caught 0 = .ok (.iload_n 1, 1) := by decide +kernel
theorem dX12_caught_1 : decode cX12_caught 1 = .ok (.iconst 1, 1) := by decide +kernel
theorem dX12_caught_2 : decode cX12_caught 2 = .ok (.bipush 99, 2) := by decide +kernel
theorem dX12_caught_4 : decode cX12_caught 4 = .ok (.invokestatic 53, 3) := by decide +kernel
theorem dX12_caught_7 : decode cX12_caught 7 = .ok (.ifCond .ne 6, 3) := by decide +kernel
theorem dX12_caught_10 : decode cX12_caught 10 = .ok (.bipush (-102), 2) := by decide +kernel
theorem dX12_caught_12 : decode cX12_caught 12 = .ok (.ireturn, 1) := by decide +kernel
theorem dX12_caught_13 : decode cX12_caught 13 = .ok (.aload_n 0, 1) := by decide +kernel
theorem dX12_caught_14 : decode cX12_caught 14 = .ok (.getfield 95, 3) := by decide +kernel
theorem dX12_caught_17 : decode cX12_caught 17 = .ok (.ifCond .eq 18, 3) := by decide +kernel
theorem dX12_caught_20 : decode cX12_caught 20 = .ok (.aload_n 0, 1) := by decide +kernel
theorem dX12_caught_21 : decode cX12_caught 21 = .ok (.getfield 92, 3) := by decide +kernel
theorem dX12_caught_24 : decode cX12_caught 24 = .ok (.ifCond .ne 11, 3) := by decide +kernel
theorem dX12_caught_27 : decode cX12_caught 27 = .ok (.aload_n 0, 1) := by decide +kernel
theorem dX12_caught_28 : decode cX12_caught 28 = .ok (.iload_n 1, 1) := by decide +kernel
theorem dX12_caught_29 : decode cX12_caught 29 = .ok (.invokevirtual 189, 3) := by decide +kernel
theorem dX12_caught_32 : decode cX12_caught 32 = .ok (.goto 5, 3) := by decide +kernel
theorem dX12_caught_35 : decode cX12_caught 35 = .ok (.bipush (-103), 2) := by decide +kernel
theorem dX12_caught_37 : decode cX12_caught 37 = .ok (.ireturn, 1) := by decide +kernel
theorem dX12_weighed_0 : decode cX12_weighed 0 = .ok (.iload_n 1, 1) := by decide +kernel
theorem dX12_weighed_1 : decode cX12_weighed 1 = .ok (.invokestatic 192, 3) := by decide +kernel
theorem dX12_weighed_4 : decode cX12_weighed 4 = .ok (.ifCond .eq 13, 3) := by decide +kernel
theorem dX12_weighed_7 : decode cX12_weighed 7 = .ok (.iload_n 2, 1) := by decide +kernel
theorem dX12_weighed_8 : decode cX12_weighed 8 = .ok (.iconst 0, 1) := by decide +kernel
theorem dX12_weighed_9 : decode cX12_weighed 9 = .ok (.bipush 99, 2) := by decide +kernel
theorem dX12_weighed_11 : decode cX12_weighed 11 = .ok (.invokestatic 53, 3) := by decide +kernel
theorem dX12_weighed_14 : decode cX12_weighed 14 = .ok (.ifCond .ne 6, 3) := by decide +kernel
theorem dX12_weighed_17 : decode cX12_weighed 17 = .ok (.bipush (-102), 2) := by decide +kernel
theorem dX12_weighed_19 : decode cX12_weighed 19 = .ok (.ireturn, 1) := by decide +kernel
theorem dX12_weighed_20 : decode cX12_weighed 20 = .ok (.aload_n 0, 1) := by decide +kernel
theorem dX12_weighed_21 : decode cX12_weighed 21 = .ok (.getfield 95, 3) := by decide +kernel
theorem dX12_weighed_24 : decode cX12_weighed 24 = .ok (.ifCond .ne 6, 3) := by decide +kernel
theorem dX12_weighed_27 : decode cX12_weighed 27 = .ok (.bipush (-103), 2) := by decide +kernel
theorem dX12_weighed_29 : decode cX12_weighed 29 = .ok (.ireturn, 1) := by decide +kernel
theorem dX12_weighed_30 : decode cX12_weighed 30 = .ok (.aload_n 0, 1) := by decide +kernel
theorem dX12_weighed_31 : decode cX12_weighed 31 = .ok (.getfield 110, 3) := by decide +kernel
theorem dX12_weighed_34 : decode cX12_weighed 34 = .ok (.bipush 6, 2) := by decide +kernel
theorem dX12_weighed_36 : decode cX12_weighed 36 = .ok (.if_icmp .ne 6, 3) := by decide +kernel
theorem dX12_weighed_39 : decode cX12_weighed 39 = .ok (.bipush (-104), 2) := by decide +kernel
theorem dX12_weighed_41 : decode cX12_weighed 41 = .ok (.ireturn, 1) := by decide +kernel
theorem dX12_weighed_42 : decode cX12_weighed 42 = .ok (.aload_n 0, 1) := by decide +kernel
theorem dX12_weighed_43 : decode cX12_weighed 43 = .ok (.getfield 22, 3) := by decide +kernel
theorem dX12_weighed_46 : decode cX12_weighed 46 = .ok (.aload_n 0, 1) := by decide +kernel
theorem dX12_weighed_47 : decode cX12_weighed 47 = .ok (.getfield 110, 3) := by decide +kernel
theorem dX12_weighed_50 : decode cX12_weighed 50 = .ok (.iload_n 1, 1) := by decide +kernel
theorem dX12_weighed_51 : decode cX12_weighed 51 = .ok (.iastore, 1) := by decide +kernel
theorem dX12_weighed_52 : decode cX12_weighed 52 = .ok (.aload_n 0, 1) := by decide +kernel
theorem dX12_weighed_53 : decode cX12_weighed 53 = .ok (.getfield 25, 3) := by decide +kernel
theorem dX12_weighed_56 : decode cX12_weighed 56 = .ok (.aload_n 0, 1) := by decide +kernel
theorem dX12_weighed_57 : decode cX12_weighed 57 = .ok (.getfield 110, 3) := by decide +kernel
theorem dX12_weighed_60 : decode cX12_weighed 60 = .ok (.iload_n 2, 1) := by decide +kernel
theorem dX12_weighed_61 : decode cX12_weighed 61 = .ok (.iastore, 1) := by decide +kernel
theorem dX12_weighed_62 : decode cX12_weighed 62 = .ok (.aload_n 0, 1) := by decide +kernel
theorem dX12_weighed_63 : decode cX12_weighed 63 = .ok (.dup, 1) := by decide +kernel
theorem dX12_weighed_64 : decode cX12_weighed 64 = .ok (.getfield 110, 3) := by decide +kernel
theorem dX12_weighed_67 : decode cX12_weighed 67 = .ok (.iconst 1, 1) := by decide +kernel
theorem dX12_weighed_68 : decode cX12_weighed 68 = .ok (.iadd, 1) := by decide +kernel
theorem dX12_weighed_69 : decode cX12_weighed 69 = .ok (.putfield 110, 3) := by decide +kernel
theorem dX12_weighed_72 : decode cX12_weighed 72 = .ok (.aload_n 0, 1) := by decide +kernel
theorem dX12_weighed_73 : decode cX12_weighed 73 = .ok (.getfield 110, 3) := by decide +kernel
theorem dX12_weighed_76 : decode cX12_weighed 76 = .ok (.ireturn, 1) := by decide +kernel
theorem dX12_forget_0 : decode cX12_forget 0 = .ok (.aload_n 0, 1) := by decide +kernel
theorem dX12_forget_1 : decode cX12_forget 1 = .ok (.getfield 110, 3) := by decide +kernel
theorem dX12_forget_4 : decode cX12_forget 4 = .ok (.istore_n 1, 1) := by decide +kernel
theorem dX12_forget_5 : decode cX12_forget 5 = .ok (.aload_n 0, 1) := by decide +kernel
theorem dX12_forget_6 : decode cX12_forget 6 = .ok (.iconst 0, 1) := by decide +kernel
theorem dX12_forget_7 : decode cX12_forget 7 = .ok (.putfield 110, 3) := by decide +kernel
theorem dX12_forget_10 : decode cX12_forget 10 = .ok (.iload_n 1, 1) := by decide +kernel
theorem dX12_forget_11 : decode cX12_forget 11 = .ok (.ireturn, 1) := by decide +kernel
theorem dX12_fitsNow_0 : decode cX12_fitsNow 0 = .ok (.iconst 0, 1) := by decide +kernel
theorem dX12_fitsNow_1 : decode cX12_fitsNow 1 = .ok (.istore_n 2, 1) := by decide +kernel
theorem dX12_fitsNow_2 : decode cX12_fitsNow 2 = .ok (.iconst (-1), 1) := by decide +kernel
theorem dX12_fitsNow_3 : decode cX12_fitsNow 3 = .ok (.istore_n 3, 1) := by decide +kernel
theorem dX12_fitsNow_4 : decode cX12_fitsNow 4 = .ok (.iconst (-1), 1) := by decide +kernel
theorem dX12_fitsNow_5 : decode cX12_fitsNow 5 = .ok (.istore 4, 2) := by decide +kernel
theorem dX12_fitsNow_7 : decode cX12_fitsNow 7 = .ok (.iconst 1, 1) := by decide +kernel
theorem dX12_fitsNow_8 : decode cX12_fitsNow 8 = .ok (.istore 5, 2) := by decide +kernel
theorem dX12_fitsNow_10 : decode cX12_fitsNow 10 = .ok (.iload 5, 2) := by decide +kernel
theorem dX12_fitsNow_12 : decode cX12_fitsNow 12 = .ok (.sipush 14400, 3) := by decide +kernel
theorem dX12_fitsNow_15 : decode cX12_fitsNow 15 = .ok (.if_icmp .gt 114, 3) := by decide +kernel
theorem dX12_fitsNow_18 : decode cX12_fitsNow 18 = .ok (.iconst 1, 1) := by decide +kernel
theorem dX12_fitsNow_19 : decode cX12_fitsNow 19 = .ok (.istore 6, 2) := by decide +kernel
theorem dX12_fitsNow_21 : decode cX12_fitsNow 21 = .ok (.iconst 0, 1) := by decide +kernel
theorem dX12_fitsNow_22 : decode cX12_fitsNow 22 = .ok (.istore 7, 2) := by decide +kernel
theorem dX12_fitsNow_24 : decode cX12_fitsNow 24 = .ok (.iload 7, 2) := by decide +kernel
theorem dX12_fitsNow_26 : decode cX12_fitsNow 26 = .ok (.aload_n 0, 1) := by decide +kernel
theorem dX12_fitsNow_27 : decode cX12_fitsNow 27 = .ok (.getfield 110, 3) := by decide +kernel
theorem dX12_fitsNow_30 : decode cX12_fitsNow 30 = .ok (.if_icmp .ge 49, 3) := by decide +kernel
theorem dX12_fitsNow_33 : decode cX12_fitsNow 33 = .ok (.iload 6, 2) := by decide +kernel
theorem dX12_fitsNow_35 : decode cX12_fitsNow 35 = .ok (.ifCond .eq 35, 3) := by decide +kernel
theorem dX12_fitsNow_38 : decode cX12_fitsNow 38 = .ok (.iload 5, 2) := by decide +kernel
theorem dX12_fitsNow_40 : decode cX12_fitsNow 40 = .ok (.aload_n 0, 1) := by decide +kernel
theorem dX12_fitsNow_41 : decode cX12_fitsNow 41 = .ok (.getfield 22, 3) := by decide +kernel
theorem dX12_fitsNow_44 : decode cX12_fitsNow 44 = .ok (.iload 7, 2) := by decide +kernel
theorem dX12_fitsNow_46 : decode cX12_fitsNow 46 = .ok (.iaload, 1) := by decide +kernel
theorem dX12_fitsNow_47 : decode cX12_fitsNow 47 = .ok (.aload_n 0, 1) := by decide +kernel
theorem dX12_fitsNow_48 : decode cX12_fitsNow 48 = .ok (.getfield 22, 3) := by decide +kernel
theorem dX12_fitsNow_51 : decode cX12_fitsNow 51 = .ok (.iload 7, 2) := by decide +kernel
theorem dX12_fitsNow_53 : decode cX12_fitsNow 53 = .ok (.iaload, 1) := by decide +kernel
theorem dX12_fitsNow_54 : decode cX12_fitsNow 54 = .ok (.imul, 1) := by decide +kernel
theorem dX12_fitsNow_55 : decode cX12_fitsNow 55 = .ok (.idiv, 1) := by decide +kernel
theorem dX12_fitsNow_56 : decode cX12_fitsNow 56 = .ok (.aload_n 0, 1) := by decide +kernel
theorem dX12_fitsNow_57 : decode cX12_fitsNow 57 = .ok (.getfield 25, 3) := by decide +kernel
theorem dX12_fitsNow_60 : decode cX12_fitsNow 60 = .ok (.iload 7, 2) := by decide +kernel
theorem dX12_fitsNow_62 : decode cX12_fitsNow 62 = .ok (.iaload, 1) := by decide +kernel
theorem dX12_fitsNow_63 : decode cX12_fitsNow 63 = .ok (.if_icmp .ne 7, 3) := by decide +kernel
theorem dX12_fitsNow_66 : decode cX12_fitsNow 66 = .ok (.iconst 1, 1) := by decide +kernel
theorem dX12_fitsNow_67 : decode cX12_fitsNow 67 = .ok (.goto 4, 3) := by decide +kernel
theorem dX12_fitsNow_70 : decode cX12_fitsNow 70 = .ok (.iconst 0, 1) := by decide +kernel
theorem dX12_fitsNow_71 : decode cX12_fitsNow 71 = .ok (.istore 6, 2) := by decide +kernel
theorem dX12_fitsNow_73 : decode cX12_fitsNow 73 = .ok (.iinc 7 1, 3) := by decide +kernel
theorem dX12_fitsNow_76 : decode cX12_fitsNow 76 = .ok (.goto (-52), 3) := by decide +kernel
theorem dX12_fitsNow_79 : decode cX12_fitsNow 79 = .ok (.iload_n 2, 1) := by decide +kernel
theorem dX12_fitsNow_80 : decode cX12_fitsNow 80 = .ok (.iload 6, 2) := by decide +kernel
theorem dX12_fitsNow_82 : decode cX12_fitsNow 82 = .ok (.ifCond .eq 7, 3) := by decide +kernel
theorem dX12_fitsNow_85 : decode cX12_fitsNow 85 = .ok (.iconst 1, 1) := by decide +kernel
theorem dX12_fitsNow_86 : decode cX12_fitsNow 86 = .ok (.goto 4, 3) := by decide +kernel
theorem dX12_fitsNow_89 : decode cX12_fitsNow 89 = .ok (.iconst 0, 1) := by decide +kernel
theorem dX12_fitsNow_90 : decode cX12_fitsNow 90 = .ok (.iadd, 1) := by decide +kernel
theorem dX12_fitsNow_91 : decode cX12_fitsNow 91 = .ok (.istore_n 2, 1) := by decide +kernel
theorem dX12_fitsNow_92 : decode cX12_fitsNow 92 = .ok (.iload 6, 2) := by decide +kernel
theorem dX12_fitsNow_94 : decode cX12_fitsNow 94 = .ok (.ifCond .eq 13, 3) := by decide +kernel
theorem dX12_fitsNow_97 : decode cX12_fitsNow 97 = .ok (.iload_n 3, 1) := by decide +kernel
theorem dX12_fitsNow_98 : decode cX12_fitsNow 98 = .ok (.iconst (-1), 1) := by decide +kernel
theorem dX12_fitsNow_99 : decode cX12_fitsNow 99 = .ok (.if_icmp .ne 8, 3) := by decide +kernel
theorem dX12_fitsNow_102 : decode cX12_fitsNow 102 = .ok (.iload 5, 2) := by decide +kernel
theorem dX12_fitsNow_104 : decode cX12_fitsNow 104 = .ok (.goto 4, 3) := by decide +kernel
theorem dX12_fitsNow_107 : decode cX12_fitsNow 107 = .ok (.iload_n 3, 1) := by decide +kernel
theorem dX12_fitsNow_108 : decode cX12_fitsNow 108 = .ok (.istore_n 3, 1) := by decide +kernel
theorem dX12_fitsNow_109 : decode cX12_fitsNow 109 = .ok (.iload 6, 2) := by decide +kernel
theorem dX12_fitsNow_111 : decode cX12_fitsNow 111 = .ok (.ifCond .eq 8, 3) := by decide +kernel
theorem dX12_fitsNow_114 : decode cX12_fitsNow 114 = .ok (.iload 5, 2) := by decide +kernel
theorem dX12_fitsNow_116 : decode cX12_fitsNow 116 = .ok (.goto 5, 3) := by decide +kernel
theorem dX12_fitsNow_119 : decode cX12_fitsNow 119 = .ok (.iload 4, 2) := by decide +kernel
theorem dX12_fitsNow_121 : decode cX12_fitsNow 121 = .ok (.istore 4, 2) := by decide +kernel
theorem dX12_fitsNow_123 : decode cX12_fitsNow 123 = .ok (.iinc 5 1, 3) := by decide +kernel
theorem dX12_fitsNow_126 : decode cX12_fitsNow 126 = .ok (.goto (-116), 3) := by decide +kernel
theorem dX12_fitsNow_129 : decode cX12_fitsNow 129 = .ok (.iload_n 1, 1) := by decide +kernel
theorem dX12_fitsNow_130 : decode cX12_fitsNow 130 = .ok (.ifCond .ne 7, 3) := by decide +kernel
theorem dX12_fitsNow_133 : decode cX12_fitsNow 133 = .ok (.iload_n 2, 1) := by decide +kernel
theorem dX12_fitsNow_134 : decode cX12_fitsNow 134 = .ok (.goto 14, 3) := by decide +kernel
theorem dX12_fitsNow_137 : decode cX12_fitsNow 137 = .ok (.iload_n 1, 1) := by decide +kernel
theorem dX12_fitsNow_138 : decode cX12_fitsNow 138 = .ok (.iconst 1, 1) := by decide +kernel
theorem dX12_fitsNow_139 : decode cX12_fitsNow 139 = .ok (.if_icmp .ne 7, 3) := by decide +kernel
theorem dX12_fitsNow_142 : decode cX12_fitsNow 142 = .ok (.iload_n 3, 1) := by decide +kernel
theorem dX12_fitsNow_143 : decode cX12_fitsNow 143 = .ok (.goto 5, 3) := by decide +kernel
theorem dX12_fitsNow_146 : decode cX12_fitsNow 146 = .ok (.iload 4, 2) := by decide +kernel
theorem dX12_fitsNow_148 : decode cX12_fitsNow 148 = .ok (.ireturn, 1) := by decide +kernel
theorem dX12_fits_0 : decode cX12_fits 0 = .ok (.iload_n 1, 1) := by decide +kernel
theorem dX12_fits_1 : decode cX12_fits 1 = .ok (.iconst 0, 1) := by decide +kernel
theorem dX12_fits_2 : decode cX12_fits 2 = .ok (.iconst 2, 1) := by decide +kernel
theorem dX12_fits_3 : decode cX12_fits 3 = .ok (.invokestatic 53, 3) := by decide +kernel
theorem dX12_fits_6 : decode cX12_fits 6 = .ok (.ifCond .eq 11, 3) := by decide +kernel
theorem dX12_fits_9 : decode cX12_fits 9 = .ok (.aload_n 0, 1) := by decide +kernel
theorem dX12_fits_10 : decode cX12_fits 10 = .ok (.iload_n 1, 1) := by decide +kernel
theorem dX12_fits_11 : decode cX12_fits 11 = .ok (.invokevirtual 195, 3) := by decide +kernel
theorem dX12_fits_14 : decode cX12_fits 14 = .ok (.goto 5, 3) := by decide +kernel
theorem dX12_fits_17 : decode cX12_fits 17 = .ok (.bipush (-102), 2) := by decide +kernel
theorem dX12_fits_19 : decode cX12_fits 19 = .ok (.ireturn, 1) := by decide +kernel
theorem dX12_lowest_0 : decode cX12_lowest 0 = .ok (.lload_n 0, 1) := by decide +kernel
theorem dX12_lowest_1 : decode cX12_lowest 1 = .ok (.lstore 5, 2) := by decide +kernel
theorem dX12_lowest_3 : decode cX12_lowest 3 = .ok (.lload_n 2, 1) := by decide +kernel
theorem dX12_lowest_4 : decode cX12_lowest 4 = .ok (.lstore 7, 2) := by decide +kernel
theorem dX12_lowest_6 : decode cX12_lowest 6 = .ok (.lload 7, 2) := by decide +kernel
theorem dX12_lowest_8 : decode cX12_lowest 8 = .ok (.lconst 0, 1) := by decide +kernel
theorem dX12_lowest_9 : decode cX12_lowest 9 = .ok (.lcmp, 1) := by decide +kernel
theorem dX12_lowest_10 : decode cX12_lowest 10 = .ok (.ifCond .eq 21, 3) := by decide +kernel
theorem dX12_lowest_13 : decode cX12_lowest 13 = .ok (.lload 5, 2) := by decide +kernel
theorem dX12_lowest_15 : decode cX12_lowest 15 = .ok (.lload 7, 2) := by decide +kernel
theorem dX12_lowest_17 : decode cX12_lowest 17 = .ok (.lrem, 1) := by decide +kernel
theorem dX12_lowest_18 : decode cX12_lowest 18 = .ok (.lstore 9, 2) := by decide +kernel
theorem dX12_lowest_20 : decode cX12_lowest 20 = .ok (.lload 7, 2) := by decide +kernel
theorem dX12_lowest_22 : decode cX12_lowest 22 = .ok (.lstore 5, 2) := by decide +kernel
theorem dX12_lowest_24 : decode cX12_lowest 24 = .ok (.lload 9, 2) := by decide +kernel
theorem dX12_lowest_26 : decode cX12_lowest 26 = .ok (.lstore 7, 2) := by decide +kernel
theorem dX12_lowest_28 : decode cX12_lowest 28 = .ok (.goto (-22), 3) := by decide +kernel
theorem dX12_lowest_31 : decode cX12_lowest 31 = .ok (.iload 4, 2) := by decide +kernel
theorem dX12_lowest_33 : decode cX12_lowest 33 = .ok (.ifCond .ne 10, 3) := by decide +kernel
theorem dX12_lowest_36 : decode cX12_lowest 36 = .ok (.lload_n 0, 1) := by decide +kernel
theorem dX12_lowest_37 : decode cX12_lowest 37 = .ok (.lload 5, 2) := by decide +kernel
theorem dX12_lowest_39 : decode cX12_lowest 39 = .ok (.ldiv, 1) := by decide +kernel
theorem dX12_lowest_40 : decode cX12_lowest 40 = .ok (.goto 7, 3) := by decide +kernel
theorem dX12_lowest_43 : decode cX12_lowest 43 = .ok (.lload_n 2, 1) := by decide +kernel
theorem dX12_lowest_44 : decode cX12_lowest 44 = .ok (.lload 5, 2) := by decide +kernel
theorem dX12_lowest_46 : decode cX12_lowest 46 = .ok (.ldiv, 1) := by decide +kernel
theorem dX12_lowest_47 : decode cX12_lowest 47 = .ok (.lreturn, 1) := by decide +kernel
theorem dX12_breaksBy_0 : decode cX12_breaksBy 0 = .ok (.aload_n 0, 1) := by decide +kernel
theorem dX12_breaksBy_1 : decode cX12_breaksBy 1 = .ok (.aload_n 0, 1) := by decide +kernel
theorem dX12_breaksBy_2 : decode cX12_breaksBy 2 = .ok (.getfield 80, 3) := by decide +kernel
theorem dX12_breaksBy_5 : decode cX12_breaksBy 5 = .ok (.aload_n 0, 1) := by decide +kernel
theorem dX12_breaksBy_6 : decode cX12_breaksBy 6 = .ok (.getfield 104, 3) := by decide +kernel
theorem dX12_breaksBy_9 : decode cX12_breaksBy 9 = .ok (.invokevirtual 151, 3) := by decide +kernel
theorem dX12_breaksBy_12 : decode cX12_breaksBy 12 = .ok (.istore_n 1, 1) := by decide +kernel
theorem dX12_breaksBy_13 : decode cX12_breaksBy 13 = .ok (.aload_n 0, 1) := by decide +kernel
theorem dX12_breaksBy_14 : decode cX12_breaksBy 14 = .ok (.getfield 89, 3) := by decide +kernel
theorem dX12_breaksBy_17 : decode cX12_breaksBy 17 = .ok (.ifCond .ne 18, 3) := by decide +kernel
theorem dX12_breaksBy_20 : decode cX12_breaksBy 20 = .ok (.iload_n 1, 1) := by decide +kernel
theorem dX12_breaksBy_21 : decode cX12_breaksBy 21 = .ok (.aload_n 0, 1) := by decide +kernel
theorem dX12_breaksBy_22 : decode cX12_breaksBy 22 = .ok (.getfield 86, 3) := by decide +kernel
theorem dX12_breaksBy_25 : decode cX12_breaksBy 25 = .ok (.if_icmp .le 8, 3) := by decide +kernel
theorem dX12_breaksBy_28 : decode cX12_breaksBy 28 = .ok (.bipush 100, 2) := by decide +kernel
theorem dX12_breaksBy_30 : decode cX12_breaksBy 30 = .ok (.goto 4, 3) := by decide +kernel
theorem dX12_breaksBy_33 : decode cX12_breaksBy 33 = .ok (.iconst 0, 1) := by decide +kernel
theorem dX12_breaksBy_34 : decode cX12_breaksBy 34 = .ok (.ireturn, 1) := by decide +kernel
theorem dX12_breaksBy_35 : decode cX12_breaksBy 35 = .ok (.ldc2_w 198, 3) := by decide +kernel
theorem dX12_breaksBy_38 : decode cX12_breaksBy 38 = .ok (.iload_n 1, 1) := by decide +kernel
theorem dX12_breaksBy_39 : decode cX12_breaksBy 39 = .ok (.i2l, 1) := by decide +kernel
theorem dX12_breaksBy_40 : decode cX12_breaksBy 40 = .ok (.lmul, 1) := by decide +kernel
theorem dX12_breaksBy_41 : decode cX12_breaksBy 41 = .ok (.aload_n 0, 1) := by decide +kernel
theorem dX12_breaksBy_42 : decode cX12_breaksBy 42 = .ok (.getfield 86, 3) := by decide +kernel
theorem dX12_breaksBy_45 : decode cX12_breaksBy 45 = .ok (.i2l, 1) := by decide +kernel
theorem dX12_breaksBy_46 : decode cX12_breaksBy 46 = .ok (.ldiv, 1) := by decide +kernel
theorem dX12_breaksBy_47 : decode cX12_breaksBy 47 = .ok (.lstore_n 2, 1) := by decide +kernel
theorem dX12_breaksBy_48 : decode cX12_breaksBy 48 = .ok (.lload_n 2, 1) := by decide +kernel
theorem dX12_breaksBy_49 : decode cX12_breaksBy 49 = .ok (.ldc2_w 198, 3) := by decide +kernel
theorem dX12_breaksBy_52 : decode cX12_breaksBy 52 = .ok (.lcmp, 1) := by decide +kernel
theorem dX12_breaksBy_53 : decode cX12_breaksBy 53 = .ok (.ifCond .le 8, 3) := by decide +kernel
theorem dX12_breaksBy_56 : decode cX12_breaksBy 56 = .ok (.bipush 100, 2) := by decide +kernel
theorem dX12_breaksBy_58 : decode cX12_breaksBy 58 = .ok (.goto 5, 3) := by decide +kernel
theorem dX12_breaksBy_61 : decode cX12_breaksBy 61 = .ok (.lload_n 2, 1) := by decide +kernel
theorem dX12_breaksBy_62 : decode cX12_breaksBy 62 = .ok (.l2i, 1) := by decide +kernel
theorem dX12_breaksBy_63 : decode cX12_breaksBy 63 = .ok (.ireturn, 1) := by decide +kernel
theorem dX12_lastsNow_0 : decode cX12_lastsNow 0 = .ok (.lconst 1, 1) := by decide +kernel
theorem dX12_lastsNow_1 : decode cX12_lastsNow 1 = .ok (.lstore_n 3, 1) := by decide +kernel
theorem dX12_lastsNow_2 : decode cX12_lastsNow 2 = .ok (.lconst 1, 1) := by decide +kernel
theorem dX12_lastsNow_3 : decode cX12_lastsNow 3 = .ok (.lstore 5, 2) := by decide +kernel
theorem dX12_lastsNow_5 : decode cX12_lastsNow 5 = .ok (.iconst 0, 1) := by decide +kernel
theorem dX12_lastsNow_6 : decode cX12_lastsNow 6 = .ok (.istore 7, 2) := by decide +kernel
theorem dX12_lastsNow_8 : decode cX12_lastsNow 8 = .ok (.iload 7, 2) := by decide +kernel
theorem dX12_lastsNow_10 : decode cX12_lastsNow 10 = .ok (.iload_n 1, 1) := by decide +kernel
theorem dX12_lastsNow_11 : decode cX12_lastsNow 11 = .ok (.if_icmp .ge 28, 3) := by decide +kernel
theorem dX12_lastsNow_14 : decode cX12_lastsNow 14 = .ok (.lload_n 3, 1) := by decide +kernel
theorem dX12_lastsNow_15 : decode cX12_lastsNow 15 = .ok (.bipush 100, 2) := by decide +kernel
theorem dX12_lastsNow_17 : decode cX12_lastsNow 17 = .ok (.aload_n 0, 1) := by decide +kernel
theorem dX12_lastsNow_18 : decode cX12_lastsNow 18 = .ok (.invokevirtual 200, 3) := by decide +kernel
theorem dX12_lastsNow_21 : decode cX12_lastsNow 21 = .ok (.isub, 1) := by decide +kernel
theorem dX12_lastsNow_22 : decode cX12_lastsNow 22 = .ok (.i2l, 1) := by decide +kernel
theorem dX12_lastsNow_23 : decode cX12_lastsNow 23 = .ok (.lmul, 1) := by decide +kernel
theorem dX12_lastsNow_24 : decode cX12_lastsNow 24 = .ok (.lstore_n 3, 1) := by decide +kernel
theorem dX12_lastsNow_25 : decode cX12_lastsNow 25 = .ok (.lload 5, 2) := by decide +kernel
theorem dX12_lastsNow_27 : decode cX12_lastsNow 27 = .ok (.ldc2_w 198, 3) := by decide +kernel
theorem dX12_lastsNow_30 : decode cX12_lastsNow 30 = .ok (.lmul, 1) := by decide +kernel
theorem dX12_lastsNow_31 : decode cX12_lastsNow 31 = .ok (.lstore 5, 2) := by decide +kernel
theorem dX12_lastsNow_33 : decode cX12_lastsNow 33 = .ok (.iinc 7 1, 3) := by decide +kernel
theorem dX12_lastsNow_36 : decode cX12_lastsNow 36 = .ok (.goto (-28), 3) := by decide +kernel
theorem dX12_lastsNow_39 : decode cX12_lastsNow 39 = .ok (.lload_n 3, 1) := by decide +kernel
theorem dX12_lastsNow_40 : decode cX12_lastsNow 40 = .ok (.lload 5, 2) := by decide +kernel
theorem dX12_lastsNow_42 : decode cX12_lastsNow 42 = .ok (.iload_n 2, 1) := by decide +kernel
theorem dX12_lastsNow_43 : decode cX12_lastsNow 43 = .ok (.invokestatic 204, 3) := by decide +kernel
theorem dX12_lastsNow_46 : decode cX12_lastsNow 46 = .ok (.lreturn, 1) := by decide +kernel
theorem dX12_lasts_0 : decode cX12_lasts 0 = .ok (.iload_n 1, 1) := by decide +kernel
theorem dX12_lasts_1 : decode cX12_lasts 1 = .ok (.iconst 1, 1) := by decide +kernel
theorem dX12_lasts_2 : decode cX12_lasts 2 = .ok (.iconst 4, 1) := by decide +kernel
theorem dX12_lasts_3 : decode cX12_lasts 3 = .ok (.invokestatic 53, 3) := by decide +kernel
theorem dX12_lasts_6 : decode cX12_lasts 6 = .ok (.ifCond .eq 12, 3) := by decide +kernel
theorem dX12_lasts_9 : decode cX12_lasts 9 = .ok (.iload_n 2, 1) := by decide +kernel
theorem dX12_lasts_10 : decode cX12_lasts 10 = .ok (.iconst 0, 1) := by decide +kernel
theorem dX12_lasts_11 : decode cX12_lasts 11 = .ok (.iconst 1, 1) := by decide +kernel
theorem dX12_lasts_12 : decode cX12_lasts 12 = .ok (.invokestatic 53, 3) := by decide +kernel
theorem dX12_lasts_15 : decode cX12_lasts 15 = .ok (.ifCond .ne 7, 3) := by decide +kernel
theorem dX12_lasts_18 : decode cX12_lasts 18 = .ok (.ldc2_w 208, 3) := by decide +kernel
theorem dX12_lasts_21 : decode cX12_lasts 21 = .ok (.lreturn, 1) := by decide +kernel
theorem dX12_lasts_22 : decode cX12_lasts 22 = .ok (.aload_n 0, 1) := by decide +kernel
theorem dX12_lasts_23 : decode cX12_lasts 23 = .ok (.getfield 95, 3) := by decide +kernel
theorem dX12_lasts_26 : decode cX12_lasts 26 = .ok (.ifCond .eq 19, 3) := by decide +kernel
theorem dX12_lasts_29 : decode cX12_lasts 29 = .ok (.aload_n 0, 1) := by decide +kernel
theorem dX12_lasts_30 : decode cX12_lasts 30 = .ok (.getfield 92, 3) := by decide +kernel
theorem dX12_lasts_33 : decode cX12_lasts 33 = .ok (.ifCond .ne 12, 3) := by decide +kernel
theorem dX12_lasts_36 : decode cX12_lasts 36 = .ok (.aload_n 0, 1) := by decide +kernel
theorem dX12_lasts_37 : decode cX12_lasts 37 = .ok (.iload_n 1, 1) := by decide +kernel
theorem dX12_lasts_38 : decode cX12_lasts 38 = .ok (.iload_n 2, 1) := by decide +kernel
theorem dX12_lasts_39 : decode cX12_lasts 39 = .ok (.invokevirtual 210, 3) := by decide +kernel
theorem dX12_lasts_42 : decode cX12_lasts 42 = .ok (.goto 6, 3) := by decide +kernel
theorem dX12_lasts_45 : decode cX12_lasts 45 = .ok (.ldc2_w 214, 3) := by decide +kernel
theorem dX12_lasts_48 : decode cX12_lasts 48 = .ok (.lreturn, 1) := by decide +kernel
theorem dX12_draw_0 : decode cX12_draw 0 = .ok (.aload_n 0, 1) := by decide +kernel
theorem dX12_draw_1 : decode cX12_draw 1 = .ok (.ldc2_w 216, 3) := by decide +kernel
theorem dX12_draw_4 : decode cX12_draw 4 = .ok (.aload_n 0, 1) := by decide +kernel
theorem dX12_draw_5 : decode cX12_draw 5 = .ok (.getfield 218, 3) := by decide +kernel
theorem dX12_draw_8 : decode cX12_draw 8 = .ok (.lmul, 1) := by decide +kernel
theorem dX12_draw_9 : decode cX12_draw 9 = .ok (.ldc2_w 222, 3) := by decide +kernel
theorem dX12_draw_12 : decode cX12_draw 12 = .ok (.ladd, 1) := by decide +kernel
theorem dX12_draw_13 : decode cX12_draw 13 = .ok (.ldc2_w 224, 3) := by decide +kernel
theorem dX12_draw_16 : decode cX12_draw 16 = .ok (.land, 1) := by decide +kernel
theorem dX12_draw_17 : decode cX12_draw 17 = .ok (.putfield 218, 3) := by decide +kernel
theorem dX12_draw_20 : decode cX12_draw 20 = .ok (.aload_n 0, 1) := by decide +kernel
theorem dX12_draw_21 : decode cX12_draw 21 = .ok (.getfield 218, 3) := by decide +kernel
theorem dX12_draw_24 : decode cX12_draw 24 = .ok (.ldc2_w 226, 3) := by decide +kernel
theorem dX12_draw_27 : decode cX12_draw 27 = .ok (.ldiv, 1) := by decide +kernel
theorem dX12_draw_28 : decode cX12_draw 28 = .ok (.iload_n 1, 1) := by decide +kernel
theorem dX12_draw_29 : decode cX12_draw 29 = .ok (.i2l, 1) := by decide +kernel
theorem dX12_draw_30 : decode cX12_draw 30 = .ok (.lrem, 1) := by decide +kernel
theorem dX12_draw_31 : decode cX12_draw 31 = .ok (.l2i, 1) := by decide +kernel
theorem dX12_draw_32 : decode cX12_draw 32 = .ok (.ireturn, 1) := by decide +kernel
theorem dX12_whirlsNow_0 : decode cX12_whirlsNow 0 = .ok (.aload_n 0, 1) := by decide +kernel
theorem dX12_whirlsNow_1 : decode cX12_whirlsNow 1 = .ok (.getfield 80, 3) := by decide +kernel
theorem dX12_whirlsNow_4 : decode cX12_whirlsNow 4 = .ok (.istore 4, 2) := by decide +kernel
theorem dX12_whirlsNow_6 : decode cX12_whirlsNow 6 = .ok (.aload_n 0, 1) := by decide +kernel
theorem dX12_whirlsNow_7 : decode cX12_whirlsNow 7 = .ok (.getfield 101, 3) := by decide +kernel
theorem dX12_whirlsNow_10 : decode cX12_whirlsNow 10 = .ok (.istore 5, 2) := by decide +kernel
theorem dX12_whirlsNow_12 : decode cX12_whirlsNow 12 = .ok (.aload_n 0, 1) := by decide +kernel
theorem dX12_whirlsNow_13 : decode cX12_whirlsNow 13 = .ok (.getfield 104, 3) := by decide +kernel
theorem dX12_whirlsNow_16 : decode cX12_whirlsNow 16 = .ok (.istore 6, 2) := by decide +kernel
theorem dX12_whirlsNow_18 : decode cX12_whirlsNow 18 = .ok (.aload_n 0, 1) := by decide +kernel
theorem dX12_whirlsNow_19 : decode cX12_whirlsNow 19 = .ok (.iload_n 2, 1) := by decide +kernel
theorem dX12_whirlsNow_20 : decode cX12_whirlsNow 20 = .ok (.i2l, 1) := by decide +kernel
theorem dX12_whirlsNow_21 : decode cX12_whirlsNow 21 = .ok (.putfield 218, 3) := by decide +kernel
theorem dX12_whirlsNow_24 : decode cX12_whirlsNow 24 = .ok (.iconst 1, 1) := by decide +kernel
theorem dX12_whirlsNow_25 : decode cX12_whirlsNow 25 = .ok (.istore 7, 2) := by decide +kernel
theorem dX12_whirlsNow_27 : decode cX12_whirlsNow 27 = .ok (.iconst 0, 1) := by decide +kernel
theorem dX12_whirlsNow_28 : decode cX12_whirlsNow 28 = .ok (.istore 8, 2) := by decide +kernel
theorem dX12_whirlsNow_30 : decode cX12_whirlsNow 30 = .ok (.iload 8, 2) := by decide +kernel
theorem dX12_whirlsNow_32 : decode cX12_whirlsNow 32 = .ok (.iload_n 1, 1) := by decide +kernel
theorem dX12_whirlsNow_33 : decode cX12_whirlsNow 33 = .ok (.if_icmp .ge 53, 3) := by decide +kernel
theorem dX12_whirlsNow_36 : decode cX12_whirlsNow 36 = .ok (.iload 7, 2) := by decide +kernel
theorem dX12_whirlsNow_38 : decode cX12_whirlsNow 38 = .ok (.ifCond .eq 48, 3) := by decide +kernel
theorem dX12_whirlsNow_41 : decode cX12_whirlsNow 41 = .ok (.aload_n 0, 1) := by decide +kernel
theorem dX12_whirlsNow_42 : decode cX12_whirlsNow 42 = .ok (.getfield 80, 3) := by decide +kernel
theorem dX12_whirlsNow_45 : decode cX12_whirlsNow 45 = .ok (.aload_n 0, 1) := by decide +kernel
theorem dX12_whirlsNow_46 : decode cX12_whirlsNow 46 = .ok (.bipush 7, 2) := by decide +kernel
theorem dX12_whirlsNow_48 : decode cX12_whirlsNow 48 = .ok (.invokevirtual 228, 3) := by decide +kernel
theorem dX12_whirlsNow_51 : decode cX12_whirlsNow 51 = .ok (.invokestatic 176, 3) := by decide +kernel
theorem dX12_whirlsNow_54 : decode cX12_whirlsNow 54 = .ok (.isub, 1) := by decide +kernel
theorem dX12_whirlsNow_55 : decode cX12_whirlsNow 55 = .ok (.istore 9, 2) := by decide +kernel
theorem dX12_whirlsNow_57 : decode cX12_whirlsNow 57 = .ok (.aload_n 0, 1) := by decide +kernel
theorem dX12_whirlsNow_58 : decode cX12_whirlsNow 58 = .ok (.iload 9, 2) := by decide +kernel
theorem dX12_whirlsNow_60 : decode cX12_whirlsNow 60 = .ok (.invokestatic 154, 3) := by decide +kernel
theorem dX12_whirlsNow_63 : decode cX12_whirlsNow 63 = .ok (.ifCond .eq 8, 3) := by decide +kernel
theorem dX12_whirlsNow_66 : decode cX12_whirlsNow 66 = .ok (.iload 9, 2) := by decide +kernel
theorem dX12_whirlsNow_68 : decode cX12_whirlsNow 68 = .ok (.goto 7, 3) := by decide +kernel
theorem dX12_whirlsNow_71 : decode cX12_whirlsNow 71 = .ok (.aload_n 0, 1) := by decide +kernel
theorem dX12_whirlsNow_72 : decode cX12_whirlsNow 72 = .ok (.getfield 80, 3) := by decide +kernel
theorem dX12_whirlsNow_75 : decode cX12_whirlsNow 75 = .ok (.invokevirtual 157, 3) := by decide +kernel
theorem dX12_whirlsNow_78 : decode cX12_whirlsNow 78 = .ok (.istore 7, 2) := by decide +kernel
theorem dX12_whirlsNow_80 : decode cX12_whirlsNow 80 = .ok (.iinc 8 1, 3) := by decide +kernel
theorem dX12_whirlsNow_83 : decode cX12_whirlsNow 83 = .ok (.goto (-53), 3) := by decide +kernel
theorem dX12_whirlsNow_86 : decode cX12_whirlsNow 86 = .ok (.iload_n 3, 1) := by decide +kernel
theorem dX12_whirlsNow_87 : decode cX12_whirlsNow 87 = .ok (.ifCond .ne 10, 3) := by decide +kernel
theorem dX12_whirlsNow_90 : decode cX12_whirlsNow 90 = .ok (.aload_n 0, 1) := by decide +kernel
theorem dX12_whirlsNow_91 : decode cX12_whirlsNow 91 = .ok (.getfield 80, 3) := by decide +kernel
theorem dX12_whirlsNow_94 : decode cX12_whirlsNow 94 = .ok (.goto 35, 3) := by decide +kernel
theorem dX12_whirlsNow_97 : decode cX12_whirlsNow 97 = .ok (.iload_n 3, 1) := by decide +kernel
theorem dX12_whirlsNow_98 : decode cX12_whirlsNow 98 = .ok (.iconst 1, 1) := by decide +kernel
theorem dX12_whirlsNow_99 : decode cX12_whirlsNow 99 = .ok (.if_icmp .ne 10, 3) := by decide +kernel
theorem dX12_whirlsNow_102 : decode cX12_whirlsNow 102 = .ok (.aload_n 0, 1) := by decide +kernel
theorem dX12_whirlsNow_103 : decode cX12_whirlsNow 103 = .ok (.getfield 101, 3) := by decide +kernel
theorem dX12_whirlsNow_106 : decode cX12_whirlsNow 106 = .ok (.goto 23, 3) := by decide +kernel
theorem dX12_whirlsNow_109 : decode cX12_whirlsNow 109 = .ok (.iload_n 3, 1) := by decide +kernel
theorem dX12_whirlsNow_110 : decode cX12_whirlsNow 110 = .ok (.iconst 2, 1) := by decide +kernel
theorem dX12_whirlsNow_111 : decode cX12_whirlsNow 111 = .ok (.if_icmp .ne 13, 3) := by decide +kernel
theorem dX12_whirlsNow_114 : decode cX12_whirlsNow 114 = .ok (.aload_n 0, 1) := by decide +kernel
theorem dX12_whirlsNow_115 : decode cX12_whirlsNow 115 = .ok (.getfield 104, 3) := by decide +kernel
theorem dX12_whirlsNow_118 : decode cX12_whirlsNow 118 = .ok (.iload 6, 2) := by decide +kernel
theorem dX12_whirlsNow_120 : decode cX12_whirlsNow 120 = .ok (.isub, 1) := by decide +kernel
theorem dX12_whirlsNow_121 : decode cX12_whirlsNow 121 = .ok (.goto 8, 3) := by decide +kernel
theorem dX12_whirlsNow_124 : decode cX12_whirlsNow 124 = .ok (.aload_n 0, 1) := by decide +kernel
theorem dX12_whirlsNow_125 : decode cX12_whirlsNow 125 = .ok (.getfield 218, 3) := by decide +kernel
theorem dX12_whirlsNow_128 : decode cX12_whirlsNow 128 = .ok (.l2i, 1) := by decide +kernel
theorem dX12_whirlsNow_129 : decode cX12_whirlsNow 129 = .ok (.istore 8, 2) := by decide +kernel
theorem dX12_whirlsNow_131 : decode cX12_whirlsNow 131 = .ok (.aload_n 0, 1) := by decide +kernel
theorem dX12_whirlsNow_132 : decode cX12_whirlsNow 132 = .ok (.iload 4, 2) := by decide +kernel
theorem dX12_whirlsNow_134 : decode cX12_whirlsNow 134 = .ok (.putfield 80, 3) := by decide +kernel
theorem dX12_whirlsNow_137 : decode cX12_whirlsNow 137 = .ok (.aload_n 0, 1) := by decide +kernel
theorem dX12_whirlsNow_138 : decode cX12_whirlsNow 138 = .ok (.iload 5, 2) := by decide +kernel
theorem dX12_whirlsNow_140 : decode cX12_whirlsNow 140 = .ok (.putfield 101, 3) := by decide +kernel
theorem dX12_whirlsNow_143 : decode cX12_whirlsNow 143 = .ok (.aload_n 0, 1) := by decide +kernel
theorem dX12_whirlsNow_144 : decode cX12_whirlsNow 144 = .ok (.iload 6, 2) := by decide +kernel
theorem dX12_whirlsNow_146 : decode cX12_whirlsNow 146 = .ok (.putfield 104, 3) := by decide +kernel
theorem dX12_whirlsNow_149 : decode cX12_whirlsNow 149 = .ok (.aload_n 0, 1) := by decide +kernel
theorem dX12_whirlsNow_150 : decode cX12_whirlsNow 150 = .ok (.iconst 0, 1) := by decide +kernel
theorem dX12_whirlsNow_151 : decode cX12_whirlsNow 151 = .ok (.putfield 92, 3) := by decide +kernel
theorem dX12_whirlsNow_154 : decode cX12_whirlsNow 154 = .ok (.iload 8, 2) := by decide +kernel
theorem dX12_whirlsNow_156 : decode cX12_whirlsNow 156 = .ok (.ireturn, 1) := by decide +kernel
theorem dX12_whirls_0 : decode cX12_whirls 0 = .ok (.iload_n 1, 1) := by decide +kernel
theorem dX12_whirls_1 : decode cX12_whirls 1 = .ok (.iconst 1, 1) := by decide +kernel
theorem dX12_whirls_2 : decode cX12_whirls 2 = .ok (.bipush 60, 2) := by decide +kernel
theorem dX12_whirls_4 : decode cX12_whirls 4 = .ok (.invokestatic 53, 3) := by decide +kernel
theorem dX12_whirls_7 : decode cX12_whirls 7 = .ok (.ifCond .eq 16, 3) := by decide +kernel
theorem dX12_whirls_10 : decode cX12_whirls 10 = .ok (.iload_n 2, 1) := by decide +kernel
theorem dX12_whirls_11 : decode cX12_whirls 11 = .ok (.ifCond .lt 12, 3) := by decide +kernel
theorem dX12_whirls_14 : decode cX12_whirls 14 = .ok (.iload_n 3, 1) := by decide +kernel
theorem dX12_whirls_15 : decode cX12_whirls 15 = .ok (.iconst 0, 1) := by decide +kernel
theorem dX12_whirls_16 : decode cX12_whirls 16 = .ok (.iconst 3, 1) := by decide +kernel
theorem dX12_whirls_17 : decode cX12_whirls 17 = .ok (.invokestatic 53, 3) := by decide +kernel
theorem dX12_whirls_20 : decode cX12_whirls 20 = .ok (.ifCond .ne 6, 3) := by decide +kernel
theorem dX12_whirls_23 : decode cX12_whirls 23 = .ok (.bipush (-102), 2) := by decide +kernel
theorem dX12_whirls_25 : decode cX12_whirls 25 = .ok (.ireturn, 1) := by decide +kernel
theorem dX12_whirls_26 : decode cX12_whirls 26 = .ok (.aload_n 0, 1) := by decide +kernel
theorem dX12_whirls_27 : decode cX12_whirls 27 = .ok (.getfield 95, 3) := by decide +kernel
theorem dX12_whirls_30 : decode cX12_whirls 30 = .ok (.ifCond .eq 20, 3) := by decide +kernel
theorem dX12_whirls_33 : decode cX12_whirls 33 = .ok (.aload_n 0, 1) := by decide +kernel
theorem dX12_whirls_34 : decode cX12_whirls 34 = .ok (.getfield 92, 3) := by decide +kernel
theorem dX12_whirls_37 : decode cX12_whirls 37 = .ok (.ifCond .ne 13, 3) := by decide +kernel
theorem dX12_whirls_40 : decode cX12_whirls 40 = .ok (.aload_n 0, 1) := by decide +kernel
theorem dX12_whirls_41 : decode cX12_whirls 41 = .ok (.iload_n 1, 1) := by decide +kernel
theorem dX12_whirls_42 : decode cX12_whirls 42 = .ok (.iload_n 2, 1) := by decide +kernel
theorem dX12_whirls_43 : decode cX12_whirls 43 = .ok (.iload_n 3, 1) := by decide +kernel
theorem dX12_whirls_44 : decode cX12_whirls 44 = .ok (.invokevirtual 231, 3) := by decide +kernel
theorem dX12_whirls_47 : decode cX12_whirls 47 = .ok (.goto 5, 3) := by decide +kernel
theorem dX12_whirls_50 : decode cX12_whirls 50 = .ok (.bipush (-103), 2) := by decide +kernel
theorem dX12_whirls_52 : decode cX12_whirls 52 = .ok (.ireturn, 1) := by decide +kernel
theorem dX12_image_0 : decode cX12_image 0 = .ok (.aload_n 0, 1) := by decide +kernel
theorem dX12_image_1 : decode cX12_image 1 = .ok (.getfield 95, 3) := by decide +kernel
theorem dX12_image_4 : decode cX12_image 4 = .ok (.ifCond .ne 6, 3) := by decide +kernel
theorem dX12_image_7 : decode cX12_image 7 = .ok (.bipush (-103), 2) := by decide +kernel
theorem dX12_image_9 : decode cX12_image 9 = .ok (.ireturn, 1) := by decide +kernel
theorem dX12_image_10 : decode cX12_image 10 = .ok (.aload_n 0, 1) := by decide +kernel
theorem dX12_image_11 : decode cX12_image 11 = .ok (.iconst 1, 1) := by decide +kernel
theorem dX12_image_12 : decode cX12_image 12 = .ok (.putfield 234, 3) := by decide +kernel
theorem dX12_image_15 : decode cX12_image 15 = .ok (.aload_n 0, 1) := by decide +kernel
theorem dX12_image_16 : decode cX12_image 16 = .ok (.aload_n 0, 1) := by decide +kernel
theorem dX12_image_17 : decode cX12_image 17 = .ok (.getfield 98, 3) := by decide +kernel
theorem dX12_image_20 : decode cX12_image 20 = .ok (.putfield 237, 3) := by decide +kernel
theorem dX12_image_23 : decode cX12_image 23 = .ok (.aload_n 0, 1) := by decide +kernel
theorem dX12_image_24 : decode cX12_image 24 = .ok (.aload_n 0, 1) := by decide +kernel
theorem dX12_image_25 : decode cX12_image 25 = .ok (.getfield 80, 3) := by decide +kernel
theorem dX12_image_28 : decode cX12_image 28 = .ok (.putfield 240, 3) := by decide +kernel
theorem dX12_image_31 : decode cX12_image 31 = .ok (.aload_n 0, 1) := by decide +kernel
theorem dX12_image_32 : decode cX12_image 32 = .ok (.aload_n 0, 1) := by decide +kernel
theorem dX12_image_33 : decode cX12_image 33 = .ok (.getfield 101, 3) := by decide +kernel
theorem dX12_image_36 : decode cX12_image 36 = .ok (.putfield 243, 3) := by decide +kernel
theorem dX12_image_39 : decode cX12_image 39 = .ok (.aload_n 0, 1) := by decide +kernel
theorem dX12_image_40 : decode cX12_image 40 = .ok (.aload_n 0, 1) := by decide +kernel
theorem dX12_image_41 : decode cX12_image 41 = .ok (.getfield 104, 3) := by decide +kernel
theorem dX12_image_44 : decode cX12_image 44 = .ok (.putfield 246, 3) := by decide +kernel
theorem dX12_image_47 : decode cX12_image 47 = .ok (.aload_n 0, 1) := by decide +kernel
theorem dX12_image_48 : decode cX12_image 48 = .ok (.aload_n 0, 1) := by decide +kernel
theorem dX12_image_49 : decode cX12_image 49 = .ok (.getfield 92, 3) := by decide +kernel
theorem dX12_image_52 : decode cX12_image 52 = .ok (.putfield 249, 3) := by decide +kernel
theorem dX12_image_55 : decode cX12_image 55 = .ok (.aload_n 0, 1) := by decide +kernel
theorem dX12_image_56 : decode cX12_image 56 = .ok (.aload_n 0, 1) := by decide +kernel
theorem dX12_image_57 : decode cX12_image 57 = .ok (.getfield 107, 3) := by decide +kernel
theorem dX12_image_60 : decode cX12_image 60 = .ok (.putfield 252, 3) := by decide +kernel
theorem dX12_image_63 : decode cX12_image 63 = .ok (.iconst 0, 1) := by decide +kernel
theorem dX12_image_64 : decode cX12_image 64 = .ok (.istore_n 1, 1) := by decide +kernel
theorem dX12_image_65 : decode cX12_image 65 = .ok (.iload_n 1, 1) := by decide +kernel
theorem dX12_image_66 : decode cX12_image 66 = .ok (.bipush 6, 2) := by decide +kernel
theorem dX12_image_68 : decode cX12_image 68 = .ok (.if_icmp .ge 33, 3) := by decide +kernel
theorem dX12_image_71 : decode cX12_image 71 = .ok (.aload_n 0, 1) := by decide +kernel
theorem dX12_image_72 : decode cX12_image 72 = .ok (.getfield 38, 3) := by decide +kernel
theorem dX12_image_75 : decode cX12_image 75 = .ok (.iload_n 1, 1) := by decide +kernel
theorem dX12_image_76 : decode cX12_image 76 = .ok (.aload_n 0, 1) := by decide +kernel
theorem dX12_image_77 : decode cX12_image 77 = .ok (.getfield 16, 3) := by decide +kernel
theorem dX12_image_80 : decode cX12_image 80 = .ok (.iload_n 1, 1) := by decide +kernel
theorem dX12_image_81 : decode cX12_image 81 = .ok (.iaload, 1) := by decide +kernel
theorem dX12_image_82 : decode cX12_image 82 = .ok (.iastore, 1) := by decide +kernel
theorem dX12_image_83 : decode cX12_image 83 = .ok (.aload_n 0, 1) := by decide +kernel
theorem dX12_image_84 : decode cX12_image 84 = .ok (.getfield 41, 3) := by decide +kernel
theorem dX12_image_87 : decode cX12_image 87 = .ok (.iload_n 1, 1) := by decide +kernel
theorem dX12_image_88 : decode cX12_image 88 = .ok (.aload_n 0, 1) := by decide +kernel
theorem dX12_image_89 : decode cX12_image 89 = .ok (.getfield 19, 3) := by decide +kernel
theorem dX12_image_92 : decode cX12_image 92 = .ok (.iload_n 1, 1) := by decide +kernel
theorem dX12_image_93 : decode cX12_image 93 = .ok (.iaload, 1) := by decide +kernel
theorem dX12_image_94 : decode cX12_image 94 = .ok (.iastore, 1) := by decide +kernel
theorem dX12_image_95 : decode cX12_image 95 = .ok (.iinc 1 1, 3) := by decide +kernel
theorem dX12_image_98 : decode cX12_image 98 = .ok (.goto (-33), 3) := by decide +kernel
theorem dX12_image_101 : decode cX12_image 101 = .ok (.aload_n 0, 1) := by decide +kernel
theorem dX12_image_102 : decode cX12_image 102 = .ok (.getfield 104, 3) := by decide +kernel
theorem dX12_image_105 : decode cX12_image 105 = .ok (.ireturn, 1) := by decide +kernel
theorem dX12_restore_0 : decode cX12_restore 0 = .ok (.aload_n 0, 1) := by decide +kernel
theorem dX12_restore_1 : decode cX12_restore 1 = .ok (.getfield 234, 3) := by decide +kernel
theorem dX12_restore_4 : decode cX12_restore 4 = .ok (.ifCond .eq 14, 3) := by decide +kernel
theorem dX12_restore_7 : decode cX12_restore 7 = .ok (.aload_n 0, 1) := by decide +kernel
theorem dX12_restore_8 : decode cX12_restore 8 = .ok (.getfield 237, 3) := by decide +kernel
theorem dX12_restore_11 : decode cX12_restore 11 = .ok (.aload_n 0, 1) := by decide +kernel
theorem dX12_restore_12 : decode cX12_restore 12 = .ok (.getfield 98, 3) := by decide +kernel
theorem dX12_restore_15 : decode cX12_restore 15 = .ok (.if_icmp .eq 6, 3) := by decide +kernel
theorem dX12_restore_18 : decode cX12_restore 18 = .ok (.bipush (-103), 2) := by decide +kernel
theorem dX12_restore_20 : decode cX12_restore 20 = .ok (.ireturn, 1) := by decide +kernel
theorem dX12_restore_21 : decode cX12_restore 21 = .ok (.aload_n 0, 1) := by decide +kernel
theorem dX12_restore_22 : decode cX12_restore 22 = .ok (.aload_n 0, 1) := by decide +kernel
theorem dX12_restore_23 : decode cX12_restore 23 = .ok (.getfield 240, 3) := by decide +kernel
theorem dX12_restore_26 : decode cX12_restore 26 = .ok (.putfield 80, 3) := by decide +kernel
theorem dX12_restore_29 : decode cX12_restore 29 = .ok (.aload_n 0, 1) := by decide +kernel
theorem dX12_restore_30 : decode cX12_restore 30 = .ok (.aload_n 0, 1) := by decide +kernel
theorem dX12_restore_31 : decode cX12_restore 31 = .ok (.getfield 243, 3) := by decide +kernel
theorem dX12_restore_34 : decode cX12_restore 34 = .ok (.putfield 101, 3) := by decide +kernel
theorem dX12_restore_37 : decode cX12_restore 37 = .ok (.aload_n 0, 1) := by decide +kernel
theorem dX12_restore_38 : decode cX12_restore 38 = .ok (.aload_n 0, 1) := by decide +kernel
theorem dX12_restore_39 : decode cX12_restore 39 = .ok (.getfield 246, 3) := by decide +kernel
theorem dX12_restore_42 : decode cX12_restore 42 = .ok (.putfield 104, 3) := by decide +kernel
theorem dX12_restore_45 : decode cX12_restore 45 = .ok (.aload_n 0, 1) := by decide +kernel
theorem dX12_restore_46 : decode cX12_restore 46 = .ok (.aload_n 0, 1) := by decide +kernel
theorem dX12_restore_47 : decode cX12_restore 47 = .ok (.getfield 249, 3) := by decide +kernel
theorem dX12_restore_50 : decode cX12_restore 50 = .ok (.putfield 92, 3) := by decide +kernel
theorem dX12_restore_53 : decode cX12_restore 53 = .ok (.aload_n 0, 1) := by decide +kernel
theorem dX12_restore_54 : decode cX12_restore 54 = .ok (.aload_n 0, 1) := by decide +kernel
theorem dX12_restore_55 : decode cX12_restore 55 = .ok (.getfield 252, 3) := by decide +kernel
theorem dX12_restore_58 : decode cX12_restore 58 = .ok (.putfield 107, 3) := by decide +kernel
theorem dX12_restore_61 : decode cX12_restore 61 = .ok (.iconst 0, 1) := by decide +kernel
theorem dX12_restore_62 : decode cX12_restore 62 = .ok (.istore_n 1, 1) := by decide +kernel
theorem dX12_restore_63 : decode cX12_restore 63 = .ok (.iload_n 1, 1) := by decide +kernel
theorem dX12_restore_64 : decode cX12_restore 64 = .ok (.bipush 6, 2) := by decide +kernel
theorem dX12_restore_66 : decode cX12_restore 66 = .ok (.if_icmp .ge 33, 3) := by decide +kernel
theorem dX12_restore_69 : decode cX12_restore 69 = .ok (.aload_n 0, 1) := by decide +kernel
theorem dX12_restore_70 : decode cX12_restore 70 = .ok (.getfield 16, 3) := by decide +kernel
theorem dX12_restore_73 : decode cX12_restore 73 = .ok (.iload_n 1, 1) := by decide +kernel
theorem dX12_restore_74 : decode cX12_restore 74 = .ok (.aload_n 0, 1) := by decide +kernel
theorem dX12_restore_75 : decode cX12_restore 75 = .ok (.getfield 38, 3) := by decide +kernel
theorem dX12_restore_78 : decode cX12_restore 78 = .ok (.iload_n 1, 1) := by decide +kernel
theorem dX12_restore_79 : decode cX12_restore 79 = .ok (.iaload, 1) := by decide +kernel
theorem dX12_restore_80 : decode cX12_restore 80 = .ok (.iastore, 1) := by decide +kernel
theorem dX12_restore_81 : decode cX12_restore 81 = .ok (.aload_n 0, 1) := by decide +kernel
theorem dX12_restore_82 : decode cX12_restore 82 = .ok (.getfield 19, 3) := by decide +kernel
theorem dX12_restore_85 : decode cX12_restore 85 = .ok (.iload_n 1, 1) := by decide +kernel
theorem dX12_restore_86 : decode cX12_restore 86 = .ok (.aload_n 0, 1) := by decide +kernel
theorem dX12_restore_87 : decode cX12_restore 87 = .ok (.getfield 41, 3) := by decide +kernel
theorem dX12_restore_90 : decode cX12_restore 90 = .ok (.iload_n 1, 1) := by decide +kernel
theorem dX12_restore_91 : decode cX12_restore 91 = .ok (.iaload, 1) := by decide +kernel
theorem dX12_restore_92 : decode cX12_restore 92 = .ok (.iastore, 1) := by decide +kernel
theorem dX12_restore_93 : decode cX12_restore 93 = .ok (.iinc 1 1, 3) := by decide +kernel
theorem dX12_restore_96 : decode cX12_restore 96 = .ok (.goto (-33), 3) := by decide +kernel
theorem dX12_restore_99 : decode cX12_restore 99 = .ok (.aload_n 0, 1) := by decide +kernel
theorem dX12_restore_100 : decode cX12_restore 100 = .ok (.getfield 104, 3) := by decide +kernel
theorem dX12_restore_103 : decode cX12_restore 103 = .ok (.ireturn, 1) := by decide +kernel
theorem dX12_one_0 : decode cX12_one 0 = .ok (.iload_n 0, 1) := by decide +kernel
theorem dX12_one_1 : decode cX12_one 1 = .ok (.ifCond .eq 7, 3) := by decide +kernel
theorem dX12_one_4 : decode cX12_one 4 = .ok (.iconst 1, 1) := by decide +kernel
theorem dX12_one_5 : decode cX12_one 5 = .ok (.goto 4, 3) := by decide +kernel
theorem dX12_one_8 : decode cX12_one 8 = .ok (.iconst 0, 1) := by decide +kernel
theorem dX12_one_9 : decode cX12_one 9 = .ok (.ireturn, 1) := by decide +kernel
theorem dX12_howMany_0 : decode cX12_howMany 0 = .ok (.iload_n 1, 1) := by decide +kernel
theorem dX12_howMany_1 : decode cX12_howMany 1 = .ok (.tableswitch 150 0 12 #[67, 72, 81, 86, 99, 104, 112, 117, 122, 130, 135, 140, 145], 67) := by decide +kernel
theorem dX12_howMany_68 : decode cX12_howMany 68 = .ok (.aload_n 0, 1) := by decide +kernel
theorem dX12_howMany_69 : decode cX12_howMany 69 = .ok (.getfield 80, 3) := by decide +kernel
theorem dX12_howMany_72 : decode cX12_howMany 72 = .ok (.ireturn, 1) := by decide +kernel
theorem dX12_howMany_73 : decode cX12_howMany 73 = .ok (.aload_n 0, 1) := by decide +kernel
theorem dX12_howMany_74 : decode cX12_howMany 74 = .ok (.aload_n 0, 1) := by decide +kernel
theorem dX12_howMany_75 : decode cX12_howMany 75 = .ok (.getfield 80, 3) := by decide +kernel
theorem dX12_howMany_78 : decode cX12_howMany 78 = .ok (.invokevirtual 128, 3) := by decide +kernel
theorem dX12_howMany_81 : decode cX12_howMany 81 = .ok (.ireturn, 1) := by decide +kernel
theorem dX12_howMany_82 : decode cX12_howMany 82 = .ok (.aload_n 0, 1) := by decide +kernel
theorem dX12_howMany_83 : decode cX12_howMany 83 = .ok (.getfield 83, 3) := by decide +kernel
theorem dX12_howMany_86 : decode cX12_howMany 86 = .ok (.ireturn, 1) := by decide +kernel
theorem dX12_howMany_87 : decode cX12_howMany 87 = .ok (.aload_n 0, 1) := by decide +kernel
theorem dX12_howMany_88 : decode cX12_howMany 88 = .ok (.aload_n 0, 1) := by decide +kernel
theorem dX12_howMany_89 : decode cX12_howMany 89 = .ok (.getfield 80, 3) := by decide +kernel
theorem dX12_howMany_92 : decode cX12_howMany 92 = .ok (.aload_n 0, 1) := by decide +kernel
theorem dX12_howMany_93 : decode cX12_howMany 93 = .ok (.getfield 104, 3) := by decide +kernel
theorem dX12_howMany_96 : decode cX12_howMany 96 = .ok (.invokevirtual 151, 3) := by decide +kernel
theorem dX12_howMany_99 : decode cX12_howMany 99 = .ok (.ireturn, 1) := by decide +kernel
theorem dX12_howMany_100 : decode cX12_howMany 100 = .ok (.aload_n 0, 1) := by decide +kernel
theorem dX12_howMany_101 : decode cX12_howMany 101 = .ok (.getfield 86, 3) := by decide +kernel
theorem dX12_howMany_104 : decode cX12_howMany 104 = .ok (.ireturn, 1) := by decide +kernel
theorem dX12_howMany_105 : decode cX12_howMany 105 = .ok (.aload_n 0, 1) := by decide +kernel
theorem dX12_howMany_106 : decode cX12_howMany 106 = .ok (.getfield 89, 3) := by decide +kernel
theorem dX12_howMany_109 : decode cX12_howMany 109 = .ok (.invokestatic 255, 3) := by decide +kernel
theorem dX12_howMany_112 : decode cX12_howMany 112 = .ok (.ireturn, 1) := by decide +kernel
theorem dX12_howMany_113 : decode cX12_howMany 113 = .ok (.aload_n 0, 1) := by decide +kernel
theorem dX12_howMany_114 : decode cX12_howMany 114 = .ok (.getfield 101, 3) := by decide +kernel
theorem dX12_howMany_117 : decode cX12_howMany 117 = .ok (.ireturn, 1) := by decide +kernel
theorem dX12_howMany_118 : decode cX12_howMany 118 = .ok (.aload_n 0, 1) := by decide +kernel
theorem dX12_howMany_119 : decode cX12_howMany 119 = .ok (.getfield 104, 3) := by decide +kernel
theorem dX12_howMany_122 : decode cX12_howMany 122 = .ok (.ireturn, 1) := by decide +kernel
theorem dX12_howMany_123 : decode cX12_howMany 123 = .ok (.aload_n 0, 1) := by decide +kernel
theorem dX12_howMany_124 : decode cX12_howMany 124 = .ok (.getfield 92, 3) := by decide +kernel
theorem dX12_howMany_127 : decode cX12_howMany 127 = .ok (.invokestatic 255, 3) := by decide +kernel
theorem dX12_howMany_130 : decode cX12_howMany 130 = .ok (.ireturn, 1) := by decide +kernel
theorem dX12_howMany_131 : decode cX12_howMany 131 = .ok (.aload_n 0, 1) := by decide +kernel
theorem dX12_howMany_132 : decode cX12_howMany 132 = .ok (.getfield 107, 3) := by decide +kernel
theorem dX12_howMany_135 : decode cX12_howMany 135 = .ok (.ireturn, 1) := by decide +kernel
theorem dX12_howMany_136 : decode cX12_howMany 136 = .ok (.aload_n 0, 1) := by decide +kernel
theorem dX12_howMany_137 : decode cX12_howMany 137 = .ok (.getfield 46, 3) := by decide +kernel
theorem dX12_howMany_140 : decode cX12_howMany 140 = .ok (.ireturn, 1) := by decide +kernel
theorem dX12_howMany_141 : decode cX12_howMany 141 = .ok (.aload_n 0, 1) := by decide +kernel
theorem dX12_howMany_142 : decode cX12_howMany 142 = .ok (.getfield 98, 3) := by decide +kernel
theorem dX12_howMany_145 : decode cX12_howMany 145 = .ok (.ireturn, 1) := by decide +kernel
theorem dX12_howMany_146 : decode cX12_howMany 146 = .ok (.aload_n 0, 1) := by decide +kernel
theorem dX12_howMany_147 : decode cX12_howMany 147 = .ok (.getfield 110, 3) := by decide +kernel
theorem dX12_howMany_150 : decode cX12_howMany 150 = .ok (.ireturn, 1) := by decide +kernel
theorem dX12_howMany_151 : decode cX12_howMany 151 = .ok (.bipush (-102), 2) := by decide +kernel
theorem dX12_howMany_153 : decode cX12_howMany 153 = .ok (.ireturn, 1) := by decide +kernel
theorem dX12_count_0 : decode cX12_count 0 = .ok (.aload_n 0, 1) := by decide +kernel
theorem dX12_count_1 : decode cX12_count 1 = .ok (.iload_n 1, 1) := by decide +kernel
theorem dX12_count_2 : decode cX12_count 2 = .ok (.invokevirtual 259, 3) := by decide +kernel
theorem dX12_count_5 : decode cX12_count 5 = .ok (.ireturn, 1) := by decide +kernel
theorem dX12_mix_0 : decode cX12_mix 0 = .ok (.aload_n 0, 1) := by decide +kernel
theorem dX12_mix_1 : decode cX12_mix 1 = .ok (.ldc2_w 262, 3) := by decide +kernel
theorem dX12_mix_4 : decode cX12_mix 4 = .ok (.aload_n 0, 1) := by decide +kernel
theorem dX12_mix_5 : decode cX12_mix 5 = .ok (.getfield 264, 3) := by decide +kernel
theorem dX12_mix_8 : decode cX12_mix 8 = .ok (.lmul, 1) := by decide +kernel
theorem dX12_mix_9 : decode cX12_mix 9 = .ok (.lload_n 1, 1) := by decide +kernel
theorem dX12_mix_10 : decode cX12_mix 10 = .ok (.ladd, 1) := by decide +kernel
theorem dX12_mix_11 : decode cX12_mix 11 = .ok (.putfield 264, 3) := by decide +kernel
theorem dX12_mix_14 : decode cX12_mix 14 = .ok (.return_, 1) := by decide +kernel
theorem dX12_digest_0 : decode cX12_digest 0 = .ok (.aload_n 0, 1) := by decide +kernel
theorem dX12_digest_1 : decode cX12_digest 1 = .ok (.ldc2_w 267, 3) := by decide +kernel
theorem dX12_digest_4 : decode cX12_digest 4 = .ok (.putfield 264, 3) := by decide +kernel
theorem dX12_digest_7 : decode cX12_digest 7 = .ok (.iconst 0, 1) := by decide +kernel
theorem dX12_digest_8 : decode cX12_digest 8 = .ok (.istore_n 1, 1) := by decide +kernel
theorem dX12_digest_9 : decode cX12_digest 9 = .ok (.iload_n 1, 1) := by decide +kernel
theorem dX12_digest_10 : decode cX12_digest 10 = .ok (.iconst 2, 1) := by decide +kernel
theorem dX12_digest_11 : decode cX12_digest 11 = .ok (.if_icmp .ge 40, 3) := by decide +kernel
theorem dX12_digest_14 : decode cX12_digest 14 = .ok (.aload_n 0, 1) := by decide +kernel
theorem dX12_digest_15 : decode cX12_digest 15 = .ok (.getfield 95, 3) := by decide +kernel
theorem dX12_digest_18 : decode cX12_digest 18 = .ok (.ifCond .eq 33, 3) := by decide +kernel
theorem dX12_digest_21 : decode cX12_digest 21 = .ok (.iconst 0, 1) := by decide +kernel
theorem dX12_digest_22 : decode cX12_digest 22 = .ok (.istore_n 2, 1) := by decide +kernel
theorem dX12_digest_23 : decode cX12_digest 23 = .ok (.iload_n 2, 1) := by decide +kernel
theorem dX12_digest_24 : decode cX12_digest 24 = .ok (.iconst 4, 1) := by decide +kernel
theorem dX12_digest_25 : decode cX12_digest 25 = .ok (.if_icmp .ge 20, 3) := by decide +kernel
theorem dX12_digest_28 : decode cX12_digest 28 = .ok (.aload_n 0, 1) := by decide +kernel
theorem dX12_digest_29 : decode cX12_digest 29 = .ok (.aload_n 0, 1) := by decide +kernel
theorem dX12_digest_30 : decode cX12_digest 30 = .ok (.iload_n 1, 1) := by decide +kernel
theorem dX12_digest_31 : decode cX12_digest 31 = .ok (.iload_n 2, 1) := by decide +kernel
theorem dX12_digest_32 : decode cX12_digest 32 = .ok (.invokevirtual 138, 3) := by decide +kernel
theorem dX12_digest_35 : decode cX12_digest 35 = .ok (.i2l, 1) := by decide +kernel
theorem dX12_digest_36 : decode cX12_digest 36 = .ok (.invokevirtual 269, 3) := by decide +kernel
theorem dX12_digest_39 : decode cX12_digest 39 = .ok (.iinc 2 1, 3) := by decide +kernel
theorem dX12_digest_42 : decode cX12_digest 42 = .ok (.goto (-19), 3) := by decide +kernel
theorem dX12_digest_45 : decode cX12_digest 45 = .ok (.iinc 1 1, 3) := by decide +kernel
theorem dX12_digest_48 : decode cX12_digest 48 = .ok (.goto (-39), 3) := by decide +kernel
theorem dX12_digest_51 : decode cX12_digest 51 = .ok (.iconst 0, 1) := by decide +kernel
theorem dX12_digest_52 : decode cX12_digest 52 = .ok (.istore_n 1, 1) := by decide +kernel
theorem dX12_digest_53 : decode cX12_digest 53 = .ok (.iload_n 1, 1) := by decide +kernel
theorem dX12_digest_54 : decode cX12_digest 54 = .ok (.aload_n 0, 1) := by decide +kernel
theorem dX12_digest_55 : decode cX12_digest 55 = .ok (.getfield 107, 3) := by decide +kernel
theorem dX12_digest_58 : decode cX12_digest 58 = .ok (.if_icmp .ge 33, 3) := by decide +kernel
theorem dX12_digest_61 : decode cX12_digest 61 = .ok (.iconst 0, 1) := by decide +kernel
theorem dX12_digest_62 : decode cX12_digest 62 = .ok (.istore_n 2, 1) := by decide +kernel
theorem dX12_digest_63 : decode cX12_digest 63 = .ok (.iload_n 2, 1) := by decide +kernel
theorem dX12_digest_64 : decode cX12_digest 64 = .ok (.iconst 5, 1) := by decide +kernel
theorem dX12_digest_65 : decode cX12_digest 65 = .ok (.if_icmp .ge 20, 3) := by decide +kernel
theorem dX12_digest_68 : decode cX12_digest 68 = .ok (.aload_n 0, 1) := by decide +kernel
theorem dX12_digest_69 : decode cX12_digest 69 = .ok (.aload_n 0, 1) := by decide +kernel
theorem dX12_digest_70 : decode cX12_digest 70 = .ok (.iload_n 1, 1) := by decide +kernel
theorem dX12_digest_71 : decode cX12_digest 71 = .ok (.iload_n 2, 1) := by decide +kernel
theorem dX12_digest_72 : decode cX12_digest 72 = .ok (.invokevirtual 145, 3) := by decide +kernel
theorem dX12_digest_75 : decode cX12_digest 75 = .ok (.i2l, 1) := by decide +kernel
theorem dX12_digest_76 : decode cX12_digest 76 = .ok (.invokevirtual 269, 3) := by decide +kernel
theorem dX12_digest_79 : decode cX12_digest 79 = .ok (.iinc 2 1, 3) := by decide +kernel
theorem dX12_digest_82 : decode cX12_digest 82 = .ok (.goto (-19), 3) := by decide +kernel
theorem dX12_digest_85 : decode cX12_digest 85 = .ok (.iinc 1 1, 3) := by decide +kernel
theorem dX12_digest_88 : decode cX12_digest 88 = .ok (.goto (-35), 3) := by decide +kernel
theorem dX12_digest_91 : decode cX12_digest 91 = .ok (.aload_n 0, 1) := by decide +kernel
theorem dX12_digest_92 : decode cX12_digest 92 = .ok (.getfield 95, 3) := by decide +kernel
theorem dX12_digest_95 : decode cX12_digest 95 = .ok (.ifCond .eq 74, 3) := by decide +kernel
theorem dX12_digest_98 : decode cX12_digest 98 = .ok (.aload_n 0, 1) := by decide +kernel
theorem dX12_digest_99 : decode cX12_digest 99 = .ok (.getfield 92, 3) := by decide +kernel
theorem dX12_digest_102 : decode cX12_digest 102 = .ok (.ifCond .ne 67, 3) := by decide +kernel
theorem dX12_digest_105 : decode cX12_digest 105 = .ok (.aload_n 0, 1) := by decide +kernel
theorem dX12_digest_106 : decode cX12_digest 106 = .ok (.aload_n 0, 1) := by decide +kernel
theorem dX12_digest_107 : decode cX12_digest 107 = .ok (.iconst 0, 1) := by decide +kernel
theorem dX12_digest_108 : decode cX12_digest 108 = .ok (.invokevirtual 173, 3) := by decide +kernel
theorem dX12_digest_111 : decode cX12_digest 111 = .ok (.i2l, 1) := by decide +kernel
theorem dX12_digest_112 : decode cX12_digest 112 = .ok (.invokevirtual 269, 3) := by decide +kernel
theorem dX12_digest_115 : decode cX12_digest 115 = .ok (.aload_n 0, 1) := by decide +kernel
theorem dX12_digest_116 : decode cX12_digest 116 = .ok (.aload_n 0, 1) := by decide +kernel
theorem dX12_digest_117 : decode cX12_digest 117 = .ok (.iconst 1, 1) := by decide +kernel
theorem dX12_digest_118 : decode cX12_digest 118 = .ok (.invokevirtual 173, 3) := by decide +kernel
theorem dX12_digest_121 : decode cX12_digest 121 = .ok (.i2l, 1) := by decide +kernel
theorem dX12_digest_122 : decode cX12_digest 122 = .ok (.invokevirtual 269, 3) := by decide +kernel
theorem dX12_digest_125 : decode cX12_digest 125 = .ok (.aload_n 0, 1) := by decide +kernel
theorem dX12_digest_126 : decode cX12_digest 126 = .ok (.aload_n 0, 1) := by decide +kernel
theorem dX12_digest_127 : decode cX12_digest 127 = .ok (.bipush 100, 2) := by decide +kernel
theorem dX12_digest_129 : decode cX12_digest 129 = .ok (.iconst 0, 1) := by decide +kernel
theorem dX12_digest_130 : decode cX12_digest 130 = .ok (.invokevirtual 186, 3) := by decide +kernel
theorem dX12_digest_133 : decode cX12_digest 133 = .ok (.i2l, 1) := by decide +kernel
theorem dX12_digest_134 : decode cX12_digest 134 = .ok (.invokevirtual 269, 3) := by decide +kernel
theorem dX12_digest_137 : decode cX12_digest 137 = .ok (.aload_n 0, 1) := by decide +kernel
theorem dX12_digest_138 : decode cX12_digest 138 = .ok (.aload_n 0, 1) := by decide +kernel
theorem dX12_digest_139 : decode cX12_digest 139 = .ok (.bipush 100, 2) := by decide +kernel
theorem dX12_digest_141 : decode cX12_digest 141 = .ok (.iconst 1, 1) := by decide +kernel
theorem dX12_digest_142 : decode cX12_digest 142 = .ok (.invokevirtual 186, 3) := by decide +kernel
theorem dX12_digest_145 : decode cX12_digest 145 = .ok (.i2l, 1) := by decide +kernel
theorem dX12_digest_146 : decode cX12_digest 146 = .ok (.invokevirtual 269, 3) := by decide +kernel
theorem dX12_digest_149 : decode cX12_digest 149 = .ok (.aload_n 0, 1) := by decide +kernel
theorem dX12_digest_150 : decode cX12_digest 150 = .ok (.aload_n 0, 1) := by decide +kernel
theorem dX12_digest_151 : decode cX12_digest 151 = .ok (.iconst 2, 1) := by decide +kernel
theorem dX12_digest_152 : decode cX12_digest 152 = .ok (.iconst 0, 1) := by decide +kernel
theorem dX12_digest_153 : decode cX12_digest 153 = .ok (.invokevirtual 210, 3) := by decide +kernel
theorem dX12_digest_156 : decode cX12_digest 156 = .ok (.invokevirtual 269, 3) := by decide +kernel
theorem dX12_digest_159 : decode cX12_digest 159 = .ok (.aload_n 0, 1) := by decide +kernel
theorem dX12_digest_160 : decode cX12_digest 160 = .ok (.aload_n 0, 1) := by decide +kernel
theorem dX12_digest_161 : decode cX12_digest 161 = .ok (.iconst 2, 1) := by decide +kernel
theorem dX12_digest_162 : decode cX12_digest 162 = .ok (.iconst 1, 1) := by decide +kernel
theorem dX12_digest_163 : decode cX12_digest 163 = .ok (.invokevirtual 210, 3) := by decide +kernel
theorem dX12_digest_166 : decode cX12_digest 166 = .ok (.invokevirtual 269, 3) := by decide +kernel
theorem dX12_digest_169 : decode cX12_digest 169 = .ok (.iconst 0, 1) := by decide +kernel
theorem dX12_digest_170 : decode cX12_digest 170 = .ok (.istore_n 1, 1) := by decide +kernel
theorem dX12_digest_171 : decode cX12_digest 171 = .ok (.iload_n 1, 1) := by decide +kernel
theorem dX12_digest_172 : decode cX12_digest 172 = .ok (.iconst 3, 1) := by decide +kernel
theorem dX12_digest_173 : decode cX12_digest 173 = .ok (.if_icmp .ge 19, 3) := by decide +kernel
theorem dX12_digest_176 : decode cX12_digest 176 = .ok (.aload_n 0, 1) := by decide +kernel
theorem dX12_digest_177 : decode cX12_digest 177 = .ok (.aload_n 0, 1) := by decide +kernel
theorem dX12_digest_178 : decode cX12_digest 178 = .ok (.iload_n 1, 1) := by decide +kernel
theorem dX12_digest_179 : decode cX12_digest 179 = .ok (.invokevirtual 195, 3) := by decide +kernel
theorem dX12_digest_182 : decode cX12_digest 182 = .ok (.i2l, 1) := by decide +kernel
theorem dX12_digest_183 : decode cX12_digest 183 = .ok (.invokevirtual 269, 3) := by decide +kernel
theorem dX12_digest_186 : decode cX12_digest 186 = .ok (.iinc 1 1, 3) := by decide +kernel
theorem dX12_digest_189 : decode cX12_digest 189 = .ok (.goto (-18), 3) := by decide +kernel
theorem dX12_digest_192 : decode cX12_digest 192 = .ok (.iconst 0, 1) := by decide +kernel
theorem dX12_digest_193 : decode cX12_digest 193 = .ok (.istore_n 1, 1) := by decide +kernel
theorem dX12_digest_194 : decode cX12_digest 194 = .ok (.iload_n 1, 1) := by decide +kernel
theorem dX12_digest_195 : decode cX12_digest 195 = .ok (.aload_n 0, 1) := by decide +kernel
theorem dX12_digest_196 : decode cX12_digest 196 = .ok (.getfield 46, 3) := by decide +kernel
theorem dX12_digest_199 : decode cX12_digest 199 = .ok (.if_icmp .ge 20, 3) := by decide +kernel
theorem dX12_digest_202 : decode cX12_digest 202 = .ok (.aload_n 0, 1) := by decide +kernel
theorem dX12_digest_203 : decode cX12_digest 203 = .ok (.aload_n 0, 1) := by decide +kernel
theorem dX12_digest_204 : decode cX12_digest 204 = .ok (.getfield 28, 3) := by decide +kernel
theorem dX12_digest_207 : decode cX12_digest 207 = .ok (.iload_n 1, 1) := by decide +kernel
theorem dX12_digest_208 : decode cX12_digest 208 = .ok (.baload, 1) := by decide +kernel
theorem dX12_digest_209 : decode cX12_digest 209 = .ok (.i2l, 1) := by decide +kernel
theorem dX12_digest_210 : decode cX12_digest 210 = .ok (.invokevirtual 269, 3) := by decide +kernel
theorem dX12_digest_213 : decode cX12_digest 213 = .ok (.iinc 1 1, 3) := by decide +kernel
theorem dX12_digest_216 : decode cX12_digest 216 = .ok (.goto (-22), 3) := by decide +kernel
theorem dX12_digest_219 : decode cX12_digest 219 = .ok (.iconst 0, 1) := by decide +kernel
theorem dX12_digest_220 : decode cX12_digest 220 = .ok (.istore_n 1, 1) := by decide +kernel
theorem dX12_digest_221 : decode cX12_digest 221 = .ok (.iload_n 1, 1) := by decide +kernel
theorem dX12_digest_222 : decode cX12_digest 222 = .ok (.bipush 13, 2) := by decide +kernel
theorem dX12_digest_224 : decode cX12_digest 224 = .ok (.if_icmp .ge 19, 3) := by decide +kernel
theorem dX12_digest_227 : decode cX12_digest 227 = .ok (.aload_n 0, 1) := by decide +kernel
theorem dX12_digest_228 : decode cX12_digest 228 = .ok (.aload_n 0, 1) := by decide +kernel
theorem dX12_digest_229 : decode cX12_digest 229 = .ok (.iload_n 1, 1) := by decide +kernel
theorem dX12_digest_230 : decode cX12_digest 230 = .ok (.invokevirtual 259, 3) := by decide +kernel
theorem dX12_digest_233 : decode cX12_digest 233 = .ok (.i2l, 1) := by decide +kernel
theorem dX12_digest_234 : decode cX12_digest 234 = .ok (.invokevirtual 269, 3) := by decide +kernel
theorem dX12_digest_237 : decode cX12_digest 237 = .ok (.iinc 1 1, 3) := by decide +kernel
theorem dX12_digest_240 : decode cX12_digest 240 = .ok (.goto (-19), 3) := by decide +kernel
theorem dX12_digest_243 : decode cX12_digest 243 = .ok (.aload_n 0, 1) := by decide +kernel
theorem dX12_digest_244 : decode cX12_digest 244 = .ok (.getfield 264, 3) := by decide +kernel
theorem dX12_digest_247 : decode cX12_digest 247 = .ok (.lreturn, 1) := by decide +kernel
