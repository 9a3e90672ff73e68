theorem dX6_atom0_58 : decode cX6_atom0 58 = .ok (.aload_n 0, 1) := by decide +kernel
theorem dX6_atom0_59 : decode cX6_atom0 59 = .ok (.bipush 41, 2) := by decide +kernel
theorem dX6_atom0_61 : decode cX6_atom0 61 = .ok (.invokevirtual 222, 3) := by decide +kernel
theorem dX6_atom0_64 : decode cX6_atom0 64 = .ok (.ifCond .ne 7, 3) := by decide +kernel
theorem dX6_atom0_67 : decode cX6_atom0 67 = .ok (.aload_n 0, 1) := by decide +kernel
theorem dX6_atom0_68 : decode cX6_atom0 68 = .ok (.invokevirtual 194, 3) := by decide +kernel
theorem dX6_atom0_71 : decode cX6_atom0 71 = .ok (.aload_n 0, 1) := by decide +kernel
theorem dX6_atom0_72 : decode cX6_atom0 72 = .ok (.dup, 1) := by decide +kernel
theorem dX6_atom0_73 : decode cX6_atom0 73 = .ok (.getfield 191, 3) := by decide +kernel
theorem dX6_atom0_76 : decode cX6_atom0 76 = .ok (.iconst 1, 1) := by decide +kernel
theorem dX6_atom0_77 : decode cX6_atom0 77 = .ok (.isub, 1) := by decide +kernel
theorem dX6_atom0_78 : decode cX6_atom0 78 = .ok (.putfield 191, 3) := by decide +kernel
theorem dX6_atom0_81 : decode cX6_atom0 81 = .ok (.aload_n 0, 1) := by decide +kernel
theorem dX6_atom0_82 : decode cX6_atom0 82 = .ok (.getfield 181, 3) := by decide +kernel
theorem dX6_atom0_85 : decode cX6_atom0 85 = .ok (.ifCond .ne 76, 3) := by decide +kernel
theorem dX6_atom0_88 : decode cX6_atom0 88 = .ok (.aload_n 0, 1) := by decide +kernel
theorem dX6_atom0_89 : decode cX6_atom0 89 = .ok (.invokevirtual 197, 3) := by decide +kernel
theorem dX6_atom0_92 : decode cX6_atom0 92 = .ok (.goto 69, 3) := by decide +kernel
theorem dX6_atom0_95 : decode cX6_atom0 95 = .ok (.aload_n 0, 1) := by decide +kernel
theorem dX6_atom0_96 : decode cX6_atom0 96 = .ok (.getfield 181, 3) := by decide +kernel
theorem dX6_atom0_99 : decode cX6_atom0 99 = .ok (.ifCond .ne 24, 3) := by decide +kernel
theorem dX6_atom0_102 : decode cX6_atom0 102 = .ok (.aload_n 0, 1) := by decide +kernel
theorem dX6_atom0_103 : decode cX6_atom0 103 = .ok (.getfield 165, 3) := by decide +kernel
theorem dX6_atom0_106 : decode cX6_atom0 106 = .ok (.iconst 2, 1) := by decide +kernel
theorem dX6_atom0_107 : decode cX6_atom0 107 = .ok (.if_icmp .ne 16, 3) := by decide +kernel
theorem dX6_atom0_110 : decode cX6_atom0 110 = .ok (.aload_n 0, 1) := by decide +kernel
theorem dX6_atom0_111 : decode cX6_atom0 111 = .ok (.getfield 176, 3) := by decide +kernel
theorem dX6_atom0_114 : decode cX6_atom0 114 = .ok (.l2i, 1) := by decide +kernel
theorem dX6_atom0_115 : decode cX6_atom0 115 = .ok (.istore_n 1, 1) := by decide +kernel
theorem dX6_atom0_116 : decode cX6_atom0 116 = .ok (.aload_n 0, 1) := by decide +kernel
theorem dX6_atom0_117 : decode cX6_atom0 117 = .ok (.invokevirtual 197, 3) := by decide +kernel
theorem dX6_atom0_120 : decode cX6_atom0 120 = .ok (.goto 41, 3) := by decide +kernel
theorem dX6_atom0_123 : decode cX6_atom0 123 = .ok (.aload_n 0, 1) := by decide +kernel
theorem dX6_atom0_124 : decode cX6_atom0 124 = .ok (.getfield 181, 3) := by decide +kernel
theorem dX6_atom0_127 : decode cX6_atom0 127 = .ok (.ifCond .ne 30, 3) := by decide +kernel
theorem dX6_atom0_130 : decode cX6_atom0 130 = .ok (.aload_n 0, 1) := by decide +kernel
theorem dX6_atom0_131 : decode cX6_atom0 131 = .ok (.getfield 165, 3) := by decide +kernel
theorem dX6_atom0_134 : decode cX6_atom0 134 = .ok (.iconst 1, 1) := by decide +kernel
theorem dX6_atom0_135 : decode cX6_atom0 135 = .ok (.if_icmp .ne 22, 3) := by decide +kernel
theorem dX6_atom0_138 : decode cX6_atom0 138 = .ok (.aload_n 0, 1) := by decide +kernel
theorem dX6_atom0_139 : decode cX6_atom0 139 = .ok (.invokevirtual 229, 3) := by decide +kernel
theorem dX6_atom0_142 : decode cX6_atom0 142 = .ok (.istore_n 1, 1) := by decide +kernel
theorem dX6_atom0_143 : decode cX6_atom0 143 = .ok (.aload_n 0, 1) := by decide +kernel
theorem dX6_atom0_144 : decode cX6_atom0 144 = .ok (.getfield 181, 3) := by decide +kernel
theorem dX6_atom0_147 : decode cX6_atom0 147 = .ok (.ifCond .ne 14, 3) := by decide +kernel
theorem dX6_atom0_150 : decode cX6_atom0 150 = .ok (.aload_n 0, 1) := by decide +kernel
theorem dX6_atom0_151 : decode cX6_atom0 151 = .ok (.invokevirtual 197, 3) := by decide +kernel
theorem dX6_atom0_154 : decode cX6_atom0 154 = .ok (.goto 7, 3) := by decide +kernel
theorem dX6_atom0_157 : decode cX6_atom0 157 = .ok (.aload_n 0, 1) := by decide +kernel
theorem dX6_atom0_158 : decode cX6_atom0 158 = .ok (.invokevirtual 194, 3) := by decide +kernel
theorem dX6_atom0_161 : decode cX6_atom0 161 = .ok (.iload_n 1, 1) := by decide +kernel
theorem dX6_atom0_162 : decode cX6_atom0 162 = .ok (.ireturn, 1) := by decide +kernel
theorem dX6_term0_0 : decode cX6_term0 0 = .ok (.aload_n 0, 1) := by decide +kernel
theorem dX6_term0_1 : decode cX6_term0 1 = .ok (.invokevirtual 327, 3) := by decide +kernel
theorem dX6_term0_4 : decode cX6_term0 4 = .ok (.istore_n 1, 1) := by decide +kernel
theorem dX6_term0_5 : decode cX6_term0 5 = .ok (.aload_n 0, 1) := by decide +kernel
theorem dX6_term0_6 : decode cX6_term0 6 = .ok (.bipush 42, 2) := by decide +kernel
theorem dX6_term0_8 : decode cX6_term0 8 = .ok (.invokevirtual 222, 3) := by decide +kernel
theorem dX6_term0_11 : decode cX6_term0 11 = .ok (.ifCond .eq 17, 3) := by decide +kernel
theorem dX6_term0_14 : decode cX6_term0 14 = .ok (.aload_n 0, 1) := by decide +kernel
theorem dX6_term0_15 : decode cX6_term0 15 = .ok (.invokevirtual 197, 3) := by decide +kernel
theorem dX6_term0_18 : decode cX6_term0 18 = .ok (.iload_n 1, 1) := by decide +kernel
theorem dX6_term0_19 : decode cX6_term0 19 = .ok (.aload_n 0, 1) := by decide +kernel
theorem dX6_term0_20 : decode cX6_term0 20 = .ok (.invokevirtual 327, 3) := by decide +kernel
theorem dX6_term0_23 : decode cX6_term0 23 = .ok (.imul, 1) := by decide +kernel
theorem dX6_term0_24 : decode cX6_term0 24 = .ok (.istore_n 1, 1) := by decide +kernel
theorem dX6_term0_25 : decode cX6_term0 25 = .ok (.goto (-20), 3) := by decide +kernel
theorem dX6_term0_28 : decode cX6_term0 28 = .ok (.iload_n 1, 1) := by decide +kernel
theorem dX6_term0_29 : decode cX6_term0 29 = .ok (.ireturn, 1) := by decide +kernel
theorem dX6_added0_0 : decode cX6_added0 0 = .ok (.aload_n 0, 1) := by decide +kernel
theorem dX6_added0_1 : decode cX6_added0 1 = .ok (.invokevirtual 330, 3) := by decide +kernel
theorem dX6_added0_4 : decode cX6_added0 4 = .ok (.istore_n 1, 1) := by decide +kernel
theorem dX6_added0_5 : decode cX6_added0 5 = .ok (.aload_n 0, 1) := by decide +kernel
theorem dX6_added0_6 : decode cX6_added0 6 = .ok (.bipush 43, 2) := by decide +kernel
theorem dX6_added0_8 : decode cX6_added0 8 = .ok (.invokevirtual 222, 3) := by decide +kernel
theorem dX6_added0_11 : decode cX6_added0 11 = .ok (.ifCond .ne 12, 3) := by decide +kernel
theorem dX6_added0_14 : decode cX6_added0 14 = .ok (.aload_n 0, 1) := by decide +kernel
theorem dX6_added0_15 : decode cX6_added0 15 = .ok (.bipush 45, 2) := by decide +kernel
theorem dX6_added0_17 : decode cX6_added0 17 = .ok (.invokevirtual 222, 3) := by decide +kernel
theorem dX6_added0_20 : decode cX6_added0 20 = .ok (.ifCond .eq 46, 3) := by decide +kernel
theorem dX6_added0_23 : decode cX6_added0 23 = .ok (.aload_n 0, 1) := by decide +kernel
theorem dX6_added0_24 : decode cX6_added0 24 = .ok (.getfield 176, 3) := by decide +kernel
theorem dX6_added0_27 : decode cX6_added0 27 = .ok (.ldc2_w 239, 3) := by decide +kernel
theorem dX6_added0_30 : decode cX6_added0 30 = .ok (.lcmp, 1) := by decide +kernel
theorem dX6_added0_31 : decode cX6_added0 31 = .ok (.ifCond .ne 7, 3) := by decide +kernel
theorem dX6_added0_34 : decode cX6_added0 34 = .ok (.iconst 1, 1) := by decide +kernel
theorem dX6_added0_35 : decode cX6_added0 35 = .ok (.goto 4, 3) := by decide +kernel
theorem dX6_added0_38 : decode cX6_added0 38 = .ok (.iconst 0, 1) := by decide +kernel
theorem dX6_added0_39 : decode cX6_added0 39 = .ok (.istore_n 2, 1) := by decide +kernel
theorem dX6_added0_40 : decode cX6_added0 40 = .ok (.aload_n 0, 1) := by decide +kernel
theorem dX6_added0_41 : decode cX6_added0 41 = .ok (.invokevirtual 197, 3) := by decide +kernel
theorem dX6_added0_44 : decode cX6_added0 44 = .ok (.aload_n 0, 1) := by decide +kernel
theorem dX6_added0_45 : decode cX6_added0 45 = .ok (.invokevirtual 330, 3) := by decide +kernel
theorem dX6_added0_48 : decode cX6_added0 48 = .ok (.istore_n 3, 1) := by decide +kernel
theorem dX6_added0_49 : decode cX6_added0 49 = .ok (.iload_n 2, 1) := by decide +kernel
theorem dX6_added0_50 : decode cX6_added0 50 = .ok (.ifCond .eq 9, 3) := by decide +kernel
theorem dX6_added0_53 : decode cX6_added0 53 = .ok (.iload_n 1, 1) := by decide +kernel
theorem dX6_added0_54 : decode cX6_added0 54 = .ok (.iload_n 3, 1) := by decide +kernel
theorem dX6_added0_55 : decode cX6_added0 55 = .ok (.iadd, 1) := by decide +kernel
theorem dX6_added0_56 : decode cX6_added0 56 = .ok (.goto 6, 3) := by decide +kernel
theorem dX6_added0_59 : decode cX6_added0 59 = .ok (.iload_n 1, 1) := by decide +kernel
theorem dX6_added0_60 : decode cX6_added0 60 = .ok (.iload_n 3, 1) := by decide +kernel
theorem dX6_added0_61 : decode cX6_added0 61 = .ok (.isub, 1) := by decide +kernel
theorem dX6_added0_62 : decode cX6_added0 62 = .ok (.istore_n 1, 1) := by decide +kernel
theorem dX6_added0_63 : decode cX6_added0 63 = .ok (.goto (-58), 3) := by decide +kernel
theorem dX6_added0_66 : decode cX6_added0 66 = .ok (.iload_n 1, 1) := by decide +kernel
theorem dX6_added0_67 : decode cX6_added0 67 = .ok (.ireturn, 1) := by decide +kernel
theorem dX6_not0_0 : decode cX6_not0 0 = .ok (.aload_n 0, 1) := by decide +kernel
theorem dX6_not0_1 : decode cX6_not0 1 = .ok (.bipush 110, 2) := by decide +kernel
theorem dX6_not0_3 : decode cX6_not0 3 = .ok (.bipush 111, 2) := by decide +kernel
theorem dX6_not0_5 : decode cX6_not0 5 = .ok (.bipush 116, 2) := by decide +kernel
theorem dX6_not0_7 : decode cX6_not0 7 = .ok (.iconst 0, 1) := by decide +kernel
theorem dX6_not0_8 : decode cX6_not0 8 = .ok (.iconst 0, 1) := by decide +kernel
theorem dX6_not0_9 : decode cX6_not0 9 = .ok (.iconst 0, 1) := by decide +kernel
theorem dX6_not0_10 : decode cX6_not0 10 = .ok (.iconst 0, 1) := by decide +kernel
theorem dX6_not0_11 : decode cX6_not0 11 = .ok (.iconst 0, 1) := by decide +kernel
theorem dX6_not0_12 : decode cX6_not0 12 = .ok (.invokevirtual 200, 3) := by decide +kernel
theorem dX6_not0_15 : decode cX6_not0 15 = .ok (.ifCond .eq 37, 3) := by decide +kernel
theorem dX6_not0_18 : decode cX6_not0 18 = .ok (.aload_n 0, 1) := by decide +kernel
theorem dX6_not0_19 : decode cX6_not0 19 = .ok (.invokevirtual 225, 3) := by decide +kernel
theorem dX6_not0_22 : decode cX6_not0 22 = .ok (.ifCond .ne 5, 3) := by decide +kernel
theorem dX6_not0_25 : decode cX6_not0 25 = .ok (.iconst 0, 1) := by decide +kernel
theorem dX6_not0_26 : decode cX6_not0 26 = .ok (.ireturn, 1) := by decide +kernel
theorem dX6_not0_27 : decode cX6_not0 27 = .ok (.aload_n 0, 1) := by decide +kernel
theorem dX6_not0_28 : decode cX6_not0 28 = .ok (.invokevirtual 318, 3) := by decide +kernel
theorem dX6_not0_31 : decode cX6_not0 31 = .ok (.istore_n 1, 1) := by decide +kernel
theorem dX6_not0_32 : decode cX6_not0 32 = .ok (.aload_n 0, 1) := by decide +kernel
theorem dX6_not0_33 : decode cX6_not0 33 = .ok (.dup, 1) := by decide +kernel
theorem dX6_not0_34 : decode cX6_not0 34 = .ok (.getfield 191, 3) := by decide +kernel
theorem dX6_not0_37 : decode cX6_not0 37 = .ok (.iconst 1, 1) := by decide +kernel
theorem dX6_not0_38 : decode cX6_not0 38 = .ok (.isub, 1) := by decide +kernel
theorem dX6_not0_39 : decode cX6_not0 39 = .ok (.putfield 191, 3) := by decide +kernel
theorem dX6_not0_42 : decode cX6_not0 42 = .ok (.iload_n 1, 1) := by decide +kernel
theorem dX6_not0_43 : decode cX6_not0 43 = .ok (.ifCond .ne 7, 3) := by decide +kernel
theorem dX6_not0_46 : decode cX6_not0 46 = .ok (.iconst 1, 1) := by decide +kernel
theorem dX6_not0_47 : decode cX6_not0 47 = .ok (.goto 4, 3) := by decide +kernel
theorem dX6_not0_50 : decode cX6_not0 50 = .ok (.iconst 0, 1) := by decide +kernel
theorem dX6_not0_51 : decode cX6_not0 51 = .ok (.ireturn, 1) := by decide +kernel
theorem dX6_not0_52 : decode cX6_not0 52 = .ok (.aload_n 0, 1) := by decide +kernel
theorem dX6_not0_53 : decode cX6_not0 53 = .ok (.invokevirtual 333, 3) := by decide +kernel
theorem dX6_not0_56 : decode cX6_not0 56 = .ok (.istore_n 1, 1) := by decide +kernel
theorem dX6_not0_57 : decode cX6_not0 57 = .ok (.aload_n 0, 1) := by decide +kernel
theorem dX6_not0_58 : decode cX6_not0 58 = .ok (.bipush 60, 2) := by decide +kernel
theorem dX6_not0_60 : decode cX6_not0 60 = .ok (.invokevirtual 222, 3) := by decide +kernel
theorem dX6_not0_63 : decode cX6_not0 63 = .ok (.ifCond .ne 14, 3) := by decide +kernel
theorem dX6_not0_66 : decode cX6_not0 66 = .ok (.aload_n 0, 1) := by decide +kernel
theorem dX6_not0_67 : decode cX6_not0 67 = .ok (.bipush 61, 2) := by decide +kernel
theorem dX6_not0_69 : decode cX6_not0 69 = .ok (.invokevirtual 222, 3) := by decide +kernel
theorem dX6_not0_72 : decode cX6_not0 72 = .ok (.ifCond .ne 5, 3) := by decide +kernel
theorem dX6_not0_75 : decode cX6_not0 75 = .ok (.iload_n 1, 1) := by decide +kernel
theorem dX6_not0_76 : decode cX6_not0 76 = .ok (.ireturn, 1) := by decide +kernel
theorem dX6_not0_77 : decode cX6_not0 77 = .ok (.aload_n 0, 1) := by decide +kernel
theorem dX6_not0_78 : decode cX6_not0 78 = .ok (.getfield 176, 3) := by decide +kernel
theorem dX6_not0_81 : decode cX6_not0 81 = .ok (.ldc2_w 244, 3) := by decide +kernel
theorem dX6_not0_84 : decode cX6_not0 84 = .ok (.lcmp, 1) := by decide +kernel
theorem dX6_not0_85 : decode cX6_not0 85 = .ok (.ifCond .ne 7, 3) := by decide +kernel
theorem dX6_not0_88 : decode cX6_not0 88 = .ok (.iconst 1, 1) := by decide +kernel
theorem dX6_not0_89 : decode cX6_not0 89 = .ok (.goto 4, 3) := by decide +kernel
theorem dX6_not0_92 : decode cX6_not0 92 = .ok (.iconst 0, 1) := by decide +kernel
theorem dX6_not0_93 : decode cX6_not0 93 = .ok (.istore_n 2, 1) := by decide +kernel
theorem dX6_not0_94 : decode cX6_not0 94 = .ok (.aload_n 0, 1) := by decide +kernel
theorem dX6_not0_95 : decode cX6_not0 95 = .ok (.invokevirtual 197, 3) := by decide +kernel
theorem dX6_not0_98 : decode cX6_not0 98 = .ok (.aload_n 0, 1) := by decide +kernel
theorem dX6_not0_99 : decode cX6_not0 99 = .ok (.invokevirtual 333, 3) := by decide +kernel
theorem dX6_not0_102 : decode cX6_not0 102 = .ok (.istore_n 3, 1) := by decide +kernel
theorem dX6_not0_103 : decode cX6_not0 103 = .ok (.iload_n 2, 1) := by decide +kernel
theorem dX6_not0_104 : decode cX6_not0 104 = .ok (.ifCond .eq 11, 3) := by decide +kernel
theorem dX6_not0_107 : decode cX6_not0 107 = .ok (.iload_n 1, 1) := by decide +kernel
theorem dX6_not0_108 : decode cX6_not0 108 = .ok (.iload_n 3, 1) := by decide +kernel
theorem dX6_not0_109 : decode cX6_not0 109 = .ok (.if_icmp .ge 15, 3) := by decide +kernel
theorem dX6_not0_112 : decode cX6_not0 112 = .ok (.goto 8, 3) := by decide +kernel
theorem dX6_not0_115 : decode cX6_not0 115 = .ok (.iload_n 1, 1) := by decide +kernel
theorem dX6_not0_116 : decode cX6_not0 116 = .ok (.iload_n 3, 1) := by decide +kernel
theorem dX6_not0_117 : decode cX6_not0 117 = .ok (.if_icmp .ne 7, 3) := by decide +kernel
theorem dX6_not0_120 : decode cX6_not0 120 = .ok (.iconst 1, 1) := by decide +kernel
theorem dX6_not0_121 : decode cX6_not0 121 = .ok (.goto 4, 3) := by decide +kernel
theorem dX6_not0_124 : decode cX6_not0 124 = .ok (.iconst 0, 1) := by decide +kernel
theorem dX6_not0_125 : decode cX6_not0 125 = .ok (.ireturn, 1) := by decide +kernel
theorem dX6_both0_0 : decode cX6_both0 0 = .ok (.aload_n 0, 1) := by decide +kernel
theorem dX6_both0_1 : decode cX6_both0 1 = .ok (.invokevirtual 336, 3) := by decide +kernel
theorem dX6_both0_4 : decode cX6_both0 4 = .ok (.istore_n 1, 1) := by decide +kernel
theorem dX6_both0_5 : decode cX6_both0 5 = .ok (.aload_n 0, 1) := by decide +kernel
theorem dX6_both0_6 : decode cX6_both0 6 = .ok (.bipush 97, 2) := by decide +kernel
theorem dX6_both0_8 : decode cX6_both0 8 = .ok (.bipush 110, 2) := by decide +kernel
theorem dX6_both0_10 : decode cX6_both0 10 = .ok (.bipush 100, 2) := by decide +kernel
theorem dX6_both0_12 : decode cX6_both0 12 = .ok (.iconst 0, 1) := by decide +kernel
theorem dX6_both0_13 : decode cX6_both0 13 = .ok (.iconst 0, 1) := by decide +kernel
theorem dX6_both0_14 : decode cX6_both0 14 = .ok (.iconst 0, 1) := by decide +kernel
theorem dX6_both0_15 : decode cX6_both0 15 = .ok (.iconst 0, 1) := by decide +kernel
theorem dX6_both0_16 : decode cX6_both0 16 = .ok (.iconst 0, 1) := by decide +kernel
theorem dX6_both0_17 : decode cX6_both0 17 = .ok (.invokevirtual 200, 3) := by decide +kernel
theorem dX6_both0_20 : decode cX6_both0 20 = .ok (.ifCond .eq 29, 3) := by decide +kernel
theorem dX6_both0_23 : decode cX6_both0 23 = .ok (.aload_n 0, 1) := by decide +kernel
theorem dX6_both0_24 : decode cX6_both0 24 = .ok (.invokevirtual 197, 3) := by decide +kernel
theorem dX6_both0_27 : decode cX6_both0 27 = .ok (.aload_n 0, 1) := by decide +kernel
theorem dX6_both0_28 : decode cX6_both0 28 = .ok (.invokevirtual 336, 3) := by decide +kernel
theorem dX6_both0_31 : decode cX6_both0 31 = .ok (.istore_n 2, 1) := by decide +kernel
theorem dX6_both0_32 : decode cX6_both0 32 = .ok (.iload_n 1, 1) := by decide +kernel
theorem dX6_both0_33 : decode cX6_both0 33 = .ok (.ifCond .eq 11, 3) := by decide +kernel
theorem dX6_both0_36 : decode cX6_both0 36 = .ok (.iload_n 2, 1) := by decide +kernel
theorem dX6_both0_37 : decode cX6_both0 37 = .ok (.ifCond .eq 7, 3) := by decide +kernel
theorem dX6_both0_40 : decode cX6_both0 40 = .ok (.iconst 1, 1) := by decide +kernel
theorem dX6_both0_41 : decode cX6_both0 41 = .ok (.goto 4, 3) := by decide +kernel
theorem dX6_both0_44 : decode cX6_both0 44 = .ok (.iconst 0, 1) := by decide +kernel
theorem dX6_both0_45 : decode cX6_both0 45 = .ok (.istore_n 1, 1) := by decide +kernel
theorem dX6_both0_46 : decode cX6_both0 46 = .ok (.goto (-41), 3) := by decide +kernel
theorem dX6_both0_49 : decode cX6_both0 49 = .ok (.iload_n 1, 1) := by decide +kernel
theorem dX6_both0_50 : decode cX6_both0 50 = .ok (.ireturn, 1) := by decide +kernel
theorem dX6_either0_0 : decode cX6_either0 0 = .ok (.aload_n 0, 1) := by decide +kernel
theorem dX6_either0_1 : decode cX6_either0 1 = .ok (.invokevirtual 339, 3) := by decide +kernel
theorem dX6_either0_4 : decode cX6_either0 4 = .ok (.istore_n 1, 1) := by decide +kernel
theorem dX6_either0_5 : decode cX6_either0 5 = .ok (.aload_n 0, 1) := by decide +kernel
theorem dX6_either0_6 : decode cX6_either0 6 = .ok (.bipush 111, 2) := by decide +kernel
theorem dX6_either0_8 : decode cX6_either0 8 = .ok (.bipush 114, 2) := by decide +kernel
theorem dX6_either0_10 : decode cX6_either0 10 = .ok (.iconst 0, 1) := by decide +kernel
theorem dX6_either0_11 : decode cX6_either0 11 = .ok (.iconst 0, 1) := by decide +kernel
theorem dX6_either0_12 : decode cX6_either0 12 = .ok (.iconst 0, 1) := by decide +kernel
theorem dX6_either0_13 : decode cX6_either0 13 = .ok (.iconst 0, 1) := by decide +kernel
theorem dX6_either0_14 : decode cX6_either0 14 = .ok (.iconst 0, 1) := by decide +kernel
theorem dX6_either0_15 : decode cX6_either0 15 = .ok (.iconst 0, 1) := by decide +kernel
theorem dX6_either0_16 : decode cX6_either0 16 = .ok (.invokevirtual 200, 3) := by decide +kernel
theorem dX6_either0_19 : decode cX6_either0 19 = .ok (.ifCond .eq 29, 3) := by decide +kernel
theorem dX6_either0_22 : decode cX6_either0 22 = .ok (.aload_n 0, 1) := by decide +kernel
theorem dX6_either0_23 : decode cX6_either0 23 = .ok (.invokevirtual 197, 3) := by decide +kernel
theorem dX6_either0_26 : decode cX6_either0 26 = .ok (.aload_n 0, 1) := by decide +kernel
theorem dX6_either0_27 : decode cX6_either0 27 = .ok (.invokevirtual 339, 3) := by decide +kernel
theorem dX6_either0_30 : decode cX6_either0 30 = .ok (.istore_n 2, 1) := by decide +kernel
theorem dX6_either0_31 : decode cX6_either0 31 = .ok (.iload_n 1, 1) := by decide +kernel
theorem dX6_either0_32 : decode cX6_either0 32 = .ok (.ifCond .ne 7, 3) := by decide +kernel
theorem dX6_either0_35 : decode cX6_either0 35 = .ok (.iload_n 2, 1) := by decide +kernel
theorem dX6_either0_36 : decode cX6_either0 36 = .ok (.ifCond .eq 7, 3) := by decide +kernel
theorem dX6_either0_39 : decode cX6_either0 39 = .ok (.iconst 1, 1) := by decide +kernel
theorem dX6_either0_40 : decode cX6_either0 40 = .ok (.goto 4, 3) := by decide +kernel
theorem dX6_either0_43 : decode cX6_either0 43 = .ok (.iconst 0, 1) := by decide +kernel
theorem dX6_either0_44 : decode cX6_either0 44 = .ok (.istore_n 1, 1) := by decide +kernel
theorem dX6_either0_45 : decode cX6_either0 45 = .ok (.goto (-40), 3) := by decide +kernel
theorem dX6_either0_48 : decode cX6_either0 48 = .ok (.iload_n 1, 1) := by decide +kernel
theorem dX6_either0_49 : decode cX6_either0 49 = .ok (.ireturn, 1) := by decide +kernel
theorem dX6_part_0 : decode cX6_part 0 = .ok (.iload_n 1, 1) := by decide +kernel
theorem dX6_part_1 : decode cX6_part 1 = .ok (.ifCond .ne 7, 3) := by decide +kernel
theorem dX6_part_4 : decode cX6_part 4 = .ok (.aload_n 0, 1) := by decide +kernel
theorem dX6_part_5 : decode cX6_part 5 = .ok (.invokevirtual 194, 3) := by decide +kernel
theorem dX6_part_8 : decode cX6_part 8 = .ok (.aload_n 0, 1) := by decide +kernel
theorem dX6_part_9 : decode cX6_part 9 = .ok (.getfield 181, 3) := by decide +kernel
theorem dX6_part_12 : decode cX6_part 12 = .ok (.ifCond .ne 7, 3) := by decide +kernel
theorem dX6_part_15 : decode cX6_part 15 = .ok (.aload_n 0, 1) := by decide +kernel
theorem dX6_part_16 : decode cX6_part 16 = .ok (.invokevirtual 197, 3) := by decide +kernel
theorem dX6_part_19 : decode cX6_part 19 = .ok (.aload_n 0, 1) := by decide +kernel
theorem dX6_part_20 : decode cX6_part 20 = .ok (.getfield 181, 3) := by decide +kernel
theorem dX6_part_23 : decode cX6_part 23 = .ok (.ifCond .eq 7, 3) := by decide +kernel
theorem dX6_part_26 : decode cX6_part 26 = .ok (.iconst 0, 1) := by decide +kernel
theorem dX6_part_27 : decode cX6_part 27 = .ok (.goto 7, 3) := by decide +kernel
theorem dX6_part_30 : decode cX6_part 30 = .ok (.aload_n 0, 1) := by decide +kernel
theorem dX6_part_31 : decode cX6_part 31 = .ok (.invokevirtual 342, 3) := by decide +kernel
theorem dX6_part_34 : decode cX6_part 34 = .ok (.istore_n 2, 1) := by decide +kernel
theorem dX6_part_35 : decode cX6_part 35 = .ok (.aload_n 0, 1) := by decide +kernel
theorem dX6_part_36 : decode cX6_part 36 = .ok (.bipush 59, 2) := by decide +kernel
theorem dX6_part_38 : decode cX6_part 38 = .ok (.invokevirtual 222, 3) := by decide +kernel
theorem dX6_part_41 : decode cX6_part 41 = .ok (.ifCond .ne 7, 3) := by decide +kernel
theorem dX6_part_44 : decode cX6_part 44 = .ok (.aload_n 0, 1) := by decide +kernel
theorem dX6_part_45 : decode cX6_part 45 = .ok (.invokevirtual 194, 3) := by decide +kernel
theorem dX6_part_48 : decode cX6_part 48 = .ok (.aload_n 0, 1) := by decide +kernel
theorem dX6_part_49 : decode cX6_part 49 = .ok (.getfield 181, 3) := by decide +kernel
theorem dX6_part_52 : decode cX6_part 52 = .ok (.ifCond .ne 7, 3) := by decide +kernel
theorem dX6_part_55 : decode cX6_part 55 = .ok (.aload_n 0, 1) := by decide +kernel
theorem dX6_part_56 : decode cX6_part 56 = .ok (.invokevirtual 197, 3) := by decide +kernel
theorem dX6_part_59 : decode cX6_part 59 = .ok (.iload_n 2, 1) := by decide +kernel
theorem dX6_part_60 : decode cX6_part 60 = .ok (.ireturn, 1) := by decide +kernel
theorem dX6_read_0 : decode cX6_read 0 = .ok (.aload_n 0, 1) := by decide +kernel
theorem dX6_read_1 : decode cX6_read 1 = .ok (.sipush 160, 3) := by decide +kernel
theorem dX6_read_4 : decode cX6_read 4 = .ok (.iload_n 1, 1) := by decide +kernel
theorem dX6_read_5 : decode cX6_read 5 = .ok (.imul, 1) := by decide +kernel
theorem dX6_read_6 : decode cX6_read 6 = .ok (.putfield 153, 3) := by decide +kernel
theorem dX6_read_9 : decode cX6_read 9 = .ok (.aload_n 0, 1) := by decide +kernel
theorem dX6_read_10 : decode cX6_read 10 = .ok (.aload_n 0, 1) := by decide +kernel
theorem dX6_read_11 : decode cX6_read 11 = .ok (.getfield 17, 3) := by decide +kernel
theorem dX6_read_14 : decode cX6_read 14 = .ok (.iload_n 1, 1) := by decide +kernel
theorem dX6_read_15 : decode cX6_read 15 = .ok (.iaload, 1) := by decide +kernel
theorem dX6_read_16 : decode cX6_read 16 = .ok (.putfield 150, 3) := by decide +kernel
theorem dX6_read_19 : decode cX6_read 19 = .ok (.aload_n 0, 1) := by decide +kernel
theorem dX6_read_20 : decode cX6_read 20 = .ok (.iconst 0, 1) := by decide +kernel
theorem dX6_read_21 : decode cX6_read 21 = .ok (.putfield 156, 3) := by decide +kernel
theorem dX6_read_24 : decode cX6_read 24 = .ok (.aload_n 0, 1) := by decide +kernel
theorem dX6_read_25 : decode cX6_read 25 = .ok (.iconst 0, 1) := by decide +kernel
theorem dX6_read_26 : decode cX6_read 26 = .ok (.putfield 191, 3) := by decide +kernel
theorem dX6_read_29 : decode cX6_read 29 = .ok (.aload_n 0, 1) := by decide +kernel
theorem dX6_read_30 : decode cX6_read 30 = .ok (.iconst 0, 1) := by decide +kernel
theorem dX6_read_31 : decode cX6_read 31 = .ok (.putfield 181, 3) := by decide +kernel
theorem dX6_read_34 : decode cX6_read 34 = .ok (.aload_n 0, 1) := by decide +kernel
theorem dX6_read_35 : decode cX6_read 35 = .ok (.invokevirtual 197, 3) := by decide +kernel
theorem dX6_read_38 : decode cX6_read 38 = .ok (.aload_n 0, 1) := by decide +kernel
theorem dX6_read_39 : decode cX6_read 39 = .ok (.aload_n 0, 1) := by decide +kernel
theorem dX6_read_40 : decode cX6_read 40 = .ok (.bipush 110, 2) := by decide +kernel
theorem dX6_read_42 : decode cX6_read 42 = .ok (.bipush 101, 2) := by decide +kernel
theorem dX6_read_44 : decode cX6_read 44 = .ok (.bipush 101, 2) := by decide +kernel
theorem dX6_read_46 : decode cX6_read 46 = .ok (.bipush 100, 2) := by decide +kernel
theorem dX6_read_48 : decode cX6_read 48 = .ok (.bipush 115, 2) := by decide +kernel
theorem dX6_read_50 : decode cX6_read 50 = .ok (.iconst 0, 1) := by decide +kernel
theorem dX6_read_51 : decode cX6_read 51 = .ok (.iconst 0, 1) := by decide +kernel
theorem dX6_read_52 : decode cX6_read 52 = .ok (.iconst 0, 1) := by decide +kernel
theorem dX6_read_53 : decode cX6_read 53 = .ok (.invokevirtual 200, 3) := by decide +kernel
theorem dX6_read_56 : decode cX6_read 56 = .ok (.invokevirtual 345, 3) := by decide +kernel
theorem dX6_read_59 : decode cX6_read 59 = .ok (.istore_n 3, 1) := by decide +kernel
theorem dX6_read_60 : decode cX6_read 60 = .ok (.aload_n 0, 1) := by decide +kernel
theorem dX6_read_61 : decode cX6_read 61 = .ok (.getfield 181, 3) := by decide +kernel
theorem dX6_read_64 : decode cX6_read 64 = .ok (.ifCond .eq 7, 3) := by decide +kernel
theorem dX6_read_67 : decode cX6_read 67 = .ok (.iconst 0, 1) := by decide +kernel
theorem dX6_read_68 : decode cX6_read 68 = .ok (.goto 23, 3) := by decide +kernel
theorem dX6_read_71 : decode cX6_read 71 = .ok (.aload_n 0, 1) := by decide +kernel
theorem dX6_read_72 : decode cX6_read 72 = .ok (.aload_n 0, 1) := by decide +kernel
theorem dX6_read_73 : decode cX6_read 73 = .ok (.bipush 115, 2) := by decide +kernel
theorem dX6_read_75 : decode cX6_read 75 = .ok (.bipush 101, 2) := by decide +kernel
theorem dX6_read_77 : decode cX6_read 77 = .ok (.bipush 101, 2) := by decide +kernel
theorem dX6_read_79 : decode cX6_read 79 = .ok (.bipush 115, 2) := by decide +kernel
theorem dX6_read_81 : decode cX6_read 81 = .ok (.iconst 0, 1) := by decide +kernel
theorem dX6_read_82 : decode cX6_read 82 = .ok (.iconst 0, 1) := by decide +kernel
theorem dX6_read_83 : decode cX6_read 83 = .ok (.iconst 0, 1) := by decide +kernel
theorem dX6_read_84 : decode cX6_read 84 = .ok (.iconst 0, 1) := by decide +kernel
theorem dX6_read_85 : decode cX6_read 85 = .ok (.invokevirtual 200, 3) := by decide +kernel
theorem dX6_read_88 : decode cX6_read 88 = .ok (.invokevirtual 345, 3) := by decide +kernel
theorem dX6_read_91 : decode cX6_read 91 = .ok (.istore 4, 2) := by decide +kernel
theorem dX6_read_93 : decode cX6_read 93 = .ok (.aload_n 0, 1) := by decide +kernel
theorem dX6_read_94 : decode cX6_read 94 = .ok (.getfield 181, 3) := by decide +kernel
theorem dX6_read_97 : decode cX6_read 97 = .ok (.ifCond .eq 7, 3) := by decide +kernel
theorem dX6_read_100 : decode cX6_read 100 = .ok (.iconst 0, 1) := by decide +kernel
theorem dX6_read_101 : decode cX6_read 101 = .ok (.goto 24, 3) := by decide +kernel
theorem dX6_read_104 : decode cX6_read 104 = .ok (.aload_n 0, 1) := by decide +kernel
theorem dX6_read_105 : decode cX6_read 105 = .ok (.aload_n 0, 1) := by decide +kernel
theorem dX6_read_106 : decode cX6_read 106 = .ok (.bipush 116, 2) := by decide +kernel
theorem dX6_read_108 : decode cX6_read 108 = .ok (.bipush 117, 2) := by decide +kernel
theorem dX6_read_110 : decode cX6_read 110 = .ok (.bipush 114, 2) := by decide +kernel
theorem dX6_read_112 : decode cX6_read 112 = .ok (.bipush 110, 2) := by decide +kernel
theorem dX6_read_114 : decode cX6_read 114 = .ok (.bipush 115, 2) := by decide +kernel
theorem dX6_read_116 : decode cX6_read 116 = .ok (.iconst 0, 1) := by decide +kernel
theorem dX6_read_117 : decode cX6_read 117 = .ok (.iconst 0, 1) := by decide +kernel
theorem dX6_read_118 : decode cX6_read 118 = .ok (.iconst 0, 1) := by decide +kernel
theorem dX6_read_119 : decode cX6_read 119 = .ok (.invokevirtual 200, 3) := by decide +kernel
theorem dX6_read_122 : decode cX6_read 122 = .ok (.invokevirtual 345, 3) := by decide +kernel
theorem dX6_read_125 : decode cX6_read 125 = .ok (.istore 5, 2) := by decide +kernel
theorem dX6_read_127 : decode cX6_read 127 = .ok (.aload_n 0, 1) := by decide +kernel
theorem dX6_read_128 : decode cX6_read 128 = .ok (.getfield 181, 3) := by decide +kernel
theorem dX6_read_131 : decode cX6_read 131 = .ok (.ifCond .ne 14, 3) := by decide +kernel
theorem dX6_read_134 : decode cX6_read 134 = .ok (.aload_n 0, 1) := by decide +kernel
theorem dX6_read_135 : decode cX6_read 135 = .ok (.getfield 165, 3) := by decide +kernel
theorem dX6_read_138 : decode cX6_read 138 = .ok (.ifCond .eq 7, 3) := by decide +kernel
theorem dX6_read_141 : decode cX6_read 141 = .ok (.aload_n 0, 1) := by decide +kernel
theorem dX6_read_142 : decode cX6_read 142 = .ok (.invokevirtual 194, 3) := by decide +kernel
theorem dX6_read_145 : decode cX6_read 145 = .ok (.iload_n 2, 1) := by decide +kernel
theorem dX6_read_146 : decode cX6_read 146 = .ok (.ifCond .ne 7, 3) := by decide +kernel
theorem dX6_read_149 : decode cX6_read 149 = .ok (.iload_n 3, 1) := by decide +kernel
theorem dX6_read_150 : decode cX6_read 150 = .ok (.goto 15, 3) := by decide +kernel
theorem dX6_read_153 : decode cX6_read 153 = .ok (.iload_n 2, 1) := by decide +kernel
theorem dX6_read_154 : decode cX6_read 154 = .ok (.iconst 1, 1) := by decide +kernel
theorem dX6_read_155 : decode cX6_read 155 = .ok (.if_icmp .ne 8, 3) := by decide +kernel
theorem dX6_read_158 : decode cX6_read 158 = .ok (.iload 4, 2) := by decide +kernel
theorem dX6_read_160 : decode cX6_read 160 = .ok (.goto 5, 3) := by decide +kernel
theorem dX6_read_163 : decode cX6_read 163 = .ok (.iload 5, 2) := by decide +kernel
theorem dX6_read_165 : decode cX6_read 165 = .ok (.ireturn, 1) := by decide +kernel
theorem dX6_text_0 : decode cX6_text 0 = .ok (.aload_n 0, 1) := by decide +kernel
theorem dX6_text_1 : decode cX6_text 1 = .ok (.getfield 70, 3) := by decide +kernel
theorem dX6_text_4 : decode cX6_text 4 = .ok (.bipush 6, 2) := by decide +kernel
theorem dX6_text_6 : decode cX6_text 6 = .ok (.if_icmp .ne 6, 3) := by decide +kernel
theorem dX6_text_9 : decode cX6_text 9 = .ok (.bipush (-4), 2) := by decide +kernel
theorem dX6_text_11 : decode cX6_text 11 = .ok (.ireturn, 1) := by decide +kernel
theorem dX6_text_12 : decode cX6_text 12 = .ok (.iconst 0, 1) := by decide +kernel
theorem dX6_text_13 : decode cX6_text 13 = .ok (.istore_n 1, 1) := by decide +kernel
theorem dX6_text_14 : decode cX6_text 14 = .ok (.iload_n 1, 1) := by decide +kernel
theorem dX6_text_15 : decode cX6_text 15 = .ok (.aload_n 0, 1) := by decide +kernel
theorem dX6_text_16 : decode cX6_text 16 = .ok (.getfield 147, 3) := by decide +kernel
theorem dX6_text_19 : decode cX6_text 19 = .ok (.if_icmp .ge 30, 3) := by decide +kernel
theorem dX6_text_22 : decode cX6_text 22 = .ok (.aload_n 0, 1) := by decide +kernel
theorem dX6_text_23 : decode cX6_text 23 = .ok (.getfield 13, 3) := by decide +kernel
theorem dX6_text_26 : decode cX6_text 26 = .ok (.sipush 160, 3) := by decide +kernel
theorem dX6_text_29 : decode cX6_text 29 = .ok (.aload_n 0, 1) := by decide +kernel
theorem dX6_text_30 : decode cX6_text 30 = .ok (.getfield 70, 3) := by decide +kernel
theorem dX6_text_33 : decode cX6_text 33 = .ok (.imul, 1) := by decide +kernel
theorem dX6_text_34 : decode cX6_text 34 = .ok (.iload_n 1, 1) := by decide +kernel
theorem dX6_text_35 : decode cX6_text 35 = .ok (.iadd, 1) := by decide +kernel
theorem dX6_text_36 : decode cX6_text 36 = .ok (.aload_n 0, 1) := by decide +kernel
theorem dX6_text_37 : decode cX6_text 37 = .ok (.getfield 20, 3) := by decide +kernel
theorem dX6_text_40 : decode cX6_text 40 = .ok (.iload_n 1, 1) := by decide +kernel
theorem dX6_text_41 : decode cX6_text 41 = .ok (.iaload, 1) := by decide +kernel
theorem dX6_text_42 : decode cX6_text 42 = .ok (.iastore, 1) := by decide +kernel
theorem dX6_text_43 : decode cX6_text 43 = .ok (.iinc 1 1, 3) := by decide +kernel
theorem dX6_text_46 : decode cX6_text 46 = .ok (.goto (-32), 3) := by decide +kernel
theorem dX6_text_49 : decode cX6_text 49 = .ok (.aload_n 0, 1) := by decide +kernel
theorem dX6_text_50 : decode cX6_text 50 = .ok (.getfield 17, 3) := by decide +kernel
theorem dX6_text_53 : decode cX6_text 53 = .ok (.aload_n 0, 1) := by decide +kernel
theorem dX6_text_54 : decode cX6_text 54 = .ok (.getfield 70, 3) := by decide +kernel
theorem dX6_text_57 : decode cX6_text 57 = .ok (.aload_n 0, 1) := by decide +kernel
theorem dX6_text_58 : decode cX6_text 58 = .ok (.getfield 147, 3) := by decide +kernel
theorem dX6_text_61 : decode cX6_text 61 = .ok (.iastore, 1) := by decide +kernel
theorem dX6_text_62 : decode cX6_text 62 = .ok (.aload_n 0, 1) := by decide +kernel
theorem dX6_text_63 : decode cX6_text 63 = .ok (.iconst 0, 1) := by decide +kernel
theorem dX6_text_64 : decode cX6_text 64 = .ok (.putfield 147, 3) := by decide +kernel
theorem dX6_text_67 : decode cX6_text 67 = .ok (.aload_n 0, 1) := by decide +kernel
theorem dX6_text_68 : decode cX6_text 68 = .ok (.aload_n 0, 1) := by decide +kernel
theorem dX6_text_69 : decode cX6_text 69 = .ok (.getfield 70, 3) := by decide +kernel
theorem dX6_text_72 : decode cX6_text 72 = .ok (.iconst 0, 1) := by decide +kernel
theorem dX6_text_73 : decode cX6_text 73 = .ok (.invokevirtual 349, 3) := by decide +kernel
theorem dX6_text_76 : decode cX6_text 76 = .ok (.istore_n 1, 1) := by decide +kernel
theorem dX6_text_77 : decode cX6_text 77 = .ok (.aload_n 0, 1) := by decide +kernel
theorem dX6_text_78 : decode cX6_text 78 = .ok (.getfield 181, 3) := by decide +kernel
theorem dX6_text_81 : decode cX6_text 81 = .ok (.ifCond .eq 11, 3) := by decide +kernel
theorem dX6_text_84 : decode cX6_text 84 = .ok (.bipush (-100), 2) := by decide +kernel
theorem dX6_text_86 : decode cX6_text 86 = .ok (.aload_n 0, 1) := by decide +kernel
theorem dX6_text_87 : decode cX6_text 87 = .ok (.getfield 185, 3) := by decide +kernel
theorem dX6_text_90 : decode cX6_text 90 = .ok (.isub, 1) := by decide +kernel
theorem dX6_text_91 : decode cX6_text 91 = .ok (.ireturn, 1) := by decide +kernel
theorem dX6_text_92 : decode cX6_text 92 = .ok (.aload_n 0, 1) := by decide +kernel
theorem dX6_text_93 : decode cX6_text 93 = .ok (.dup, 1) := by decide +kernel
theorem dX6_text_94 : decode cX6_text 94 = .ok (.getfield 70, 3) := by decide +kernel
theorem dX6_text_97 : decode cX6_text 97 = .ok (.iconst 1, 1) := by decide +kernel
theorem dX6_text_98 : decode cX6_text 98 = .ok (.iadd, 1) := by decide +kernel
theorem dX6_text_99 : decode cX6_text 99 = .ok (.putfield 70, 3) := by decide +kernel
theorem dX6_text_102 : decode cX6_text 102 = .ok (.aload_n 0, 1) := by decide +kernel
theorem dX6_text_103 : decode cX6_text 103 = .ok (.getfield 70, 3) := by decide +kernel
theorem dX6_text_106 : decode cX6_text 106 = .ok (.iconst 1, 1) := by decide +kernel
theorem dX6_text_107 : decode cX6_text 107 = .ok (.isub, 1) := by decide +kernel
theorem dX6_text_108 : decode cX6_text 108 = .ok (.ireturn, 1) := by decide +kernel
theorem dX6_force_0 : decode cX6_force 0 = .ok (.iload_n 1, 1) := by decide +kernel
theorem dX6_force_1 : decode cX6_force 1 = .ok (.i2l, 1) := by decide +kernel
theorem dX6_force_2 : decode cX6_force 2 = .ok (.lconst 0, 1) := by decide +kernel
theorem dX6_force_3 : decode cX6_force 3 = .ok (.aload_n 0, 1) := by decide +kernel
theorem dX6_force_4 : decode cX6_force 4 = .ok (.getfield 70, 3) := by decide +kernel
theorem dX6_force_7 : decode cX6_force 7 = .ok (.iconst 1, 1) := by decide +kernel
theorem dX6_force_8 : decode cX6_force 8 = .ok (.isub, 1) := by decide +kernel
theorem dX6_force_9 : decode cX6_force 9 = .ok (.i2l, 1) := by decide +kernel
theorem dX6_force_10 : decode cX6_force 10 = .ok (.invokestatic 76, 3) := by decide +kernel
theorem dX6_force_13 : decode cX6_force 13 = .ok (.ifCond .ne 6, 3) := by decide +kernel
theorem dX6_force_16 : decode cX6_force 16 = .ok (.bipush (-2), 2) := by decide +kernel
theorem dX6_force_18 : decode cX6_force 18 = .ok (.ireturn, 1) := by decide +kernel
theorem dX6_force_19 : decode cX6_force 19 = .ok (.aload_n 0, 1) := by decide +kernel
theorem dX6_force_20 : decode cX6_force 20 = .ok (.getfield 115, 3) := by decide +kernel
theorem dX6_force_23 : decode cX6_force 23 = .ok (.istore_n 2, 1) := by decide +kernel
theorem dX6_force_24 : decode cX6_force 24 = .ok (.aload_n 0, 1) := by decide +kernel
theorem dX6_force_25 : decode cX6_force 25 = .ok (.iload_n 1, 1) := by decide +kernel
theorem dX6_force_26 : decode cX6_force 26 = .ok (.putfield 115, 3) := by decide +kernel
theorem dX6_force_29 : decode cX6_force 29 = .ok (.iload_n 2, 1) := by decide +kernel
theorem dX6_force_30 : decode cX6_force 30 = .ok (.ireturn, 1) := by decide +kernel
theorem dX6_boxAll_0 : decode cX6_boxAll 0 = .ok (.aload_n 0, 1) := by decide +kernel
theorem dX6_boxAll_1 : decode cX6_boxAll 1 = .ok (.getfield 26, 3) := by decide +kernel
theorem dX6_boxAll_4 : decode cX6_boxAll 4 = .ok (.iconst 0, 1) := by decide +kernel
theorem dX6_boxAll_5 : decode cX6_boxAll 5 = .ok (.iaload, 1) := by decide +kernel
theorem dX6_boxAll_6 : decode cX6_boxAll 6 = .ok (.aload_n 0, 1) := by decide +kernel
theorem dX6_boxAll_7 : decode cX6_boxAll 7 = .ok (.getfield 26, 3) := by decide +kernel
theorem dX6_boxAll_10 : decode cX6_boxAll 10 = .ok (.iconst 1, 1) := by decide +kernel
theorem dX6_boxAll_11 : decode cX6_boxAll 11 = .ok (.iaload, 1) := by decide +kernel
theorem dX6_boxAll_12 : decode cX6_boxAll 12 = .ok (.iadd, 1) := by decide +kernel
theorem dX6_boxAll_13 : decode cX6_boxAll 13 = .ok (.aload_n 0, 1) := by decide +kernel
theorem dX6_boxAll_14 : decode cX6_boxAll 14 = .ok (.getfield 26, 3) := by decide +kernel
theorem dX6_boxAll_17 : decode cX6_boxAll 17 = .ok (.iconst 2, 1) := by decide +kernel
theorem dX6_boxAll_18 : decode cX6_boxAll 18 = .ok (.iaload, 1) := by decide +kernel
theorem dX6_boxAll_19 : decode cX6_boxAll 19 = .ok (.iadd, 1) := by decide +kernel
theorem dX6_boxAll_20 : decode cX6_boxAll 20 = .ok (.aload_n 0, 1) := by decide +kernel
theorem dX6_boxAll_21 : decode cX6_boxAll 21 = .ok (.getfield 26, 3) := by decide +kernel
theorem dX6_boxAll_24 : decode cX6_boxAll 24 = .ok (.iconst 3, 1) := by decide +kernel
theorem dX6_boxAll_25 : decode cX6_boxAll 25 = .ok (.iaload, 1) := by decide +kernel
theorem dX6_boxAll_26 : decode cX6_boxAll 26 = .ok (.iadd, 1) := by decide +kernel
theorem dX6_boxAll_27 : decode cX6_boxAll 27 = .ok (.ireturn, 1) := by decide +kernel
theorem dX6_says_0 : decode cX6_says 0 = .ok (.aload_n 0, 1) := by decide +kernel
theorem dX6_says_1 : decode cX6_says 1 = .ok (.aload_n 0, 1) := by decide +kernel
theorem dX6_says_2 : decode cX6_says 2 = .ok (.getfield 29, 3) := by decide +kernel
theorem dX6_says_5 : decode cX6_says 5 = .ok (.iconst 5, 1) := by decide +kernel
theorem dX6_says_6 : decode cX6_says 6 = .ok (.iload_n 2, 1) := by decide +kernel
theorem dX6_says_7 : decode cX6_says 7 = .ok (.imul, 1) := by decide +kernel
theorem dX6_says_8 : decode cX6_says 8 = .ok (.iconst 2, 1) := by decide +kernel
theorem dX6_says_9 : decode cX6_says 9 = .ok (.iadd, 1) := by decide +kernel
theorem dX6_says_10 : decode cX6_says 10 = .ok (.iaload, 1) := by decide +kernel
theorem dX6_says_11 : decode cX6_says 11 = .ok (.putfield 204, 3) := by decide +kernel
theorem dX6_says_14 : decode cX6_says 14 = .ok (.aload_n 0, 1) := by decide +kernel
theorem dX6_says_15 : decode cX6_says 15 = .ok (.aload_n 0, 1) := by decide +kernel
theorem dX6_says_16 : decode cX6_says 16 = .ok (.getfield 29, 3) := by decide +kernel
theorem dX6_says_19 : decode cX6_says 19 = .ok (.iconst 5, 1) := by decide +kernel
theorem dX6_says_20 : decode cX6_says 20 = .ok (.iload_n 2, 1) := by decide +kernel
theorem dX6_says_21 : decode cX6_says 21 = .ok (.imul, 1) := by decide +kernel
theorem dX6_says_22 : decode cX6_says 22 = .ok (.iconst 1, 1) := by decide +kernel
theorem dX6_says_23 : decode cX6_says 23 = .ok (.iadd, 1) := by decide +kernel
theorem dX6_says_24 : decode cX6_says 24 = .ok (.iaload, 1) := by decide +kernel
theorem dX6_says_25 : decode cX6_says 25 = .ok (.putfield 207, 3) := by decide +kernel
theorem dX6_says_28 : decode cX6_says 28 = .ok (.aload_n 0, 1) := by decide +kernel
theorem dX6_says_29 : decode cX6_says 29 = .ok (.aload_n 0, 1) := by decide +kernel
theorem dX6_says_30 : decode cX6_says 30 = .ok (.getfield 29, 3) := by decide +kernel
theorem dX6_says_33 : decode cX6_says 33 = .ok (.iconst 5, 1) := by decide +kernel
theorem dX6_says_34 : decode cX6_says 34 = .ok (.iload_n 2, 1) := by decide +kernel
theorem dX6_says_35 : decode cX6_says 35 = .ok (.imul, 1) := by decide +kernel
theorem dX6_says_36 : decode cX6_says 36 = .ok (.iaload, 1) := by decide +kernel
theorem dX6_says_37 : decode cX6_says 37 = .ok (.putfield 210, 3) := by decide +kernel
theorem dX6_says_40 : decode cX6_says 40 = .ok (.aload_n 0, 1) := by decide +kernel
theorem dX6_says_41 : decode cX6_says 41 = .ok (.aload_n 0, 1) := by decide +kernel
theorem dX6_says_42 : decode cX6_says 42 = .ok (.getfield 106, 3) := by decide +kernel
theorem dX6_says_45 : decode cX6_says 45 = .ok (.putfield 213, 3) := by decide +kernel
theorem dX6_says_48 : decode cX6_says 48 = .ok (.aload_n 0, 1) := by decide +kernel
theorem dX6_says_49 : decode cX6_says 49 = .ok (.aload_n 0, 1) := by decide +kernel
theorem dX6_says_50 : decode cX6_says 50 = .ok (.getfield 109, 3) := by decide +kernel
theorem dX6_says_53 : decode cX6_says 53 = .ok (.invokestatic 352, 3) := by decide +kernel
theorem dX6_says_56 : decode cX6_says 56 = .ok (.putfield 216, 3) := by decide +kernel
theorem dX6_says_59 : decode cX6_says 59 = .ok (.aload_n 0, 1) := by decide +kernel
theorem dX6_says_60 : decode cX6_says 60 = .ok (.aload_n 0, 1) := by decide +kernel
theorem dX6_says_61 : decode cX6_says 61 = .ok (.invokevirtual 356, 3) := by decide +kernel
theorem dX6_says_64 : decode cX6_says 64 = .ok (.putfield 219, 3) := by decide +kernel
theorem dX6_says_67 : decode cX6_says 67 = .ok (.aload_n 0, 1) := by decide +kernel
theorem dX6_says_68 : decode cX6_says 68 = .ok (.aload_n 0, 1) := by decide +kernel
theorem dX6_says_69 : decode cX6_says 69 = .ok (.getfield 115, 3) := by decide +kernel
theorem dX6_says_72 : decode cX6_says 72 = .ok (.iload_n 1, 1) := by decide +kernel
theorem dX6_says_73 : decode cX6_says 73 = .ok (.invokevirtual 349, 3) := by decide +kernel
theorem dX6_says_76 : decode cX6_says 76 = .ok (.iload_n 1, 1) := by decide +kernel
theorem dX6_says_77 : decode cX6_says 77 = .ok (.ifCond .ne 7, 3) := by decide +kernel
theorem dX6_says_80 : decode cX6_says 80 = .ok (.iconst 0, 1) := by decide +kernel
theorem dX6_says_81 : decode cX6_says 81 = .ok (.goto 5, 3) := by decide +kernel
theorem dX6_says_84 : decode cX6_says 84 = .ok (.bipush (-99), 2) := by decide +kernel
theorem dX6_says_86 : decode cX6_says 86 = .ok (.bipush 99, 2) := by decide +kernel
theorem dX6_says_88 : decode cX6_says 88 = .ok (.invokestatic 359, 3) := by decide +kernel
theorem dX6_says_91 : decode cX6_says 91 = .ok (.ireturn, 1) := by decide +kernel
theorem dX6_round_0 : decode cX6_round 0 = .ok (.iload_n 0, 1) := by decide +kernel
theorem dX6_round_1 : decode cX6_round 1 = .ok (.iconst 4, 1) := by decide +kernel
theorem dX6_round_2 : decode cX6_round 2 = .ok (.irem, 1) := by decide +kernel
theorem dX6_round_3 : decode cX6_round 3 = .ok (.ifCond .ge 11, 3) := by decide +kernel
theorem dX6_round_6 : decode cX6_round 6 = .ok (.iload_n 0, 1) := by decide +kernel
theorem dX6_round_7 : decode cX6_round 7 = .ok (.iconst 4, 1) := by decide +kernel
theorem dX6_round_8 : decode cX6_round 8 = .ok (.irem, 1) := by decide +kernel
theorem dX6_round_9 : decode cX6_round 9 = .ok (.iconst 4, 1) := by decide +kernel
theorem dX6_round_10 : decode cX6_round 10 = .ok (.iadd, 1) := by decide +kernel
theorem dX6_round_11 : decode cX6_round 11 = .ok (.goto 6, 3) := by decide +kernel
theorem dX6_round_14 : decode cX6_round 14 = .ok (.iload_n 0, 1) := by decide +kernel
theorem dX6_round_15 : decode cX6_round 15 = .ok (.iconst 4, 1) := by decide +kernel
theorem dX6_round_16 : decode cX6_round 16 = .ok (.irem, 1) := by decide +kernel
theorem dX6_round_17 : decode cX6_round 17 = .ok (.ireturn, 1) := by decide +kernel
theorem dX6_needsOf_0 : decode cX6_needsOf 0 = .ok (.aload_n 0, 1) := by decide +kernel
theorem dX6_needsOf_1 : decode cX6_needsOf 1 = .ok (.getfield 29, 3) := by decide +kernel
theorem dX6_needsOf_4 : decode cX6_needsOf 4 = .ok (.iconst 5, 1) := by decide +kernel
theorem dX6_needsOf_5 : decode cX6_needsOf 5 = .ok (.iload_n 1, 1) := by decide +kernel
theorem dX6_needsOf_6 : decode cX6_needsOf 6 = .ok (.imul, 1) := by decide +kernel
theorem dX6_needsOf_7 : decode cX6_needsOf 7 = .ok (.iconst 4, 1) := by decide +kernel
theorem dX6_needsOf_8 : decode cX6_needsOf 8 = .ok (.iadd, 1) := by decide +kernel
theorem dX6_needsOf_9 : decode cX6_needsOf 9 = .ok (.iaload, 1) := by decide +kernel
theorem dX6_needsOf_10 : decode cX6_needsOf 10 = .ok (.istore_n 2, 1) := by decide +kernel
theorem dX6_needsOf_11 : decode cX6_needsOf 11 = .ok (.iload_n 2, 1) := by decide +kernel
theorem dX6_needsOf_12 : decode cX6_needsOf 12 = .ok (.iconst 5, 1) := by decide +kernel
theorem dX6_needsOf_13 : decode cX6_needsOf 13 = .ok (.if_icmp .eq 15, 3) := by decide +kernel
theorem dX6_needsOf_16 : decode cX6_needsOf 16 = .ok (.iload_n 2, 1) := by decide +kernel
theorem dX6_needsOf_17 : decode cX6_needsOf 17 = .ok (.iconst 4, 1) := by decide +kernel
theorem dX6_needsOf_18 : decode cX6_needsOf 18 = .ok (.if_icmp .ne 21, 3) := by decide +kernel
theorem dX6_needsOf_21 : decode cX6_needsOf 21 = .ok (.aload_n 0, 1) := by decide +kernel
theorem dX6_needsOf_22 : decode cX6_needsOf 22 = .ok (.invokevirtual 356, 3) := by decide +kernel
theorem dX6_needsOf_25 : decode cX6_needsOf 25 = .ok (.ifCond .ne 14, 3) := by decide +kernel
theorem dX6_needsOf_28 : decode cX6_needsOf 28 = .ok (.iload_n 2, 1) := by decide +kernel
theorem dX6_needsOf_29 : decode cX6_needsOf 29 = .ok (.iconst 5, 1) := by decide +kernel
theorem dX6_needsOf_30 : decode cX6_needsOf 30 = .ok (.if_icmp .ne 7, 3) := by decide +kernel
theorem dX6_needsOf_33 : decode cX6_needsOf 33 = .ok (.iconst 1, 1) := by decide +kernel
theorem dX6_needsOf_34 : decode cX6_needsOf 34 = .ok (.goto 4, 3) := by decide +kernel
theorem dX6_needsOf_37 : decode cX6_needsOf 37 = .ok (.iconst 2, 1) := by decide +kernel
theorem dX6_needsOf_38 : decode cX6_needsOf 38 = .ok (.ireturn, 1) := by decide +kernel
theorem dX6_needsOf_39 : decode cX6_needsOf 39 = .ok (.aload_n 0, 1) := by decide +kernel
theorem dX6_needsOf_40 : decode cX6_needsOf 40 = .ok (.iconst 0, 1) := by decide +kernel
theorem dX6_needsOf_41 : decode cX6_needsOf 41 = .ok (.iload_n 1, 1) := by decide +kernel
theorem dX6_needsOf_42 : decode cX6_needsOf 42 = .ok (.invokevirtual 363, 3) := by decide +kernel
theorem dX6_needsOf_45 : decode cX6_needsOf 45 = .ok (.istore_n 3, 1) := by decide +kernel
theorem dX6_needsOf_46 : decode cX6_needsOf 46 = .ok (.iload_n 2, 1) := by decide +kernel
theorem dX6_needsOf_47 : decode cX6_needsOf 47 = .ok (.iconst 1, 1) := by decide +kernel
theorem dX6_needsOf_48 : decode cX6_needsOf 48 = .ok (.if_icmp .ne 9, 3) := by decide +kernel
theorem dX6_needsOf_51 : decode cX6_needsOf 51 = .ok (.iload_n 3, 1) := by decide +kernel
theorem dX6_needsOf_52 : decode cX6_needsOf 52 = .ok (.iconst 2, 1) := by decide +kernel
theorem dX6_needsOf_53 : decode cX6_needsOf 53 = .ok (.idiv, 1) := by decide +kernel
theorem dX6_needsOf_54 : decode cX6_needsOf 54 = .ok (.goto 34, 3) := by decide +kernel
theorem dX6_needsOf_57 : decode cX6_needsOf 57 = .ok (.iload_n 2, 1) := by decide +kernel
theorem dX6_needsOf_58 : decode cX6_needsOf 58 = .ok (.iconst 3, 1) := by decide +kernel
theorem dX6_needsOf_59 : decode cX6_needsOf 59 = .ok (.if_icmp .ne 11, 3) := by decide +kernel
theorem dX6_needsOf_62 : decode cX6_needsOf 62 = .ok (.iload_n 3, 1) := by decide +kernel
theorem dX6_needsOf_63 : decode cX6_needsOf 63 = .ok (.iconst 2, 1) := by decide +kernel
theorem dX6_needsOf_64 : decode cX6_needsOf 64 = .ok (.idiv, 1) := by decide +kernel
theorem dX6_needsOf_65 : decode cX6_needsOf 65 = .ok (.iconst 3, 1) := by decide +kernel
theorem dX6_needsOf_66 : decode cX6_needsOf 66 = .ok (.iadd, 1) := by decide +kernel
theorem dX6_needsOf_67 : decode cX6_needsOf 67 = .ok (.goto 21, 3) := by decide +kernel
theorem dX6_needsOf_70 : decode cX6_needsOf 70 = .ok (.iload_n 2, 1) := by decide +kernel
theorem dX6_needsOf_71 : decode cX6_needsOf 71 = .ok (.ifCond .ne 7, 3) := by decide +kernel
theorem dX6_needsOf_74 : decode cX6_needsOf 74 = .ok (.iload_n 3, 1) := by decide +kernel
theorem dX6_needsOf_75 : decode cX6_needsOf 75 = .ok (.goto 13, 3) := by decide +kernel
theorem dX6_needsOf_78 : decode cX6_needsOf 78 = .ok (.iload_n 3, 1) := by decide +kernel
theorem dX6_needsOf_79 : decode cX6_needsOf 79 = .ok (.aload_n 0, 1) := by decide +kernel
theorem dX6_needsOf_80 : decode cX6_needsOf 80 = .ok (.getfield 29, 3) := by decide +kernel
theorem dX6_needsOf_83 : decode cX6_needsOf 83 = .ok (.iconst 5, 1) := by decide +kernel
theorem dX6_needsOf_84 : decode cX6_needsOf 84 = .ok (.iload_n 1, 1) := by decide +kernel
theorem dX6_needsOf_85 : decode cX6_needsOf 85 = .ok (.imul, 1) := by decide +kernel
theorem dX6_needsOf_86 : decode cX6_needsOf 86 = .ok (.iaload, 1) := by decide +kernel
theorem dX6_needsOf_87 : decode cX6_needsOf 87 = .ok (.iadd, 1) := by decide +kernel
theorem dX6_needsOf_88 : decode cX6_needsOf 88 = .ok (.iconst 1, 1) := by decide +kernel
theorem dX6_needsOf_89 : decode cX6_needsOf 89 = .ok (.bipush 99, 2) := by decide +kernel
theorem dX6_needsOf_91 : decode cX6_needsOf 91 = .ok (.invokestatic 359, 3) := by decide +kernel
theorem dX6_needsOf_94 : decode cX6_needsOf 94 = .ok (.ireturn, 1) := by decide +kernel
theorem dX6_firstEmpty_0 : decode cX6_firstEmpty 0 = .ok (.iconst 0, 1) := by decide +kernel
theorem dX6_firstEmpty_1 : decode cX6_firstEmpty 1 = .ok (.istore_n 2, 1) := by decide +kernel
theorem dX6_firstEmpty_2 : decode cX6_firstEmpty 2 = .ok (.iload_n 2, 1) := by decide +kernel
theorem dX6_firstEmpty_3 : decode cX6_firstEmpty 3 = .ok (.bipush 64, 2) := by decide +kernel
theorem dX6_firstEmpty_5 : decode cX6_firstEmpty 5 = .ok (.if_icmp .ge 37, 3) := by decide +kernel
theorem dX6_firstEmpty_8 : decode cX6_firstEmpty 8 = .ok (.aload_n 0, 1) := by decide +kernel
theorem dX6_firstEmpty_9 : decode cX6_firstEmpty 9 = .ok (.getfield 109, 3) := by decide +kernel
theorem dX6_firstEmpty_12 : decode cX6_firstEmpty 12 = .ok (.iload_n 2, 1) := by decide +kernel
theorem dX6_firstEmpty_13 : decode cX6_firstEmpty 13 = .ok (.invokestatic 124, 3) := by decide +kernel
theorem dX6_firstEmpty_16 : decode cX6_firstEmpty 16 = .ok (.ifCond .ne 20, 3) := by decide +kernel
theorem dX6_firstEmpty_19 : decode cX6_firstEmpty 19 = .ok (.iload_n 1, 1) := by decide +kernel
theorem dX6_firstEmpty_20 : decode cX6_firstEmpty 20 = .ok (.iconst (-1), 1) := by decide +kernel
theorem dX6_firstEmpty_21 : decode cX6_firstEmpty 21 = .ok (.if_icmp .eq 13, 3) := by decide +kernel
theorem dX6_firstEmpty_24 : decode cX6_firstEmpty 24 = .ok (.aload_n 0, 1) := by decide +kernel
theorem dX6_firstEmpty_25 : decode cX6_firstEmpty 25 = .ok (.getfield 23, 3) := by decide +kernel
theorem dX6_firstEmpty_28 : decode cX6_firstEmpty 28 = .ok (.iload_n 2, 1) := by decide +kernel
theorem dX6_firstEmpty_29 : decode cX6_firstEmpty 29 = .ok (.iaload, 1) := by decide +kernel
theorem dX6_firstEmpty_30 : decode cX6_firstEmpty 30 = .ok (.iload_n 1, 1) := by decide +kernel
theorem dX6_firstEmpty_31 : decode cX6_firstEmpty 31 = .ok (.if_icmp .ne 5, 3) := by decide +kernel
theorem dX6_firstEmpty_34 : decode cX6_firstEmpty 34 = .ok (.iload_n 2, 1) := by decide +kernel
theorem dX6_firstEmpty_35 : decode cX6_firstEmpty 35 = .ok (.ireturn, 1) := by decide +kernel
theorem dX6_firstEmpty_36 : decode cX6_firstEmpty 36 = .ok (.iinc 2 1, 3) := by decide +kernel
theorem dX6_firstEmpty_39 : decode cX6_firstEmpty 39 = .ok (.goto (-37), 3) := by decide +kernel
theorem dX6_firstEmpty_42 : decode cX6_firstEmpty 42 = .ok (.iconst (-1), 1) := by decide +kernel
theorem dX6_firstEmpty_43 : decode cX6_firstEmpty 43 = .ok (.ireturn, 1) := by decide +kernel
theorem dX6_givesOf_0 : decode cX6_givesOf 0 = .ok (.aload_n 0, 1) := by decide +kernel
theorem dX6_givesOf_1 : decode cX6_givesOf 1 = .ok (.getfield 29, 3) := by decide +kernel
theorem dX6_givesOf_4 : decode cX6_givesOf 4 = .ok (.iconst 5, 1) := by decide +kernel
theorem dX6_givesOf_5 : decode cX6_givesOf 5 = .ok (.iload_n 1, 1) := by decide +kernel
theorem dX6_givesOf_6 : decode cX6_givesOf 6 = .ok (.imul, 1) := by decide +kernel
theorem dX6_givesOf_7 : decode cX6_givesOf 7 = .ok (.iconst 4, 1) := by decide +kernel
theorem dX6_givesOf_8 : decode cX6_givesOf 8 = .ok (.iadd, 1) := by decide +kernel
theorem dX6_givesOf_9 : decode cX6_givesOf 9 = .ok (.iaload, 1) := by decide +kernel
theorem dX6_givesOf_10 : decode cX6_givesOf 10 = .ok (.istore_n 2, 1) := by decide +kernel
theorem dX6_givesOf_11 : decode cX6_givesOf 11 = .ok (.aload_n 0, 1) := by decide +kernel
theorem dX6_givesOf_12 : decode cX6_givesOf 12 = .ok (.getfield 29, 3) := by decide +kernel
theorem dX6_givesOf_15 : decode cX6_givesOf 15 = .ok (.iconst 5, 1) := by decide +kernel
theorem dX6_givesOf_16 : decode cX6_givesOf 16 = .ok (.iload_n 1, 1) := by decide +kernel
theorem dX6_givesOf_17 : decode cX6_givesOf 17 = .ok (.imul, 1) := by decide +kernel
theorem dX6_givesOf_18 : decode cX6_givesOf 18 = .ok (.iconst 1, 1) := by decide +kernel
theorem dX6_givesOf_19 : decode cX6_givesOf 19 = .ok (.iadd, 1) := by decide +kernel
theorem dX6_givesOf_20 : decode cX6_givesOf 20 = .ok (.iaload, 1) := by decide +kernel
theorem dX6_givesOf_21 : decode cX6_givesOf 21 = .ok (.istore_n 3, 1) := by decide +kernel
theorem dX6_givesOf_22 : decode cX6_givesOf 22 = .ok (.iload_n 2, 1) := by decide +kernel
theorem dX6_givesOf_23 : decode cX6_givesOf 23 = .ok (.iconst 1, 1) := by decide +kernel
theorem dX6_givesOf_24 : decode cX6_givesOf 24 = .ok (.if_icmp .eq 18, 3) := by decide +kernel
theorem dX6_givesOf_27 : decode cX6_givesOf 27 = .ok (.iload_n 2, 1) := by decide +kernel
theorem dX6_givesOf_28 : decode cX6_givesOf 28 = .ok (.iconst 3, 1) := by decide +kernel
theorem dX6_givesOf_29 : decode cX6_givesOf 29 = .ok (.if_icmp .ne 23, 3) := by decide +kernel
theorem dX6_givesOf_32 : decode cX6_givesOf 32 = .ok (.aload_n 0, 1) := by decide +kernel
theorem dX6_givesOf_33 : decode cX6_givesOf 33 = .ok (.getfield 106, 3) := by decide +kernel
theorem dX6_givesOf_36 : decode cX6_givesOf 36 = .ok (.iconst 2, 1) := by decide +kernel
theorem dX6_givesOf_37 : decode cX6_givesOf 37 = .ok (.irem, 1) := by decide +kernel
theorem dX6_givesOf_38 : decode cX6_givesOf 38 = .ok (.iconst 1, 1) := by decide +kernel
theorem dX6_givesOf_39 : decode cX6_givesOf 39 = .ok (.if_icmp .ne 13, 3) := by decide +kernel
theorem dX6_givesOf_42 : decode cX6_givesOf 42 = .ok (.aload_n 0, 1) := by decide +kernel
theorem dX6_givesOf_43 : decode cX6_givesOf 43 = .ok (.iconst 1, 1) := by decide +kernel
theorem dX6_givesOf_44 : decode cX6_givesOf 44 = .ok (.iload_n 1, 1) := by decide +kernel
theorem dX6_givesOf_45 : decode cX6_givesOf 45 = .ok (.invokevirtual 363, 3) := by decide +kernel
theorem dX6_givesOf_48 : decode cX6_givesOf 48 = .ok (.invokestatic 366, 3) := by decide +kernel
theorem dX6_givesOf_51 : decode cX6_givesOf 51 = .ok (.ireturn, 1) := by decide +kernel
theorem dX6_givesOf_52 : decode cX6_givesOf 52 = .ok (.aload_n 0, 1) := by decide +kernel
theorem dX6_givesOf_53 : decode cX6_givesOf 53 = .ok (.iconst (-1), 1) := by decide +kernel
theorem dX6_givesOf_54 : decode cX6_givesOf 54 = .ok (.invokevirtual 369, 3) := by decide +kernel
theorem dX6_givesOf_57 : decode cX6_givesOf 57 = .ok (.istore 4, 2) := by decide +kernel
theorem dX6_givesOf_59 : decode cX6_givesOf 59 = .ok (.iload_n 2, 1) := by decide +kernel
theorem dX6_givesOf_60 : decode cX6_givesOf 60 = .ok (.iconst 4, 1) := by decide +kernel
theorem dX6_givesOf_61 : decode cX6_givesOf 61 = .ok (.if_icmp .ne 17, 3) := by decide +kernel
theorem dX6_givesOf_64 : decode cX6_givesOf 64 = .ok (.iload 4, 2) := by decide +kernel
theorem dX6_givesOf_66 : decode cX6_givesOf 66 = .ok (.iconst (-1), 1) := by decide +kernel
theorem dX6_givesOf_67 : decode cX6_givesOf 67 = .ok (.if_icmp .eq 11, 3) := by decide +kernel
theorem dX6_givesOf_70 : decode cX6_givesOf 70 = .ok (.aload_n 0, 1) := by decide +kernel
theorem dX6_givesOf_71 : decode cX6_givesOf 71 = .ok (.getfield 23, 3) := by decide +kernel
theorem dX6_givesOf_74 : decode cX6_givesOf 74 = .ok (.iload 4, 2) := by decide +kernel
theorem dX6_givesOf_76 : decode cX6_givesOf 76 = .ok (.iaload, 1) := by decide +kernel
theorem dX6_givesOf_77 : decode cX6_givesOf 77 = .ok (.ireturn, 1) := by decide +kernel
theorem dX6_givesOf_78 : decode cX6_givesOf 78 = .ok (.iload_n 2, 1) := by decide +kernel
theorem dX6_givesOf_79 : decode cX6_givesOf 79 = .ok (.iconst 2, 1) := by decide +kernel
theorem dX6_givesOf_80 : decode cX6_givesOf 80 = .ok (.if_icmp .eq 8, 3) := by decide +kernel
theorem dX6_givesOf_83 : decode cX6_givesOf 83 = .ok (.iload_n 2, 1) := by decide +kernel
theorem dX6_givesOf_84 : decode cX6_givesOf 84 = .ok (.iconst 4, 1) := by decide +kernel
theorem dX6_givesOf_85 : decode cX6_givesOf 85 = .ok (.if_icmp .ne 9, 3) := by decide +kernel
theorem dX6_givesOf_88 : decode cX6_givesOf 88 = .ok (.iload_n 3, 1) := by decide +kernel
theorem dX6_givesOf_89 : decode cX6_givesOf 89 = .ok (.iconst 1, 1) := by decide +kernel
theorem dX6_givesOf_90 : decode cX6_givesOf 90 = .ok (.iadd, 1) := by decide +kernel
theorem dX6_givesOf_91 : decode cX6_givesOf 91 = .ok (.goto 20, 3) := by decide +kernel
theorem dX6_givesOf_94 : decode cX6_givesOf 94 = .ok (.iload_n 2, 1) := by decide +kernel
theorem dX6_givesOf_95 : decode cX6_givesOf 95 = .ok (.iconst 5, 1) := by decide +kernel
theorem dX6_givesOf_96 : decode cX6_givesOf 96 = .ok (.if_icmp .ne 14, 3) := by decide +kernel
theorem dX6_givesOf_99 : decode cX6_givesOf 99 = .ok (.aload_n 0, 1) := by decide +kernel
theorem dX6_givesOf_100 : decode cX6_givesOf 100 = .ok (.getfield 29, 3) := by decide +kernel
theorem dX6_givesOf_103 : decode cX6_givesOf 103 = .ok (.iconst 5, 1) := by decide +kernel
theorem dX6_givesOf_104 : decode cX6_givesOf 104 = .ok (.iload_n 1, 1) := by decide +kernel
theorem dX6_givesOf_105 : decode cX6_givesOf 105 = .ok (.imul, 1) := by decide +kernel
theorem dX6_givesOf_106 : decode cX6_givesOf 106 = .ok (.iaload, 1) := by decide +kernel
theorem dX6_givesOf_107 : decode cX6_givesOf 107 = .ok (.goto 4, 3) := by decide +kernel
theorem dX6_givesOf_110 : decode cX6_givesOf 110 = .ok (.iload_n 3, 1) := by decide +kernel
theorem dX6_givesOf_111 : decode cX6_givesOf 111 = .ok (.invokestatic 366, 3) := by decide +kernel
theorem dX6_givesOf_114 : decode cX6_givesOf 114 = .ok (.ireturn, 1) := by decide +kernel
theorem dX6_turnsOf_0 : decode cX6_turnsOf 0 = .ok (.aload_n 0, 1) := by decide +kernel
theorem dX6_turnsOf_1 : decode cX6_turnsOf 1 = .ok (.getfield 29, 3) := by decide +kernel
theorem dX6_turnsOf_4 : decode cX6_turnsOf 4 = .ok (.iconst 5, 1) := by decide +kernel
theorem dX6_turnsOf_5 : decode cX6_turnsOf 5 = .ok (.iload_n 1, 1) := by decide +kernel
theorem dX6_turnsOf_6 : decode cX6_turnsOf 6 = .ok (.imul, 1) := by decide +kernel
theorem dX6_turnsOf_7 : decode cX6_turnsOf 7 = .ok (.iconst 4, 1) := by decide +kernel
theorem dX6_turnsOf_8 : decode cX6_turnsOf 8 = .ok (.iadd, 1) := by decide +kernel
theorem dX6_turnsOf_9 : decode cX6_turnsOf 9 = .ok (.iaload, 1) := by decide +kernel
theorem dX6_turnsOf_10 : decode cX6_turnsOf 10 = .ok (.istore_n 2, 1) := by decide +kernel
theorem dX6_turnsOf_11 : decode cX6_turnsOf 11 = .ok (.aload_n 0, 1) := by decide +kernel
theorem dX6_turnsOf_12 : decode cX6_turnsOf 12 = .ok (.getfield 29, 3) := by decide +kernel
theorem dX6_turnsOf_15 : decode cX6_turnsOf 15 = .ok (.iconst 5, 1) := by decide +kernel
theorem dX6_turnsOf_16 : decode cX6_turnsOf 16 = .ok (.iload_n 1, 1) := by decide +kernel
theorem dX6_turnsOf_17 : decode cX6_turnsOf 17 = .ok (.imul, 1) := by decide +kernel
theorem dX6_turnsOf_18 : decode cX6_turnsOf 18 = .ok (.iconst 1, 1) := by decide +kernel
theorem dX6_turnsOf_19 : decode cX6_turnsOf 19 = .ok (.iadd, 1) := by decide +kernel
theorem dX6_turnsOf_20 : decode cX6_turnsOf 20 = .ok (.iaload, 1) := by decide +kernel
theorem dX6_turnsOf_21 : decode cX6_turnsOf 21 = .ok (.istore_n 3, 1) := by decide +kernel
theorem dX6_turnsOf_22 : decode cX6_turnsOf 22 = .ok (.iload_n 2, 1) := by decide +kernel
theorem dX6_turnsOf_23 : decode cX6_turnsOf 23 = .ok (.iconst 1, 1) := by decide +kernel
theorem dX6_turnsOf_24 : decode cX6_turnsOf 24 = .ok (.if_icmp .eq 8, 3) := by decide +kernel
theorem dX6_turnsOf_27 : decode cX6_turnsOf 27 = .ok (.iload_n 2, 1) := by decide +kernel
theorem dX6_turnsOf_28 : decode cX6_turnsOf 28 = .ok (.iconst 3, 1) := by decide +kernel
theorem dX6_turnsOf_29 : decode cX6_turnsOf 29 = .ok (.if_icmp .ne 26, 3) := by decide +kernel
theorem dX6_turnsOf_32 : decode cX6_turnsOf 32 = .ok (.iload_n 2, 1) := by decide +kernel
theorem dX6_turnsOf_33 : decode cX6_turnsOf 33 = .ok (.iconst 1, 1) := by decide +kernel
theorem dX6_turnsOf_34 : decode cX6_turnsOf 34 = .ok (.if_icmp .ne 7, 3) := by decide +kernel
theorem dX6_turnsOf_37 : decode cX6_turnsOf 37 = .ok (.iload_n 3, 1) := by decide +kernel
theorem dX6_turnsOf_38 : decode cX6_turnsOf 38 = .ok (.goto 13, 3) := by decide +kernel
theorem dX6_turnsOf_41 : decode cX6_turnsOf 41 = .ok (.iload_n 3, 1) := by decide +kernel
theorem dX6_turnsOf_42 : decode cX6_turnsOf 42 = .ok (.aload_n 0, 1) := by decide +kernel
theorem dX6_turnsOf_43 : decode cX6_turnsOf 43 = .ok (.getfield 29, 3) := by decide +kernel
theorem dX6_turnsOf_46 : decode cX6_turnsOf 46 = .ok (.iconst 5, 1) := by decide +kernel
theorem dX6_turnsOf_47 : decode cX6_turnsOf 47 = .ok (.iload_n 1, 1) := by decide +kernel
theorem dX6_turnsOf_48 : decode cX6_turnsOf 48 = .ok (.imul, 1) := by decide +kernel
theorem dX6_turnsOf_49 : decode cX6_turnsOf 49 = .ok (.iaload, 1) := by decide +kernel
theorem dX6_turnsOf_50 : decode cX6_turnsOf 50 = .ok (.iadd, 1) := by decide +kernel
theorem dX6_turnsOf_51 : decode cX6_turnsOf 51 = .ok (.invokestatic 366, 3) := by decide +kernel
theorem dX6_turnsOf_54 : decode cX6_turnsOf 54 = .ok (.ireturn, 1) := by decide +kernel
theorem dX6_turnsOf_55 : decode cX6_turnsOf 55 = .ok (.aload_n 0, 1) := by decide +kernel
theorem dX6_turnsOf_56 : decode cX6_turnsOf 56 = .ok (.iconst 2, 1) := by decide +kernel
theorem dX6_turnsOf_57 : decode cX6_turnsOf 57 = .ok (.iload_n 1, 1) := by decide +kernel
theorem dX6_turnsOf_58 : decode cX6_turnsOf 58 = .ok (.invokevirtual 363, 3) := by decide +kernel
theorem dX6_turnsOf_61 : decode cX6_turnsOf 61 = .ok (.istore 4, 2) := by decide +kernel
theorem dX6_turnsOf_63 : decode cX6_turnsOf 63 = .ok (.iload_n 2, 1) := by decide +kernel
theorem dX6_turnsOf_64 : decode cX6_turnsOf 64 = .ok (.ifCond .ne 8, 3) := by decide +kernel
theorem dX6_turnsOf_67 : decode cX6_turnsOf 67 = .ok (.iload 4, 2) := by decide +kernel
theorem dX6_turnsOf_69 : decode cX6_turnsOf 69 = .ok (.goto 26, 3) := by decide +kernel
theorem dX6_turnsOf_72 : decode cX6_turnsOf 72 = .ok (.iload_n 2, 1) := by decide +kernel
theorem dX6_turnsOf_73 : decode cX6_turnsOf 73 = .ok (.iconst 5, 1) := by decide +kernel
theorem dX6_turnsOf_74 : decode cX6_turnsOf 74 = .ok (.if_icmp .ne 17, 3) := by decide +kernel
theorem dX6_turnsOf_77 : decode cX6_turnsOf 77 = .ok (.iload 4, 2) := by decide +kernel
theorem dX6_turnsOf_79 : decode cX6_turnsOf 79 = .ok (.aload_n 0, 1) := by decide +kernel
theorem dX6_turnsOf_80 : decode cX6_turnsOf 80 = .ok (.getfield 29, 3) := by decide +kernel
theorem dX6_turnsOf_83 : decode cX6_turnsOf 83 = .ok (.iconst 5, 1) := by decide +kernel
theorem dX6_turnsOf_84 : decode cX6_turnsOf 84 = .ok (.iload_n 1, 1) := by decide +kernel
theorem dX6_turnsOf_85 : decode cX6_turnsOf 85 = .ok (.imul, 1) := by decide +kernel
theorem dX6_turnsOf_86 : decode cX6_turnsOf 86 = .ok (.iaload, 1) := by decide +kernel
theorem dX6_turnsOf_87 : decode cX6_turnsOf 87 = .ok (.isub, 1) := by decide +kernel
theorem dX6_turnsOf_88 : decode cX6_turnsOf 88 = .ok (.goto 7, 3) := by decide +kernel
theorem dX6_turnsOf_91 : decode cX6_turnsOf 91 = .ok (.iload 4, 2) := by decide +kernel
theorem dX6_turnsOf_93 : decode cX6_turnsOf 93 = .ok (.iload_n 3, 1) := by decide +kernel
theorem dX6_turnsOf_94 : decode cX6_turnsOf 94 = .ok (.iadd, 1) := by decide +kernel
theorem dX6_turnsOf_95 : decode cX6_turnsOf 95 = .ok (.invokestatic 366, 3) := by decide +kernel
theorem dX6_turnsOf_98 : decode cX6_turnsOf 98 = .ok (.ireturn, 1) := by decide +kernel
theorem dX6_goesIn_0 : decode cX6_goesIn 0 = .ok (.aload_n 0, 1) := by decide +kernel
theorem dX6_goesIn_1 : decode cX6_goesIn 1 = .ok (.iload_n 1, 1) := by decide +kernel
theorem dX6_goesIn_2 : decode cX6_goesIn 2 = .ok (.invokevirtual 369, 3) := by decide +kernel
theorem dX6_goesIn_5 : decode cX6_goesIn 5 = .ok (.istore_n 2, 1) := by decide +kernel
theorem dX6_goesIn_6 : decode cX6_goesIn 6 = .ok (.aload_n 0, 1) := by decide +kernel
theorem dX6_goesIn_7 : decode cX6_goesIn 7 = .ok (.dup, 1) := by decide +kernel
theorem dX6_goesIn_8 : decode cX6_goesIn 8 = .ok (.getfield 109, 3) := by decide +kernel
theorem dX6_goesIn_11 : decode cX6_goesIn 11 = .ok (.iload_n 2, 1) := by decide +kernel
theorem dX6_goesIn_12 : decode cX6_goesIn 12 = .ok (.iconst (-1), 1) := by decide +kernel
theorem dX6_goesIn_13 : decode cX6_goesIn 13 = .ok (.if_icmp .ne 7, 3) := by decide +kernel
theorem dX6_goesIn_16 : decode cX6_goesIn 16 = .ok (.lconst 0, 1) := by decide +kernel
theorem dX6_goesIn_17 : decode cX6_goesIn 17 = .ok (.goto 6, 3) := by decide +kernel
theorem dX6_goesIn_20 : decode cX6_goesIn 20 = .ok (.lconst 1, 1) := by decide +kernel
theorem dX6_goesIn_21 : decode cX6_goesIn 21 = .ok (.iload_n 2, 1) := by decide +kernel
theorem dX6_goesIn_22 : decode cX6_goesIn 22 = .ok (.lshl, 1) := by decide +kernel
theorem dX6_goesIn_23 : decode cX6_goesIn 23 = .ok (.lor, 1) := by decide +kernel
theorem dX6_goesIn_24 : decode cX6_goesIn 24 = .ok (.putfield 109, 3) := by decide +kernel
theorem dX6_goesIn_27 : decode cX6_goesIn 27 = .ok (.aload_n 0, 1) := by decide +kernel
theorem dX6_goesIn_28 : decode cX6_goesIn 28 = .ok (.getfield 26, 3) := by decide +kernel
theorem dX6_goesIn_31 : decode cX6_goesIn 31 = .ok (.iload_n 1, 1) := by decide +kernel
theorem dX6_goesIn_32 : decode cX6_goesIn 32 = .ok (.aload_n 0, 1) := by decide +kernel
theorem dX6_goesIn_33 : decode cX6_goesIn 33 = .ok (.getfield 26, 3) := by decide +kernel
theorem dX6_goesIn_36 : decode cX6_goesIn 36 = .ok (.iload_n 1, 1) := by decide +kernel
theorem dX6_goesIn_37 : decode cX6_goesIn 37 = .ok (.iaload, 1) := by decide +kernel
theorem dX6_goesIn_38 : decode cX6_goesIn 38 = .ok (.iload_n 2, 1) := by decide +kernel
theorem dX6_goesIn_39 : decode cX6_goesIn 39 = .ok (.iconst (-1), 1) := by decide +kernel
theorem dX6_goesIn_40 : decode cX6_goesIn 40 = .ok (.if_icmp .ne 7, 3) := by decide +kernel
theorem dX6_goesIn_43 : decode cX6_goesIn 43 = .ok (.iconst 1, 1) := by decide +kernel
theorem dX6_goesIn_44 : decode cX6_goesIn 44 = .ok (.goto 4, 3) := by decide +kernel
theorem dX6_goesIn_47 : decode cX6_goesIn 47 = .ok (.iconst 0, 1) := by decide +kernel
theorem dX6_goesIn_48 : decode cX6_goesIn 48 = .ok (.iadd, 1) := by decide +kernel
theorem dX6_goesIn_49 : decode cX6_goesIn 49 = .ok (.iconst 0, 1) := by decide +kernel
theorem dX6_goesIn_50 : decode cX6_goesIn 50 = .ok (.bipush 99, 2) := by decide +kernel
theorem dX6_goesIn_52 : decode cX6_goesIn 52 = .ok (.invokestatic 359, 3) := by decide +kernel
theorem dX6_goesIn_55 : decode cX6_goesIn 55 = .ok (.iastore, 1) := by decide +kernel
theorem dX6_goesIn_56 : decode cX6_goesIn 56 = .ok (.return_, 1) := by decide +kernel
theorem dX6_looks_0 : decode cX6_looks 0 = .ok (.iconst 5, 1) := by decide +kernel
theorem dX6_looks_1 : decode cX6_looks 1 = .ok (.iload_n 1, 1) := by decide +kernel
theorem dX6_looks_2 : decode cX6_looks 2 = .ok (.imul, 1) := by decide +kernel
theorem dX6_looks_3 : decode cX6_looks 3 = .ok (.istore_n 2, 1) := by decide +kernel
theorem dX6_looks_4 : decode cX6_looks 4 = .ok (.aload_n 0, 1) := by decide +kernel
theorem dX6_looks_5 : decode cX6_looks 5 = .ok (.getfield 29, 3) := by decide +kernel
theorem dX6_looks_8 : decode cX6_looks 8 = .ok (.iload_n 2, 1) := by decide +kernel
theorem dX6_looks_9 : decode cX6_looks 9 = .ok (.iconst 2, 1) := by decide +kernel
theorem dX6_looks_10 : decode cX6_looks 10 = .ok (.iadd, 1) := by decide +kernel
theorem dX6_looks_11 : decode cX6_looks 11 = .ok (.aload_n 0, 1) := by decide +kernel
theorem dX6_looks_12 : decode cX6_looks 12 = .ok (.getfield 29, 3) := by decide +kernel
theorem dX6_looks_15 : decode cX6_looks 15 = .ok (.iload_n 2, 1) := by decide +kernel
theorem dX6_looks_16 : decode cX6_looks 16 = .ok (.iconst 2, 1) := by decide +kernel
theorem dX6_looks_17 : decode cX6_looks 17 = .ok (.iadd, 1) := by decide +kernel
theorem dX6_looks_18 : decode cX6_looks 18 = .ok (.iaload, 1) := by decide +kernel
theorem dX6_looks_19 : decode cX6_looks 19 = .ok (.iconst 1, 1) := by decide +kernel
theorem dX6_looks_20 : decode cX6_looks 20 = .ok (.iadd, 1) := by decide +kernel
theorem dX6_looks_21 : decode cX6_looks 21 = .ok (.iconst 0, 1) := by decide +kernel
theorem dX6_looks_22 : decode cX6_looks 22 = .ok (.bipush 99, 2) := by decide +kernel
theorem dX6_looks_24 : decode cX6_looks 24 = .ok (.invokestatic 359, 3) := by decide +kernel
theorem dX6_looks_27 : decode cX6_looks 27 = .ok (.iastore, 1) := by decide +kernel
theorem dX6_looks_28 : decode cX6_looks 28 = .ok (.aload_n 0, 1) := by decide +kernel
theorem dX6_looks_29 : decode cX6_looks 29 = .ok (.getfield 29, 3) := by decide +kernel
theorem dX6_looks_32 : decode cX6_looks 32 = .ok (.iload_n 2, 1) := by decide +kernel
theorem dX6_looks_33 : decode cX6_looks 33 = .ok (.iconst 2, 1) := by decide +kernel
theorem dX6_looks_34 : decode cX6_looks 34 = .ok (.iadd, 1) := by decide +kernel
theorem dX6_looks_35 : decode cX6_looks 35 = .ok (.iaload, 1) := by decide +kernel
theorem dX6_looks_36 : decode cX6_looks 36 = .ok (.aload_n 0, 1) := by decide +kernel
theorem dX6_looks_37 : decode cX6_looks 37 = .ok (.iload_n 1, 1) := by decide +kernel
theorem dX6_looks_38 : decode cX6_looks 38 = .ok (.invokevirtual 128, 3) := by decide +kernel
theorem dX6_looks_41 : decode cX6_looks 41 = .ok (.if_icmp .lt 72, 3) := by decide +kernel
theorem dX6_looks_44 : decode cX6_looks 44 = .ok (.aload_n 0, 1) := by decide +kernel
theorem dX6_looks_45 : decode cX6_looks 45 = .ok (.iload_n 1, 1) := by decide +kernel
theorem dX6_looks_46 : decode cX6_looks 46 = .ok (.invokevirtual 131, 3) := by decide +kernel
theorem dX6_looks_49 : decode cX6_looks 49 = .ok (.istore_n 3, 1) := by decide +kernel
theorem dX6_looks_50 : decode cX6_looks 50 = .ok (.aload_n 0, 1) := by decide +kernel
theorem dX6_looks_51 : decode cX6_looks 51 = .ok (.iload_n 1, 1) := by decide +kernel
theorem dX6_looks_52 : decode cX6_looks 52 = .ok (.invokevirtual 134, 3) := by decide +kernel
theorem dX6_looks_55 : decode cX6_looks 55 = .ok (.istore 4, 2) := by decide +kernel
theorem dX6_looks_57 : decode cX6_looks 57 = .ok (.aload_n 0, 1) := by decide +kernel
theorem dX6_looks_58 : decode cX6_looks 58 = .ok (.getfield 29, 3) := by decide +kernel
theorem dX6_looks_61 : decode cX6_looks 61 = .ok (.iload_n 2, 1) := by decide +kernel
theorem dX6_looks_62 : decode cX6_looks 62 = .ok (.iconst 3, 1) := by decide +kernel
theorem dX6_looks_63 : decode cX6_looks 63 = .ok (.iadd, 1) := by decide +kernel
theorem dX6_looks_64 : decode cX6_looks 64 = .ok (.aload_n 0, 1) := by decide +kernel
theorem dX6_looks_65 : decode cX6_looks 65 = .ok (.getfield 29, 3) := by decide +kernel
theorem dX6_looks_68 : decode cX6_looks 68 = .ok (.iload_n 2, 1) := by decide +kernel
theorem dX6_looks_69 : decode cX6_looks 69 = .ok (.iconst 3, 1) := by decide +kernel
theorem dX6_looks_70 : decode cX6_looks 70 = .ok (.iadd, 1) := by decide +kernel
theorem dX6_looks_71 : decode cX6_looks 71 = .ok (.iaload, 1) := by decide +kernel
theorem dX6_looks_72 : decode cX6_looks 72 = .ok (.iconst 1, 1) := by decide +kernel
theorem dX6_looks_73 : decode cX6_looks 73 = .ok (.iadd, 1) := by decide +kernel
theorem dX6_looks_74 : decode cX6_looks 74 = .ok (.iconst 0, 1) := by decide +kernel
theorem dX6_looks_75 : decode cX6_looks 75 = .ok (.bipush 99, 2) := by decide +kernel
theorem dX6_looks_77 : decode cX6_looks 77 = .ok (.invokestatic 359, 3) := by decide +kernel
theorem dX6_looks_80 : decode cX6_looks 80 = .ok (.iastore, 1) := by decide +kernel
theorem dX6_looks_81 : decode cX6_looks 81 = .ok (.iload_n 1, 1) := by decide +kernel
theorem dX6_looks_82 : decode cX6_looks 82 = .ok (.aload_n 0, 1) := by decide +kernel
theorem dX6_looks_83 : decode cX6_looks 83 = .ok (.getfield 32, 3) := by decide +kernel
theorem dX6_looks_86 : decode cX6_looks 86 = .ok (.if_icmp .eq 8, 3) := by decide +kernel
theorem dX6_looks_89 : decode cX6_looks 89 = .ok (.aload_n 0, 1) := by decide +kernel
theorem dX6_looks_90 : decode cX6_looks 90 = .ok (.iload_n 3, 1) := by decide +kernel
theorem dX6_looks_91 : decode cX6_looks 91 = .ok (.invokevirtual 372, 3) := by decide +kernel
theorem dX6_looks_94 : decode cX6_looks 94 = .ok (.aload_n 0, 1) := by decide +kernel
theorem dX6_looks_95 : decode cX6_looks 95 = .ok (.getfield 29, 3) := by decide +kernel
theorem dX6_looks_98 : decode cX6_looks 98 = .ok (.iload_n 2, 1) := by decide +kernel
theorem dX6_looks_99 : decode cX6_looks 99 = .ok (.iconst 1, 1) := by decide +kernel
theorem dX6_looks_100 : decode cX6_looks 100 = .ok (.iadd, 1) := by decide +kernel
theorem dX6_looks_101 : decode cX6_looks 101 = .ok (.iload 4, 2) := by decide +kernel
theorem dX6_looks_103 : decode cX6_looks 103 = .ok (.iastore, 1) := by decide +kernel
theorem dX6_looks_104 : decode cX6_looks 104 = .ok (.aload_n 0, 1) := by decide +kernel
theorem dX6_looks_105 : decode cX6_looks 105 = .ok (.getfield 29, 3) := by decide +kernel
theorem dX6_looks_108 : decode cX6_looks 108 = .ok (.iload_n 2, 1) := by decide +kernel
theorem dX6_looks_109 : decode cX6_looks 109 = .ok (.iconst 2, 1) := by decide +kernel
theorem dX6_looks_110 : decode cX6_looks 110 = .ok (.iadd, 1) := by decide +kernel
theorem dX6_looks_111 : decode cX6_looks 111 = .ok (.iconst 0, 1) := by decide +kernel
theorem dX6_looks_112 : decode cX6_looks 112 = .ok (.iastore, 1) := by decide +kernel
theorem dX6_looks_113 : decode cX6_looks 113 = .ok (.return_, 1) := by decide +kernel
theorem dX6_passes_0 : decode cX6_passes 0 = .ok (.iconst 0, 1) := by decide +kernel
theorem dX6_passes_1 : decode cX6_passes 1 = .ok (.istore_n 1, 1) := by decide +kernel
theorem dX6_passes_2 : decode cX6_passes 2 = .ok (.iload_n 1, 1) := by decide +kernel
theorem dX6_passes_3 : decode cX6_passes 3 = .ok (.aload_n 0, 1) := by decide +kernel
theorem dX6_passes_4 : decode cX6_passes 4 = .ok (.getfield 73, 3) := by decide +kernel
theorem dX6_passes_7 : decode cX6_passes 7 = .ok (.if_icmp .ge 14, 3) := by decide +kernel
theorem dX6_passes_10 : decode cX6_passes 10 = .ok (.aload_n 0, 1) := by decide +kernel
theorem dX6_passes_11 : decode cX6_passes 11 = .ok (.iload_n 1, 1) := by decide +kernel
theorem dX6_passes_12 : decode cX6_passes 12 = .ok (.invokevirtual 376, 3) := by decide +kernel
theorem dX6_passes_15 : decode cX6_passes 15 = .ok (.iinc 1 1, 3) := by decide +kernel
theorem dX6_passes_18 : decode cX6_passes 18 = .ok (.goto (-16), 3) := by decide +kernel
theorem dX6_passes_21 : decode cX6_passes 21 = .ok (.aload_n 0, 1) := by decide +kernel
theorem dX6_passes_22 : decode cX6_passes 22 = .ok (.dup, 1) := by decide +kernel
theorem dX6_passes_23 : decode cX6_passes 23 = .ok (.getfield 106, 3) := by decide +kernel
theorem dX6_passes_26 : decode cX6_passes 26 = .ok (.iconst 1, 1) := by decide +kernel
theorem dX6_passes_27 : decode cX6_passes 27 = .ok (.iadd, 1) := by decide +kernel
theorem dX6_passes_28 : decode cX6_passes 28 = .ok (.putfield 106, 3) := by decide +kernel
theorem dX6_passes_31 : decode cX6_passes 31 = .ok (.return_, 1) := by decide +kernel
theorem dX6_day_0 : decode cX6_day 0 = .ok (.aload_n 0, 1) := by decide +kernel
theorem dX6_day_1 : decode cX6_day 1 = .ok (.getfield 106, 3) := by decide +kernel
theorem dX6_day_4 : decode cX6_day 4 = .ok (.sipush 999, 3) := by decide +kernel
theorem dX6_day_7 : decode cX6_day 7 = .ok (.if_icmp .ne 6, 3) := by decide +kernel
theorem dX6_day_10 : decode cX6_day 10 = .ok (.bipush (-3), 2) := by decide +kernel
theorem dX6_day_12 : decode cX6_day 12 = .ok (.ireturn, 1) := by decide +kernel
theorem dX6_day_13 : decode cX6_day 13 = .ok (.aload_n 0, 1) := by decide +kernel
theorem dX6_day_14 : decode cX6_day 14 = .ok (.invokevirtual 379, 3) := by decide +kernel
theorem dX6_day_17 : decode cX6_day 17 = .ok (.aload_n 0, 1) := by decide +kernel
theorem dX6_day_18 : decode cX6_day 18 = .ok (.getfield 109, 3) := by decide +kernel
theorem dX6_day_21 : decode cX6_day 21 = .ok (.invokestatic 352, 3) := by decide +kernel
theorem dX6_day_24 : decode cX6_day 24 = .ok (.ireturn, 1) := by decide +kernel
theorem dX6_laysAside_0 : decode cX6_laysAside 0 = .ok (.iconst 0, 1) := by decide +kernel
theorem dX6_laysAside_1 : decode cX6_laysAside 1 = .ok (.istore_n 1, 1) := by decide +kernel
theorem dX6_laysAside_2 : decode cX6_laysAside 2 = .ok (.iload_n 1, 1) := by decide +kernel
theorem dX6_laysAside_3 : decode cX6_laysAside 3 = .ok (.bipush 25, 2) := by decide +kernel
theorem dX6_laysAside_5 : decode cX6_laysAside 5 = .ok (.if_icmp .ge 21, 3) := by decide +kernel
theorem dX6_laysAside_8 : decode cX6_laysAside 8 = .ok (.aload_n 0, 1) := by decide +kernel
theorem dX6_laysAside_9 : decode cX6_laysAside 9 = .ok (.getfield 35, 3) := by decide +kernel
theorem dX6_laysAside_12 : decode cX6_laysAside 12 = .ok (.iload_n 1, 1) := by decide +kernel
theorem dX6_laysAside_13 : decode cX6_laysAside 13 = .ok (.aload_n 0, 1) := by decide +kernel
theorem dX6_laysAside_14 : decode cX6_laysAside 14 = .ok (.getfield 29, 3) := by decide +kernel
theorem dX6_laysAside_17 : decode cX6_laysAside 17 = .ok (.iload_n 1, 1) := by decide +kernel
theorem dX6_laysAside_18 : decode cX6_laysAside 18 = .ok (.iaload, 1) := by decide +kernel
theorem dX6_laysAside_19 : decode cX6_laysAside 19 = .ok (.iastore, 1) := by decide +kernel
theorem dX6_laysAside_20 : decode cX6_laysAside 20 = .ok (.iinc 1 1, 3) := by decide +kernel
theorem dX6_laysAside_23 : decode cX6_laysAside 23 = .ok (.goto (-21), 3) := by decide +kernel
theorem dX6_laysAside_26 : decode cX6_laysAside 26 = .ok (.iconst 0, 1) := by decide +kernel
theorem dX6_laysAside_27 : decode cX6_laysAside 27 = .ok (.istore_n 1, 1) := by decide +kernel
theorem dX6_laysAside_28 : decode cX6_laysAside 28 = .ok (.iload_n 1, 1) := by decide +kernel
theorem dX6_laysAside_29 : decode cX6_laysAside 29 = .ok (.iconst 4, 1) := by decide +kernel
theorem dX6_laysAside_30 : decode cX6_laysAside 30 = .ok (.if_icmp .ge 24, 3) := by decide +kernel
theorem dX6_laysAside_33 : decode cX6_laysAside 33 = .ok (.aload_n 0, 1) := by decide +kernel
theorem dX6_laysAside_34 : decode cX6_laysAside 34 = .ok (.getfield 35, 3) := by decide +kernel
theorem dX6_laysAside_37 : decode cX6_laysAside 37 = .ok (.bipush 25, 2) := by decide +kernel
theorem dX6_laysAside_39 : decode cX6_laysAside 39 = .ok (.iload_n 1, 1) := by decide +kernel
theorem dX6_laysAside_40 : decode cX6_laysAside 40 = .ok (.iadd, 1) := by decide +kernel
theorem dX6_laysAside_41 : decode cX6_laysAside 41 = .ok (.aload_n 0, 1) := by decide +kernel
theorem dX6_laysAside_42 : decode cX6_laysAside 42 = .ok (.getfield 26, 3) := by decide +kernel
theorem dX6_laysAside_45 : decode cX6_laysAside 45 = .ok (.iload_n 1, 1) := by decide +kernel
theorem dX6_laysAside_46 : decode cX6_laysAside 46 = .ok (.iaload, 1) := by decide +kernel
theorem dX6_laysAside_47 : decode cX6_laysAside 47 = .ok (.iastore, 1) := by decide +kernel
theorem dX6_laysAside_48 : decode cX6_laysAside 48 = .ok (.iinc 1 1, 3) := by decide +kernel
theorem dX6_laysAside_51 : decode cX6_laysAside 51 = .ok (.goto (-23), 3) := by decide +kernel
theorem dX6_laysAside_54 : decode cX6_laysAside 54 = .ok (.aload_n 0, 1) := by decide +kernel
theorem dX6_laysAside_55 : decode cX6_laysAside 55 = .ok (.getfield 35, 3) := by decide +kernel
theorem dX6_laysAside_58 : decode cX6_laysAside 58 = .ok (.bipush 29, 2) := by decide +kernel
theorem dX6_laysAside_60 : decode cX6_laysAside 60 = .ok (.aload_n 0, 1) := by decide +kernel
theorem dX6_laysAside_61 : decode cX6_laysAside 61 = .ok (.getfield 106, 3) := by decide +kernel
theorem dX6_laysAside_64 : decode cX6_laysAside 64 = .ok (.iastore, 1) := by decide +kernel
theorem dX6_laysAside_65 : decode cX6_laysAside 65 = .ok (.aload_n 0, 1) := by decide +kernel
theorem dX6_laysAside_66 : decode cX6_laysAside 66 = .ok (.aload_n 0, 1) := by decide +kernel
theorem dX6_laysAside_67 : decode cX6_laysAside 67 = .ok (.getfield 109, 3) := by decide +kernel
theorem dX6_laysAside_70 : decode cX6_laysAside 70 = .ok (.putfield 382, 3) := by decide +kernel
theorem dX6_laysAside_73 : decode cX6_laysAside 73 = .ok (.return_, 1) := by decide +kernel
theorem dX6_laysBack_0 : decode cX6_laysBack 0 = .ok (.iconst 0, 1) := by decide +kernel
theorem dX6_laysBack_1 : decode cX6_laysBack 1 = .ok (.istore_n 1, 1) := by decide +kernel
theorem dX6_laysBack_2 : decode cX6_laysBack 2 = .ok (.iload_n 1, 1) := by decide +kernel
theorem dX6_laysBack_3 : decode cX6_laysBack 3 = .ok (.bipush 25, 2) := by decide +kernel
theorem dX6_laysBack_5 : decode cX6_laysBack 5 = .ok (.if_icmp .ge 21, 3) := by decide +kernel
theorem dX6_laysBack_8 : decode cX6_laysBack 8 = .ok (.aload_n 0, 1) := by decide +kernel
theorem dX6_laysBack_9 : decode cX6_laysBack 9 = .ok (.getfield 29, 3) := by decide +kernel
theorem dX6_laysBack_12 : decode cX6_laysBack 12 = .ok (.iload_n 1, 1) := by decide +kernel
theorem dX6_laysBack_13 : decode cX6_laysBack 13 = .ok (.aload_n 0, 1) := by decide +kernel
theorem dX6_laysBack_14 : decode cX6_laysBack 14 = .ok (.getfield 35, 3) := by decide +kernel
theorem dX6_laysBack_17 : decode cX6_laysBack 17 = .ok (.iload_n 1, 1) := by decide +kernel
theorem dX6_laysBack_18 : decode cX6_laysBack 18 = .ok (.iaload, 1) := by decide +kernel
theorem dX6_laysBack_19 : decode cX6_laysBack 19 = .ok (.iastore, 1) := by decide +kernel
theorem dX6_laysBack_20 : decode cX6_laysBack 20 = .ok (.iinc 1 1, 3) := by decide +kernel
theorem dX6_laysBack_23 : decode cX6_laysBack 23 = .ok (.goto (-21), 3) := by decide +kernel
theorem dX6_laysBack_26 : decode cX6_laysBack 26 = .ok (.iconst 0, 1) := by decide +kernel
theorem dX6_laysBack_27 : decode cX6_laysBack 27 = .ok (.istore_n 1, 1) := by decide +kernel
theorem dX6_laysBack_28 : decode cX6_laysBack 28 = .ok (.iload_n 1, 1) := by decide +kernel
theorem dX6_laysBack_29 : decode cX6_laysBack 29 = .ok (.iconst 4, 1) := by decide +kernel
theorem dX6_laysBack_30 : decode cX6_laysBack 30 = .ok (.if_icmp .ge 24, 3) := by decide +kernel
theorem dX6_laysBack_33 : decode cX6_laysBack 33 = .ok (.aload_n 0, 1) := by decide +kernel
theorem dX6_laysBack_34 : decode cX6_laysBack 34 = .ok (.getfield 26, 3) := by decide +kernel
theorem dX6_laysBack_37 : decode cX6_laysBack 37 = .ok (.iload_n 1, 1) := by decide +kernel
theorem dX6_laysBack_38 : decode cX6_laysBack 38 = .ok (.aload_n 0, 1) := by decide +kernel
theorem dX6_laysBack_39 : decode cX6_laysBack 39 = .ok (.getfield 35, 3) := by decide +kernel
theorem dX6_laysBack_42 : decode cX6_laysBack 42 = .ok (.bipush 25, 2) := by decide +kernel
theorem dX6_laysBack_44 : decode cX6_laysBack 44 = .ok (.iload_n 1, 1) := by decide +kernel
theorem dX6_laysBack_45 : decode cX6_laysBack 45 = .ok (.iadd, 1) := by decide +kernel
theorem dX6_laysBack_46 : decode cX6_laysBack 46 = .ok (.iaload, 1) := by decide +kernel
theorem dX6_laysBack_47 : decode cX6_laysBack 47 = .ok (.iastore, 1) := by decide +kernel
theorem dX6_laysBack_48 : decode cX6_laysBack 48 = .ok (.iinc 1 1, 3) := by decide +kernel
theorem dX6_laysBack_51 : decode cX6_laysBack 51 = .ok (.goto (-23), 3) := by decide +kernel
theorem dX6_laysBack_54 : decode cX6_laysBack 54 = .ok (.aload_n 0, 1) := by decide +kernel
theorem dX6_laysBack_55 : decode cX6_laysBack 55 = .ok (.aload_n 0, 1) := by decide +kernel
theorem dX6_laysBack_56 : decode cX6_laysBack 56 = .ok (.getfield 35, 3) := by decide +kernel
theorem dX6_laysBack_59 : decode cX6_laysBack 59 = .ok (.bipush 29, 2) := by decide +kernel
theorem dX6_laysBack_61 : decode cX6_laysBack 61 = .ok (.iaload, 1) := by decide +kernel
theorem dX6_laysBack_62 : decode cX6_laysBack 62 = .ok (.putfield 106, 3) := by decide +kernel
theorem dX6_laysBack_65 : decode cX6_laysBack 65 = .ok (.aload_n 0, 1) := by decide +kernel
theorem dX6_laysBack_66 : decode cX6_laysBack 66 = .ok (.aload_n 0, 1) := by decide +kernel
theorem dX6_laysBack_67 : decode cX6_laysBack 67 = .ok (.getfield 382, 3) := by decide +kernel
theorem dX6_laysBack_70 : decode cX6_laysBack 70 = .ok (.putfield 109, 3) := by decide +kernel
theorem dX6_laysBack_73 : decode cX6_laysBack 73 = .ok (.return_, 1) := by decide +kernel
theorem dX6_goes_0 : decode cX6_goes 0 = .ok (.iconst 0, 1) := by decide +kernel
theorem dX6_goes_1 : decode cX6_goes 1 = .ok (.istore_n 2, 1) := by decide +kernel
theorem dX6_goes_2 : decode cX6_goes 2 = .ok (.iload_n 2, 1) := by decide +kernel
theorem dX6_goes_3 : decode cX6_goes 3 = .ok (.iload_n 1, 1) := by decide +kernel
theorem dX6_goes_4 : decode cX6_goes 4 = .ok (.if_icmp .ge 13, 3) := by decide +kernel
theorem dX6_goes_7 : decode cX6_goes 7 = .ok (.aload_n 0, 1) := by decide +kernel
theorem dX6_goes_8 : decode cX6_goes 8 = .ok (.invokevirtual 379, 3) := by decide +kernel
theorem dX6_goes_11 : decode cX6_goes 11 = .ok (.iinc 2 1, 3) := by decide +kernel
theorem dX6_goes_14 : decode cX6_goes 14 = .ok (.goto (-12), 3) := by decide +kernel
theorem dX6_goes_17 : decode cX6_goes 17 = .ok (.return_, 1) := by decide +kernel
theorem dX6_filledBehind_0 : decode cX6_filledBehind 0 = .ok (.aload_n 0, 1) := by decide +kernel
theorem dX6_filledBehind_1 : decode cX6_filledBehind 1 = .ok (.invokevirtual 385, 3) := by decide +kernel
theorem dX6_filledBehind_4 : decode cX6_filledBehind 4 = .ok (.aload_n 0, 1) := by decide +kernel
theorem dX6_filledBehind_5 : decode cX6_filledBehind 5 = .ok (.iload_n 1, 1) := by decide +kernel
theorem dX6_filledBehind_6 : decode cX6_filledBehind 6 = .ok (.invokevirtual 388, 3) := by decide +kernel
theorem dX6_filledBehind_9 : decode cX6_filledBehind 9 = .ok (.aload_n 0, 1) := by decide +kernel
theorem dX6_filledBehind_10 : decode cX6_filledBehind 10 = .ok (.getfield 109, 3) := by decide +kernel
theorem dX6_filledBehind_13 : decode cX6_filledBehind 13 = .ok (.lstore_n 2, 1) := by decide +kernel
theorem dX6_filledBehind_14 : decode cX6_filledBehind 14 = .ok (.aload_n 0, 1) := by decide +kernel
theorem dX6_filledBehind_15 : decode cX6_filledBehind 15 = .ok (.invokevirtual 391, 3) := by decide +kernel
theorem dX6_filledBehind_18 : decode cX6_filledBehind 18 = .ok (.lload_n 2, 1) := by decide +kernel
theorem dX6_filledBehind_19 : decode cX6_filledBehind 19 = .ok (.lreturn, 1) := by decide +kernel
theorem dX6_run_0 : decode cX6_run 0 = .ok (.aload_n 0, 1) := by decide +kernel
theorem dX6_run_1 : decode cX6_run 1 = .ok (.iload_n 1, 1) := by decide +kernel
theorem dX6_run_2 : decode cX6_run 2 = .ok (.invokevirtual 84, 3) := by decide +kernel
theorem dX6_run_5 : decode cX6_run 5 = .ok (.ifCond .eq 27, 3) := by decide +kernel
theorem dX6_run_8 : decode cX6_run 8 = .ok (.iload_n 2, 1) := by decide +kernel
theorem dX6_run_9 : decode cX6_run 9 = .ok (.i2l, 1) := by decide +kernel
theorem dX6_run_10 : decode cX6_run 10 = .ok (.lconst 0, 1) := by decide +kernel
theorem dX6_run_11 : decode cX6_run 11 = .ok (.ldc2_w 394, 3) := by decide +kernel
theorem dX6_run_14 : decode cX6_run 14 = .ok (.invokestatic 76, 3) := by decide +kernel
theorem dX6_run_17 : decode cX6_run 17 = .ok (.ifCond .eq 15, 3) := by decide +kernel
theorem dX6_run_20 : decode cX6_run 20 = .ok (.iload_n 3, 1) := by decide +kernel
theorem dX6_run_21 : decode cX6_run 21 = .ok (.i2l, 1) := by decide +kernel
theorem dX6_run_22 : decode cX6_run 22 = .ok (.lconst 0, 1) := by decide +kernel
theorem dX6_run_23 : decode cX6_run 23 = .ok (.ldc2_w 137, 3) := by decide +kernel
theorem dX6_run_26 : decode cX6_run 26 = .ok (.invokestatic 76, 3) := by decide +kernel
theorem dX6_run_29 : decode cX6_run 29 = .ok (.ifCond .ne 6, 3) := by decide +kernel
theorem dX6_run_32 : decode cX6_run 32 = .ok (.bipush (-2), 2) := by decide +kernel
theorem dX6_run_34 : decode cX6_run 34 = .ok (.ireturn, 1) := by decide +kernel
theorem dX6_run_35 : decode cX6_run 35 = .ok (.aload_n 0, 1) := by decide +kernel
theorem dX6_run_36 : decode cX6_run 36 = .ok (.invokevirtual 385, 3) := by decide +kernel
theorem dX6_run_39 : decode cX6_run 39 = .ok (.aload_n 0, 1) := by decide +kernel
theorem dX6_run_40 : decode cX6_run 40 = .ok (.iload_n 2, 1) := by decide +kernel
theorem dX6_run_41 : decode cX6_run 41 = .ok (.invokevirtual 388, 3) := by decide +kernel
theorem dX6_run_44 : decode cX6_run 44 = .ok (.iload_n 3, 1) := by decide +kernel
theorem dX6_run_45 : decode cX6_run 45 = .ok (.ifCond .ne 13, 3) := by decide +kernel
theorem dX6_run_48 : decode cX6_run 48 = .ok (.aload_n 0, 1) := by decide +kernel
theorem dX6_run_49 : decode cX6_run 49 = .ok (.getfield 109, 3) := by decide +kernel
theorem dX6_run_52 : decode cX6_run 52 = .ok (.invokestatic 352, 3) := by decide +kernel
theorem dX6_run_55 : decode cX6_run 55 = .ok (.goto 27, 3) := by decide +kernel
theorem dX6_run_58 : decode cX6_run 58 = .ok (.iload_n 3, 1) := by decide +kernel
theorem dX6_run_59 : decode cX6_run 59 = .ok (.iconst 1, 1) := by decide +kernel
theorem dX6_run_60 : decode cX6_run 60 = .ok (.if_icmp .ne 10, 3) := by decide +kernel
theorem dX6_run_63 : decode cX6_run 63 = .ok (.aload_n 0, 1) := by decide +kernel
theorem dX6_run_64 : decode cX6_run 64 = .ok (.invokevirtual 356, 3) := by decide +kernel
theorem dX6_run_67 : decode cX6_run 67 = .ok (.goto 15, 3) := by decide +kernel
theorem dX6_run_70 : decode cX6_run 70 = .ok (.aload_n 0, 1) := by decide +kernel
theorem dX6_run_71 : decode cX6_run 71 = .ok (.getfield 29, 3) := by decide +kernel
theorem dX6_run_74 : decode cX6_run 74 = .ok (.iconst 5, 1) := by decide +kernel
theorem dX6_run_75 : decode cX6_run 75 = .ok (.iload_n 1, 1) := by decide +kernel
theorem dX6_run_76 : decode cX6_run 76 = .ok (.imul, 1) := by decide +kernel
theorem dX6_run_77 : decode cX6_run 77 = .ok (.iload_n 3, 1) := by decide +kernel
theorem dX6_run_78 : decode cX6_run 78 = .ok (.iadd, 1) := by decide +kernel
theorem dX6_run_79 : decode cX6_run 79 = .ok (.iconst 1, 1) := by decide +kernel
theorem dX6_run_80 : decode cX6_run 80 = .ok (.isub, 1) := by decide +kernel
theorem dX6_run_81 : decode cX6_run 81 = .ok (.iaload, 1) := by decide +kernel
theorem dX6_run_82 : decode cX6_run 82 = .ok (.istore 4, 2) := by decide +kernel
theorem dX6_run_84 : decode cX6_run 84 = .ok (.aload_n 0, 1) := by decide +kernel
theorem dX6_run_85 : decode cX6_run 85 = .ok (.invokevirtual 391, 3) := by decide +kernel
theorem dX6_run_88 : decode cX6_run 88 = .ok (.iload 4, 2) := by decide +kernel
theorem dX6_run_90 : decode cX6_run 90 = .ok (.ireturn, 1) := by decide +kernel
theorem dX6_later_0 : decode cX6_later 0 = .ok (.iload_n 1, 1) := by decide +kernel
theorem dX6_later_1 : decode cX6_later 1 = .ok (.i2l, 1) := by decide +kernel
theorem dX6_later_2 : decode cX6_later 2 = .ok (.lconst 0, 1) := by decide +kernel
theorem dX6_later_3 : decode cX6_later 3 = .ok (.ldc2_w 394, 3) := by decide +kernel
theorem dX6_later_6 : decode cX6_later 6 = .ok (.invokestatic 76, 3) := by decide +kernel
theorem dX6_later_9 : decode cX6_later 9 = .ok (.ifCond .eq 11, 3) := by decide +kernel
theorem dX6_later_12 : decode cX6_later 12 = .ok (.aload_n 0, 1) := by decide +kernel
theorem dX6_later_13 : decode cX6_later 13 = .ok (.iload_n 1, 1) := by decide +kernel
theorem dX6_later_14 : decode cX6_later 14 = .ok (.invokevirtual 396, 3) := by decide +kernel
theorem dX6_later_17 : decode cX6_later 17 = .ok (.goto 6, 3) := by decide +kernel
theorem dX6_later_20 : decode cX6_later 20 = .ok (.ldc2_w 139, 3) := by decide +kernel
theorem dX6_later_23 : decode cX6_later 23 = .ok (.lreturn, 1) := by decide +kernel
theorem dX6_ends_0 : decode cX6_ends 0 = .ok (.aload_n 0, 1) := by decide +kernel
theorem dX6_ends_1 : decode cX6_ends 1 = .ok (.invokevirtual 385, 3) := by decide +kernel
theorem dX6_ends_4 : decode cX6_ends 4 = .ok (.iconst 0, 1) := by decide +kernel
theorem dX6_ends_5 : decode cX6_ends 5 = .ok (.istore_n 1, 1) := by decide +kernel
theorem dX6_ends_6 : decode cX6_ends 6 = .ok (.iload_n 1, 1) := by decide +kernel
theorem dX6_ends_7 : decode cX6_ends 7 = .ok (.bipush 60, 2) := by decide +kernel
theorem dX6_ends_9 : decode cX6_ends 9 = .ok (.if_icmp .gt 24, 3) := by decide +kernel
theorem dX6_ends_12 : decode cX6_ends 12 = .ok (.aload_n 0, 1) := by decide +kernel
theorem dX6_ends_13 : decode cX6_ends 13 = .ok (.getfield 109, 3) := by decide +kernel
theorem dX6_ends_16 : decode cX6_ends 16 = .ok (.ldc2_w 113, 3) := by decide +kernel
theorem dX6_ends_19 : decode cX6_ends 19 = .ok (.lcmp, 1) := by decide +kernel
theorem dX6_ends_20 : decode cX6_ends 20 = .ok (.ifCond .eq 13, 3) := by decide +kernel
theorem dX6_ends_23 : decode cX6_ends 23 = .ok (.aload_n 0, 1) := by decide +kernel
theorem dX6_ends_24 : decode cX6_ends 24 = .ok (.invokevirtual 379, 3) := by decide +kernel
theorem dX6_ends_27 : decode cX6_ends 27 = .ok (.iinc 1 1, 3) := by decide +kernel
theorem dX6_ends_30 : decode cX6_ends 30 = .ok (.goto (-24), 3) := by decide +kernel
theorem dX6_ends_33 : decode cX6_ends 33 = .ok (.aload_n 0, 1) := by decide +kernel
theorem dX6_ends_34 : decode cX6_ends 34 = .ok (.invokevirtual 391, 3) := by decide +kernel
theorem dX6_ends_37 : decode cX6_ends 37 = .ok (.iload_n 1, 1) := by decide +kernel
theorem dX6_ends_38 : decode cX6_ends 38 = .ok (.bipush 60, 2) := by decide +kernel
theorem dX6_ends_40 : decode cX6_ends 40 = .ok (.if_icmp .le 7, 3) := by decide +kernel
theorem dX6_ends_43 : decode cX6_ends 43 = .ok (.iconst (-1), 1) := by decide +kernel
theorem dX6_ends_44 : decode cX6_ends 44 = .ok (.goto 4, 3) := by decide +kernel
theorem dX6_ends_47 : decode cX6_ends 47 = .ok (.iload_n 1, 1) := by decide +kernel
theorem dX6_ends_48 : decode cX6_ends 48 = .ok (.ireturn, 1) := by decide +kernel
theorem dX6_atWhat_0 : decode cX6_atWhat 0 = .ok (.aload_n 0, 1) := by decide +kernel
theorem dX6_atWhat_1 : decode cX6_atWhat 1 = .ok (.iload_n 1, 1) := by decide +kernel
theorem dX6_atWhat_2 : decode cX6_atWhat 2 = .ok (.invokevirtual 84, 3) := by decide +kernel
theorem dX6_atWhat_5 : decode cX6_atWhat 5 = .ok (.ifCond .eq 25, 3) := by decide +kernel
theorem dX6_atWhat_8 : decode cX6_atWhat 8 = .ok (.iload_n 2, 1) := by decide +kernel
theorem dX6_atWhat_9 : decode cX6_atWhat 9 = .ok (.i2l, 1) := by decide +kernel
theorem dX6_atWhat_10 : decode cX6_atWhat 10 = .ok (.lconst 0, 1) := by decide +kernel
theorem dX6_atWhat_11 : decode cX6_atWhat 11 = .ok (.ldc2_w 394, 3) := by decide +kernel
theorem dX6_atWhat_14 : decode cX6_atWhat 14 = .ok (.invokestatic 76, 3) := by decide +kernel
theorem dX6_atWhat_17 : decode cX6_atWhat 17 = .ok (.ifCond .eq 13, 3) := by decide +kernel
theorem dX6_atWhat_20 : decode cX6_atWhat 20 = .ok (.iload_n 3, 1) := by decide +kernel
theorem dX6_atWhat_21 : decode cX6_atWhat 21 = .ok (.i2l, 1) := by decide +kernel
theorem dX6_atWhat_22 : decode cX6_atWhat 22 = .ok (.lconst 0, 1) := by decide +kernel
theorem dX6_atWhat_23 : decode cX6_atWhat 23 = .ok (.lconst 1, 1) := by decide +kernel
theorem dX6_atWhat_24 : decode cX6_atWhat 24 = .ok (.invokestatic 76, 3) := by decide +kernel
theorem dX6_atWhat_27 : decode cX6_atWhat 27 = .ok (.ifCond .ne 6, 3) := by decide +kernel
theorem dX6_atWhat_30 : decode cX6_atWhat 30 = .ok (.bipush (-2), 2) := by decide +kernel
theorem dX6_atWhat_32 : decode cX6_atWhat 32 = .ok (.ireturn, 1) := by decide +kernel
theorem dX6_atWhat_33 : decode cX6_atWhat 33 = .ok (.aload_n 0, 1) := by decide +kernel
theorem dX6_atWhat_34 : decode cX6_atWhat 34 = .ok (.getfield 29, 3) := by decide +kernel
theorem dX6_atWhat_37 : decode cX6_atWhat 37 = .ok (.iconst 5, 1) := by decide +kernel
theorem dX6_atWhat_38 : decode cX6_atWhat 38 = .ok (.iload_n 1, 1) := by decide +kernel
theorem dX6_atWhat_39 : decode cX6_atWhat 39 = .ok (.imul, 1) := by decide +kernel
theorem dX6_atWhat_40 : decode cX6_atWhat 40 = .ok (.iconst 1, 1) := by decide +kernel
theorem dX6_atWhat_41 : decode cX6_atWhat 41 = .ok (.iadd, 1) := by decide +kernel
theorem dX6_atWhat_42 : decode cX6_atWhat 42 = .ok (.iaload, 1) := by decide +kernel
theorem dX6_atWhat_43 : decode cX6_atWhat 43 = .ok (.istore 4, 2) := by decide +kernel
theorem dX6_atWhat_45 : decode cX6_atWhat 45 = .ok (.iconst 0, 1) := by decide +kernel
theorem dX6_atWhat_46 : decode cX6_atWhat 46 = .ok (.istore 5, 2) := by decide +kernel
theorem dX6_atWhat_48 : decode cX6_atWhat 48 = .ok (.iconst (-1), 1) := by decide +kernel
theorem dX6_atWhat_49 : decode cX6_atWhat 49 = .ok (.istore 6, 2) := by decide +kernel
theorem dX6_atWhat_51 : decode cX6_atWhat 51 = .ok (.iconst 0, 1) := by decide +kernel
theorem dX6_atWhat_52 : decode cX6_atWhat 52 = .ok (.istore 7, 2) := by decide +kernel
theorem dX6_atWhat_54 : decode cX6_atWhat 54 = .ok (.iload 7, 2) := by decide +kernel
theorem dX6_atWhat_56 : decode cX6_atWhat 56 = .ok (.iconst 4, 1) := by decide +kernel
theorem dX6_atWhat_57 : decode cX6_atWhat 57 = .ok (.if_icmp .ge 46, 3) := by decide +kernel
theorem dX6_atWhat_60 : decode cX6_atWhat 60 = .ok (.aload_n 0, 1) := by decide +kernel
theorem dX6_atWhat_61 : decode cX6_atWhat 61 = .ok (.getfield 29, 3) := by decide +kernel
theorem dX6_atWhat_64 : decode cX6_atWhat 64 = .ok (.iconst 5, 1) := by decide +kernel
theorem dX6_atWhat_65 : decode cX6_atWhat 65 = .ok (.iload_n 1, 1) := by decide +kernel
theorem dX6_atWhat_66 : decode cX6_atWhat 66 = .ok (.imul, 1) := by decide +kernel
theorem dX6_atWhat_67 : decode cX6_atWhat 67 = .ok (.iconst 1, 1) := by decide +kernel
theorem dX6_atWhat_68 : decode cX6_atWhat 68 = .ok (.iadd, 1) := by decide +kernel
theorem dX6_atWhat_69 : decode cX6_atWhat 69 = .ok (.iload 7, 2) := by decide +kernel
theorem dX6_atWhat_71 : decode cX6_atWhat 71 = .ok (.iastore, 1) := by decide +kernel
theorem dX6_atWhat_72 : decode cX6_atWhat 72 = .ok (.aload_n 0, 1) := by decide +kernel
theorem dX6_atWhat_73 : decode cX6_atWhat 73 = .ok (.iload_n 2, 1) := by decide +kernel
theorem dX6_atWhat_74 : decode cX6_atWhat 74 = .ok (.invokevirtual 396, 3) := by decide +kernel
theorem dX6_atWhat_77 : decode cX6_atWhat 77 = .ok (.invokestatic 352, 3) := by decide +kernel
theorem dX6_atWhat_80 : decode cX6_atWhat 80 = .ok (.istore 8, 2) := by decide +kernel
theorem dX6_atWhat_82 : decode cX6_atWhat 82 = .ok (.iload 8, 2) := by decide +kernel
theorem dX6_atWhat_84 : decode cX6_atWhat 84 = .ok (.iload 6, 2) := by decide +kernel
theorem dX6_atWhat_86 : decode cX6_atWhat 86 = .ok (.if_icmp .le 11, 3) := by decide +kernel
theorem dX6_atWhat_89 : decode cX6_atWhat 89 = .ok (.iload 7, 2) := by decide +kernel
theorem dX6_atWhat_91 : decode cX6_atWhat 91 = .ok (.istore 5, 2) := by decide +kernel
theorem dX6_atWhat_93 : decode cX6_atWhat 93 = .ok (.iload 8, 2) := by decide +kernel
theorem dX6_atWhat_95 : decode cX6_atWhat 95 = .ok (.istore 6, 2) := by decide +kernel
theorem dX6_atWhat_97 : decode cX6_atWhat 97 = .ok (.iinc 7 1, 3) := by decide +kernel
theorem dX6_atWhat_100 : decode cX6_atWhat 100 = .ok (.goto (-46), 3) := by decide +kernel
theorem dX6_atWhat_103 : decode cX6_atWhat 103 = .ok (.aload_n 0, 1) := by decide +kernel
theorem dX6_atWhat_104 : decode cX6_atWhat 104 = .ok (.getfield 29, 3) := by decide +kernel
theorem dX6_atWhat_107 : decode cX6_atWhat 107 = .ok (.iconst 5, 1) := by decide +kernel
theorem dX6_atWhat_108 : decode cX6_atWhat 108 = .ok (.iload_n 1, 1) := by decide +kernel
theorem dX6_atWhat_109 : decode cX6_atWhat 109 = .ok (.imul, 1) := by decide +kernel
theorem dX6_atWhat_110 : decode cX6_atWhat 110 = .ok (.iconst 1, 1) := by decide +kernel
theorem dX6_atWhat_111 : decode cX6_atWhat 111 = .ok (.iadd, 1) := by decide +kernel
theorem dX6_atWhat_112 : decode cX6_atWhat 112 = .ok (.iload 4, 2) := by decide +kernel
theorem dX6_atWhat_114 : decode cX6_atWhat 114 = .ok (.iastore, 1) := by decide +kernel
theorem dX6_atWhat_115 : decode cX6_atWhat 115 = .ok (.iload_n 3, 1) := by decide +kernel
theorem dX6_atWhat_116 : decode cX6_atWhat 116 = .ok (.ifCond .ne 8, 3) := by decide +kernel
theorem dX6_atWhat_119 : decode cX6_atWhat 119 = .ok (.iload 5, 2) := by decide +kernel
theorem dX6_atWhat_121 : decode cX6_atWhat 121 = .ok (.goto 5, 3) := by decide +kernel
theorem dX6_atWhat_124 : decode cX6_atWhat 124 = .ok (.iload 6, 2) := by decide +kernel
theorem dX6_atWhat_126 : decode cX6_atWhat 126 = .ok (.ireturn, 1) := by decide +kernel
theorem dX6_want_0 : decode cX6_want 0 = .ok (.iload_n 1, 1) := by decide +kernel
theorem dX6_want_1 : decode cX6_want 1 = .ok (.i2l, 1) := by decide +kernel
theorem dX6_want_2 : decode cX6_want 2 = .ok (.lconst 1, 1) := by decide +kernel
theorem dX6_want_3 : decode cX6_want 3 = .ok (.ldc2_w 399, 3) := by decide +kernel
theorem dX6_want_6 : decode cX6_want 6 = .ok (.invokestatic 76, 3) := by decide +kernel
theorem dX6_want_9 : decode cX6_want 9 = .ok (.ifCond .eq 13, 3) := by decide +kernel
theorem dX6_want_12 : decode cX6_want 12 = .ok (.iload_n 2, 1) := by decide +kernel
theorem dX6_want_13 : decode cX6_want 13 = .ok (.i2l, 1) := by decide +kernel
theorem dX6_want_14 : decode cX6_want 14 = .ok (.lconst 0, 1) := by decide +kernel
theorem dX6_want_15 : decode cX6_want 15 = .ok (.lconst 1, 1) := by decide +kernel
theorem dX6_want_16 : decode cX6_want 16 = .ok (.invokestatic 76, 3) := by decide +kernel
theorem dX6_want_19 : decode cX6_want 19 = .ok (.ifCond .ne 6, 3) := by decide +kernel
theorem dX6_want_22 : decode cX6_want 22 = .ok (.bipush (-2), 2) := by decide +kernel
theorem dX6_want_24 : decode cX6_want 24 = .ok (.ireturn, 1) := by decide +kernel
theorem dX6_want_25 : decode cX6_want 25 = .ok (.iconst (-1), 1) := by decide +kernel
theorem dX6_want_26 : decode cX6_want 26 = .ok (.istore_n 3, 1) := by decide +kernel
theorem dX6_want_27 : decode cX6_want 27 = .ok (.aload_n 0, 1) := by decide +kernel
theorem dX6_want_28 : decode cX6_want 28 = .ok (.iload_n 1, 1) := by decide +kernel
theorem dX6_want_29 : decode cX6_want 29 = .ok (.invokevirtual 396, 3) := by decide +kernel
theorem dX6_want_32 : decode cX6_want 32 = .ok (.invokestatic 352, 3) := by decide +kernel
theorem dX6_want_35 : decode cX6_want 35 = .ok (.istore 4, 2) := by decide +kernel
theorem dX6_want_37 : decode cX6_want 37 = .ok (.iconst 0, 1) := by decide +kernel
theorem dX6_want_38 : decode cX6_want 38 = .ok (.istore 5, 2) := by decide +kernel
theorem dX6_want_40 : decode cX6_want 40 = .ok (.iload 5, 2) := by decide +kernel
theorem dX6_want_42 : decode cX6_want 42 = .ok (.sipush 256, 3) := by decide +kernel
theorem dX6_want_45 : decode cX6_want 45 = .ok (.if_icmp .ge 88, 3) := by decide +kernel
theorem dX6_want_48 : decode cX6_want 48 = .ok (.iload 5, 2) := by decide +kernel
theorem dX6_want_50 : decode cX6_want 50 = .ok (.iconst 4, 1) := by decide +kernel
theorem dX6_want_51 : decode cX6_want 51 = .ok (.idiv, 1) := by decide +kernel
theorem dX6_want_52 : decode cX6_want 52 = .ok (.istore 6, 2) := by decide +kernel
theorem dX6_want_54 : decode cX6_want 54 = .ok (.aload_n 0, 1) := by decide +kernel
theorem dX6_want_55 : decode cX6_want 55 = .ok (.getfield 109, 3) := by decide +kernel
theorem dX6_want_58 : decode cX6_want 58 = .ok (.iload 6, 2) := by decide +kernel
theorem dX6_want_60 : decode cX6_want 60 = .ok (.invokestatic 124, 3) := by decide +kernel
theorem dX6_want_63 : decode cX6_want 63 = .ok (.ifCond .ne 64, 3) := by decide +kernel
theorem dX6_want_66 : decode cX6_want 66 = .ok (.aload_n 0, 1) := by decide +kernel
theorem dX6_want_67 : decode cX6_want 67 = .ok (.getfield 23, 3) := by decide +kernel
theorem dX6_want_70 : decode cX6_want 70 = .ok (.iload 6, 2) := by decide +kernel
theorem dX6_want_72 : decode cX6_want 72 = .ok (.iaload, 1) := by decide +kernel
theorem dX6_want_73 : decode cX6_want 73 = .ok (.istore 7, 2) := by decide +kernel
theorem dX6_want_75 : decode cX6_want 75 = .ok (.aload_n 0, 1) := by decide +kernel
theorem dX6_want_76 : decode cX6_want 76 = .ok (.getfield 23, 3) := by decide +kernel
theorem dX6_want_79 : decode cX6_want 79 = .ok (.iload 6, 2) := by decide +kernel
theorem dX6_want_81 : decode cX6_want 81 = .ok (.iload 5, 2) := by decide +kernel
theorem dX6_want_83 : decode cX6_want 83 = .ok (.iconst 4, 1) := by decide +kernel
theorem dX6_want_84 : decode cX6_want 84 = .ok (.irem, 1) := by decide +kernel
theorem dX6_want_85 : decode cX6_want 85 = .ok (.iastore, 1) := by decide +kernel
theorem dX6_want_86 : decode cX6_want 86 = .ok (.aload_n 0, 1) := by decide +kernel
theorem dX6_want_87 : decode cX6_want 87 = .ok (.iload_n 1, 1) := by decide +kernel
theorem dX6_want_88 : decode cX6_want 88 = .ok (.invokevirtual 396, 3) := by decide +kernel
theorem dX6_want_91 : decode cX6_want 91 = .ok (.invokestatic 352, 3) := by decide +kernel
theorem dX6_want_94 : decode cX6_want 94 = .ok (.istore 8, 2) := by decide +kernel
theorem dX6_want_96 : decode cX6_want 96 = .ok (.aload_n 0, 1) := by decide +kernel
theorem dX6_want_97 : decode cX6_want 97 = .ok (.getfield 23, 3) := by decide +kernel
theorem dX6_want_100 : decode cX6_want 100 = .ok (.iload 6, 2) := by decide +kernel
theorem dX6_want_102 : decode cX6_want 102 = .ok (.iload 7, 2) := by decide +kernel
theorem dX6_want_104 : decode cX6_want 104 = .ok (.iastore, 1) := by decide +kernel
theorem dX6_want_105 : decode cX6_want 105 = .ok (.iload 8, 2) := by decide +kernel
theorem dX6_want_107 : decode cX6_want 107 = .ok (.iload 4, 2) := by decide +kernel
theorem dX6_want_109 : decode cX6_want 109 = .ok (.if_icmp .le 18, 3) := by decide +kernel
theorem dX6_want_112 : decode cX6_want 112 = .ok (.bipush 10, 2) := by decide +kernel
theorem dX6_want_114 : decode cX6_want 114 = .ok (.iload 6, 2) := by decide +kernel
theorem dX6_want_116 : decode cX6_want 116 = .ok (.imul, 1) := by decide +kernel
theorem dX6_want_117 : decode cX6_want 117 = .ok (.iload 5, 2) := by decide +kernel
theorem dX6_want_119 : decode cX6_want 119 = .ok (.iconst 4, 1) := by decide +kernel
theorem dX6_want_120 : decode cX6_want 120 = .ok (.irem, 1) := by decide +kernel
theorem dX6_want_121 : decode cX6_want 121 = .ok (.iadd, 1) := by decide +kernel
theorem dX6_want_122 : decode cX6_want 122 = .ok (.istore_n 3, 1) := by decide +kernel
theorem dX6_want_123 : decode cX6_want 123 = .ok (.iload 8, 2) := by decide +kernel
theorem dX6_want_125 : decode cX6_want 125 = .ok (.istore 4, 2) := by decide +kernel
theorem dX6_want_127 : decode cX6_want 127 = .ok (.iinc 5 1, 3) := by decide +kernel
theorem dX6_want_130 : decode cX6_want 130 = .ok (.goto (-90), 3) := by decide +kernel
theorem dX6_want_133 : decode cX6_want 133 = .ok (.iload_n 2, 1) := by decide +kernel
theorem dX6_want_134 : decode cX6_want 134 = .ok (.ifCond .ne 7, 3) := by decide +kernel
theorem dX6_want_137 : decode cX6_want 137 = .ok (.iload_n 3, 1) := by decide +kernel
theorem dX6_want_138 : decode cX6_want 138 = .ok (.goto 5, 3) := by decide +kernel
theorem dX6_want_141 : decode cX6_want 141 = .ok (.iload 4, 2) := by decide +kernel
theorem dX6_want_143 : decode cX6_want 143 = .ok (.ireturn, 1) := by decide +kernel
theorem dX6_idle_0 : decode cX6_idle 0 = .ok (.iload_n 1, 1) := by decide +kernel
theorem dX6_idle_1 : decode cX6_idle 1 = .ok (.i2l, 1) := by decide +kernel
theorem dX6_idle_2 : decode cX6_idle 2 = .ok (.lconst 0, 1) := by decide +kernel
theorem dX6_idle_3 : decode cX6_idle 3 = .ok (.ldc2_w 394, 3) := by decide +kernel
theorem dX6_idle_6 : decode cX6_idle 6 = .ok (.invokestatic 76, 3) := by decide +kernel
theorem dX6_idle_9 : decode cX6_idle 9 = .ok (.ifCond .ne 6, 3) := by decide +kernel
theorem dX6_idle_12 : decode cX6_idle 12 = .ok (.bipush (-2), 2) := by decide +kernel
theorem dX6_idle_14 : decode cX6_idle 14 = .ok (.ireturn, 1) := by decide +kernel
theorem dX6_idle_15 : decode cX6_idle 15 = .ok (.aload_n 0, 1) := by decide +kernel
theorem dX6_idle_16 : decode cX6_idle 16 = .ok (.iload_n 1, 1) := by decide +kernel
theorem dX6_idle_17 : decode cX6_idle 17 = .ok (.invokevirtual 396, 3) := by decide +kernel
theorem dX6_idle_20 : decode cX6_idle 20 = .ok (.invokestatic 352, 3) := by decide +kernel
theorem dX6_idle_23 : decode cX6_idle 23 = .ok (.istore_n 2, 1) := by decide +kernel
theorem dX6_idle_24 : decode cX6_idle 24 = .ok (.iconst (-1), 1) := by decide +kernel
theorem dX6_idle_25 : decode cX6_idle 25 = .ok (.istore_n 3, 1) := by decide +kernel
theorem dX6_idle_26 : decode cX6_idle 26 = .ok (.iconst 0, 1) := by decide +kernel
theorem dX6_idle_27 : decode cX6_idle 27 = .ok (.istore 4, 2) := by decide +kernel
theorem dX6_idle_29 : decode cX6_idle 29 = .ok (.iload 4, 2) := by decide +kernel
theorem dX6_idle_31 : decode cX6_idle 31 = .ok (.aload_n 0, 1) := by decide +kernel
theorem dX6_idle_32 : decode cX6_idle 32 = .ok (.getfield 73, 3) := by decide +kernel
theorem dX6_idle_35 : decode cX6_idle 35 = .ok (.if_icmp .ge 39, 3) := by decide +kernel
theorem dX6_idle_38 : decode cX6_idle 38 = .ok (.iload_n 3, 1) := by decide +kernel
theorem dX6_idle_39 : decode cX6_idle 39 = .ok (.iconst (-1), 1) := by decide +kernel
theorem dX6_idle_40 : decode cX6_idle 40 = .ok (.if_icmp .ne 34, 3) := by decide +kernel
theorem dX6_idle_43 : decode cX6_idle 43 = .ok (.aload_n 0, 1) := by decide +kernel
theorem dX6_idle_44 : decode cX6_idle 44 = .ok (.iload 4, 2) := by decide +kernel
theorem dX6_idle_46 : decode cX6_idle 46 = .ok (.putfield 32, 3) := by decide +kernel
theorem dX6_idle_49 : decode cX6_idle 49 = .ok (.aload_n 0, 1) := by decide +kernel
theorem dX6_idle_50 : decode cX6_idle 50 = .ok (.iload_n 1, 1) := by decide +kernel
theorem dX6_idle_51 : decode cX6_idle 51 = .ok (.invokevirtual 396, 3) := by decide +kernel
theorem dX6_idle_54 : decode cX6_idle 54 = .ok (.invokestatic 352, 3) := by decide +kernel
theorem dX6_idle_57 : decode cX6_idle 57 = .ok (.iload_n 2, 1) := by decide +kernel
theorem dX6_idle_58 : decode cX6_idle 58 = .ok (.if_icmp .ne 8, 3) := by decide +kernel
theorem dX6_idle_61 : decode cX6_idle 61 = .ok (.iload 4, 2) := by decide +kernel
theorem dX6_idle_63 : decode cX6_idle 63 = .ok (.goto 4, 3) := by decide +kernel
theorem dX6_idle_66 : decode cX6_idle 66 = .ok (.iconst (-1), 1) := by decide +kernel
theorem dX6_idle_67 : decode cX6_idle 67 = .ok (.istore_n 3, 1) := by decide +kernel
theorem dX6_idle_68 : decode cX6_idle 68 = .ok (.iinc 4 1, 3) := by decide +kernel
theorem dX6_idle_71 : decode cX6_idle 71 = .ok (.goto (-42), 3) := by decide +kernel
theorem dX6_idle_74 : decode cX6_idle 74 = .ok (.aload_n 0, 1) := by decide +kernel
theorem dX6_idle_75 : decode cX6_idle 75 = .ok (.iconst (-1), 1) := by decide +kernel
theorem dX6_idle_76 : decode cX6_idle 76 = .ok (.putfield 32, 3) := by decide +kernel
theorem dX6_idle_79 : decode cX6_idle 79 = .ok (.iload_n 3, 1) := by decide +kernel
theorem dX6_idle_80 : decode cX6_idle 80 = .ok (.ireturn, 1) := by decide +kernel
theorem dX6_longest_0 : decode cX6_longest 0 = .ok (.iconst (-1), 1) := by decide +kernel
theorem dX6_longest_1 : decode cX6_longest 1 = .ok (.istore_n 2, 1) := by decide +kernel
theorem dX6_longest_2 : decode cX6_longest 2 = .ok (.iconst 0, 1) := by decide +kernel
theorem dX6_longest_3 : decode cX6_longest 3 = .ok (.istore_n 3, 1) := by decide +kernel
theorem dX6_longest_4 : decode cX6_longest 4 = .ok (.iconst 0, 1) := by decide +kernel
theorem dX6_longest_5 : decode cX6_longest 5 = .ok (.istore 4, 2) := by decide +kernel
theorem dX6_longest_7 : decode cX6_longest 7 = .ok (.iconst 0, 1) := by decide +kernel
theorem dX6_longest_8 : decode cX6_longest 8 = .ok (.istore 5, 2) := by decide +kernel
theorem dX6_longest_10 : decode cX6_longest 10 = .ok (.iload 5, 2) := by decide +kernel
theorem dX6_longest_12 : decode cX6_longest 12 = .ok (.bipush 64, 2) := by decide +kernel
theorem dX6_longest_14 : decode cX6_longest 14 = .ok (.if_icmp .ge 48, 3) := by decide +kernel
theorem dX6_longest_17 : decode cX6_longest 17 = .ok (.aload_n 0, 1) := by decide +kernel
theorem dX6_longest_18 : decode cX6_longest 18 = .ok (.getfield 109, 3) := by decide +kernel
theorem dX6_longest_21 : decode cX6_longest 21 = .ok (.iload 5, 2) := by decide +kernel
theorem dX6_longest_23 : decode cX6_longest 23 = .ok (.invokestatic 124, 3) := by decide +kernel
theorem dX6_longest_26 : decode cX6_longest 26 = .ok (.ifCond .eq 7, 3) := by decide +kernel
theorem dX6_longest_29 : decode cX6_longest 29 = .ok (.iconst 0, 1) := by decide +kernel
theorem dX6_longest_30 : decode cX6_longest 30 = .ok (.goto 7, 3) := by decide +kernel
theorem dX6_longest_33 : decode cX6_longest 33 = .ok (.iload 4, 2) := by decide +kernel
theorem dX6_longest_35 : decode cX6_longest 35 = .ok (.iconst 1, 1) := by decide +kernel
theorem dX6_longest_36 : decode cX6_longest 36 = .ok (.iadd, 1) := by decide +kernel
theorem dX6_longest_37 : decode cX6_longest 37 = .ok (.istore 4, 2) := by decide +kernel
theorem dX6_longest_39 : decode cX6_longest 39 = .ok (.iload 4, 2) := by decide +kernel
theorem dX6_longest_41 : decode cX6_longest 41 = .ok (.iload_n 3, 1) := by decide +kernel
theorem dX6_longest_42 : decode cX6_longest 42 = .ok (.if_icmp .le 14, 3) := by decide +kernel
theorem dX6_longest_45 : decode cX6_longest 45 = .ok (.iload 5, 2) := by decide +kernel
theorem dX6_longest_47 : decode cX6_longest 47 = .ok (.iload 4, 2) := by decide +kernel
theorem dX6_longest_49 : decode cX6_longest 49 = .ok (.isub, 1) := by decide +kernel
theorem dX6_longest_50 : decode cX6_longest 50 = .ok (.iconst 1, 1) := by decide +kernel
theorem dX6_longest_51 : decode cX6_longest 51 = .ok (.iadd, 1) := by decide +kernel
theorem dX6_longest_52 : decode cX6_longest 52 = .ok (.istore_n 2, 1) := by decide +kernel
theorem dX6_longest_53 : decode cX6_longest 53 = .ok (.iload 4, 2) := by decide +kernel
theorem dX6_longest_55 : decode cX6_longest 55 = .ok (.istore_n 3, 1) := by decide +kernel
theorem dX6_longest_56 : decode cX6_longest 56 = .ok (.iinc 5 1, 3) := by decide +kernel
theorem dX6_longest_59 : decode cX6_longest 59 = .ok (.goto (-49), 3) := by decide +kernel
theorem dX6_longest_62 : decode cX6_longest 62 = .ok (.iload_n 1, 1) := by decide +kernel
theorem dX6_longest_63 : decode cX6_longest 63 = .ok (.ifCond .ne 7, 3) := by decide +kernel
theorem dX6_longest_66 : decode cX6_longest 66 = .ok (.iload_n 2, 1) := by decide +kernel
theorem dX6_longest_67 : decode cX6_longest 67 = .ok (.goto 4, 3) := by decide +kernel
theorem dX6_longest_70 : decode cX6_longest 70 = .ok (.iload_n 3, 1) := by decide +kernel
theorem dX6_longest_71 : decode cX6_longest 71 = .ok (.ireturn, 1) := by decide +kernel
theorem dX6_gap_0 : decode cX6_gap 0 = .ok (.iload_n 1, 1) := by decide +kernel
theorem dX6_gap_1 : decode cX6_gap 1 = .ok (.i2l, 1) := by decide +kernel
theorem dX6_gap_2 : decode cX6_gap 2 = .ok (.lconst 0, 1) := by decide +kernel
theorem dX6_gap_3 : decode cX6_gap 3 = .ok (.ldc2_w 82, 3) := by decide +kernel
theorem dX6_gap_6 : decode cX6_gap 6 = .ok (.invokestatic 76, 3) := by decide +kernel
theorem dX6_gap_9 : decode cX6_gap 9 = .ok (.ifCond .ne 6, 3) := by decide +kernel
theorem dX6_gap_12 : decode cX6_gap 12 = .ok (.bipush (-2), 2) := by decide +kernel
theorem dX6_gap_14 : decode cX6_gap 14 = .ok (.ireturn, 1) := by decide +kernel
theorem dX6_gap_15 : decode cX6_gap 15 = .ok (.iload_n 1, 1) := by decide +kernel
theorem dX6_gap_16 : decode cX6_gap 16 = .ok (.iconst 2, 1) := by decide +kernel
theorem dX6_gap_17 : decode cX6_gap 17 = .ok (.if_icmp .ge 9, 3) := by decide +kernel
theorem dX6_gap_20 : decode cX6_gap 20 = .ok (.aload_n 0, 1) := by decide +kernel
theorem dX6_gap_21 : decode cX6_gap 21 = .ok (.iload_n 1, 1) := by decide +kernel
theorem dX6_gap_22 : decode cX6_gap 22 = .ok (.invokevirtual 401, 3) := by decide +kernel
theorem dX6_gap_25 : decode cX6_gap 25 = .ok (.ireturn, 1) := by decide +kernel
theorem dX6_gap_26 : decode cX6_gap 26 = .ok (.iconst 0, 1) := by decide +kernel
theorem dX6_gap_27 : decode cX6_gap 27 = .ok (.istore_n 2, 1) := by decide +kernel
theorem dX6_gap_28 : decode cX6_gap 28 = .ok (.iconst 0, 1) := by decide +kernel
theorem dX6_gap_29 : decode cX6_gap 29 = .ok (.istore_n 3, 1) := by decide +kernel
theorem dX6_gap_30 : decode cX6_gap 30 = .ok (.iconst 0, 1) := by decide +kernel
theorem dX6_gap_31 : decode cX6_gap 31 = .ok (.istore 4, 2) := by decide +kernel
theorem dX6_gap_33 : decode cX6_gap 33 = .ok (.iload 4, 2) := by decide +kernel
theorem dX6_gap_35 : decode cX6_gap 35 = .ok (.iconst 4, 1) := by decide +kernel
theorem dX6_gap_36 : decode cX6_gap 36 = .ok (.if_icmp .ge 72, 3) := by decide +kernel
theorem dX6_gap_39 : decode cX6_gap 39 = .ok (.aload_n 0, 1) := by decide +kernel
theorem dX6_gap_40 : decode cX6_gap 40 = .ok (.iload 4, 2) := by decide +kernel
theorem dX6_gap_42 : decode cX6_gap 42 = .ok (.invokevirtual 141, 3) := by decide +kernel
theorem dX6_gap_45 : decode cX6_gap 45 = .ok (.aload_n 0, 1) := by decide +kernel
theorem dX6_gap_46 : decode cX6_gap 46 = .ok (.getfield 109, 3) := by decide +kernel
theorem dX6_gap_49 : decode cX6_gap 49 = .ok (.ldc2_w 113, 3) := by decide +kernel
theorem dX6_gap_52 : decode cX6_gap 52 = .ok (.lxor, 1) := by decide +kernel
theorem dX6_gap_53 : decode cX6_gap 53 = .ok (.land, 1) := by decide +kernel
theorem dX6_gap_54 : decode cX6_gap 54 = .ok (.invokestatic 352, 3) := by decide +kernel
theorem dX6_gap_57 : decode cX6_gap 57 = .ok (.istore 5, 2) := by decide +kernel
theorem dX6_gap_59 : decode cX6_gap 59 = .ok (.iload_n 2, 1) := by decide +kernel
theorem dX6_gap_60 : decode cX6_gap 60 = .ok (.aload_n 0, 1) := by decide +kernel
theorem dX6_gap_61 : decode cX6_gap 61 = .ok (.getfield 26, 3) := by decide +kernel
theorem dX6_gap_64 : decode cX6_gap 64 = .ok (.iload 4, 2) := by decide +kernel
theorem dX6_gap_66 : decode cX6_gap 66 = .ok (.iaload, 1) := by decide +kernel
theorem dX6_gap_67 : decode cX6_gap 67 = .ok (.iload 5, 2) := by decide +kernel
theorem dX6_gap_69 : decode cX6_gap 69 = .ok (.if_icmp .ge 13, 3) := by decide +kernel
theorem dX6_gap_72 : decode cX6_gap 72 = .ok (.aload_n 0, 1) := by decide +kernel
theorem dX6_gap_73 : decode cX6_gap 73 = .ok (.getfield 26, 3) := by decide +kernel
theorem dX6_gap_76 : decode cX6_gap 76 = .ok (.iload 4, 2) := by decide +kernel
theorem dX6_gap_78 : decode cX6_gap 78 = .ok (.iaload, 1) := by decide +kernel
theorem dX6_gap_79 : decode cX6_gap 79 = .ok (.goto 5, 3) := by decide +kernel
theorem dX6_gap_82 : decode cX6_gap 82 = .ok (.iload 5, 2) := by decide +kernel
theorem dX6_gap_84 : decode cX6_gap 84 = .ok (.iadd, 1) := by decide +kernel
theorem dX6_gap_85 : decode cX6_gap 85 = .ok (.istore_n 2, 1) := by decide +kernel
theorem dX6_gap_86 : decode cX6_gap 86 = .ok (.iload_n 3, 1) := by decide +kernel
theorem dX6_gap_87 : decode cX6_gap 87 = .ok (.iload 5, 2) := by decide +kernel
theorem dX6_gap_89 : decode cX6_gap 89 = .ok (.ifCond .ne 7, 3) := by decide +kernel
theorem dX6_gap_92 : decode cX6_gap 92 = .ok (.iconst 1, 1) := by decide +kernel
theorem dX6_gap_93 : decode cX6_gap 93 = .ok (.goto 4, 3) := by decide +kernel
theorem dX6_gap_96 : decode cX6_gap 96 = .ok (.iconst 0, 1) := by decide +kernel
theorem dX6_gap_97 : decode cX6_gap 97 = .ok (.iload 4, 2) := by decide +kernel
theorem dX6_gap_99 : decode cX6_gap 99 = .ok (.ishl, 1) := by decide +kernel
theorem dX6_gap_100 : decode cX6_gap 100 = .ok (.ior, 1) := by decide +kernel
theorem dX6_gap_101 : decode cX6_gap 101 = .ok (.istore_n 3, 1) := by decide +kernel
theorem dX6_gap_102 : decode cX6_gap 102 = .ok (.iinc 4 1, 3) := by decide +kernel
theorem dX6_gap_105 : decode cX6_gap 105 = .ok (.goto (-72), 3) := by decide +kernel
theorem dX6_gap_108 : decode cX6_gap 108 = .ok (.iload_n 1, 1) := by decide +kernel
theorem dX6_gap_109 : decode cX6_gap 109 = .ok (.iconst 2, 1) := by decide +kernel
theorem dX6_gap_110 : decode cX6_gap 110 = .ok (.if_icmp .ne 7, 3) := by decide +kernel
theorem dX6_gap_113 : decode cX6_gap 113 = .ok (.iload_n 2, 1) := by decide +kernel
theorem dX6_gap_114 : decode cX6_gap 114 = .ok (.goto 4, 3) := by decide +kernel
theorem dX6_gap_117 : decode cX6_gap 117 = .ok (.iload_n 3, 1) := by decide +kernel
theorem dX6_gap_118 : decode cX6_gap 118 = .ok (.ireturn, 1) := by decide +kernel
theorem dX6_lowest_0 : decode cX6_lowest 0 = .ok (.lload_n 0, 1) := by decide +kernel
theorem dX6_lowest_1 : decode cX6_lowest 1 = .ok (.lstore 5, 2) := by decide +kernel
theorem dX6_lowest_3 : decode cX6_lowest 3 = .ok (.lload_n 2, 1) := by decide +kernel
theorem dX6_lowest_4 : decode cX6_lowest 4 = .ok (.lstore 7, 2) := by decide +kernel
theorem dX6_lowest_6 : decode cX6_lowest 6 = .ok (.lload 7, 2) := by decide +kernel
theorem dX6_lowest_8 : decode cX6_lowest 8 = .ok (.lconst 0, 1) := by decide +kernel
theorem dX6_lowest_9 : decode cX6_lowest 9 = .ok (.lcmp, 1) := by decide +kernel
theorem dX6_lowest_10 : decode cX6_lowest 10 = .ok (.ifCond .eq 21, 3) := by decide +kernel
theorem dX6_lowest_13 : decode cX6_lowest 13 = .ok (.lload 5, 2) := by decide +kernel
theorem dX6_lowest_15 : decode cX6_lowest 15 = .ok (.lload 7, 2) := by decide +kernel
theorem dX6_lowest_17 : decode cX6_lowest 17 = .ok (.lrem, 1) := by decide +kernel
theorem dX6_lowest_18 : decode cX6_lowest 18 = .ok (.lstore 9, 2) := by decide +kernel
theorem dX6_lowest_20 : decode cX6_lowest 20 = .ok (.lload 7, 2) := by decide +kernel
theorem dX6_lowest_22 : decode cX6_lowest 22 = .ok (.lstore 5, 2) := by decide +kernel
theorem dX6_lowest_24 : decode cX6_lowest 24 = .ok (.lload 9, 2) := by decide +kernel
theorem dX6_lowest_26 : decode cX6_lowest 26 = .ok (.lstore 7, 2) := by decide +kernel
theorem dX6_lowest_28 : decode cX6_lowest 28 = .ok (.goto (-22), 3) := by decide +kernel
theorem dX6_lowest_31 : decode cX6_lowest 31 = .ok (.iload 4, 2) := by decide +kernel
theorem dX6_lowest_33 : decode cX6_lowest 33 = .ok (.ifCond .ne 10, 3) := by decide +kernel
theorem dX6_lowest_36 : decode cX6_lowest 36 = .ok (.lload_n 0, 1) := by decide +kernel
theorem dX6_lowest_37 : decode cX6_lowest 37 = .ok (.lload 5, 2) := by decide +kernel
theorem dX6_lowest_39 : decode cX6_lowest 39 = .ok (.ldiv, 1) := by decide +kernel
theorem dX6_lowest_40 : decode cX6_lowest 40 = .ok (.goto 7, 3) := by decide +kernel
theorem dX6_lowest_43 : decode cX6_lowest 43 = .ok (.lload_n 2, 1) := by decide +kernel
theorem dX6_lowest_44 : decode cX6_lowest 44 = .ok (.lload 5, 2) := by decide +kernel
theorem dX6_lowest_46 : decode cX6_lowest 46 = .ok (.ldiv, 1) := by decide +kernel
theorem dX6_lowest_47 : decode cX6_lowest 47 = .ok (.lreturn, 1) := by decide +kernel
theorem dX6_share_0 : decode cX6_share 0 = .ok (.iconst 0, 1) := by decide +kernel
theorem dX6_share_1 : decode cX6_share 1 = .ok (.istore_n 2, 1) := by decide +kernel
theorem dX6_share_2 : decode cX6_share 2 = .ok (.iconst 0, 1) := by decide +kernel
theorem dX6_share_3 : decode cX6_share 3 = .ok (.istore_n 3, 1) := by decide +kernel
theorem dX6_share_4 : decode cX6_share 4 = .ok (.iload_n 3, 1) := by decide +kernel
theorem dX6_share_5 : decode cX6_share 5 = .ok (.aload_n 0, 1) := by decide +kernel
theorem dX6_share_6 : decode cX6_share 6 = .ok (.getfield 73, 3) := by decide +kernel
theorem dX6_share_9 : decode cX6_share 9 = .ok (.if_icmp .ge 22, 3) := by decide +kernel
theorem dX6_share_12 : decode cX6_share 12 = .ok (.iload_n 2, 1) := by decide +kernel
theorem dX6_share_13 : decode cX6_share 13 = .ok (.aload_n 0, 1) := by decide +kernel
theorem dX6_share_14 : decode cX6_share 14 = .ok (.getfield 29, 3) := by decide +kernel
theorem dX6_share_17 : decode cX6_share 17 = .ok (.iconst 5, 1) := by decide +kernel
theorem dX6_share_18 : decode cX6_share 18 = .ok (.iload_n 3, 1) := by decide +kernel
theorem dX6_share_19 : decode cX6_share 19 = .ok (.imul, 1) := by decide +kernel
theorem dX6_share_20 : decode cX6_share 20 = .ok (.iconst 3, 1) := by decide +kernel
theorem dX6_share_21 : decode cX6_share 21 = .ok (.iadd, 1) := by decide +kernel
theorem dX6_share_22 : decode cX6_share 22 = .ok (.iaload, 1) := by decide +kernel
theorem dX6_share_23 : decode cX6_share 23 = .ok (.iadd, 1) := by decide +kernel
theorem dX6_share_24 : decode cX6_share 24 = .ok (.istore_n 2, 1) := by decide +kernel
theorem dX6_share_25 : decode cX6_share 25 = .ok (.iinc 3 1, 3) := by decide +kernel
theorem dX6_share_28 : decode cX6_share 28 = .ok (.goto (-24), 3) := by decide +kernel
theorem dX6_share_31 : decode cX6_share 31 = .ok (.iload_n 1, 1) := by decide +kernel
theorem dX6_share_32 : decode cX6_share 32 = .ok (.i2l, 1) := by decide +kernel
theorem dX6_share_33 : decode cX6_share 33 = .ok (.lconst 0, 1) := by decide +kernel
theorem dX6_share_34 : decode cX6_share 34 = .ok (.lconst 1, 1) := by decide +kernel
theorem dX6_share_35 : decode cX6_share 35 = .ok (.invokestatic 76, 3) := by decide +kernel
theorem dX6_share_38 : decode cX6_share 38 = .ok (.ifCond .eq 24, 3) := by decide +kernel
theorem dX6_share_41 : decode cX6_share 41 = .ok (.iload_n 2, 1) := by decide +kernel
theorem dX6_share_42 : decode cX6_share 42 = .ok (.ifCond .le 20, 3) := by decide +kernel
theorem dX6_share_45 : decode cX6_share 45 = .ok (.aload_n 0, 1) := by decide +kernel
theorem dX6_share_46 : decode cX6_share 46 = .ok (.getfield 109, 3) := by decide +kernel
theorem dX6_share_49 : decode cX6_share 49 = .ok (.invokestatic 352, 3) := by decide +kernel
theorem dX6_share_52 : decode cX6_share 52 = .ok (.i2l, 1) := by decide +kernel
theorem dX6_share_53 : decode cX6_share 53 = .ok (.iload_n 2, 1) := by decide +kernel
theorem dX6_share_54 : decode cX6_share 54 = .ok (.i2l, 1) := by decide +kernel
theorem dX6_share_55 : decode cX6_share 55 = .ok (.iload_n 1, 1) := by decide +kernel
theorem dX6_share_56 : decode cX6_share 56 = .ok (.invokestatic 404, 3) := by decide +kernel
theorem dX6_share_59 : decode cX6_share 59 = .ok (.goto 6, 3) := by decide +kernel
theorem dX6_share_62 : decode cX6_share 62 = .ok (.ldc2_w 139, 3) := by decide +kernel
theorem dX6_share_65 : decode cX6_share 65 = .ok (.lreturn, 1) := by decide +kernel
theorem dX6_firstOther_0 : decode cX6_firstOther 0 = .ok (.aload_n 0, 1) := by decide +kernel
theorem dX6_firstOther_1 : decode cX6_firstOther 1 = .ok (.invokevirtual 385, 3) := by decide +kernel
theorem dX6_firstOther_4 : decode cX6_firstOther 4 = .ok (.iconst (-1), 1) := by decide +kernel
theorem dX6_firstOther_5 : decode cX6_firstOther 5 = .ok (.istore_n 2, 1) := by decide +kernel
theorem dX6_firstOther_6 : decode cX6_firstOther 6 = .ok (.iconst 0, 1) := by decide +kernel
theorem dX6_firstOther_7 : decode cX6_firstOther 7 = .ok (.istore_n 3, 1) := by decide +kernel
theorem dX6_firstOther_8 : decode cX6_firstOther 8 = .ok (.iload_n 3, 1) := by decide +kernel
theorem dX6_firstOther_9 : decode cX6_firstOther 9 = .ok (.aload_n 0, 1) := by decide +kernel
theorem dX6_firstOther_10 : decode cX6_firstOther 10 = .ok (.getfield 60, 3) := by decide +kernel
theorem dX6_firstOther_13 : decode cX6_firstOther 13 = .ok (.iload_n 1, 1) := by decide +kernel
theorem dX6_firstOther_14 : decode cX6_firstOther 14 = .ok (.iaload, 1) := by decide +kernel
theorem dX6_firstOther_15 : decode cX6_firstOther 15 = .ok (.if_icmp .ge 45, 3) := by decide +kernel
theorem dX6_firstOther_18 : decode cX6_firstOther 18 = .ok (.iload_n 2, 1) := by decide +kernel
theorem dX6_firstOther_19 : decode cX6_firstOther 19 = .ok (.iconst (-1), 1) := by decide +kernel
theorem dX6_firstOther_20 : decode cX6_firstOther 20 = .ok (.if_icmp .ne 40, 3) := by decide +kernel
theorem dX6_firstOther_23 : decode cX6_firstOther 23 = .ok (.aload_n 0, 1) := by decide +kernel
theorem dX6_firstOther_24 : decode cX6_firstOther 24 = .ok (.invokevirtual 379, 3) := by decide +kernel
theorem dX6_firstOther_27 : decode cX6_firstOther 27 = .ok (.aload_n 0, 1) := by decide +kernel
theorem dX6_firstOther_28 : decode cX6_firstOther 28 = .ok (.getfield 109, 3) := by decide +kernel
theorem dX6_firstOther_31 : decode cX6_firstOther 31 = .ok (.invokestatic 352, 3) := by decide +kernel
theorem dX6_firstOther_34 : decode cX6_firstOther 34 = .ok (.aload_n 0, 1) := by decide +kernel
theorem dX6_firstOther_35 : decode cX6_firstOther 35 = .ok (.getfield 63, 3) := by decide +kernel
theorem dX6_firstOther_38 : decode cX6_firstOther 38 = .ok (.bipush 40, 2) := by decide +kernel
theorem dX6_firstOther_40 : decode cX6_firstOther 40 = .ok (.iload_n 1, 1) := by decide +kernel
theorem dX6_firstOther_41 : decode cX6_firstOther 41 = .ok (.imul, 1) := by decide +kernel
theorem dX6_firstOther_42 : decode cX6_firstOther 42 = .ok (.iload_n 3, 1) := by decide +kernel
theorem dX6_firstOther_43 : decode cX6_firstOther 43 = .ok (.iadd, 1) := by decide +kernel
theorem dX6_firstOther_44 : decode cX6_firstOther 44 = .ok (.iaload, 1) := by decide +kernel
theorem dX6_firstOther_45 : decode cX6_firstOther 45 = .ok (.if_icmp .ne 7, 3) := by decide +kernel
theorem dX6_firstOther_48 : decode cX6_firstOther 48 = .ok (.iconst (-1), 1) := by decide +kernel
theorem dX6_firstOther_49 : decode cX6_firstOther 49 = .ok (.goto 4, 3) := by decide +kernel
theorem dX6_firstOther_52 : decode cX6_firstOther 52 = .ok (.iload_n 3, 1) := by decide +kernel
theorem dX6_firstOther_53 : decode cX6_firstOther 53 = .ok (.istore_n 2, 1) := by decide +kernel
theorem dX6_firstOther_54 : decode cX6_firstOther 54 = .ok (.iinc 3 1, 3) := by decide +kernel
theorem dX6_firstOther_57 : decode cX6_firstOther 57 = .ok (.goto (-49), 3) := by decide +kernel
theorem dX6_firstOther_60 : decode cX6_firstOther 60 = .ok (.aload_n 0, 1) := by decide +kernel
theorem dX6_firstOther_61 : decode cX6_firstOther 61 = .ok (.invokevirtual 391, 3) := by decide +kernel
theorem dX6_firstOther_64 : decode cX6_firstOther 64 = .ok (.iload_n 2, 1) := by decide +kernel
theorem dX6_firstOther_65 : decode cX6_firstOther 65 = .ok (.ireturn, 1) := by decide +kernel
theorem dX6_tells_0 : decode cX6_tells 0 = .ok (.iload_n 1, 1) := by decide +kernel
theorem dX6_tells_1 : decode cX6_tells 1 = .ok (.invokestatic 408, 3) := by decide +kernel
theorem dX6_tells_4 : decode cX6_tells 4 = .ok (.ifCond .eq 23, 3) := by decide +kernel
theorem dX6_tells_7 : decode cX6_tells 7 = .ok (.aload_n 0, 1) := by decide +kernel
theorem dX6_tells_8 : decode cX6_tells 8 = .ok (.iload_n 2, 1) := by decide +kernel
theorem dX6_tells_9 : decode cX6_tells 9 = .ok (.invokevirtual 84, 3) := by decide +kernel
theorem dX6_tells_12 : decode cX6_tells 12 = .ok (.ifCond .eq 15, 3) := by decide +kernel
theorem dX6_tells_15 : decode cX6_tells 15 = .ok (.iload_n 3, 1) := by decide +kernel
theorem dX6_tells_16 : decode cX6_tells 16 = .ok (.i2l, 1) := by decide +kernel
theorem dX6_tells_17 : decode cX6_tells 17 = .ok (.lconst 0, 1) := by decide +kernel
theorem dX6_tells_18 : decode cX6_tells 18 = .ok (.ldc2_w 411, 3) := by decide +kernel
theorem dX6_tells_21 : decode cX6_tells 21 = .ok (.invokestatic 76, 3) := by decide +kernel
theorem dX6_tells_24 : decode cX6_tells 24 = .ok (.ifCond .ne 6, 3) := by decide +kernel
theorem dX6_tells_27 : decode cX6_tells 27 = .ok (.bipush (-2), 2) := by decide +kernel
theorem dX6_tells_29 : decode cX6_tells 29 = .ok (.ireturn, 1) := by decide +kernel
theorem dX6_tells_30 : decode cX6_tells 30 = .ok (.aload_n 0, 1) := by decide +kernel
theorem dX6_tells_31 : decode cX6_tells 31 = .ok (.getfield 53, 3) := by decide +kernel
theorem dX6_tells_34 : decode cX6_tells 34 = .ok (.iload_n 1, 1) := by decide +kernel
theorem dX6_tells_35 : decode cX6_tells 35 = .ok (.baload, 1) := by decide +kernel
theorem dX6_tells_36 : decode cX6_tells 36 = .ok (.ifCond .ne 6, 3) := by decide +kernel
theorem dX6_tells_39 : decode cX6_tells 39 = .ok (.bipush (-11), 2) := by decide +kernel
theorem dX6_tells_41 : decode cX6_tells 41 = .ok (.ireturn, 1) := by decide +kernel
theorem dX6_tells_42 : decode cX6_tells 42 = .ok (.aload_n 0, 1) := by decide +kernel
theorem dX6_tells_43 : decode cX6_tells 43 = .ok (.getfield 60, 3) := by decide +kernel
theorem dX6_tells_46 : decode cX6_tells 46 = .ok (.iload_n 1, 1) := by decide +kernel
theorem dX6_tells_47 : decode cX6_tells 47 = .ok (.iaload, 1) := by decide +kernel
theorem dX6_tells_48 : decode cX6_tells 48 = .ok (.bipush 20, 2) := by decide +kernel
theorem dX6_tells_50 : decode cX6_tells 50 = .ok (.if_icmp .le 6, 3) := by decide +kernel
theorem dX6_tells_53 : decode cX6_tells 53 = .ok (.bipush (-2), 2) := by decide +kernel
theorem dX6_tells_55 : decode cX6_tells 55 = .ok (.ireturn, 1) := by decide +kernel
theorem dX6_tells_56 : decode cX6_tells 56 = .ok (.iload_n 3, 1) := by decide +kernel
theorem dX6_tells_57 : decode cX6_tells 57 = .ok (.ifCond .ne 9, 3) := by decide +kernel
theorem dX6_tells_60 : decode cX6_tells 60 = .ok (.aload_n 0, 1) := by decide +kernel
theorem dX6_tells_61 : decode cX6_tells 61 = .ok (.iload_n 1, 1) := by decide +kernel
theorem dX6_tells_62 : decode cX6_tells 62 = .ok (.invokevirtual 413, 3) := by decide +kernel
theorem dX6_tells_65 : decode cX6_tells 65 = .ok (.ireturn, 1) := by decide +kernel
theorem dX6_tells_66 : decode cX6_tells 66 = .ok (.iload_n 3, 1) := by decide +kernel
theorem dX6_tells_67 : decode cX6_tells 67 = .ok (.iconst 1, 1) := by decide +kernel
theorem dX6_tells_68 : decode cX6_tells 68 = .ok (.if_icmp .ne 8, 3) := by decide +kernel
theorem dX6_tells_71 : decode cX6_tells 71 = .ok (.bipush 8, 2) := by decide +kernel
theorem dX6_tells_73 : decode cX6_tells 73 = .ok (.goto 34, 3) := by decide +kernel
theorem dX6_tells_76 : decode cX6_tells 76 = .ok (.iload_n 3, 1) := by decide +kernel
theorem dX6_tells_77 : decode cX6_tells 77 = .ok (.iconst 2, 1) := by decide +kernel
theorem dX6_tells_78 : decode cX6_tells 78 = .ok (.if_icmp .ne 7, 3) := by decide +kernel
theorem dX6_tells_81 : decode cX6_tells 81 = .ok (.iconst 4, 1) := by decide +kernel
theorem dX6_tells_82 : decode cX6_tells 82 = .ok (.goto 25, 3) := by decide +kernel
theorem dX6_tells_85 : decode cX6_tells 85 = .ok (.iload_n 3, 1) := by decide +kernel
theorem dX6_tells_86 : decode cX6_tells 86 = .ok (.iconst 3, 1) := by decide +kernel
theorem dX6_tells_87 : decode cX6_tells 87 = .ok (.if_icmp .ne 7, 3) := by decide +kernel
theorem dX6_tells_90 : decode cX6_tells 90 = .ok (.iconst 5, 1) := by decide +kernel
theorem dX6_tells_91 : decode cX6_tells 91 = .ok (.goto 16, 3) := by decide +kernel
theorem dX6_tells_94 : decode cX6_tells 94 = .ok (.iload_n 3, 1) := by decide +kernel
theorem dX6_tells_95 : decode cX6_tells 95 = .ok (.bipush 6, 2) := by decide +kernel
theorem dX6_tells_97 : decode cX6_tells 97 = .ok (.if_icmp .ne 8, 3) := by decide +kernel
theorem dX6_tells_100 : decode cX6_tells 100 = .ok (.bipush 9, 2) := by decide +kernel
theorem dX6_tells_102 : decode cX6_tells 102 = .ok (.goto 5, 3) := by decide +kernel
theorem dX6_tells_105 : decode cX6_tells 105 = .ok (.bipush 6, 2) := by decide +kernel
theorem dX6_tells_107 : decode cX6_tells 107 = .ok (.istore 4, 2) := by decide +kernel
theorem dX6_tells_109 : decode cX6_tells 109 = .ok (.iload 4, 2) := by decide +kernel
theorem dX6_tells_111 : decode cX6_tells 111 = .ok (.bipush 9, 2) := by decide +kernel
theorem dX6_tells_113 : decode cX6_tells 113 = .ok (.if_icmp .ne 10, 3) := by decide +kernel
theorem dX6_tells_116 : decode cX6_tells 116 = .ok (.aload_n 0, 1) := by decide +kernel
theorem dX6_tells_117 : decode cX6_tells 117 = .ok (.getfield 115, 3) := by decide +kernel
theorem dX6_tells_120 : decode cX6_tells 120 = .ok (.goto 10, 3) := by decide +kernel
theorem dX6_tells_123 : decode cX6_tells 123 = .ok (.aload_n 0, 1) := by decide +kernel
theorem dX6_tells_124 : decode cX6_tells 124 = .ok (.iload_n 2, 1) := by decide +kernel
theorem dX6_tells_125 : decode cX6_tells 125 = .ok (.iload 4, 2) := by decide +kernel
theorem dX6_tells_127 : decode cX6_tells 127 = .ok (.invokevirtual 98, 3) := by decide +kernel
theorem dX6_tells_130 : decode cX6_tells 130 = .ok (.istore 5, 2) := by decide +kernel
theorem dX6_tells_132 : decode cX6_tells 132 = .ok (.iload 4, 2) := by decide +kernel
theorem dX6_tells_134 : decode cX6_tells 134 = .ok (.bipush 9, 2) := by decide +kernel
theorem dX6_tells_136 : decode cX6_tells 136 = .ok (.if_icmp .ne 12, 3) := by decide +kernel
theorem dX6_tells_139 : decode cX6_tells 139 = .ok (.aload_n 0, 1) := by decide +kernel
theorem dX6_tells_140 : decode cX6_tells 140 = .ok (.getfield 70, 3) := by decide +kernel
theorem dX6_tells_143 : decode cX6_tells 143 = .ok (.iconst 1, 1) := by decide +kernel
theorem dX6_tells_144 : decode cX6_tells 144 = .ok (.isub, 1) := by decide +kernel
theorem dX6_tells_145 : decode cX6_tells 145 = .ok (.goto 37, 3) := by decide +kernel
theorem dX6_tells_148 : decode cX6_tells 148 = .ok (.iload 4, 2) := by decide +kernel
theorem dX6_tells_150 : decode cX6_tells 150 = .ok (.bipush 8, 2) := by decide +kernel
theorem dX6_tells_152 : decode cX6_tells 152 = .ok (.if_icmp .ne 7, 3) := by decide +kernel
theorem dX6_tells_155 : decode cX6_tells 155 = .ok (.iconst 5, 1) := by decide +kernel
theorem dX6_tells_156 : decode cX6_tells 156 = .ok (.goto 26, 3) := by decide +kernel
theorem dX6_tells_159 : decode cX6_tells 159 = .ok (.iload 4, 2) := by decide +kernel
theorem dX6_tells_161 : decode cX6_tells 161 = .ok (.iconst 4, 1) := by decide +kernel
theorem dX6_tells_162 : decode cX6_tells 162 = .ok (.if_icmp .ne 8, 3) := by decide +kernel
theorem dX6_tells_165 : decode cX6_tells 165 = .ok (.bipush 9, 2) := by decide +kernel
theorem dX6_tells_167 : decode cX6_tells 167 = .ok (.goto 15, 3) := by decide +kernel
theorem dX6_tells_170 : decode cX6_tells 170 = .ok (.iload 4, 2) := by decide +kernel
theorem dX6_tells_172 : decode cX6_tells 172 = .ok (.iconst 5, 1) := by decide +kernel
theorem dX6_tells_173 : decode cX6_tells 173 = .ok (.if_icmp .ne 7, 3) := by decide +kernel
theorem dX6_tells_176 : decode cX6_tells 176 = .ok (.iconst 3, 1) := by decide +kernel
theorem dX6_tells_177 : decode cX6_tells 177 = .ok (.goto 5, 3) := by decide +kernel
theorem dX6_tells_180 : decode cX6_tells 180 = .ok (.bipush 99, 2) := by decide +kernel
theorem dX6_tells_182 : decode cX6_tells 182 = .ok (.istore 6, 2) := by decide +kernel
theorem dX6_tells_184 : decode cX6_tells 184 = .ok (.iconst 0, 1) := by decide +kernel
theorem dX6_tells_185 : decode cX6_tells 185 = .ok (.istore 7, 2) := by decide +kernel
theorem dX6_tells_187 : decode cX6_tells 187 = .ok (.iconst 0, 1) := by decide +kernel
theorem dX6_tells_188 : decode cX6_tells 188 = .ok (.istore 8, 2) := by decide +kernel
theorem dX6_tells_190 : decode cX6_tells 190 = .ok (.iconst (-1), 1) := by decide +kernel
theorem dX6_tells_191 : decode cX6_tells 191 = .ok (.istore 9, 2) := by decide +kernel
theorem dX6_tells_193 : decode cX6_tells 193 = .ok (.iload 6, 2) := by decide +kernel
theorem dX6_tells_195 : decode cX6_tells 195 = .ok (.istore 10, 2) := by decide +kernel
theorem dX6_tells_197 : decode cX6_tells 197 = .ok (.iload 10, 2) := by decide +kernel
theorem dX6_tells_199 : decode cX6_tells 199 = .ok (.ifCond .lt 54, 3) := by decide +kernel
theorem dX6_tells_202 : decode cX6_tells 202 = .ok (.aload_n 0, 1) := by decide +kernel
theorem dX6_tells_203 : decode cX6_tells 203 = .ok (.iload 4, 2) := by decide +kernel
theorem dX6_tells_205 : decode cX6_tells 205 = .ok (.iload_n 2, 1) := by decide +kernel
theorem dX6_tells_206 : decode cX6_tells 206 = .ok (.iload 10, 2) := by decide +kernel
theorem dX6_tells_208 : decode cX6_tells 208 = .ok (.invokevirtual 102, 3) := by decide +kernel
theorem dX6_tells_211 : decode cX6_tells 211 = .ok (.aload_n 0, 1) := by decide +kernel
theorem dX6_tells_212 : decode cX6_tells 212 = .ok (.iload_n 1, 1) := by decide +kernel
theorem dX6_tells_213 : decode cX6_tells 213 = .ok (.invokevirtual 413, 3) := by decide +kernel
theorem dX6_tells_216 : decode cX6_tells 216 = .ok (.iconst (-1), 1) := by decide +kernel
theorem dX6_tells_217 : decode cX6_tells 217 = .ok (.if_icmp .ne 30, 3) := by decide +kernel
theorem dX6_tells_220 : decode cX6_tells 220 = .ok (.iload 7, 2) := by decide +kernel
theorem dX6_tells_222 : decode cX6_tells 222 = .ok (.iload 10, 2) := by decide +kernel
theorem dX6_tells_224 : decode cX6_tells 224 = .ok (.bipush 10, 2) := by decide +kernel
theorem dX6_tells_226 : decode cX6_tells 226 = .ok (.if_icmp .ge 10, 3) := by decide +kernel
theorem dX6_tells_229 : decode cX6_tells 229 = .ok (.iconst 1, 1) := by decide +kernel
theorem dX6_tells_230 : decode cX6_tells 230 = .ok (.iload 10, 2) := by decide +kernel
theorem dX6_tells_232 : decode cX6_tells 232 = .ok (.ishl, 1) := by decide +kernel
theorem dX6_tells_233 : decode cX6_tells 233 = .ok (.goto 4, 3) := by decide +kernel
theorem dX6_tells_236 : decode cX6_tells 236 = .ok (.iconst 0, 1) := by decide +kernel
theorem dX6_tells_237 : decode cX6_tells 237 = .ok (.ior, 1) := by decide +kernel
theorem dX6_tells_238 : decode cX6_tells 238 = .ok (.istore 7, 2) := by decide +kernel
theorem dX6_tells_240 : decode cX6_tells 240 = .ok (.iinc 8 1, 3) := by decide +kernel
theorem dX6_tells_243 : decode cX6_tells 243 = .ok (.iload 10, 2) := by decide +kernel
theorem dX6_tells_245 : decode cX6_tells 245 = .ok (.istore 9, 2) := by decide +kernel
theorem dX6_tells_247 : decode cX6_tells 247 = .ok (.iinc 10 (-1), 3) := by decide +kernel
theorem dX6_tells_250 : decode cX6_tells 250 = .ok (.goto (-53), 3) := by decide +kernel
theorem dX6_tells_253 : decode cX6_tells 253 = .ok (.aload_n 0, 1) := by decide +kernel
theorem dX6_tells_254 : decode cX6_tells 254 = .ok (.iload 4, 2) := by decide +kernel
theorem dX6_tells_256 : decode cX6_tells 256 = .ok (.iload_n 2, 1) := by decide +kernel
theorem dX6_tells_257 : decode cX6_tells 257 = .ok (.iload 5, 2) := by decide +kernel
theorem dX6_tells_259 : decode cX6_tells 259 = .ok (.invokevirtual 102, 3) := by decide +kernel
theorem dX6_tells_262 : decode cX6_tells 262 = .ok (.iload_n 3, 1) := by decide +kernel
theorem dX6_tells_263 : decode cX6_tells 263 = .ok (.iconst 4, 1) := by decide +kernel
theorem dX6_tells_264 : decode cX6_tells 264 = .ok (.if_icmp .ne 8, 3) := by decide +kernel
theorem dX6_tells_267 : decode cX6_tells 267 = .ok (.iload 8, 2) := by decide +kernel
theorem dX6_tells_269 : decode cX6_tells 269 = .ok (.goto 15, 3) := by decide +kernel
theorem dX6_tells_272 : decode cX6_tells 272 = .ok (.iload_n 3, 1) := by decide +kernel
theorem dX6_tells_273 : decode cX6_tells 273 = .ok (.iconst 5, 1) := by decide +kernel
theorem dX6_tells_274 : decode cX6_tells 274 = .ok (.if_icmp .ne 8, 3) := by decide +kernel
theorem dX6_tells_277 : decode cX6_tells 277 = .ok (.iload 9, 2) := by decide +kernel
theorem dX6_tells_279 : decode cX6_tells 279 = .ok (.goto 5, 3) := by decide +kernel
theorem dX6_tells_282 : decode cX6_tells 282 = .ok (.iload 7, 2) := by decide +kernel
theorem dX6_tells_284 : decode cX6_tells 284 = .ok (.ireturn, 1) := by decide +kernel
theorem dX6_film_0 : decode cX6_film 0 = .ok (.iload_n 1, 1) := by decide +kernel
theorem dX6_film_1 : decode cX6_film 1 = .ok (.invokestatic 408, 3) := by decide +kernel
theorem dX6_film_4 : decode cX6_film 4 = .ok (.ifCond .eq 15, 3) := by decide +kernel
theorem dX6_film_7 : decode cX6_film 7 = .ok (.iload_n 2, 1) := by decide +kernel
theorem dX6_film_8 : decode cX6_film 8 = .ok (.i2l, 1) := by decide +kernel
theorem dX6_film_9 : decode cX6_film 9 = .ok (.lconst 0, 1) := by decide +kernel
theorem dX6_film_10 : decode cX6_film 10 = .ok (.ldc2_w 399, 3) := by decide +kernel
theorem dX6_film_13 : decode cX6_film 13 = .ok (.invokestatic 76, 3) := by decide +kernel
theorem dX6_film_16 : decode cX6_film 16 = .ok (.ifCond .ne 6, 3) := by decide +kernel
theorem dX6_film_19 : decode cX6_film 19 = .ok (.bipush (-2), 2) := by decide +kernel
theorem dX6_film_21 : decode cX6_film 21 = .ok (.ireturn, 1) := by decide +kernel
theorem dX6_film_22 : decode cX6_film 22 = .ok (.aload_n 0, 1) := by decide +kernel
theorem dX6_film_23 : decode cX6_film 23 = .ok (.iload_n 1, 1) := by decide +kernel
theorem dX6_film_24 : decode cX6_film 24 = .ok (.iconst 0, 1) := by decide +kernel
theorem dX6_film_25 : decode cX6_film 25 = .ok (.iload_n 2, 1) := by decide +kernel
theorem dX6_film_26 : decode cX6_film 26 = .ok (.invokevirtual 416, 3) := by decide +kernel
theorem dX6_film_29 : decode cX6_film 29 = .ok (.pop, 1) := by decide +kernel
theorem dX6_film_30 : decode cX6_film 30 = .ok (.aload_n 0, 1) := by decide +kernel
theorem dX6_film_31 : decode cX6_film 31 = .ok (.invokevirtual 385, 3) := by decide +kernel
theorem dX6_film_34 : decode cX6_film 34 = .ok (.iconst 0, 1) := by decide +kernel
theorem dX6_film_35 : decode cX6_film 35 = .ok (.istore_n 3, 1) := by decide +kernel
theorem dX6_film_36 : decode cX6_film 36 = .ok (.iload_n 3, 1) := by decide +kernel
theorem dX6_film_37 : decode cX6_film 37 = .ok (.iload_n 2, 1) := by decide +kernel
theorem dX6_film_38 : decode cX6_film 38 = .ok (.if_icmp .ge 31, 3) := by decide +kernel
theorem dX6_film_41 : decode cX6_film 41 = .ok (.aload_n 0, 1) := by decide +kernel
theorem dX6_film_42 : decode cX6_film 42 = .ok (.invokevirtual 379, 3) := by decide +kernel
theorem dX6_film_45 : decode cX6_film 45 = .ok (.aload_n 0, 1) := by decide +kernel
theorem dX6_film_46 : decode cX6_film 46 = .ok (.getfield 63, 3) := by decide +kernel
theorem dX6_film_49 : decode cX6_film 49 = .ok (.bipush 40, 2) := by decide +kernel
theorem dX6_film_51 : decode cX6_film 51 = .ok (.iload_n 1, 1) := by decide +kernel
theorem dX6_film_52 : decode cX6_film 52 = .ok (.imul, 1) := by decide +kernel
theorem dX6_film_53 : decode cX6_film 53 = .ok (.iload_n 3, 1) := by decide +kernel
theorem dX6_film_54 : decode cX6_film 54 = .ok (.iadd, 1) := by decide +kernel
theorem dX6_film_55 : decode cX6_film 55 = .ok (.aload_n 0, 1) := by decide +kernel
theorem dX6_film_56 : decode cX6_film 56 = .ok (.getfield 109, 3) := by decide +kernel
theorem dX6_film_59 : decode cX6_film 59 = .ok (.invokestatic 352, 3) := by decide +kernel
theorem dX6_film_62 : decode cX6_film 62 = .ok (.iastore, 1) := by decide +kernel
theorem dX6_film_63 : decode cX6_film 63 = .ok (.iinc 3 1, 3) := by decide +kernel
theorem dX6_film_66 : decode cX6_film 66 = .ok (.goto (-30), 3) := by decide +kernel
theorem dX6_film_69 : decode cX6_film 69 = .ok (.aload_n 0, 1) := by decide +kernel
theorem dX6_film_70 : decode cX6_film 70 = .ok (.invokevirtual 391, 3) := by decide +kernel
theorem dX6_film_73 : decode cX6_film 73 = .ok (.iload_n 2, 1) := by decide +kernel
theorem dX6_film_74 : decode cX6_film 74 = .ok (.ireturn, 1) := by decide +kernel
theorem dX6_filledDrawn_0 : decode cX6_filledDrawn 0 = .ok (.iload_n 1, 1) := by decide +kernel
theorem dX6_filledDrawn_1 : decode cX6_filledDrawn 1 = .ok (.istore_n 3, 1) := by decide +kernel
theorem dX6_filledDrawn_2 : decode cX6_filledDrawn 2 = .ok (.iconst 0, 1) := by decide +kernel
theorem dX6_filledDrawn_3 : decode cX6_filledDrawn 3 = .ok (.istore 4, 2) := by decide +kernel
theorem dX6_filledDrawn_5 : decode cX6_filledDrawn 5 = .ok (.iload 4, 2) := by decide +kernel
theorem dX6_filledDrawn_7 : decode cX6_filledDrawn 7 = .ok (.bipush 64, 2) := by decide +kernel
theorem dX6_filledDrawn_9 : decode cX6_filledDrawn 9 = .ok (.if_icmp .ge 46, 3) := by decide +kernel
theorem dX6_filledDrawn_12 : decode cX6_filledDrawn 12 = .ok (.aload_n 0, 1) := by decide +kernel
theorem dX6_filledDrawn_13 : decode cX6_filledDrawn 13 = .ok (.getfield 38, 3) := by decide +kernel
theorem dX6_filledDrawn_16 : decode cX6_filledDrawn 16 = .ok (.iload 4, 2) := by decide +kernel
theorem dX6_filledDrawn_18 : decode cX6_filledDrawn 18 = .ok (.aload_n 0, 1) := by decide +kernel
theorem dX6_filledDrawn_19 : decode cX6_filledDrawn 19 = .ok (.getfield 23, 3) := by decide +kernel
theorem dX6_filledDrawn_22 : decode cX6_filledDrawn 22 = .ok (.iload 4, 2) := by decide +kernel
theorem dX6_filledDrawn_24 : decode cX6_filledDrawn 24 = .ok (.iaload, 1) := by decide +kernel
theorem dX6_filledDrawn_25 : decode cX6_filledDrawn 25 = .ok (.iastore, 1) := by decide +kernel
theorem dX6_filledDrawn_26 : decode cX6_filledDrawn 26 = .ok (.iload_n 3, 1) := by decide +kernel
theorem dX6_filledDrawn_27 : decode cX6_filledDrawn 27 = .ok (.ldc_w 419, 3) := by decide +kernel
theorem dX6_filledDrawn_30 : decode cX6_filledDrawn 30 = .ok (.imul, 1) := by decide +kernel
theorem dX6_filledDrawn_31 : decode cX6_filledDrawn 31 = .ok (.sipush 12345, 3) := by decide +kernel
theorem dX6_filledDrawn_34 : decode cX6_filledDrawn 34 = .ok (.iadd, 1) := by decide +kernel
theorem dX6_filledDrawn_35 : decode cX6_filledDrawn 35 = .ok (.istore_n 3, 1) := by decide +kernel
theorem dX6_filledDrawn_36 : decode cX6_filledDrawn 36 = .ok (.aload_n 0, 1) := by decide +kernel
theorem dX6_filledDrawn_37 : decode cX6_filledDrawn 37 = .ok (.getfield 23, 3) := by decide +kernel
theorem dX6_filledDrawn_40 : decode cX6_filledDrawn 40 = .ok (.iload 4, 2) := by decide +kernel
theorem dX6_filledDrawn_42 : decode cX6_filledDrawn 42 = .ok (.iload_n 3, 1) := by decide +kernel
theorem dX6_filledDrawn_43 : decode cX6_filledDrawn 43 = .ok (.bipush 9, 2) := by decide +kernel
theorem dX6_filledDrawn_45 : decode cX6_filledDrawn 45 = .ok (.iushr, 1) := by decide +kernel
theorem dX6_filledDrawn_46 : decode cX6_filledDrawn 46 = .ok (.iconst 4, 1) := by decide +kernel
theorem dX6_filledDrawn_47 : decode cX6_filledDrawn 47 = .ok (.irem, 1) := by decide +kernel
theorem dX6_filledDrawn_48 : decode cX6_filledDrawn 48 = .ok (.iastore, 1) := by decide +kernel
theorem dX6_filledDrawn_49 : decode cX6_filledDrawn 49 = .ok (.iinc 4 1, 3) := by decide +kernel
theorem dX6_filledDrawn_52 : decode cX6_filledDrawn 52 = .ok (.goto (-47), 3) := by decide +kernel
theorem dX6_filledDrawn_55 : decode cX6_filledDrawn 55 = .ok (.aload_n 0, 1) := by decide +kernel
theorem dX6_filledDrawn_56 : decode cX6_filledDrawn 56 = .ok (.iload_n 2, 1) := by decide +kernel
theorem dX6_filledDrawn_57 : decode cX6_filledDrawn 57 = .ok (.invokevirtual 396, 3) := by decide +kernel
theorem dX6_filledDrawn_60 : decode cX6_filledDrawn 60 = .ok (.invokestatic 352, 3) := by decide +kernel
theorem dX6_filledDrawn_63 : decode cX6_filledDrawn 63 = .ok (.istore 4, 2) := by decide +kernel
theorem dX6_filledDrawn_65 : decode cX6_filledDrawn 65 = .ok (.iconst 0, 1) := by decide +kernel
theorem dX6_filledDrawn_66 : decode cX6_filledDrawn 66 = .ok (.istore 5, 2) := by decide +kernel
theorem dX6_filledDrawn_68 : decode cX6_filledDrawn 68 = .ok (.iload 5, 2) := by decide +kernel
theorem dX6_filledDrawn_70 : decode cX6_filledDrawn 70 = .ok (.bipush 64, 2) := by decide +kernel
theorem dX6_filledDrawn_72 : decode cX6_filledDrawn 72 = .ok (.if_icmp .ge 23, 3) := by decide +kernel
theorem dX6_filledDrawn_75 : decode cX6_filledDrawn 75 = .ok (.aload_n 0, 1) := by decide +kernel
theorem dX6_filledDrawn_76 : decode cX6_filledDrawn 76 = .ok (.getfield 23, 3) := by decide +kernel
theorem dX6_filledDrawn_79 : decode cX6_filledDrawn 79 = .ok (.iload 5, 2) := by decide +kernel
theorem dX6_filledDrawn_81 : decode cX6_filledDrawn 81 = .ok (.aload_n 0, 1) := by decide +kernel
theorem dX6_filledDrawn_82 : decode cX6_filledDrawn 82 = .ok (.getfield 38, 3) := by decide +kernel
theorem dX6_filledDrawn_85 : decode cX6_filledDrawn 85 = .ok (.iload 5, 2) := by decide +kernel
theorem dX6_filledDrawn_87 : decode cX6_filledDrawn 87 = .ok (.iaload, 1) := by decide +kernel
theorem dX6_filledDrawn_88 : decode cX6_filledDrawn 88 = .ok (.iastore, 1) := by decide +kernel
theorem dX6_filledDrawn_89 : decode cX6_filledDrawn 89 = .ok (.iinc 5 1, 3) := by decide +kernel
theorem dX6_filledDrawn_92 : decode cX6_filledDrawn 92 = .ok (.goto (-24), 3) := by decide +kernel
theorem dX6_filledDrawn_95 : decode cX6_filledDrawn 95 = .ok (.iload 4, 2) := by decide +kernel
theorem dX6_filledDrawn_97 : decode cX6_filledDrawn 97 = .ok (.ireturn, 1) := by decide +kernel
theorem dX6_drawn_0 : decode cX6_drawn 0 = .ok (.iload_n 2, 1) := by decide +kernel
theorem dX6_drawn_1 : decode cX6_drawn 1 = .ok (.i2l, 1) := by decide +kernel
theorem dX6_drawn_2 : decode cX6_drawn 2 = .ok (.lconst 0, 1) := by decide +kernel
theorem dX6_drawn_3 : decode cX6_drawn 3 = .ok (.ldc2_w 394, 3) := by decide +kernel
theorem dX6_drawn_6 : decode cX6_drawn 6 = .ok (.invokestatic 76, 3) := by decide +kernel
theorem dX6_drawn_9 : decode cX6_drawn 9 = .ok (.ifCond .eq 12, 3) := by decide +kernel
theorem dX6_drawn_12 : decode cX6_drawn 12 = .ok (.aload_n 0, 1) := by decide +kernel
theorem dX6_drawn_13 : decode cX6_drawn 13 = .ok (.iload_n 1, 1) := by decide +kernel
theorem dX6_drawn_14 : decode cX6_drawn 14 = .ok (.iload_n 2, 1) := by decide +kernel
theorem dX6_drawn_15 : decode cX6_drawn 15 = .ok (.invokevirtual 420, 3) := by decide +kernel
theorem dX6_drawn_18 : decode cX6_drawn 18 = .ok (.goto 5, 3) := by decide +kernel
theorem dX6_drawn_21 : decode cX6_drawn 21 = .ok (.bipush (-2), 2) := by decide +kernel
theorem dX6_drawn_23 : decode cX6_drawn 23 = .ok (.ireturn, 1) := by decide +kernel
theorem dX6_chance_0 : decode cX6_chance 0 = .ok (.iload_n 2, 1) := by decide +kernel
theorem dX6_chance_1 : decode cX6_chance 1 = .ok (.i2l, 1) := by decide +kernel
theorem dX6_chance_2 : decode cX6_chance 2 = .ok (.lconst 1, 1) := by decide +kernel
theorem dX6_chance_3 : decode cX6_chance 3 = .ok (.ldc2_w 399, 3) := by decide +kernel
theorem dX6_chance_6 : decode cX6_chance 6 = .ok (.invokestatic 76, 3) := by decide +kernel
theorem dX6_chance_9 : decode cX6_chance 9 = .ok (.ifCond .eq 26, 3) := by decide +kernel
theorem dX6_chance_12 : decode cX6_chance 12 = .ok (.iload_n 3, 1) := by decide +kernel
theorem dX6_chance_13 : decode cX6_chance 13 = .ok (.i2l, 1) := by decide +kernel
theorem dX6_chance_14 : decode cX6_chance 14 = .ok (.lconst 0, 1) := by decide +kernel
theorem dX6_chance_15 : decode cX6_chance 15 = .ok (.ldc2_w 423, 3) := by decide +kernel
theorem dX6_chance_18 : decode cX6_chance 18 = .ok (.invokestatic 76, 3) := by decide +kernel
theorem dX6_chance_21 : decode cX6_chance 21 = .ok (.ifCond .eq 14, 3) := by decide +kernel
theorem dX6_chance_24 : decode cX6_chance 24 = .ok (.iload 4, 2) := by decide +kernel
theorem dX6_chance_26 : decode cX6_chance 26 = .ok (.i2l, 1) := by decide +kernel
theorem dX6_chance_27 : decode cX6_chance 27 = .ok (.lconst 0, 1) := by decide +kernel
theorem dX6_chance_28 : decode cX6_chance 28 = .ok (.lconst 1, 1) := by decide +kernel
theorem dX6_chance_29 : decode cX6_chance 29 = .ok (.invokestatic 76, 3) := by decide +kernel
theorem dX6_chance_32 : decode cX6_chance 32 = .ok (.ifCond .ne 7, 3) := by decide +kernel
theorem dX6_chance_35 : decode cX6_chance 35 = .ok (.ldc2_w 139, 3) := by decide +kernel
theorem dX6_chance_38 : decode cX6_chance 38 = .ok (.lreturn, 1) := by decide +kernel
theorem dX6_chance_39 : decode cX6_chance 39 = .ok (.lconst 0, 1) := by decide +kernel
theorem dX6_chance_40 : decode cX6_chance 40 = .ok (.lstore 5, 2) := by decide +kernel
theorem dX6_chance_42 : decode cX6_chance 42 = .ok (.iconst 0, 1) := by decide +kernel
theorem dX6_chance_43 : decode cX6_chance 43 = .ok (.istore 7, 2) := by decide +kernel
theorem dX6_chance_45 : decode cX6_chance 45 = .ok (.iload 7, 2) := by decide +kernel
theorem dX6_chance_47 : decode cX6_chance 47 = .ok (.iload_n 2, 1) := by decide +kernel
theorem dX6_chance_48 : decode cX6_chance 48 = .ok (.if_icmp .ge 33, 3) := by decide +kernel
theorem dX6_chance_51 : decode cX6_chance 51 = .ok (.lload 5, 2) := by decide +kernel
theorem dX6_chance_53 : decode cX6_chance 53 = .ok (.aload_n 0, 1) := by decide +kernel
theorem dX6_chance_54 : decode cX6_chance 54 = .ok (.iload_n 1, 1) := by decide +kernel
theorem dX6_chance_55 : decode cX6_chance 55 = .ok (.iload 7, 2) := by decide +kernel
theorem dX6_chance_57 : decode cX6_chance 57 = .ok (.iadd, 1) := by decide +kernel
theorem dX6_chance_58 : decode cX6_chance 58 = .ok (.bipush 12, 2) := by decide +kernel
theorem dX6_chance_60 : decode cX6_chance 60 = .ok (.invokevirtual 420, 3) := by decide +kernel
theorem dX6_chance_63 : decode cX6_chance 63 = .ok (.iload_n 3, 1) := by decide +kernel
theorem dX6_chance_64 : decode cX6_chance 64 = .ok (.if_icmp .lt 7, 3) := by decide +kernel
theorem dX6_chance_67 : decode cX6_chance 67 = .ok (.lconst 1, 1) := by decide +kernel
theorem dX6_chance_68 : decode cX6_chance 68 = .ok (.goto 4, 3) := by decide +kernel
theorem dX6_chance_71 : decode cX6_chance 71 = .ok (.lconst 0, 1) := by decide +kernel
theorem dX6_chance_72 : decode cX6_chance 72 = .ok (.ladd, 1) := by decide +kernel
theorem dX6_chance_73 : decode cX6_chance 73 = .ok (.lstore 5, 2) := by decide +kernel
theorem dX6_chance_75 : decode cX6_chance 75 = .ok (.iinc 7 1, 3) := by decide +kernel
theorem dX6_chance_78 : decode cX6_chance 78 = .ok (.goto (-33), 3) := by decide +kernel
theorem dX6_chance_81 : decode cX6_chance 81 = .ok (.lload 5, 2) := by decide +kernel
theorem dX6_chance_83 : decode cX6_chance 83 = .ok (.iload_n 2, 1) := by decide +kernel
theorem dX6_chance_84 : decode cX6_chance 84 = .ok (.i2l, 1) := by decide +kernel
theorem dX6_chance_85 : decode cX6_chance 85 = .ok (.iload 4, 2) := by decide +kernel
theorem dX6_chance_87 : decode cX6_chance 87 = .ok (.invokestatic 404, 3) := by decide +kernel
theorem dX6_chance_90 : decode cX6_chance 90 = .ok (.lreturn, 1) := by decide +kernel
theorem dX6_image_0 : decode cX6_image 0 = .ok (.iconst 0, 1) := by decide +kernel
theorem dX6_image_1 : decode cX6_image 1 = .ok (.istore_n 1, 1) := by decide +kernel
theorem dX6_image_2 : decode cX6_image 2 = .ok (.iload_n 1, 1) := by decide +kernel
theorem dX6_image_3 : decode cX6_image 3 = .ok (.bipush 25, 2) := by decide +kernel
theorem dX6_image_5 : decode cX6_image 5 = .ok (.if_icmp .ge 21, 3) := by decide +kernel
theorem dX6_image_8 : decode cX6_image 8 = .ok (.aload_n 0, 1) := by decide +kernel
theorem dX6_image_9 : decode cX6_image 9 = .ok (.getfield 41, 3) := by decide +kernel
theorem dX6_image_12 : decode cX6_image 12 = .ok (.iload_n 1, 1) := by decide +kernel
theorem dX6_image_13 : decode cX6_image 13 = .ok (.aload_n 0, 1) := by decide +kernel
theorem dX6_image_14 : decode cX6_image 14 = .ok (.getfield 29, 3) := by decide +kernel
theorem dX6_image_17 : decode cX6_image 17 = .ok (.iload_n 1, 1) := by decide +kernel
theorem dX6_image_18 : decode cX6_image 18 = .ok (.iaload, 1) := by decide +kernel
theorem dX6_image_19 : decode cX6_image 19 = .ok (.iastore, 1) := by decide +kernel
theorem dX6_image_20 : decode cX6_image 20 = .ok (.iinc 1 1, 3) := by decide +kernel
theorem dX6_image_23 : decode cX6_image 23 = .ok (.goto (-21), 3) := by decide +kernel
theorem dX6_image_26 : decode cX6_image 26 = .ok (.iconst 0, 1) := by decide +kernel
theorem dX6_image_27 : decode cX6_image 27 = .ok (.istore_n 1, 1) := by decide +kernel
theorem dX6_image_28 : decode cX6_image 28 = .ok (.iload_n 1, 1) := by decide +kernel
theorem dX6_image_29 : decode cX6_image 29 = .ok (.bipush 64, 2) := by decide +kernel
theorem dX6_image_31 : decode cX6_image 31 = .ok (.if_icmp .ge 21, 3) := by decide +kernel
theorem dX6_image_34 : decode cX6_image 34 = .ok (.aload_n 0, 1) := by decide +kernel
theorem dX6_image_35 : decode cX6_image 35 = .ok (.getfield 44, 3) := by decide +kernel
theorem dX6_image_38 : decode cX6_image 38 = .ok (.iload_n 1, 1) := by decide +kernel
theorem dX6_image_39 : decode cX6_image 39 = .ok (.aload_n 0, 1) := by decide +kernel
theorem dX6_image_40 : decode cX6_image 40 = .ok (.getfield 23, 3) := by decide +kernel
theorem dX6_image_43 : decode cX6_image 43 = .ok (.iload_n 1, 1) := by decide +kernel
theorem dX6_image_44 : decode cX6_image 44 = .ok (.iaload, 1) := by decide +kernel
theorem dX6_image_45 : decode cX6_image 45 = .ok (.iastore, 1) := by decide +kernel
theorem dX6_image_46 : decode cX6_image 46 = .ok (.iinc 1 1, 3) := by decide +kernel
theorem dX6_image_49 : decode cX6_image 49 = .ok (.goto (-21), 3) := by decide +kernel
theorem dX6_image_52 : decode cX6_image 52 = .ok (.iconst 0, 1) := by decide +kernel
theorem dX6_image_53 : decode cX6_image 53 = .ok (.istore_n 1, 1) := by decide +kernel
theorem dX6_image_54 : decode cX6_image 54 = .ok (.iload_n 1, 1) := by decide +kernel
theorem dX6_image_55 : decode cX6_image 55 = .ok (.iconst 4, 1) := by decide +kernel
theorem dX6_image_56 : decode cX6_image 56 = .ok (.if_icmp .ge 21, 3) := by decide +kernel
theorem dX6_image_59 : decode cX6_image 59 = .ok (.aload_n 0, 1) := by decide +kernel
theorem dX6_image_60 : decode cX6_image 60 = .ok (.getfield 47, 3) := by decide +kernel
theorem dX6_image_63 : decode cX6_image 63 = .ok (.iload_n 1, 1) := by decide +kernel
theorem dX6_image_64 : decode cX6_image 64 = .ok (.aload_n 0, 1) := by decide +kernel
theorem dX6_image_65 : decode cX6_image 65 = .ok (.getfield 26, 3) := by decide +kernel
theorem dX6_image_68 : decode cX6_image 68 = .ok (.iload_n 1, 1) := by decide +kernel
theorem dX6_image_69 : decode cX6_image 69 = .ok (.iaload, 1) := by decide +kernel
theorem dX6_image_70 : decode cX6_image 70 = .ok (.iastore, 1) := by decide +kernel
theorem dX6_image_71 : decode cX6_image 71 = .ok (.iinc 1 1, 3) := by decide +kernel
theorem dX6_image_74 : decode cX6_image 74 = .ok (.goto (-20), 3) := by decide +kernel
theorem dX6_image_77 : decode cX6_image 77 = .ok (.aload_n 0, 1) := by decide +kernel
theorem dX6_image_78 : decode cX6_image 78 = .ok (.aload_n 0, 1) := by decide +kernel
theorem dX6_image_79 : decode cX6_image 79 = .ok (.getfield 73, 3) := by decide +kernel
theorem dX6_image_82 : decode cX6_image 82 = .ok (.putfield 50, 3) := by decide +kernel
theorem dX6_image_85 : decode cX6_image 85 = .ok (.aload_n 0, 1) := by decide +kernel
theorem dX6_image_86 : decode cX6_image 86 = .ok (.aload_n 0, 1) := by decide +kernel
theorem dX6_image_87 : decode cX6_image 87 = .ok (.getfield 106, 3) := by decide +kernel
theorem dX6_image_90 : decode cX6_image 90 = .ok (.putfield 425, 3) := by decide +kernel
theorem dX6_image_93 : decode cX6_image 93 = .ok (.aload_n 0, 1) := by decide +kernel
theorem dX6_image_94 : decode cX6_image 94 = .ok (.aload_n 0, 1) := by decide +kernel
theorem dX6_image_95 : decode cX6_image 95 = .ok (.getfield 115, 3) := by decide +kernel
theorem dX6_image_98 : decode cX6_image 98 = .ok (.putfield 428, 3) := by decide +kernel
theorem dX6_image_101 : decode cX6_image 101 = .ok (.aload_n 0, 1) := by decide +kernel
theorem dX6_image_102 : decode cX6_image 102 = .ok (.aload_n 0, 1) := by decide +kernel
theorem dX6_image_103 : decode cX6_image 103 = .ok (.getfield 109, 3) := by decide +kernel
theorem dX6_image_106 : decode cX6_image 106 = .ok (.putfield 431, 3) := by decide +kernel
theorem dX6_image_109 : decode cX6_image 109 = .ok (.aload_n 0, 1) := by decide +kernel
theorem dX6_image_110 : decode cX6_image 110 = .ok (.getfield 73, 3) := by decide +kernel
theorem dX6_image_113 : decode cX6_image 113 = .ok (.ireturn, 1) := by decide +kernel
theorem dX6_back_0 : decode cX6_back 0 = .ok (.aload_n 0, 1) := by decide +kernel
theorem dX6_back_1 : decode cX6_back 1 = .ok (.getfield 50, 3) := by decide +kernel
theorem dX6_back_4 : decode cX6_back 4 = .ok (.iconst (-1), 1) := by decide +kernel
theorem dX6_back_5 : decode cX6_back 5 = .ok (.if_icmp .ne 6, 3) := by decide +kernel
theorem dX6_back_8 : decode cX6_back 8 = .ok (.bipush (-3), 2) := by decide +kernel
theorem dX6_back_10 : decode cX6_back 10 = .ok (.ireturn, 1) := by decide +kernel
theorem dX6_back_11 : decode cX6_back 11 = .ok (.iconst 0, 1) := by decide +kernel
theorem dX6_back_12 : decode cX6_back 12 = .ok (.istore_n 1, 1) := by decide +kernel
theorem dX6_back_13 : decode cX6_back 13 = .ok (.iload_n 1, 1) := by decide +kernel
theorem dX6_back_14 : decode cX6_back 14 = .ok (.bipush 25, 2) := by decide +kernel
theorem dX6_back_16 : decode cX6_back 16 = .ok (.if_icmp .ge 21, 3) := by decide +kernel
theorem dX6_back_19 : decode cX6_back 19 = .ok (.aload_n 0, 1) := by decide +kernel
theorem dX6_back_20 : decode cX6_back 20 = .ok (.getfield 29, 3) := by decide +kernel
theorem dX6_back_23 : decode cX6_back 23 = .ok (.iload_n 1, 1) := by decide +kernel
theorem dX6_back_24 : decode cX6_back 24 = .ok (.aload_n 0, 1) := by decide +kernel
theorem dX6_back_25 : decode cX6_back 25 = .ok (.getfield 41, 3) := by decide +kernel
theorem dX6_back_28 : decode cX6_back 28 = .ok (.iload_n 1, 1) := by decide +kernel
theorem dX6_back_29 : decode cX6_back 29 = .ok (.iaload, 1) := by decide +kernel
theorem dX6_back_30 : decode cX6_back 30 = .ok (.iastore, 1) := by decide +kernel
theorem dX6_back_31 : decode cX6_back 31 = .ok (.iinc 1 1, 3) := by decide +kernel
theorem dX6_back_34 : decode cX6_back 34 = .ok (.goto (-21), 3) := by decide +kernel
theorem dX6_back_37 : decode cX6_back 37 = .ok (.iconst 0, 1) := by decide +kernel
theorem dX6_back_38 : decode cX6_back 38 = .ok (.istore_n 1, 1) := by decide +kernel
theorem dX6_back_39 : decode cX6_back 39 = .ok (.iload_n 1, 1) := by decide +kernel
theorem dX6_back_40 : decode cX6_back 40 = .ok (.bipush 64, 2) := by decide +kernel
theorem dX6_back_42 : decode cX6_back 42 = .ok (.if_icmp .ge 21, 3) := by decide +kernel
theorem dX6_back_45 : decode cX6_back 45 = .ok (.aload_n 0, 1) := by decide +kernel
theorem dX6_back_46 : decode cX6_back 46 = .ok (.getfield 23, 3) := by decide +kernel
theorem dX6_back_49 : decode cX6_back 49 = .ok (.iload_n 1, 1) := by decide +kernel
theorem dX6_back_50 : decode cX6_back 50 = .ok (.aload_n 0, 1) := by decide +kernel
theorem dX6_back_51 : decode cX6_back 51 = .ok (.getfield 44, 3) := by decide +kernel
theorem dX6_back_54 : decode cX6_back 54 = .ok (.iload_n 1, 1) := by decide +kernel
theorem dX6_back_55 : decode cX6_back 55 = .ok (.iaload, 1) := by decide +kernel
theorem dX6_back_56 : decode cX6_back 56 = .ok (.iastore, 1) := by decide +kernel
theorem dX6_back_57 : decode cX6_back 57 = .ok (.iinc 1 1, 3) := by decide +kernel
theorem dX6_back_60 : decode cX6_back 60 = .ok (.goto (-21), 3) := by decide +kernel
theorem dX6_back_63 : decode cX6_back 63 = .ok (.iconst 0, 1) := by decide +kernel
theorem dX6_back_64 : decode cX6_back 64 = .ok (.istore_n 1, 1) := by decide +kernel
theorem dX6_back_65 : decode cX6_back 65 = .ok (.iload_n 1, 1) := by decide +kernel
theorem dX6_back_66 : decode cX6_back 66 = .ok (.iconst 4, 1) := by decide +kernel
theorem dX6_back_67 : decode cX6_back 67 = .ok (.if_icmp .ge 21, 3) := by decide +kernel
theorem dX6_back_70 : decode cX6_back 70 = .ok (.aload_n 0, 1) := by decide +kernel
theorem dX6_back_71 : decode cX6_back 71 = .ok (.getfield 26, 3) := by decide +kernel
theorem dX6_back_74 : decode cX6_back 74 = .ok (.iload_n 1, 1) := by decide +kernel
theorem dX6_back_75 : decode cX6_back 75 = .ok (.aload_n 0, 1) := by decide +kernel
theorem dX6_back_76 : decode cX6_back 76 = .ok (.getfield 47, 3) := by decide +kernel
theorem dX6_back_79 : decode cX6_back 79 = .ok (.iload_n 1, 1) := by decide +kernel
theorem dX6_back_80 : decode cX6_back 80 = .ok (.iaload, 1) := by decide +kernel
theorem dX6_back_81 : decode cX6_back 81 = .ok (.iastore, 1) := by decide +kernel
theorem dX6_back_82 : decode cX6_back 82 = .ok (.iinc 1 1, 3) := by decide +kernel
theorem dX6_back_85 : decode cX6_back 85 = .ok (.goto (-20), 3) := by decide +kernel
theorem dX6_back_88 : decode cX6_back 88 = .ok (.aload_n 0, 1) := by decide +kernel
theorem dX6_back_89 : decode cX6_back 89 = .ok (.aload_n 0, 1) := by decide +kernel
theorem dX6_back_90 : decode cX6_back 90 = .ok (.getfield 50, 3) := by decide +kernel
theorem dX6_back_93 : decode cX6_back 93 = .ok (.putfield 73, 3) := by decide +kernel
theorem dX6_back_96 : decode cX6_back 96 = .ok (.aload_n 0, 1) := by decide +kernel
theorem dX6_back_97 : decode cX6_back 97 = .ok (.aload_n 0, 1) := by decide +kernel
theorem dX6_back_98 : decode cX6_back 98 = .ok (.getfield 425, 3) := by decide +kernel
theorem dX6_back_101 : decode cX6_back 101 = .ok (.putfield 106, 3) := by decide +kernel
theorem dX6_back_104 : decode cX6_back 104 = .ok (.aload_n 0, 1) := by decide +kernel
theorem dX6_back_105 : decode cX6_back 105 = .ok (.aload_n 0, 1) := by decide +kernel
theorem dX6_back_106 : decode cX6_back 106 = .ok (.getfield 428, 3) := by decide +kernel
theorem dX6_back_109 : decode cX6_back 109 = .ok (.putfield 115, 3) := by decide +kernel
theorem dX6_back_112 : decode cX6_back 112 = .ok (.aload_n 0, 1) := by decide +kernel
theorem dX6_back_113 : decode cX6_back 113 = .ok (.aload_n 0, 1) := by decide +kernel
theorem dX6_back_114 : decode cX6_back 114 = .ok (.getfield 431, 3) := by decide +kernel
theorem dX6_back_117 : decode cX6_back 117 = .ok (.putfield 109, 3) := by decide +kernel
theorem dX6_back_120 : decode cX6_back 120 = .ok (.aload_n 0, 1) := by decide +kernel
theorem dX6_back_121 : decode cX6_back 121 = .ok (.getfield 73, 3) := by decide +kernel
theorem dX6_back_124 : decode cX6_back 124 = .ok (.ireturn, 1) := by decide +kernel
theorem dX6_count_0 : decode cX6_count 0 = .ok (.iload_n 1, 1) := by decide +kernel
theorem dX6_count_1 : decode cX6_count 1 = .ok (.i2l, 1) := by decide +kernel
theorem dX6_count_2 : decode cX6_count 2 = .ok (.lconst 0, 1) := by decide +kernel
theorem dX6_count_3 : decode cX6_count 3 = .ok (.ldc2_w 118, 3) := by decide +kernel
theorem dX6_count_6 : decode cX6_count 6 = .ok (.invokestatic 76, 3) := by decide +kernel
theorem dX6_count_9 : decode cX6_count 9 = .ok (.ifCond .ne 6, 3) := by decide +kernel
theorem dX6_count_12 : decode cX6_count 12 = .ok (.bipush (-2), 2) := by decide +kernel
theorem dX6_count_14 : decode cX6_count 14 = .ok (.ireturn, 1) := by decide +kernel
theorem dX6_count_15 : decode cX6_count 15 = .ok (.iload_n 1, 1) := by decide +kernel
theorem dX6_count_16 : decode cX6_count 16 = .ok (.ifCond .ne 10, 3) := by decide +kernel
theorem dX6_count_19 : decode cX6_count 19 = .ok (.aload_n 0, 1) := by decide +kernel
theorem dX6_count_20 : decode cX6_count 20 = .ok (.getfield 73, 3) := by decide +kernel
theorem dX6_count_23 : decode cX6_count 23 = .ok (.goto 58, 3) := by decide +kernel
theorem dX6_count_26 : decode cX6_count 26 = .ok (.iload_n 1, 1) := by decide +kernel
theorem dX6_count_27 : decode cX6_count 27 = .ok (.iconst 1, 1) := by decide +kernel
theorem dX6_count_28 : decode cX6_count 28 = .ok (.if_icmp .ne 13, 3) := by decide +kernel
theorem dX6_count_31 : decode cX6_count 31 = .ok (.aload_n 0, 1) := by decide +kernel
theorem dX6_count_32 : decode cX6_count 32 = .ok (.getfield 109, 3) := by decide +kernel
theorem dX6_count_35 : decode cX6_count 35 = .ok (.invokestatic 352, 3) := by decide +kernel
theorem dX6_count_38 : decode cX6_count 38 = .ok (.goto 43, 3) := by decide +kernel
theorem dX6_count_41 : decode cX6_count 41 = .ok (.iload_n 1, 1) := by decide +kernel
theorem dX6_count_42 : decode cX6_count 42 = .ok (.iconst 2, 1) := by decide +kernel
theorem dX6_count_43 : decode cX6_count 43 = .ok (.if_icmp .ne 10, 3) := by decide +kernel
theorem dX6_count_46 : decode cX6_count 46 = .ok (.aload_n 0, 1) := by decide +kernel
theorem dX6_count_47 : decode cX6_count 47 = .ok (.getfield 106, 3) := by decide +kernel
theorem dX6_count_50 : decode cX6_count 50 = .ok (.goto 31, 3) := by decide +kernel
theorem dX6_count_53 : decode cX6_count 53 = .ok (.iload_n 1, 1) := by decide +kernel
theorem dX6_count_54 : decode cX6_count 54 = .ok (.iconst 3, 1) := by decide +kernel
theorem dX6_count_55 : decode cX6_count 55 = .ok (.if_icmp .ne 10, 3) := by decide +kernel
theorem dX6_count_58 : decode cX6_count 58 = .ok (.aload_n 0, 1) := by decide +kernel
theorem dX6_count_59 : decode cX6_count 59 = .ok (.getfield 70, 3) := by decide +kernel
theorem dX6_count_62 : decode cX6_count 62 = .ok (.goto 19, 3) := by decide +kernel
theorem dX6_count_65 : decode cX6_count 65 = .ok (.iload_n 1, 1) := by decide +kernel
theorem dX6_count_66 : decode cX6_count 66 = .ok (.iconst 4, 1) := by decide +kernel
theorem dX6_count_67 : decode cX6_count 67 = .ok (.if_icmp .ne 10, 3) := by decide +kernel
theorem dX6_count_70 : decode cX6_count 70 = .ok (.aload_n 0, 1) := by decide +kernel
theorem dX6_count_71 : decode cX6_count 71 = .ok (.getfield 147, 3) := by decide +kernel
theorem dX6_count_74 : decode cX6_count 74 = .ok (.goto 7, 3) := by decide +kernel
theorem dX6_count_77 : decode cX6_count 77 = .ok (.aload_n 0, 1) := by decide +kernel
theorem dX6_count_78 : decode cX6_count 78 = .ok (.getfield 115, 3) := by decide +kernel
theorem dX6_count_81 : decode cX6_count 81 = .ok (.ireturn, 1) := by decide +kernel
theorem dX6_isSheet_0 : decode cX6_isSheet 0 = .ok (.iload_n 0, 1) := by decide +kernel
theorem dX6_isSheet_1 : decode cX6_isSheet 1 = .ok (.i2l, 1) := by decide +kernel
theorem dX6_isSheet_2 : decode cX6_isSheet 2 = .ok (.lconst 0, 1) := by decide +kernel
theorem dX6_isSheet_3 : decode cX6_isSheet 3 = .ok (.ldc2_w 82, 3) := by decide +kernel
theorem dX6_isSheet_6 : decode cX6_isSheet 6 = .ok (.invokestatic 76, 3) := by decide +kernel
theorem dX6_isSheet_9 : decode cX6_isSheet 9 = .ok (.ireturn, 1) := by decide +kernel
theorem dX6_sheet_0 : decode cX6_sheet 0 = .ok (.iload_n 1, 1) := by decide +kernel
theorem dX6_sheet_1 : decode cX6_sheet 1 = .ok (.invokestatic 408, 3) := by decide +kernel
theorem dX6_sheet_4 : decode cX6_sheet 4 = .ok (.ifCond .eq 27, 3) := by decide +kernel
theorem dX6_sheet_7 : decode cX6_sheet 7 = .ok (.iload_n 2, 1) := by decide +kernel
theorem dX6_sheet_8 : decode cX6_sheet 8 = .ok (.i2l, 1) := by decide +kernel
theorem dX6_sheet_9 : decode cX6_sheet 9 = .ok (.ldc2_w 113, 3) := by decide +kernel
theorem dX6_sheet_12 : decode cX6_sheet 12 = .ok (.ldc2_w 434, 3) := by decide +kernel
theorem dX6_sheet_15 : decode cX6_sheet 15 = .ok (.invokestatic 76, 3) := by decide +kernel
theorem dX6_sheet_18 : decode cX6_sheet 18 = .ok (.ifCond .eq 13, 3) := by decide +kernel
theorem dX6_sheet_21 : decode cX6_sheet 21 = .ok (.iload_n 2, 1) := by decide +kernel
theorem dX6_sheet_22 : decode cX6_sheet 22 = .ok (.ifCond .lt 12, 3) := by decide +kernel
theorem dX6_sheet_25 : decode cX6_sheet 25 = .ok (.iload_n 3, 1) := by decide +kernel
theorem dX6_sheet_26 : decode cX6_sheet 26 = .ok (.bipush 40, 2) := by decide +kernel
theorem dX6_sheet_28 : decode cX6_sheet 28 = .ok (.if_icmp .le 6, 3) := by decide +kernel
theorem dX6_sheet_31 : decode cX6_sheet 31 = .ok (.bipush (-2), 2) := by decide +kernel
theorem dX6_sheet_33 : decode cX6_sheet 33 = .ok (.ireturn, 1) := by decide +kernel
theorem dX6_sheet_34 : decode cX6_sheet 34 = .ok (.iload_n 2, 1) := by decide +kernel
theorem dX6_sheet_35 : decode cX6_sheet 35 = .ok (.ifCond .lt 10, 3) := by decide +kernel
theorem dX6_sheet_38 : decode cX6_sheet 38 = .ok (.iload_n 3, 1) := by decide +kernel
theorem dX6_sheet_39 : decode cX6_sheet 39 = .ok (.ifCond .ge 6, 3) := by decide +kernel
theorem dX6_sheet_42 : decode cX6_sheet 42 = .ok (.bipush (-14), 2) := by decide +kernel
theorem dX6_sheet_44 : decode cX6_sheet 44 = .ok (.ireturn, 1) := by decide +kernel
theorem dX6_sheet_45 : decode cX6_sheet 45 = .ok (.aload_n 0, 1) := by decide +kernel
theorem dX6_sheet_46 : decode cX6_sheet 46 = .ok (.getfield 53, 3) := by decide +kernel
theorem dX6_sheet_49 : decode cX6_sheet 49 = .ok (.iload_n 1, 1) := by decide +kernel
theorem dX6_sheet_50 : decode cX6_sheet 50 = .ok (.iload_n 2, 1) := by decide +kernel
theorem dX6_sheet_51 : decode cX6_sheet 51 = .ok (.ifCond .lt 7, 3) := by decide +kernel
theorem dX6_sheet_54 : decode cX6_sheet 54 = .ok (.iconst 1, 1) := by decide +kernel
theorem dX6_sheet_55 : decode cX6_sheet 55 = .ok (.goto 4, 3) := by decide +kernel
theorem dX6_sheet_58 : decode cX6_sheet 58 = .ok (.iconst 0, 1) := by decide +kernel
theorem dX6_sheet_59 : decode cX6_sheet 59 = .ok (.bastore, 1) := by decide +kernel
theorem dX6_sheet_60 : decode cX6_sheet 60 = .ok (.aload_n 0, 1) := by decide +kernel
theorem dX6_sheet_61 : decode cX6_sheet 61 = .ok (.getfield 57, 3) := by decide +kernel
theorem dX6_sheet_64 : decode cX6_sheet 64 = .ok (.iload_n 1, 1) := by decide +kernel
theorem dX6_sheet_65 : decode cX6_sheet 65 = .ok (.iload_n 2, 1) := by decide +kernel
theorem dX6_sheet_66 : decode cX6_sheet 66 = .ok (.iastore, 1) := by decide +kernel
theorem dX6_sheet_67 : decode cX6_sheet 67 = .ok (.aload_n 0, 1) := by decide +kernel
theorem dX6_sheet_68 : decode cX6_sheet 68 = .ok (.getfield 60, 3) := by decide +kernel
theorem dX6_sheet_71 : decode cX6_sheet 71 = .ok (.iload_n 1, 1) := by decide +kernel
theorem dX6_sheet_72 : decode cX6_sheet 72 = .ok (.iload_n 3, 1) := by decide +kernel
theorem dX6_sheet_73 : decode cX6_sheet 73 = .ok (.iastore, 1) := by decide +kernel
theorem dX6_sheet_74 : decode cX6_sheet 74 = .ok (.iconst 0, 1) := by decide +kernel
theorem dX6_sheet_75 : decode cX6_sheet 75 = .ok (.istore 4, 2) := by decide +kernel
theorem dX6_sheet_77 : decode cX6_sheet 77 = .ok (.iload 4, 2) := by decide +kernel
theorem dX6_sheet_79 : decode cX6_sheet 79 = .ok (.iload_n 3, 1) := by decide +kernel
theorem dX6_sheet_80 : decode cX6_sheet 80 = .ok (.if_icmp .ge 26, 3) := by decide +kernel
theorem dX6_sheet_83 : decode cX6_sheet 83 = .ok (.iload_n 2, 1) := by decide +kernel
theorem dX6_sheet_84 : decode cX6_sheet 84 = .ok (.ifCond .lt 22, 3) := by decide +kernel
theorem dX6_sheet_87 : decode cX6_sheet 87 = .ok (.aload_n 0, 1) := by decide +kernel
theorem dX6_sheet_88 : decode cX6_sheet 88 = .ok (.getfield 63, 3) := by decide +kernel
theorem dX6_sheet_91 : decode cX6_sheet 91 = .ok (.bipush 40, 2) := by decide +kernel
theorem dX6_sheet_93 : decode cX6_sheet 93 = .ok (.iload_n 1, 1) := by decide +kernel
theorem dX6_sheet_94 : decode cX6_sheet 94 = .ok (.imul, 1) := by decide +kernel
theorem dX6_sheet_95 : decode cX6_sheet 95 = .ok (.iload 4, 2) := by decide +kernel
theorem dX6_sheet_97 : decode cX6_sheet 97 = .ok (.iadd, 1) := by decide +kernel
theorem dX6_sheet_98 : decode cX6_sheet 98 = .ok (.iconst 0, 1) := by decide +kernel
theorem dX6_sheet_99 : decode cX6_sheet 99 = .ok (.iastore, 1) := by decide +kernel
theorem dX6_sheet_100 : decode cX6_sheet 100 = .ok (.iinc 4 1, 3) := by decide +kernel
theorem dX6_sheet_103 : decode cX6_sheet 103 = .ok (.goto (-26), 3) := by decide +kernel
theorem dX6_sheet_106 : decode cX6_sheet 106 = .ok (.iconst 1, 1) := by decide +kernel
theorem dX6_sheet_107 : decode cX6_sheet 107 = .ok (.ireturn, 1) := by decide +kernel
theorem dX6_cell_0 : decode cX6_cell 0 = .ok (.iload_n 1, 1) := by decide +kernel
theorem dX6_cell_1 : decode cX6_cell 1 = .ok (.invokestatic 408, 3) := by decide +kernel
theorem dX6_cell_4 : decode cX6_cell 4 = .ok (.ifCond .ne 6, 3) := by decide +kernel
theorem dX6_cell_7 : decode cX6_cell 7 = .ok (.bipush (-2), 2) := by decide +kernel
theorem dX6_cell_9 : decode cX6_cell 9 = .ok (.ireturn, 1) := by decide +kernel
theorem dX6_cell_10 : decode cX6_cell 10 = .ok (.aload_n 0, 1) := by decide +kernel
theorem dX6_cell_11 : decode cX6_cell 11 = .ok (.getfield 53, 3) := by decide +kernel
theorem dX6_cell_14 : decode cX6_cell 14 = .ok (.iload_n 1, 1) := by decide +kernel
theorem dX6_cell_15 : decode cX6_cell 15 = .ok (.baload, 1) := by decide +kernel
theorem dX6_cell_16 : decode cX6_cell 16 = .ok (.ifCond .ne 6, 3) := by decide +kernel
theorem dX6_cell_19 : decode cX6_cell 19 = .ok (.bipush (-11), 2) := by decide +kernel
theorem dX6_cell_21 : decode cX6_cell 21 = .ok (.ireturn, 1) := by decide +kernel
theorem dX6_cell_22 : decode cX6_cell 22 = .ok (.iload_n 2, 1) := by decide +kernel
theorem dX6_cell_23 : decode cX6_cell 23 = .ok (.i2l, 1) := by decide +kernel
theorem dX6_cell_24 : decode cX6_cell 24 = .ok (.lconst 0, 1) := by decide +kernel
theorem dX6_cell_25 : decode cX6_cell 25 = .ok (.aload_n 0, 1) := by decide +kernel
theorem dX6_cell_26 : decode cX6_cell 26 = .ok (.getfield 60, 3) := by decide +kernel
theorem dX6_cell_29 : decode cX6_cell 29 = .ok (.iload_n 1, 1) := by decide +kernel
theorem dX6_cell_30 : decode cX6_cell 30 = .ok (.iaload, 1) := by decide +kernel
theorem dX6_cell_31 : decode cX6_cell 31 = .ok (.iconst 1, 1) := by decide +kernel
theorem dX6_cell_32 : decode cX6_cell 32 = .ok (.isub, 1) := by decide +kernel
theorem dX6_cell_33 : decode cX6_cell 33 = .ok (.i2l, 1) := by decide +kernel
theorem dX6_cell_34 : decode cX6_cell 34 = .ok (.invokestatic 76, 3) := by decide +kernel
theorem dX6_cell_37 : decode cX6_cell 37 = .ok (.ifCond .ne 6, 3) := by decide +kernel
theorem dX6_cell_40 : decode cX6_cell 40 = .ok (.bipush (-12), 2) := by decide +kernel
theorem dX6_cell_42 : decode cX6_cell 42 = .ok (.ireturn, 1) := by decide +kernel
theorem dX6_cell_43 : decode cX6_cell 43 = .ok (.aload_n 0, 1) := by decide +kernel
theorem dX6_cell_44 : decode cX6_cell 44 = .ok (.getfield 63, 3) := by decide +kernel
theorem dX6_cell_47 : decode cX6_cell 47 = .ok (.bipush 40, 2) := by decide +kernel
theorem dX6_cell_49 : decode cX6_cell 49 = .ok (.iload_n 1, 1) := by decide +kernel
theorem dX6_cell_50 : decode cX6_cell 50 = .ok (.imul, 1) := by decide +kernel
theorem dX6_cell_51 : decode cX6_cell 51 = .ok (.iload_n 2, 1) := by decide +kernel
theorem dX6_cell_52 : decode cX6_cell 52 = .ok (.iadd, 1) := by decide +kernel
theorem dX6_cell_53 : decode cX6_cell 53 = .ok (.aload_n 0, 1) := by decide +kernel
theorem dX6_cell_54 : decode cX6_cell 54 = .ok (.getfield 57, 3) := by decide +kernel
theorem dX6_cell_57 : decode cX6_cell 57 = .ok (.iload_n 1, 1) := by decide +kernel
theorem dX6_cell_58 : decode cX6_cell 58 = .ok (.iaload, 1) := by decide +kernel
theorem dX6_cell_59 : decode cX6_cell 59 = .ok (.ifCond .ne 8, 3) := by decide +kernel
theorem dX6_cell_62 : decode cX6_cell 62 = .ok (.iload_n 3, 1) := by decide +kernel
theorem dX6_cell_63 : decode cX6_cell 63 = .ok (.i2b, 1) := by decide +kernel
theorem dX6_cell_64 : decode cX6_cell 64 = .ok (.goto 19, 3) := by decide +kernel
theorem dX6_cell_67 : decode cX6_cell 67 = .ok (.aload_n 0, 1) := by decide +kernel
theorem dX6_cell_68 : decode cX6_cell 68 = .ok (.getfield 57, 3) := by decide +kernel
theorem dX6_cell_71 : decode cX6_cell 71 = .ok (.iload_n 1, 1) := by decide +kernel
theorem dX6_cell_72 : decode cX6_cell 72 = .ok (.iaload, 1) := by decide +kernel
theorem dX6_cell_73 : decode cX6_cell 73 = .ok (.iconst 1, 1) := by decide +kernel
theorem dX6_cell_74 : decode cX6_cell 74 = .ok (.if_icmp .ne 8, 3) := by decide +kernel
theorem dX6_cell_77 : decode cX6_cell 77 = .ok (.iload_n 3, 1) := by decide +kernel
theorem dX6_cell_78 : decode cX6_cell 78 = .ok (.i2s, 1) := by decide +kernel
theorem dX6_cell_79 : decode cX6_cell 79 = .ok (.goto 4, 3) := by decide +kernel
theorem dX6_cell_82 : decode cX6_cell 82 = .ok (.iload_n 3, 1) := by decide +kernel
theorem dX6_cell_83 : decode cX6_cell 83 = .ok (.iastore, 1) := by decide +kernel
theorem dX6_cell_84 : decode cX6_cell 84 = .ok (.iconst 1, 1) := by decide +kernel
theorem dX6_cell_85 : decode cX6_cell 85 = .ok (.ireturn, 1) := by decide +kernel
theorem dX6_copy_0 : decode cX6_copy 0 = .ok (.iload_n 1, 1) := by decide +kernel
theorem dX6_copy_1 : decode cX6_copy 1 = .ok (.invokestatic 408, 3) := by decide +kernel
theorem dX6_copy_4 : decode cX6_copy 4 = .ok (.ifCond .eq 10, 3) := by decide +kernel
theorem dX6_copy_7 : decode cX6_copy 7 = .ok (.iload_n 3, 1) := by decide +kernel
theorem dX6_copy_8 : decode cX6_copy 8 = .ok (.invokestatic 408, 3) := by decide +kernel
theorem dX6_copy_11 : decode cX6_copy 11 = .ok (.ifCond .ne 6, 3) := by decide +kernel
theorem dX6_copy_14 : decode cX6_copy 14 = .ok (.bipush (-2), 2) := by decide +kernel
theorem dX6_copy_16 : decode cX6_copy 16 = .ok (.ireturn, 1) := by decide +kernel
theorem dX6_copy_17 : decode cX6_copy 17 = .ok (.aload_n 0, 1) := by decide +kernel
theorem dX6_copy_18 : decode cX6_copy 18 = .ok (.getfield 53, 3) := by decide +kernel
theorem dX6_copy_21 : decode cX6_copy 21 = .ok (.iload_n 1, 1) := by decide +kernel
theorem dX6_copy_22 : decode cX6_copy 22 = .ok (.baload, 1) := by decide +kernel
theorem dX6_copy_23 : decode cX6_copy 23 = .ok (.ifCond .eq 12, 3) := by decide +kernel
theorem dX6_copy_26 : decode cX6_copy 26 = .ok (.aload_n 0, 1) := by decide +kernel
theorem dX6_copy_27 : decode cX6_copy 27 = .ok (.getfield 53, 3) := by decide +kernel
theorem dX6_copy_30 : decode cX6_copy 30 = .ok (.iload_n 3, 1) := by decide +kernel
theorem dX6_copy_31 : decode cX6_copy 31 = .ok (.baload, 1) := by decide +kernel
theorem dX6_copy_32 : decode cX6_copy 32 = .ok (.ifCond .ne 6, 3) := by decide +kernel
theorem dX6_copy_35 : decode cX6_copy 35 = .ok (.bipush (-11), 2) := by decide +kernel
theorem dX6_copy_37 : decode cX6_copy 37 = .ok (.ireturn, 1) := by decide +kernel
theorem dX6_copy_38 : decode cX6_copy 38 = .ok (.aload_n 0, 1) := by decide +kernel
theorem dX6_copy_39 : decode cX6_copy 39 = .ok (.getfield 57, 3) := by decide +kernel
theorem dX6_copy_42 : decode cX6_copy 42 = .ok (.iload_n 1, 1) := by decide +kernel
theorem dX6_copy_43 : decode cX6_copy 43 = .ok (.iaload, 1) := by decide +kernel
theorem dX6_copy_44 : decode cX6_copy 44 = .ok (.aload_n 0, 1) := by decide +kernel
theorem dX6_copy_45 : decode cX6_copy 45 = .ok (.getfield 57, 3) := by decide +kernel
theorem dX6_copy_48 : decode cX6_copy 48 = .ok (.iload_n 3, 1) := by decide +kernel
theorem dX6_copy_49 : decode cX6_copy 49 = .ok (.iaload, 1) := by decide +kernel
theorem dX6_copy_50 : decode cX6_copy 50 = .ok (.if_icmp .eq 6, 3) := by decide +kernel
theorem dX6_copy_53 : decode cX6_copy 53 = .ok (.bipush (-13), 2) := by decide +kernel
theorem dX6_copy_55 : decode cX6_copy 55 = .ok (.ireturn, 1) := by decide +kernel
theorem dX6_copy_56 : decode cX6_copy 56 = .ok (.iload 5, 2) := by decide +kernel
theorem dX6_copy_58 : decode cX6_copy 58 = .ok (.ifCond .lt 39, 3) := by decide +kernel
theorem dX6_copy_61 : decode cX6_copy 61 = .ok (.iload_n 2, 1) := by decide +kernel
theorem dX6_copy_62 : decode cX6_copy 62 = .ok (.ifCond .lt 35, 3) := by decide +kernel
theorem dX6_copy_65 : decode cX6_copy 65 = .ok (.iload 4, 2) := by decide +kernel
theorem dX6_copy_67 : decode cX6_copy 67 = .ok (.ifCond .lt 30, 3) := by decide +kernel
theorem dX6_copy_70 : decode cX6_copy 70 = .ok (.iload_n 2, 1) := by decide +kernel
theorem dX6_copy_71 : decode cX6_copy 71 = .ok (.aload_n 0, 1) := by decide +kernel
theorem dX6_copy_72 : decode cX6_copy 72 = .ok (.getfield 60, 3) := by decide +kernel
theorem dX6_copy_75 : decode cX6_copy 75 = .ok (.iload_n 1, 1) := by decide +kernel
theorem dX6_copy_76 : decode cX6_copy 76 = .ok (.iaload, 1) := by decide +kernel
theorem dX6_copy_77 : decode cX6_copy 77 = .ok (.iload 5, 2) := by decide +kernel
theorem dX6_copy_79 : decode cX6_copy 79 = .ok (.isub, 1) := by decide +kernel
theorem dX6_copy_80 : decode cX6_copy 80 = .ok (.if_icmp .gt 17, 3) := by decide +kernel
theorem dX6_copy_83 : decode cX6_copy 83 = .ok (.iload 4, 2) := by decide +kernel
theorem dX6_copy_85 : decode cX6_copy 85 = .ok (.aload_n 0, 1) := by decide +kernel
theorem dX6_copy_86 : decode cX6_copy 86 = .ok (.getfield 60, 3) := by decide +kernel
theorem dX6_copy_89 : decode cX6_copy 89 = .ok (.iload_n 3, 1) := by decide +kernel
theorem dX6_copy_90 : decode cX6_copy 90 = .ok (.iaload, 1) := by decide +kernel
theorem dX6_copy_91 : decode cX6_copy 91 = .ok (.iload 5, 2) := by decide +kernel
theorem dX6_copy_93 : decode cX6_copy 93 = .ok (.isub, 1) := by decide +kernel
theorem dX6_copy_94 : decode cX6_copy 94 = .ok (.if_icmp .le 6, 3) := by decide +kernel
theorem dX6_copy_97 : decode cX6_copy 97 = .ok (.bipush (-12), 2) := by decide +kernel
theorem dX6_copy_99 : decode cX6_copy 99 = .ok (.ireturn, 1) := by decide +kernel
theorem dX6_copy_100 : decode cX6_copy 100 = .ok (.iload_n 1, 1) := by decide +kernel
theorem dX6_copy_101 : decode cX6_copy 101 = .ok (.iload_n 3, 1) := by decide +kernel
theorem dX6_copy_102 : decode cX6_copy 102 = .ok (.if_icmp .ne 13, 3) := by decide +kernel
theorem dX6_copy_105 : decode cX6_copy 105 = .ok (.iload_n 2, 1) := by decide +kernel
theorem dX6_copy_106 : decode cX6_copy 106 = .ok (.iload 4, 2) := by decide +kernel
theorem dX6_copy_108 : decode cX6_copy 108 = .ok (.if_icmp .ge 7, 3) := by decide +kernel
theorem dX6_copy_111 : decode cX6_copy 111 = .ok (.iconst 1, 1) := by decide +kernel
theorem dX6_copy_112 : decode cX6_copy 112 = .ok (.goto 4, 3) := by decide +kernel
theorem dX6_copy_115 : decode cX6_copy 115 = .ok (.iconst 0, 1) := by decide +kernel
theorem dX6_copy_116 : decode cX6_copy 116 = .ok (.istore 6, 2) := by decide +kernel
theorem dX6_copy_118 : decode cX6_copy 118 = .ok (.iconst 0, 1) := by decide +kernel
theorem dX6_copy_119 : decode cX6_copy 119 = .ok (.istore 7, 2) := by decide +kernel
theorem dX6_copy_121 : decode cX6_copy 121 = .ok (.iload 7, 2) := by decide +kernel
theorem dX6_copy_123 : decode cX6_copy 123 = .ok (.iload 5, 2) := by decide +kernel
theorem dX6_copy_125 : decode cX6_copy 125 = .ok (.if_icmp .ge 57, 3) := by decide +kernel
theorem dX6_copy_128 : decode cX6_copy 128 = .ok (.iload 6, 2) := by decide +kernel
theorem dX6_copy_130 : decode cX6_copy 130 = .ok (.ifCond .eq 13, 3) := by decide +kernel
theorem dX6_copy_133 : decode cX6_copy 133 = .ok (.iload 5, 2) := by decide +kernel
theorem dX6_copy_135 : decode cX6_copy 135 = .ok (.iconst 1, 1) := by decide +kernel
theorem dX6_copy_136 : decode cX6_copy 136 = .ok (.isub, 1) := by decide +kernel
theorem dX6_copy_137 : decode cX6_copy 137 = .ok (.iload 7, 2) := by decide +kernel
theorem dX6_copy_139 : decode cX6_copy 139 = .ok (.isub, 1) := by decide +kernel
theorem dX6_copy_140 : decode cX6_copy 140 = .ok (.goto 5, 3) := by decide +kernel
theorem dX6_copy_143 : decode cX6_copy 143 = .ok (.iload 7, 2) := by decide +kernel
theorem dX6_copy_145 : decode cX6_copy 145 = .ok (.istore 8, 2) := by decide +kernel
theorem dX6_copy_147 : decode cX6_copy 147 = .ok (.aload_n 0, 1) := by decide +kernel
theorem dX6_copy_148 : decode cX6_copy 148 = .ok (.getfield 63, 3) := by decide +kernel
theorem dX6_copy_151 : decode cX6_copy 151 = .ok (.bipush 40, 2) := by decide +kernel
theorem dX6_copy_153 : decode cX6_copy 153 = .ok (.iload_n 3, 1) := by decide +kernel
theorem dX6_copy_154 : decode cX6_copy 154 = .ok (.imul, 1) := by decide +kernel
theorem dX6_copy_155 : decode cX6_copy 155 = .ok (.iload 4, 2) := by decide +kernel
theorem dX6_copy_157 : decode cX6_copy 157 = .ok (.iadd, 1) := by decide +kernel
theorem dX6_copy_158 : decode cX6_copy 158 = .ok (.iload 8, 2) := by decide +kernel
theorem dX6_copy_160 : decode cX6_copy 160 = .ok (.iadd, 1) := by decide +kernel
theorem dX6_copy_161 : decode cX6_copy 161 = .ok (.aload_n 0, 1) := by decide +kernel
theorem dX6_copy_162 : decode cX6_copy 162 = .ok (.getfield 63, 3) := by decide +kernel
theorem dX6_copy_165 : decode cX6_copy 165 = .ok (.bipush 40, 2) := by decide +kernel
theorem dX6_copy_167 : decode cX6_copy 167 = .ok (.iload_n 1, 1) := by decide +kernel
theorem dX6_copy_168 : decode cX6_copy 168 = .ok (.imul, 1) := by decide +kernel
theorem dX6_copy_169 : decode cX6_copy 169 = .ok (.iload_n 2, 1) := by decide +kernel
theorem dX6_copy_170 : decode cX6_copy 170 = .ok (.iadd, 1) := by decide +kernel
theorem dX6_copy_171 : decode cX6_copy 171 = .ok (.iload 8, 2) := by decide +kernel
theorem dX6_copy_173 : decode cX6_copy 173 = .ok (.iadd, 1) := by decide +kernel
theorem dX6_copy_174 : decode cX6_copy 174 = .ok (.iaload, 1) := by decide +kernel
theorem dX6_copy_175 : decode cX6_copy 175 = .ok (.iastore, 1) := by decide +kernel
theorem dX6_copy_176 : decode cX6_copy 176 = .ok (.iinc 7 1, 3) := by decide +kernel
theorem dX6_copy_179 : decode cX6_copy 179 = .ok (.goto (-58), 3) := by decide +kernel
theorem dX6_copy_182 : decode cX6_copy 182 = .ok (.iload 5, 2) := by decide +kernel
theorem dX6_copy_184 : decode cX6_copy 184 = .ok (.ireturn, 1) := by decide +kernel
theorem dX6_exarchate_0 : decode cX6_exarchate 0 = .ok (.iload_n 1, 1) := by decide +kernel
theorem dX6_exarchate_1 : decode cX6_exarchate 1 = .ok (.invokestatic 408, 3) := by decide +kernel
theorem dX6_exarchate_4 : decode cX6_exarchate 4 = .ok (.ifCond .eq 28, 3) := by decide +kernel
theorem dX6_exarchate_7 : decode cX6_exarchate 7 = .ok (.iload_n 2, 1) := by decide +kernel
theorem dX6_exarchate_8 : decode cX6_exarchate 8 = .ok (.i2l, 1) := by decide +kernel
theorem dX6_exarchate_9 : decode cX6_exarchate 9 = .ok (.lconst 0, 1) := by decide +kernel
theorem dX6_exarchate_10 : decode cX6_exarchate 10 = .ok (.ldc2_w 434, 3) := by decide +kernel
theorem dX6_exarchate_13 : decode cX6_exarchate 13 = .ok (.invokestatic 76, 3) := by decide +kernel
theorem dX6_exarchate_16 : decode cX6_exarchate 16 = .ok (.ifCond .eq 16, 3) := by decide +kernel
theorem dX6_exarchate_19 : decode cX6_exarchate 19 = .ok (.iload 4, 2) := by decide +kernel
theorem dX6_exarchate_21 : decode cX6_exarchate 21 = .ok (.i2l, 1) := by decide +kernel
theorem dX6_exarchate_22 : decode cX6_exarchate 22 = .ok (.lconst 0, 1) := by decide +kernel
theorem dX6_exarchate_23 : decode cX6_exarchate 23 = .ok (.ldc2_w 118, 3) := by decide +kernel
theorem dX6_exarchate_26 : decode cX6_exarchate 26 = .ok (.invokestatic 76, 3) := by decide +kernel
theorem dX6_exarchate_29 : decode cX6_exarchate 29 = .ok (.ifCond .ne 6, 3) := by decide +kernel
theorem dX6_exarchate_32 : decode cX6_exarchate 32 = .ok (.bipush (-2), 2) := by decide +kernel
theorem dX6_exarchate_34 : decode cX6_exarchate 34 = .ok (.ireturn, 1) := by decide +kernel
theorem dX6_exarchate_35 : decode cX6_exarchate 35 = .ok (.aload_n 0, 1) := by decide +kernel
theorem dX6_exarchate_36 : decode cX6_exarchate 36 = .ok (.getfield 53, 3) := by decide +kernel
theorem dX6_exarchate_39 : decode cX6_exarchate 39 = .ok (.iload_n 1, 1) := by decide +kernel
theorem dX6_exarchate_40 : decode cX6_exarchate 40 = .ok (.baload, 1) := by decide +kernel
theorem dX6_exarchate_41 : decode cX6_exarchate 41 = .ok (.ifCond .eq 16, 3) := by decide +kernel
theorem dX6_exarchate_44 : decode cX6_exarchate 44 = .ok (.aload_n 0, 1) := by decide +kernel
theorem dX6_exarchate_45 : decode cX6_exarchate 45 = .ok (.getfield 57, 3) := by decide +kernel
theorem dX6_exarchate_48 : decode cX6_exarchate 48 = .ok (.iload_n 1, 1) := by decide +kernel
theorem dX6_exarchate_49 : decode cX6_exarchate 49 = .ok (.iaload, 1) := by decide +kernel
theorem dX6_exarchate_50 : decode cX6_exarchate 50 = .ok (.iload_n 2, 1) := by decide +kernel
theorem dX6_exarchate_51 : decode cX6_exarchate 51 = .ok (.if_icmp .eq 6, 3) := by decide +kernel
theorem dX6_exarchate_54 : decode cX6_exarchate 54 = .ok (.bipush (-13), 2) := by decide +kernel
theorem dX6_exarchate_56 : decode cX6_exarchate 56 = .ok (.ireturn, 1) := by decide +kernel
theorem dX6_exarchate_57 : decode cX6_exarchate 57 = .ok (.aload_n 0, 1) := by decide +kernel
theorem dX6_exarchate_58 : decode cX6_exarchate 58 = .ok (.getfield 53, 3) := by decide +kernel
theorem dX6_exarchate_61 : decode cX6_exarchate 61 = .ok (.iload_n 1, 1) := by decide +kernel
theorem dX6_exarchate_62 : decode cX6_exarchate 62 = .ok (.baload, 1) := by decide +kernel
theorem dX6_exarchate_63 : decode cX6_exarchate 63 = .ok (.ifCond .ne 6, 3) := by decide +kernel
theorem dX6_exarchate_66 : decode cX6_exarchate 66 = .ok (.bipush (-11), 2) := by decide +kernel
theorem dX6_exarchate_68 : decode cX6_exarchate 68 = .ok (.ireturn, 1) := by decide +kernel
theorem dX6_exarchate_69 : decode cX6_exarchate 69 = .ok (.iconst 0, 1) := by decide +kernel
theorem dX6_exarchate_70 : decode cX6_exarchate 70 = .ok (.istore 5, 2) := by decide +kernel
theorem dX6_exarchate_72 : decode cX6_exarchate 72 = .ok (.iconst 0, 1) := by decide +kernel
theorem dX6_exarchate_73 : decode cX6_exarchate 73 = .ok (.istore 6, 2) := by decide +kernel
theorem dX6_exarchate_75 : decode cX6_exarchate 75 = .ok (.iload 6, 2) := by decide +kernel
theorem dX6_exarchate_77 : decode cX6_exarchate 77 = .ok (.iload 4, 2) := by decide +kernel
theorem dX6_exarchate_79 : decode cX6_exarchate 79 = .ok (.if_icmp .ge 88, 3) := by decide +kernel
theorem dX6_exarchate_82 : decode cX6_exarchate 82 = .ok (.iload_n 3, 1) := by decide +kernel
theorem dX6_exarchate_83 : decode cX6_exarchate 83 = .ok (.ifCond .lt 20, 3) := by decide +kernel
theorem dX6_exarchate_86 : decode cX6_exarchate 86 = .ok (.iload_n 3, 1) := by decide +kernel
theorem dX6_exarchate_87 : decode cX6_exarchate 87 = .ok (.aload_n 0, 1) := by decide +kernel
theorem dX6_exarchate_88 : decode cX6_exarchate 88 = .ok (.getfield 60, 3) := by decide +kernel
theorem dX6_exarchate_91 : decode cX6_exarchate 91 = .ok (.iload_n 1, 1) := by decide +kernel
theorem dX6_exarchate_92 : decode cX6_exarchate 92 = .ok (.iaload, 1) := by decide +kernel
theorem dX6_exarchate_93 : decode cX6_exarchate 93 = .ok (.iconst 3, 1) := by decide +kernel
theorem dX6_exarchate_94 : decode cX6_exarchate 94 = .ok (.iload 6, 2) := by decide +kernel
theorem dX6_exarchate_96 : decode cX6_exarchate 96 = .ok (.imul, 1) := by decide +kernel
theorem dX6_exarchate_97 : decode cX6_exarchate 97 = .ok (.isub, 1) := by decide +kernel
theorem dX6_exarchate_98 : decode cX6_exarchate 98 = .ok (.iconst 3, 1) := by decide +kernel
theorem dX6_exarchate_99 : decode cX6_exarchate 99 = .ok (.isub, 1) := by decide +kernel
theorem dX6_exarchate_100 : decode cX6_exarchate 100 = .ok (.if_icmp .le 6, 3) := by decide +kernel
theorem dX6_exarchate_103 : decode cX6_exarchate 103 = .ok (.bipush (-12), 2) := by decide +kernel
theorem dX6_exarchate_105 : decode cX6_exarchate 105 = .ok (.ireturn, 1) := by decide +kernel
theorem dX6_exarchate_106 : decode cX6_exarchate 106 = .ok (.bipush 40, 2) := by decide +kernel
theorem dX6_exarchate_108 : decode cX6_exarchate 108 = .ok (.iload_n 1, 1) := by decide +kernel
theorem dX6_exarchate_109 : decode cX6_exarchate 109 = .ok (.imul, 1) := by decide +kernel
theorem dX6_exarchate_110 : decode cX6_exarchate 110 = .ok (.iload_n 3, 1) := by decide +kernel
theorem dX6_exarchate_111 : decode cX6_exarchate 111 = .ok (.iadd, 1) := by decide +kernel
theorem dX6_exarchate_112 : decode cX6_exarchate 112 = .ok (.iconst 3, 1) := by decide +kernel
theorem dX6_exarchate_113 : decode cX6_exarchate 113 = .ok (.iload 6, 2) := by decide +kernel
theorem dX6_exarchate_115 : decode cX6_exarchate 115 = .ok (.imul, 1) := by decide +kernel
theorem dX6_exarchate_116 : decode cX6_exarchate 116 = .ok (.iadd, 1) := by decide +kernel
theorem dX6_exarchate_117 : decode cX6_exarchate 117 = .ok (.istore 7, 2) := by decide +kernel
theorem dX6_exarchate_119 : decode cX6_exarchate 119 = .ok (.iload 5, 2) := by decide +kernel
theorem dX6_exarchate_121 : decode cX6_exarchate 121 = .ok (.aload_n 0, 1) := by decide +kernel
theorem dX6_exarchate_122 : decode cX6_exarchate 122 = .ok (.aload_n 0, 1) := by decide +kernel
theorem dX6_exarchate_123 : decode cX6_exarchate 123 = .ok (.getfield 63, 3) := by decide +kernel
theorem dX6_exarchate_126 : decode cX6_exarchate 126 = .ok (.iload 7, 2) := by decide +kernel
theorem dX6_exarchate_128 : decode cX6_exarchate 128 = .ok (.iaload, 1) := by decide +kernel
theorem dX6_exarchate_129 : decode cX6_exarchate 129 = .ok (.aload_n 0, 1) := by decide +kernel
theorem dX6_exarchate_130 : decode cX6_exarchate 130 = .ok (.getfield 63, 3) := by decide +kernel
theorem dX6_exarchate_133 : decode cX6_exarchate 133 = .ok (.iload 7, 2) := by decide +kernel
theorem dX6_exarchate_135 : decode cX6_exarchate 135 = .ok (.iconst 1, 1) := by decide +kernel
theorem dX6_exarchate_136 : decode cX6_exarchate 136 = .ok (.iadd, 1) := by decide +kernel
theorem dX6_exarchate_137 : decode cX6_exarchate 137 = .ok (.iaload, 1) := by decide +kernel
theorem dX6_exarchate_138 : decode cX6_exarchate 138 = .ok (.aload_n 0, 1) := by decide +kernel
theorem dX6_exarchate_139 : decode cX6_exarchate 139 = .ok (.getfield 63, 3) := by decide +kernel
theorem dX6_exarchate_142 : decode cX6_exarchate 142 = .ok (.iload 7, 2) := by decide +kernel
theorem dX6_exarchate_144 : decode cX6_exarchate 144 = .ok (.iconst 2, 1) := by decide +kernel
theorem dX6_exarchate_145 : decode cX6_exarchate 145 = .ok (.iadd, 1) := by decide +kernel
theorem dX6_exarchate_146 : decode cX6_exarchate 146 = .ok (.iaload, 1) := by decide +kernel
theorem dX6_exarchate_147 : decode cX6_exarchate 147 = .ok (.invokevirtual 436, 3) := by decide +kernel
theorem dX6_exarchate_150 : decode cX6_exarchate 150 = .ok (.ifCond .lt 7, 3) := by decide +kernel
theorem dX6_exarchate_153 : decode cX6_exarchate 153 = .ok (.iconst 1, 1) := by decide +kernel
theorem dX6_exarchate_154 : decode cX6_exarchate 154 = .ok (.goto 4, 3) := by decide +kernel
theorem dX6_exarchate_157 : decode cX6_exarchate 157 = .ok (.iconst 0, 1) := by decide +kernel
theorem dX6_exarchate_158 : decode cX6_exarchate 158 = .ok (.iadd, 1) := by decide +kernel
theorem dX6_exarchate_159 : decode cX6_exarchate 159 = .ok (.istore 5, 2) := by decide +kernel
theorem dX6_exarchate_161 : decode cX6_exarchate 161 = .ok (.iinc 6 1, 3) := by decide +kernel
theorem dX6_exarchate_164 : decode cX6_exarchate 164 = .ok (.goto (-89), 3) := by decide +kernel
theorem dX6_exarchate_167 : decode cX6_exarchate 167 = .ok (.iload 5, 2) := by decide +kernel
theorem dX6_exarchate_169 : decode cX6_exarchate 169 = .ok (.ireturn, 1) := by decide +kernel
theorem dX6_over_0 : decode cX6_over 0 = .ok (.iload_n 0, 1) := by decide +kernel
theorem dX6_over_1 : decode cX6_over 1 = .ok (.ifCond .ne 7, 3) := by decide +kernel
theorem dX6_over_4 : decode cX6_over 4 = .ok (.iconst (-1), 1) := by decide +kernel
theorem dX6_over_5 : decode cX6_over 5 = .ok (.goto 22, 3) := by decide +kernel
theorem dX6_over_8 : decode cX6_over 8 = .ok (.iload_n 0, 1) := by decide +kernel
theorem dX6_over_9 : decode cX6_over 9 = .ok (.iconst 3, 1) := by decide +kernel
theorem dX6_over_10 : decode cX6_over 10 = .ok (.if_icmp .ne 7, 3) := by decide +kernel
theorem dX6_over_13 : decode cX6_over 13 = .ok (.iconst 1, 1) := by decide +kernel
theorem dX6_over_14 : decode cX6_over 14 = .ok (.goto 13, 3) := by decide +kernel
theorem dX6_over_17 : decode cX6_over 17 = .ok (.iload_n 0, 1) := by decide +kernel
theorem dX6_over_18 : decode cX6_over 18 = .ok (.iconst 4, 1) := by decide +kernel
theorem dX6_over_19 : decode cX6_over 19 = .ok (.if_icmp .ne 7, 3) := by decide +kernel
theorem dX6_over_22 : decode cX6_over 22 = .ok (.iconst 2, 1) := by decide +kernel
theorem dX6_over_23 : decode cX6_over 23 = .ok (.goto 4, 3) := by decide +kernel
theorem dX6_over_26 : decode cX6_over 26 = .ok (.iconst 0, 1) := by decide +kernel
theorem dX6_over_27 : decode cX6_over 27 = .ok (.ireturn, 1) := by decide +kernel
theorem dX6_taken_0 : decode cX6_taken 0 = .ok (.iload_n 2, 1) := by decide +kernel
theorem dX6_taken_1 : decode cX6_taken 1 = .ok (.i2l, 1) := by decide +kernel
theorem dX6_taken_2 : decode cX6_taken 2 = .ok (.lconst 0, 1) := by decide +kernel
theorem dX6_taken_3 : decode cX6_taken 3 = .ok (.ldc2_w 118, 3) := by decide +kernel
theorem dX6_taken_6 : decode cX6_taken 6 = .ok (.invokestatic 76, 3) := by decide +kernel
theorem dX6_taken_9 : decode cX6_taken 9 = .ok (.ifCond .ne 6, 3) := by decide +kernel
theorem dX6_taken_12 : decode cX6_taken 12 = .ok (.bipush (-2), 2) := by decide +kernel
theorem dX6_taken_14 : decode cX6_taken 14 = .ok (.ireturn, 1) := by decide +kernel
theorem dX6_taken_15 : decode cX6_taken 15 = .ok (.aload_n 0, 1) := by decide +kernel
theorem dX6_taken_16 : decode cX6_taken 16 = .ok (.iload_n 1, 1) := by decide +kernel
theorem dX6_taken_17 : decode cX6_taken 17 = .ok (.invokevirtual 84, 3) := by decide +kernel
theorem dX6_taken_20 : decode cX6_taken 20 = .ok (.ifCond .ne 6, 3) := by decide +kernel
theorem dX6_taken_23 : decode cX6_taken 23 = .ok (.bipush (-11), 2) := by decide +kernel
theorem dX6_taken_25 : decode cX6_taken 25 = .ok (.ireturn, 1) := by decide +kernel
theorem dX6_taken_26 : decode cX6_taken 26 = .ok (.aload_n 0, 1) := by decide +kernel
theorem dX6_taken_27 : decode cX6_taken 27 = .ok (.getfield 29, 3) := by decide +kernel
theorem dX6_taken_30 : decode cX6_taken 30 = .ok (.iconst 5, 1) := by decide +kernel
theorem dX6_taken_31 : decode cX6_taken 31 = .ok (.iload_n 1, 1) := by decide +kernel
theorem dX6_taken_32 : decode cX6_taken 32 = .ok (.imul, 1) := by decide +kernel
theorem dX6_taken_33 : decode cX6_taken 33 = .ok (.iconst 4, 1) := by decide +kernel
theorem dX6_taken_34 : decode cX6_taken 34 = .ok (.iadd, 1) := by decide +kernel
theorem dX6_taken_35 : decode cX6_taken 35 = .ok (.iaload, 1) := by decide +kernel
theorem dX6_taken_36 : decode cX6_taken 36 = .ok (.istore_n 3, 1) := by decide +kernel
theorem dX6_taken_37 : decode cX6_taken 37 = .ok (.iload_n 3, 1) := by decide +kernel
theorem dX6_taken_38 : decode cX6_taken 38 = .ok (.iconst (-1), 1) := by decide +kernel
theorem dX6_taken_39 : decode cX6_taken 39 = .ok (.if_icmp .eq 16, 3) := by decide +kernel
theorem dX6_taken_42 : decode cX6_taken 42 = .ok (.iload_n 3, 1) := by decide +kernel
theorem dX6_taken_43 : decode cX6_taken 43 = .ok (.iload_n 2, 1) := by decide +kernel
theorem dX6_taken_44 : decode cX6_taken 44 = .ok (.if_icmp .eq 11, 3) := by decide +kernel
theorem dX6_taken_47 : decode cX6_taken 47 = .ok (.iload_n 3, 1) := by decide +kernel
theorem dX6_taken_48 : decode cX6_taken 48 = .ok (.invokestatic 439, 3) := by decide +kernel
theorem dX6_taken_51 : decode cX6_taken 51 = .ok (.istore_n 3, 1) := by decide +kernel
theorem dX6_taken_52 : decode cX6_taken 52 = .ok (.goto (-15), 3) := by decide +kernel
theorem dX6_taken_55 : decode cX6_taken 55 = .ok (.iload_n 3, 1) := by decide +kernel
theorem dX6_taken_56 : decode cX6_taken 56 = .ok (.iload_n 2, 1) := by decide +kernel
theorem dX6_taken_57 : decode cX6_taken 57 = .ok (.if_icmp .ne 14, 3) := by decide +kernel
theorem dX6_taken_60 : decode cX6_taken 60 = .ok (.aload_n 0, 1) := by decide +kernel
theorem dX6_taken_61 : decode cX6_taken 61 = .ok (.getfield 29, 3) := by decide +kernel
theorem dX6_taken_64 : decode cX6_taken 64 = .ok (.iconst 5, 1) := by decide +kernel
theorem dX6_taken_65 : decode cX6_taken 65 = .ok (.iload_n 1, 1) := by decide +kernel
theorem dX6_taken_66 : decode cX6_taken 66 = .ok (.imul, 1) := by decide +kernel
theorem dX6_taken_67 : decode cX6_taken 67 = .ok (.iaload, 1) := by decide +kernel
theorem dX6_taken_68 : decode cX6_taken 68 = .ok (.goto 5, 3) := by decide +kernel
theorem dX6_taken_71 : decode cX6_taken 71 = .ok (.bipush (-13), 2) := by decide +kernel
theorem dX6_taken_73 : decode cX6_taken 73 = .ok (.ireturn, 1) := by decide +kernel
