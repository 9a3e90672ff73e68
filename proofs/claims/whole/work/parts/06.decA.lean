theorem dX0_init_0 : decode cX0_init 0 = .ok (.aload_n 0, 1) := by decide +kernel
theorem dX0_init_1 : decode cX0_init 1 = .ok (.invokespecial 5, 3) := by decide +kernel
theorem dX0_init_4 : decode cX0_init 4 = .ok (.aload_n 0, 1) := by decide +kernel
theorem dX0_init_5 : decode cX0_init 5 = .ok (.sipush 160, 3) := by decide +kernel
theorem dX0_init_8 : decode cX0_init 8 = .ok (.newarray .int, 2) := by decide +kernel
theorem dX0_init_10 : decode cX0_init 10 = .ok (.putfield 11, 3) := by decide +kernel
theorem dX0_init_13 : decode cX0_init 13 = .ok (.aload_n 0, 1) := by decide +kernel
theorem dX0_init_14 : decode cX0_init 14 = .ok (.iconst 0, 1) := by decide +kernel
theorem dX0_init_15 : decode cX0_init 15 = .ok (.putfield 15, 3) := by decide +kernel
theorem dX0_init_18 : decode cX0_init 18 = .ok (.aload_n 0, 1) := by decide +kernel
theorem dX0_init_19 : decode cX0_init 19 = .ok (.iconst 0, 1) := by decide +kernel
theorem dX0_init_20 : decode cX0_init 20 = .ok (.putfield 19, 3) := by decide +kernel
theorem dX0_init_23 : decode cX0_init 23 = .ok (.aload_n 0, 1) := by decide +kernel
theorem dX0_init_24 : decode cX0_init 24 = .ok (.iconst 0, 1) := by decide +kernel
theorem dX0_init_25 : decode cX0_init 25 = .ok (.putfield 22, 3) := by decide +kernel
theorem dX0_init_28 : decode cX0_init 28 = .ok (.aload_n 0, 1) := by decide +kernel
theorem dX0_init_29 : decode cX0_init 29 = .ok (.iconst 0, 1) := by decide +kernel
theorem dX0_init_30 : decode cX0_init 30 = .ok (.putfield 25, 3) := by decide +kernel
theorem dX0_init_33 : decode cX0_init 33 = .ok (.aload_n 0, 1) := by decide +kernel
theorem dX0_init_34 : decode cX0_init 34 = .ok (.iconst 0, 1) := by decide +kernel
theorem dX0_init_35 : decode cX0_init 35 = .ok (.putfield 28, 3) := by decide +kernel
theorem dX0_init_38 : decode cX0_init 38 = .ok (.return_, 1) := by decide +kernel
theorem dX0_append_0 : decode cX0_append 0 = .ok (.aload_n 0, 1) := by decide +kernel
theorem dX0_append_1 : decode cX0_append 1 = .ok (.getfield 15, 3) := by decide +kernel
theorem dX0_append_4 : decode cX0_append 4 = .ok (.sipush 160, 3) := by decide +kernel
theorem dX0_append_7 : decode cX0_append 7 = .ok (.if_icmp .lt 6, 3) := by decide +kernel
theorem dX0_append_10 : decode cX0_append 10 = .ok (.bipush (-4), 2) := by decide +kernel
theorem dX0_append_12 : decode cX0_append 12 = .ok (.ireturn, 1) := by decide +kernel
theorem dX0_append_13 : decode cX0_append 13 = .ok (.aload_n 0, 1) := by decide +kernel
theorem dX0_append_14 : decode cX0_append 14 = .ok (.getfield 11, 3) := by decide +kernel
theorem dX0_append_17 : decode cX0_append 17 = .ok (.aload_n 0, 1) := by decide +kernel
theorem dX0_append_18 : decode cX0_append 18 = .ok (.getfield 15, 3) := by decide +kernel
theorem dX0_append_21 : decode cX0_append 21 = .ok (.iload_n 1, 1) := by decide +kernel
theorem dX0_append_22 : decode cX0_append 22 = .ok (.iastore, 1) := by decide +kernel
theorem dX0_append_23 : decode cX0_append 23 = .ok (.aload_n 0, 1) := by decide +kernel
theorem dX0_append_24 : decode cX0_append 24 = .ok (.dup, 1) := by decide +kernel
theorem dX0_append_25 : decode cX0_append 25 = .ok (.getfield 15, 3) := by decide +kernel
theorem dX0_append_28 : decode cX0_append 28 = .ok (.iconst 1, 1) := by decide +kernel
theorem dX0_append_29 : decode cX0_append 29 = .ok (.iadd, 1) := by decide +kernel
theorem dX0_append_30 : decode cX0_append 30 = .ok (.putfield 15, 3) := by decide +kernel
theorem dX0_append_33 : decode cX0_append 33 = .ok (.aload_n 0, 1) := by decide +kernel
theorem dX0_append_34 : decode cX0_append 34 = .ok (.getfield 15, 3) := by decide +kernel
theorem dX0_append_37 : decode cX0_append 37 = .ok (.ireturn, 1) := by decide +kernel
theorem dX0_wipe_0 : decode cX0_wipe 0 = .ok (.aload_n 0, 1) := by decide +kernel
theorem dX0_wipe_1 : decode cX0_wipe 1 = .ok (.iconst 0, 1) := by decide +kernel
theorem dX0_wipe_2 : decode cX0_wipe 2 = .ok (.putfield 15, 3) := by decide +kernel
theorem dX0_wipe_5 : decode cX0_wipe 5 = .ok (.return_, 1) := by decide +kernel
theorem dX0_readInto_0 : decode cX0_readInto 0 = .ok (.aload_n 1, 1) := by decide +kernel
theorem dX0_readInto_1 : decode cX0_readInto 1 = .ok (.invokevirtual 31, 3) := by decide +kernel
theorem dX0_readInto_4 : decode cX0_readInto 4 = .ok (.aload_n 0, 1) := by decide +kernel
theorem dX0_readInto_5 : decode cX0_readInto 5 = .ok (.iconst 0, 1) := by decide +kernel
theorem dX0_readInto_6 : decode cX0_readInto 6 = .ok (.putfield 19, 3) := by decide +kernel
theorem dX0_readInto_9 : decode cX0_readInto 9 = .ok (.aload_n 0, 1) := by decide +kernel
theorem dX0_readInto_10 : decode cX0_readInto 10 = .ok (.invokevirtual 36, 3) := by decide +kernel
theorem dX0_readInto_13 : decode cX0_readInto 13 = .ok (.iconst 0, 1) := by decide +kernel
theorem dX0_readInto_14 : decode cX0_readInto 14 = .ok (.istore_n 2, 1) := by decide +kernel
theorem dX0_readInto_15 : decode cX0_readInto 15 = .ok (.iload_n 2, 1) := by decide +kernel
theorem dX0_readInto_16 : decode cX0_readInto 16 = .ok (.iconst 3, 1) := by decide +kernel
theorem dX0_readInto_17 : decode cX0_readInto 17 = .ok (.if_icmp .ge 49, 3) := by decide +kernel
theorem dX0_readInto_20 : decode cX0_readInto 20 = .ok (.aload_n 0, 1) := by decide +kernel
theorem dX0_readInto_21 : decode cX0_readInto 21 = .ok (.sipush 300, 3) := by decide +kernel
theorem dX0_readInto_24 : decode cX0_readInto 24 = .ok (.iload_n 2, 1) := by decide +kernel
theorem dX0_readInto_25 : decode cX0_readInto 25 = .ok (.iadd, 1) := by decide +kernel
theorem dX0_readInto_26 : decode cX0_readInto 26 = .ok (.invokevirtual 39, 3) := by decide +kernel
theorem dX0_readInto_29 : decode cX0_readInto 29 = .ok (.ifCond .eq 21, 3) := by decide +kernel
theorem dX0_readInto_32 : decode cX0_readInto 32 = .ok (.aload_n 0, 1) := by decide +kernel
theorem dX0_readInto_33 : decode cX0_readInto 33 = .ok (.aload_n 1, 1) := by decide +kernel
theorem dX0_readInto_34 : decode cX0_readInto 34 = .ok (.iconst 0, 1) := by decide +kernel
theorem dX0_readInto_35 : decode cX0_readInto 35 = .ok (.invokevirtual 43, 3) := by decide +kernel
theorem dX0_readInto_38 : decode cX0_readInto 38 = .ok (.ifCond .eq 12, 3) := by decide +kernel
theorem dX0_readInto_41 : decode cX0_readInto 41 = .ok (.aload_n 0, 1) := by decide +kernel
theorem dX0_readInto_42 : decode cX0_readInto 42 = .ok (.bipush 59, 2) := by decide +kernel
theorem dX0_readInto_44 : decode cX0_readInto 44 = .ok (.invokevirtual 39, 3) := by decide +kernel
theorem dX0_readInto_47 : decode cX0_readInto 47 = .ok (.ifCond .ne 8, 3) := by decide +kernel
theorem dX0_readInto_50 : decode cX0_readInto 50 = .ok (.aload_n 0, 1) := by decide +kernel
theorem dX0_readInto_51 : decode cX0_readInto 51 = .ok (.getfield 25, 3) := by decide +kernel
theorem dX0_readInto_54 : decode cX0_readInto 54 = .ok (.ireturn, 1) := by decide +kernel
theorem dX0_readInto_55 : decode cX0_readInto 55 = .ok (.aload_n 1, 1) := by decide +kernel
theorem dX0_readInto_56 : decode cX0_readInto 56 = .ok (.iload_n 2, 1) := by decide +kernel
theorem dX0_readInto_57 : decode cX0_readInto 57 = .ok (.invokevirtual 47, 3) := by decide +kernel
theorem dX0_readInto_60 : decode cX0_readInto 60 = .ok (.iinc 2 1, 3) := by decide +kernel
theorem dX0_readInto_63 : decode cX0_readInto 63 = .ok (.goto (-48), 3) := by decide +kernel
theorem dX0_readInto_66 : decode cX0_readInto 66 = .ok (.aload_n 0, 1) := by decide +kernel
theorem dX0_readInto_67 : decode cX0_readInto 67 = .ok (.getfield 22, 3) := by decide +kernel
theorem dX0_readInto_70 : decode cX0_readInto 70 = .ok (.ifCond .ne 7, 3) := by decide +kernel
theorem dX0_readInto_73 : decode cX0_readInto 73 = .ok (.iconst (-1), 1) := by decide +kernel
theorem dX0_readInto_74 : decode cX0_readInto 74 = .ok (.goto 7, 3) := by decide +kernel
theorem dX0_readInto_77 : decode cX0_readInto 77 = .ok (.aload_n 0, 1) := by decide +kernel
theorem dX0_readInto_78 : decode cX0_readInto 78 = .ok (.getfield 25, 3) := by decide +kernel
theorem dX0_readInto_81 : decode cX0_readInto 81 = .ok (.ireturn, 1) := by decide +kernel
theorem dX0_skip_0 : decode cX0_skip 0 = .ok (.aload_n 0, 1) := by decide +kernel
theorem dX0_skip_1 : decode cX0_skip 1 = .ok (.getfield 22, 3) := by decide +kernel
theorem dX0_skip_4 : decode cX0_skip 4 = .ok (.iload_n 1, 1) := by decide +kernel
theorem dX0_skip_5 : decode cX0_skip 5 = .ok (.if_icmp .eq 5, 3) := by decide +kernel
theorem dX0_skip_8 : decode cX0_skip 8 = .ok (.iconst 0, 1) := by decide +kernel
theorem dX0_skip_9 : decode cX0_skip 9 = .ok (.ireturn, 1) := by decide +kernel
theorem dX0_skip_10 : decode cX0_skip 10 = .ok (.aload_n 0, 1) := by decide +kernel
theorem dX0_skip_11 : decode cX0_skip 11 = .ok (.invokevirtual 36, 3) := by decide +kernel
theorem dX0_skip_14 : decode cX0_skip 14 = .ok (.iconst 1, 1) := by decide +kernel
theorem dX0_skip_15 : decode cX0_skip 15 = .ok (.ireturn, 1) := by decide +kernel
theorem dX0_either_0 : decode cX0_either 0 = .ok (.aload_n 0, 1) := by decide +kernel
theorem dX0_either_1 : decode cX0_either 1 = .ok (.aload_n 1, 1) := by decide +kernel
theorem dX0_either_2 : decode cX0_either 2 = .ok (.iload_n 2, 1) := by decide +kernel
theorem dX0_either_3 : decode cX0_either 3 = .ok (.invokevirtual 51, 3) := by decide +kernel
theorem dX0_either_6 : decode cX0_either 6 = .ok (.istore_n 3, 1) := by decide +kernel
theorem dX0_either_7 : decode cX0_either 7 = .ok (.iconst 0, 1) := by decide +kernel
theorem dX0_either_8 : decode cX0_either 8 = .ok (.istore 4, 2) := by decide +kernel
theorem dX0_either_10 : decode cX0_either 10 = .ok (.iload 4, 2) := by decide +kernel
theorem dX0_either_12 : decode cX0_either 12 = .ok (.sipush 160, 3) := by decide +kernel
theorem dX0_either_15 : decode cX0_either 15 = .ok (.if_icmp .ge 40, 3) := by decide +kernel
theorem dX0_either_18 : decode cX0_either 18 = .ok (.iload_n 3, 1) := by decide +kernel
theorem dX0_either_19 : decode cX0_either 19 = .ok (.ifCond .eq 36, 3) := by decide +kernel
theorem dX0_either_22 : decode cX0_either 22 = .ok (.aload_n 0, 1) := by decide +kernel
theorem dX0_either_23 : decode cX0_either 23 = .ok (.getfield 22, 3) := by decide +kernel
theorem dX0_either_26 : decode cX0_either 26 = .ok (.sipush 303, 3) := by decide +kernel
theorem dX0_either_29 : decode cX0_either 29 = .ok (.if_icmp .ne 26, 3) := by decide +kernel
theorem dX0_either_32 : decode cX0_either 32 = .ok (.aload_n 0, 1) := by decide +kernel
theorem dX0_either_33 : decode cX0_either 33 = .ok (.invokevirtual 36, 3) := by decide +kernel
theorem dX0_either_36 : decode cX0_either 36 = .ok (.aload_n 0, 1) := by decide +kernel
theorem dX0_either_37 : decode cX0_either 37 = .ok (.aload_n 1, 1) := by decide +kernel
theorem dX0_either_38 : decode cX0_either 38 = .ok (.iload_n 2, 1) := by decide +kernel
theorem dX0_either_39 : decode cX0_either 39 = .ok (.invokevirtual 51, 3) := by decide +kernel
theorem dX0_either_42 : decode cX0_either 42 = .ok (.istore_n 3, 1) := by decide +kernel
theorem dX0_either_43 : decode cX0_either 43 = .ok (.aload_n 1, 1) := by decide +kernel
theorem dX0_either_44 : decode cX0_either 44 = .ok (.bipush (-21), 2) := by decide +kernel
theorem dX0_either_46 : decode cX0_either 46 = .ok (.invokevirtual 54, 3) := by decide +kernel
theorem dX0_either_49 : decode cX0_either 49 = .ok (.iinc 4 1, 3) := by decide +kernel
theorem dX0_either_52 : decode cX0_either 52 = .ok (.goto (-42), 3) := by decide +kernel
theorem dX0_either_55 : decode cX0_either 55 = .ok (.iload_n 3, 1) := by decide +kernel
theorem dX0_either_56 : decode cX0_either 56 = .ok (.ireturn, 1) := by decide +kernel
theorem dX0_both_0 : decode cX0_both 0 = .ok (.aload_n 0, 1) := by decide +kernel
theorem dX0_both_1 : decode cX0_both 1 = .ok (.aload_n 1, 1) := by decide +kernel
theorem dX0_both_2 : decode cX0_both 2 = .ok (.iload_n 2, 1) := by decide +kernel
theorem dX0_both_3 : decode cX0_both 3 = .ok (.invokevirtual 57, 3) := by decide +kernel
theorem dX0_both_6 : decode cX0_both 6 = .ok (.istore_n 3, 1) := by decide +kernel
theorem dX0_both_7 : decode cX0_both 7 = .ok (.iconst 0, 1) := by decide +kernel
theorem dX0_both_8 : decode cX0_both 8 = .ok (.istore 4, 2) := by decide +kernel
theorem dX0_both_10 : decode cX0_both 10 = .ok (.iload 4, 2) := by decide +kernel
theorem dX0_both_12 : decode cX0_both 12 = .ok (.sipush 160, 3) := by decide +kernel
theorem dX0_both_15 : decode cX0_both 15 = .ok (.if_icmp .ge 40, 3) := by decide +kernel
theorem dX0_both_18 : decode cX0_both 18 = .ok (.iload_n 3, 1) := by decide +kernel
theorem dX0_both_19 : decode cX0_both 19 = .ok (.ifCond .eq 36, 3) := by decide +kernel
theorem dX0_both_22 : decode cX0_both 22 = .ok (.aload_n 0, 1) := by decide +kernel
theorem dX0_both_23 : decode cX0_both 23 = .ok (.getfield 22, 3) := by decide +kernel
theorem dX0_both_26 : decode cX0_both 26 = .ok (.sipush 304, 3) := by decide +kernel
theorem dX0_both_29 : decode cX0_both 29 = .ok (.if_icmp .ne 26, 3) := by decide +kernel
theorem dX0_both_32 : decode cX0_both 32 = .ok (.aload_n 0, 1) := by decide +kernel
theorem dX0_both_33 : decode cX0_both 33 = .ok (.invokevirtual 36, 3) := by decide +kernel
theorem dX0_both_36 : decode cX0_both 36 = .ok (.aload_n 0, 1) := by decide +kernel
theorem dX0_both_37 : decode cX0_both 37 = .ok (.aload_n 1, 1) := by decide +kernel
theorem dX0_both_38 : decode cX0_both 38 = .ok (.iload_n 2, 1) := by decide +kernel
theorem dX0_both_39 : decode cX0_both 39 = .ok (.invokevirtual 57, 3) := by decide +kernel
theorem dX0_both_42 : decode cX0_both 42 = .ok (.istore_n 3, 1) := by decide +kernel
theorem dX0_both_43 : decode cX0_both 43 = .ok (.aload_n 1, 1) := by decide +kernel
theorem dX0_both_44 : decode cX0_both 44 = .ok (.bipush (-22), 2) := by decide +kernel
theorem dX0_both_46 : decode cX0_both 46 = .ok (.invokevirtual 54, 3) := by decide +kernel
theorem dX0_both_49 : decode cX0_both 49 = .ok (.iinc 4 1, 3) := by decide +kernel
theorem dX0_both_52 : decode cX0_both 52 = .ok (.goto (-42), 3) := by decide +kernel
theorem dX0_both_55 : decode cX0_both 55 = .ok (.iload_n 3, 1) := by decide +kernel
theorem dX0_both_56 : decode cX0_both 56 = .ok (.ireturn, 1) := by decide +kernel
theorem dX0_negated_0 : decode cX0_negated 0 = .ok (.aload_n 0, 1) := by decide +kernel
theorem dX0_negated_1 : decode cX0_negated 1 = .ok (.getfield 22, 3) := by decide +kernel
theorem dX0_negated_4 : decode cX0_negated 4 = .ok (.sipush 305, 3) := by decide +kernel
theorem dX0_negated_7 : decode cX0_negated 7 = .ok (.if_icmp .eq 10, 3) := by decide +kernel
theorem dX0_negated_10 : decode cX0_negated 10 = .ok (.aload_n 0, 1) := by decide +kernel
theorem dX0_negated_11 : decode cX0_negated 11 = .ok (.aload_n 1, 1) := by decide +kernel
theorem dX0_negated_12 : decode cX0_negated 12 = .ok (.iload_n 2, 1) := by decide +kernel
theorem dX0_negated_13 : decode cX0_negated 13 = .ok (.invokevirtual 60, 3) := by decide +kernel
theorem dX0_negated_16 : decode cX0_negated 16 = .ok (.ireturn, 1) := by decide +kernel
theorem dX0_negated_17 : decode cX0_negated 17 = .ok (.iload_n 2, 1) := by decide +kernel
theorem dX0_negated_18 : decode cX0_negated 18 = .ok (.iconst 5, 1) := by decide +kernel
theorem dX0_negated_19 : decode cX0_negated 19 = .ok (.if_icmp .lt 5, 3) := by decide +kernel
theorem dX0_negated_22 : decode cX0_negated 22 = .ok (.iconst 0, 1) := by decide +kernel
theorem dX0_negated_23 : decode cX0_negated 23 = .ok (.ireturn, 1) := by decide +kernel
theorem dX0_negated_24 : decode cX0_negated 24 = .ok (.aload_n 0, 1) := by decide +kernel
theorem dX0_negated_25 : decode cX0_negated 25 = .ok (.invokevirtual 36, 3) := by decide +kernel
theorem dX0_negated_28 : decode cX0_negated 28 = .ok (.aload_n 0, 1) := by decide +kernel
theorem dX0_negated_29 : decode cX0_negated 29 = .ok (.aload_n 1, 1) := by decide +kernel
theorem dX0_negated_30 : decode cX0_negated 30 = .ok (.iload_n 2, 1) := by decide +kernel
theorem dX0_negated_31 : decode cX0_negated 31 = .ok (.iconst 1, 1) := by decide +kernel
theorem dX0_negated_32 : decode cX0_negated 32 = .ok (.iadd, 1) := by decide +kernel
theorem dX0_negated_33 : decode cX0_negated 33 = .ok (.invokevirtual 57, 3) := by decide +kernel
theorem dX0_negated_36 : decode cX0_negated 36 = .ok (.istore_n 3, 1) := by decide +kernel
theorem dX0_negated_37 : decode cX0_negated 37 = .ok (.aload_n 1, 1) := by decide +kernel
theorem dX0_negated_38 : decode cX0_negated 38 = .ok (.bipush (-12), 2) := by decide +kernel
theorem dX0_negated_40 : decode cX0_negated 40 = .ok (.invokevirtual 54, 3) := by decide +kernel
theorem dX0_negated_43 : decode cX0_negated 43 = .ok (.iload_n 3, 1) := by decide +kernel
theorem dX0_negated_44 : decode cX0_negated 44 = .ok (.ireturn, 1) := by decide +kernel
theorem dX0_compared_0 : decode cX0_compared 0 = .ok (.aload_n 0, 1) := by decide +kernel
theorem dX0_compared_1 : decode cX0_compared 1 = .ok (.aload_n 1, 1) := by decide +kernel
theorem dX0_compared_2 : decode cX0_compared 2 = .ok (.iload_n 2, 1) := by decide +kernel
theorem dX0_compared_3 : decode cX0_compared 3 = .ok (.invokevirtual 63, 3) := by decide +kernel
theorem dX0_compared_6 : decode cX0_compared 6 = .ok (.istore_n 3, 1) := by decide +kernel
theorem dX0_compared_7 : decode cX0_compared 7 = .ok (.iload_n 3, 1) := by decide +kernel
theorem dX0_compared_8 : decode cX0_compared 8 = .ok (.ifCond .eq 21, 3) := by decide +kernel
theorem dX0_compared_11 : decode cX0_compared 11 = .ok (.aload_n 0, 1) := by decide +kernel
theorem dX0_compared_12 : decode cX0_compared 12 = .ok (.getfield 22, 3) := by decide +kernel
theorem dX0_compared_15 : decode cX0_compared 15 = .ok (.bipush 60, 2) := by decide +kernel
theorem dX0_compared_17 : decode cX0_compared 17 = .ok (.if_icmp .eq 14, 3) := by decide +kernel
theorem dX0_compared_20 : decode cX0_compared 20 = .ok (.aload_n 0, 1) := by decide +kernel
theorem dX0_compared_21 : decode cX0_compared 21 = .ok (.getfield 22, 3) := by decide +kernel
theorem dX0_compared_24 : decode cX0_compared 24 = .ok (.bipush 61, 2) := by decide +kernel
theorem dX0_compared_26 : decode cX0_compared 26 = .ok (.if_icmp .eq 5, 3) := by decide +kernel
theorem dX0_compared_29 : decode cX0_compared 29 = .ok (.iload_n 3, 1) := by decide +kernel
theorem dX0_compared_30 : decode cX0_compared 30 = .ok (.ireturn, 1) := by decide +kernel
theorem dX0_compared_31 : decode cX0_compared 31 = .ok (.aload_n 0, 1) := by decide +kernel
theorem dX0_compared_32 : decode cX0_compared 32 = .ok (.getfield 22, 3) := by decide +kernel
theorem dX0_compared_35 : decode cX0_compared 35 = .ok (.bipush 60, 2) := by decide +kernel
theorem dX0_compared_37 : decode cX0_compared 37 = .ok (.if_icmp .ne 8, 3) := by decide +kernel
theorem dX0_compared_40 : decode cX0_compared 40 = .ok (.bipush (-23), 2) := by decide +kernel
theorem dX0_compared_42 : decode cX0_compared 42 = .ok (.goto 5, 3) := by decide +kernel
theorem dX0_compared_45 : decode cX0_compared 45 = .ok (.bipush (-24), 2) := by decide +kernel
theorem dX0_compared_47 : decode cX0_compared 47 = .ok (.istore 4, 2) := by decide +kernel
theorem dX0_compared_49 : decode cX0_compared 49 = .ok (.aload_n 0, 1) := by decide +kernel
theorem dX0_compared_50 : decode cX0_compared 50 = .ok (.invokevirtual 36, 3) := by decide +kernel
theorem dX0_compared_53 : decode cX0_compared 53 = .ok (.aload_n 0, 1) := by decide +kernel
theorem dX0_compared_54 : decode cX0_compared 54 = .ok (.aload_n 1, 1) := by decide +kernel
theorem dX0_compared_55 : decode cX0_compared 55 = .ok (.iload_n 2, 1) := by decide +kernel
theorem dX0_compared_56 : decode cX0_compared 56 = .ok (.invokevirtual 63, 3) := by decide +kernel
theorem dX0_compared_59 : decode cX0_compared 59 = .ok (.istore_n 3, 1) := by decide +kernel
theorem dX0_compared_60 : decode cX0_compared 60 = .ok (.aload_n 1, 1) := by decide +kernel
theorem dX0_compared_61 : decode cX0_compared 61 = .ok (.iload 4, 2) := by decide +kernel
theorem dX0_compared_63 : decode cX0_compared 63 = .ok (.invokevirtual 54, 3) := by decide +kernel
theorem dX0_compared_66 : decode cX0_compared 66 = .ok (.iload_n 3, 1) := by decide +kernel
theorem dX0_compared_67 : decode cX0_compared 67 = .ok (.ireturn, 1) := by decide +kernel
theorem dX0_sum_0 : decode cX0_sum 0 = .ok (.aload_n 0, 1) := by decide +kernel
theorem dX0_sum_1 : decode cX0_sum 1 = .ok (.aload_n 1, 1) := by decide +kernel
theorem dX0_sum_2 : decode cX0_sum 2 = .ok (.iload_n 2, 1) := by decide +kernel
theorem dX0_sum_3 : decode cX0_sum 3 = .ok (.invokevirtual 66, 3) := by decide +kernel
theorem dX0_sum_6 : decode cX0_sum 6 = .ok (.istore_n 3, 1) := by decide +kernel
theorem dX0_sum_7 : decode cX0_sum 7 = .ok (.iconst 0, 1) := by decide +kernel
theorem dX0_sum_8 : decode cX0_sum 8 = .ok (.istore 4, 2) := by decide +kernel
theorem dX0_sum_10 : decode cX0_sum 10 = .ok (.iload 4, 2) := by decide +kernel
theorem dX0_sum_12 : decode cX0_sum 12 = .ok (.sipush 160, 3) := by decide +kernel
theorem dX0_sum_15 : decode cX0_sum 15 = .ok (.if_icmp .ge 66, 3) := by decide +kernel
theorem dX0_sum_18 : decode cX0_sum 18 = .ok (.iload_n 3, 1) := by decide +kernel
theorem dX0_sum_19 : decode cX0_sum 19 = .ok (.ifCond .eq 62, 3) := by decide +kernel
theorem dX0_sum_22 : decode cX0_sum 22 = .ok (.aload_n 0, 1) := by decide +kernel
theorem dX0_sum_23 : decode cX0_sum 23 = .ok (.getfield 22, 3) := by decide +kernel
theorem dX0_sum_26 : decode cX0_sum 26 = .ok (.bipush 43, 2) := by decide +kernel
theorem dX0_sum_28 : decode cX0_sum 28 = .ok (.if_icmp .eq 12, 3) := by decide +kernel
theorem dX0_sum_31 : decode cX0_sum 31 = .ok (.aload_n 0, 1) := by decide +kernel
theorem dX0_sum_32 : decode cX0_sum 32 = .ok (.getfield 22, 3) := by decide +kernel
theorem dX0_sum_35 : decode cX0_sum 35 = .ok (.bipush 45, 2) := by decide +kernel
theorem dX0_sum_37 : decode cX0_sum 37 = .ok (.if_icmp .ne 44, 3) := by decide +kernel
theorem dX0_sum_40 : decode cX0_sum 40 = .ok (.aload_n 0, 1) := by decide +kernel
theorem dX0_sum_41 : decode cX0_sum 41 = .ok (.getfield 22, 3) := by decide +kernel
theorem dX0_sum_44 : decode cX0_sum 44 = .ok (.bipush 43, 2) := by decide +kernel
theorem dX0_sum_46 : decode cX0_sum 46 = .ok (.if_icmp .ne 8, 3) := by decide +kernel
theorem dX0_sum_49 : decode cX0_sum 49 = .ok (.bipush (-25), 2) := by decide +kernel
theorem dX0_sum_51 : decode cX0_sum 51 = .ok (.goto 5, 3) := by decide +kernel
theorem dX0_sum_54 : decode cX0_sum 54 = .ok (.bipush (-26), 2) := by decide +kernel
theorem dX0_sum_56 : decode cX0_sum 56 = .ok (.istore 5, 2) := by decide +kernel
theorem dX0_sum_58 : decode cX0_sum 58 = .ok (.aload_n 0, 1) := by decide +kernel
theorem dX0_sum_59 : decode cX0_sum 59 = .ok (.invokevirtual 36, 3) := by decide +kernel
theorem dX0_sum_62 : decode cX0_sum 62 = .ok (.aload_n 0, 1) := by decide +kernel
theorem dX0_sum_63 : decode cX0_sum 63 = .ok (.aload_n 1, 1) := by decide +kernel
theorem dX0_sum_64 : decode cX0_sum 64 = .ok (.iload_n 2, 1) := by decide +kernel
theorem dX0_sum_65 : decode cX0_sum 65 = .ok (.invokevirtual 66, 3) := by decide +kernel
theorem dX0_sum_68 : decode cX0_sum 68 = .ok (.istore_n 3, 1) := by decide +kernel
theorem dX0_sum_69 : decode cX0_sum 69 = .ok (.aload_n 1, 1) := by decide +kernel
theorem dX0_sum_70 : decode cX0_sum 70 = .ok (.iload 5, 2) := by decide +kernel
theorem dX0_sum_72 : decode cX0_sum 72 = .ok (.invokevirtual 54, 3) := by decide +kernel
theorem dX0_sum_75 : decode cX0_sum 75 = .ok (.iinc 4 1, 3) := by decide +kernel
theorem dX0_sum_78 : decode cX0_sum 78 = .ok (.goto (-68), 3) := by decide +kernel
theorem dX0_sum_81 : decode cX0_sum 81 = .ok (.iload_n 3, 1) := by decide +kernel
theorem dX0_sum_82 : decode cX0_sum 82 = .ok (.ireturn, 1) := by decide +kernel
theorem dX0_term_0 : decode cX0_term 0 = .ok (.aload_n 0, 1) := by decide +kernel
theorem dX0_term_1 : decode cX0_term 1 = .ok (.aload_n 1, 1) := by decide +kernel
theorem dX0_term_2 : decode cX0_term 2 = .ok (.iload_n 2, 1) := by decide +kernel
theorem dX0_term_3 : decode cX0_term 3 = .ok (.invokevirtual 69, 3) := by decide +kernel
theorem dX0_term_6 : decode cX0_term 6 = .ok (.istore_n 3, 1) := by decide +kernel
theorem dX0_term_7 : decode cX0_term 7 = .ok (.iconst 0, 1) := by decide +kernel
theorem dX0_term_8 : decode cX0_term 8 = .ok (.istore 4, 2) := by decide +kernel
theorem dX0_term_10 : decode cX0_term 10 = .ok (.iload 4, 2) := by decide +kernel
theorem dX0_term_12 : decode cX0_term 12 = .ok (.sipush 160, 3) := by decide +kernel
theorem dX0_term_15 : decode cX0_term 15 = .ok (.if_icmp .ge 39, 3) := by decide +kernel
theorem dX0_term_18 : decode cX0_term 18 = .ok (.iload_n 3, 1) := by decide +kernel
theorem dX0_term_19 : decode cX0_term 19 = .ok (.ifCond .eq 35, 3) := by decide +kernel
theorem dX0_term_22 : decode cX0_term 22 = .ok (.aload_n 0, 1) := by decide +kernel
theorem dX0_term_23 : decode cX0_term 23 = .ok (.getfield 22, 3) := by decide +kernel
theorem dX0_term_26 : decode cX0_term 26 = .ok (.bipush 42, 2) := by decide +kernel
theorem dX0_term_28 : decode cX0_term 28 = .ok (.if_icmp .ne 26, 3) := by decide +kernel
theorem dX0_term_31 : decode cX0_term 31 = .ok (.aload_n 0, 1) := by decide +kernel
theorem dX0_term_32 : decode cX0_term 32 = .ok (.invokevirtual 36, 3) := by decide +kernel
theorem dX0_term_35 : decode cX0_term 35 = .ok (.aload_n 0, 1) := by decide +kernel
theorem dX0_term_36 : decode cX0_term 36 = .ok (.aload_n 1, 1) := by decide +kernel
theorem dX0_term_37 : decode cX0_term 37 = .ok (.iload_n 2, 1) := by decide +kernel
theorem dX0_term_38 : decode cX0_term 38 = .ok (.invokevirtual 69, 3) := by decide +kernel
theorem dX0_term_41 : decode cX0_term 41 = .ok (.istore_n 3, 1) := by decide +kernel
theorem dX0_term_42 : decode cX0_term 42 = .ok (.aload_n 1, 1) := by decide +kernel
theorem dX0_term_43 : decode cX0_term 43 = .ok (.bipush (-27), 2) := by decide +kernel
theorem dX0_term_45 : decode cX0_term 45 = .ok (.invokevirtual 54, 3) := by decide +kernel
theorem dX0_term_48 : decode cX0_term 48 = .ok (.iinc 4 1, 3) := by decide +kernel
theorem dX0_term_51 : decode cX0_term 51 = .ok (.goto (-41), 3) := by decide +kernel
theorem dX0_term_54 : decode cX0_term 54 = .ok (.iload_n 3, 1) := by decide +kernel
theorem dX0_term_55 : decode cX0_term 55 = .ok (.ireturn, 1) := by decide +kernel
theorem dX0_single_0 : decode cX0_single 0 = .ok (.aload_n 0, 1) := by decide +kernel
theorem dX0_single_1 : decode cX0_single 1 = .ok (.getfield 22, 3) := by decide +kernel
theorem dX0_single_4 : decode cX0_single 4 = .ok (.iconst 2, 1) := by decide +kernel
theorem dX0_single_5 : decode cX0_single 5 = .ok (.if_icmp .ne 17, 3) := by decide +kernel
theorem dX0_single_8 : decode cX0_single 8 = .ok (.aload_n 1, 1) := by decide +kernel
theorem dX0_single_9 : decode cX0_single 9 = .ok (.aload_n 0, 1) := by decide +kernel
theorem dX0_single_10 : decode cX0_single 10 = .ok (.getfield 28, 3) := by decide +kernel
theorem dX0_single_13 : decode cX0_single 13 = .ok (.invokevirtual 54, 3) := by decide +kernel
theorem dX0_single_16 : decode cX0_single 16 = .ok (.aload_n 0, 1) := by decide +kernel
theorem dX0_single_17 : decode cX0_single 17 = .ok (.invokevirtual 36, 3) := by decide +kernel
theorem dX0_single_20 : decode cX0_single 20 = .ok (.iconst 1, 1) := by decide +kernel
theorem dX0_single_21 : decode cX0_single 21 = .ok (.ireturn, 1) := by decide +kernel
theorem dX0_single_22 : decode cX0_single 22 = .ok (.aload_n 0, 1) := by decide +kernel
theorem dX0_single_23 : decode cX0_single 23 = .ok (.getfield 22, 3) := by decide +kernel
theorem dX0_single_26 : decode cX0_single 26 = .ok (.sipush 306, 3) := by decide +kernel
theorem dX0_single_29 : decode cX0_single 29 = .ok (.if_icmp .lt 23, 3) := by decide +kernel
theorem dX0_single_32 : decode cX0_single 32 = .ok (.aload_n 1, 1) := by decide +kernel
theorem dX0_single_33 : decode cX0_single 33 = .ok (.iconst (-1), 1) := by decide +kernel
theorem dX0_single_34 : decode cX0_single 34 = .ok (.aload_n 0, 1) := by decide +kernel
theorem dX0_single_35 : decode cX0_single 35 = .ok (.getfield 22, 3) := by decide +kernel
theorem dX0_single_38 : decode cX0_single 38 = .ok (.sipush 306, 3) := by decide +kernel
theorem dX0_single_41 : decode cX0_single 41 = .ok (.isub, 1) := by decide +kernel
theorem dX0_single_42 : decode cX0_single 42 = .ok (.isub, 1) := by decide +kernel
theorem dX0_single_43 : decode cX0_single 43 = .ok (.invokevirtual 54, 3) := by decide +kernel
theorem dX0_single_46 : decode cX0_single 46 = .ok (.aload_n 0, 1) := by decide +kernel
theorem dX0_single_47 : decode cX0_single 47 = .ok (.invokevirtual 36, 3) := by decide +kernel
theorem dX0_single_50 : decode cX0_single 50 = .ok (.iconst 1, 1) := by decide +kernel
theorem dX0_single_51 : decode cX0_single 51 = .ok (.ireturn, 1) := by decide +kernel
theorem dX0_single_52 : decode cX0_single 52 = .ok (.aload_n 0, 1) := by decide +kernel
theorem dX0_single_53 : decode cX0_single 53 = .ok (.getfield 22, 3) := by decide +kernel
theorem dX0_single_56 : decode cX0_single 56 = .ok (.bipush 45, 2) := by decide +kernel
theorem dX0_single_58 : decode cX0_single 58 = .ok (.if_icmp .eq 12, 3) := by decide +kernel
theorem dX0_single_61 : decode cX0_single 61 = .ok (.aload_n 0, 1) := by decide +kernel
theorem dX0_single_62 : decode cX0_single 62 = .ok (.getfield 22, 3) := by decide +kernel
theorem dX0_single_65 : decode cX0_single 65 = .ok (.bipush 40, 2) := by decide +kernel
theorem dX0_single_67 : decode cX0_single 67 = .ok (.if_icmp .ne 8, 3) := by decide +kernel
theorem dX0_single_70 : decode cX0_single 70 = .ok (.iload_n 2, 1) := by decide +kernel
theorem dX0_single_71 : decode cX0_single 71 = .ok (.iconst 5, 1) := by decide +kernel
theorem dX0_single_72 : decode cX0_single 72 = .ok (.if_icmp .lt 5, 3) := by decide +kernel
theorem dX0_single_75 : decode cX0_single 75 = .ok (.iconst 0, 1) := by decide +kernel
theorem dX0_single_76 : decode cX0_single 76 = .ok (.ireturn, 1) := by decide +kernel
theorem dX0_single_77 : decode cX0_single 77 = .ok (.aload_n 0, 1) := by decide +kernel
theorem dX0_single_78 : decode cX0_single 78 = .ok (.bipush 40, 2) := by decide +kernel
theorem dX0_single_80 : decode cX0_single 80 = .ok (.invokevirtual 39, 3) := by decide +kernel
theorem dX0_single_83 : decode cX0_single 83 = .ok (.ifCond .eq 29, 3) := by decide +kernel
theorem dX0_single_86 : decode cX0_single 86 = .ok (.aload_n 0, 1) := by decide +kernel
theorem dX0_single_87 : decode cX0_single 87 = .ok (.aload_n 1, 1) := by decide +kernel
theorem dX0_single_88 : decode cX0_single 88 = .ok (.iload_n 2, 1) := by decide +kernel
theorem dX0_single_89 : decode cX0_single 89 = .ok (.iconst 1, 1) := by decide +kernel
theorem dX0_single_90 : decode cX0_single 90 = .ok (.iadd, 1) := by decide +kernel
theorem dX0_single_91 : decode cX0_single 91 = .ok (.invokevirtual 43, 3) := by decide +kernel
theorem dX0_single_94 : decode cX0_single 94 = .ok (.ifCond .eq 16, 3) := by decide +kernel
theorem dX0_single_97 : decode cX0_single 97 = .ok (.aload_n 0, 1) := by decide +kernel
theorem dX0_single_98 : decode cX0_single 98 = .ok (.bipush 41, 2) := by decide +kernel
theorem dX0_single_100 : decode cX0_single 100 = .ok (.invokevirtual 39, 3) := by decide +kernel
theorem dX0_single_103 : decode cX0_single 103 = .ok (.ifCond .eq 7, 3) := by decide +kernel
theorem dX0_single_106 : decode cX0_single 106 = .ok (.iconst 1, 1) := by decide +kernel
theorem dX0_single_107 : decode cX0_single 107 = .ok (.goto 4, 3) := by decide +kernel
theorem dX0_single_110 : decode cX0_single 110 = .ok (.iconst 0, 1) := by decide +kernel
theorem dX0_single_111 : decode cX0_single 111 = .ok (.ireturn, 1) := by decide +kernel
theorem dX0_single_112 : decode cX0_single 112 = .ok (.aload_n 0, 1) := by decide +kernel
theorem dX0_single_113 : decode cX0_single 113 = .ok (.invokevirtual 36, 3) := by decide +kernel
theorem dX0_single_116 : decode cX0_single 116 = .ok (.aload_n 0, 1) := by decide +kernel
theorem dX0_single_117 : decode cX0_single 117 = .ok (.aload_n 1, 1) := by decide +kernel
theorem dX0_single_118 : decode cX0_single 118 = .ok (.iload_n 2, 1) := by decide +kernel
theorem dX0_single_119 : decode cX0_single 119 = .ok (.iconst 1, 1) := by decide +kernel
theorem dX0_single_120 : decode cX0_single 120 = .ok (.iadd, 1) := by decide +kernel
theorem dX0_single_121 : decode cX0_single 121 = .ok (.invokevirtual 69, 3) := by decide +kernel
theorem dX0_single_124 : decode cX0_single 124 = .ok (.istore_n 3, 1) := by decide +kernel
theorem dX0_single_125 : decode cX0_single 125 = .ok (.aload_n 1, 1) := by decide +kernel
theorem dX0_single_126 : decode cX0_single 126 = .ok (.bipush (-11), 2) := by decide +kernel
theorem dX0_single_128 : decode cX0_single 128 = .ok (.invokevirtual 54, 3) := by decide +kernel
theorem dX0_single_131 : decode cX0_single 131 = .ok (.iload_n 3, 1) := by decide +kernel
theorem dX0_single_132 : decode cX0_single 132 = .ok (.ireturn, 1) := by decide +kernel
theorem dX0_advance_0 : decode cX0_advance 0 = .ok (.aload_n 0, 1) := by decide +kernel
theorem dX0_advance_1 : decode cX0_advance 1 = .ok (.getfield 19, 3) := by decide +kernel
theorem dX0_advance_4 : decode cX0_advance 4 = .ok (.aload_n 0, 1) := by decide +kernel
theorem dX0_advance_5 : decode cX0_advance 5 = .ok (.getfield 15, 3) := by decide +kernel
theorem dX0_advance_8 : decode cX0_advance 8 = .ok (.if_icmp .ge 44, 3) := by decide +kernel
theorem dX0_advance_11 : decode cX0_advance 11 = .ok (.aload_n 0, 1) := by decide +kernel
theorem dX0_advance_12 : decode cX0_advance 12 = .ok (.getfield 11, 3) := by decide +kernel
theorem dX0_advance_15 : decode cX0_advance 15 = .ok (.aload_n 0, 1) := by decide +kernel
theorem dX0_advance_16 : decode cX0_advance 16 = .ok (.getfield 19, 3) := by decide +kernel
theorem dX0_advance_19 : decode cX0_advance 19 = .ok (.iaload, 1) := by decide +kernel
theorem dX0_advance_20 : decode cX0_advance 20 = .ok (.bipush 32, 2) := by decide +kernel
theorem dX0_advance_22 : decode cX0_advance 22 = .ok (.if_icmp .eq 17, 3) := by decide +kernel
theorem dX0_advance_25 : decode cX0_advance 25 = .ok (.aload_n 0, 1) := by decide +kernel
theorem dX0_advance_26 : decode cX0_advance 26 = .ok (.getfield 11, 3) := by decide +kernel
theorem dX0_advance_29 : decode cX0_advance 29 = .ok (.aload_n 0, 1) := by decide +kernel
theorem dX0_advance_30 : decode cX0_advance 30 = .ok (.getfield 19, 3) := by decide +kernel
theorem dX0_advance_33 : decode cX0_advance 33 = .ok (.iaload, 1) := by decide +kernel
theorem dX0_advance_34 : decode cX0_advance 34 = .ok (.bipush 10, 2) := by decide +kernel
theorem dX0_advance_36 : decode cX0_advance 36 = .ok (.if_icmp .ne 16, 3) := by decide +kernel
theorem dX0_advance_39 : decode cX0_advance 39 = .ok (.aload_n 0, 1) := by decide +kernel
theorem dX0_advance_40 : decode cX0_advance 40 = .ok (.dup, 1) := by decide +kernel
theorem dX0_advance_41 : decode cX0_advance 41 = .ok (.getfield 19, 3) := by decide +kernel
theorem dX0_advance_44 : decode cX0_advance 44 = .ok (.iconst 1, 1) := by decide +kernel
theorem dX0_advance_45 : decode cX0_advance 45 = .ok (.iadd, 1) := by decide +kernel
theorem dX0_advance_46 : decode cX0_advance 46 = .ok (.putfield 19, 3) := by decide +kernel
theorem dX0_advance_49 : decode cX0_advance 49 = .ok (.goto (-49), 3) := by decide +kernel
theorem dX0_advance_52 : decode cX0_advance 52 = .ok (.aload_n 0, 1) := by decide +kernel
theorem dX0_advance_53 : decode cX0_advance 53 = .ok (.aload_n 0, 1) := by decide +kernel
theorem dX0_advance_54 : decode cX0_advance 54 = .ok (.getfield 19, 3) := by decide +kernel
theorem dX0_advance_57 : decode cX0_advance 57 = .ok (.putfield 25, 3) := by decide +kernel
theorem dX0_advance_60 : decode cX0_advance 60 = .ok (.aload_n 0, 1) := by decide +kernel
theorem dX0_advance_61 : decode cX0_advance 61 = .ok (.getfield 19, 3) := by decide +kernel
theorem dX0_advance_64 : decode cX0_advance 64 = .ok (.aload_n 0, 1) := by decide +kernel
theorem dX0_advance_65 : decode cX0_advance 65 = .ok (.getfield 15, 3) := by decide +kernel
theorem dX0_advance_68 : decode cX0_advance 68 = .ok (.if_icmp .lt 11, 3) := by decide +kernel
theorem dX0_advance_71 : decode cX0_advance 71 = .ok (.aload_n 0, 1) := by decide +kernel
theorem dX0_advance_72 : decode cX0_advance 72 = .ok (.iconst 0, 1) := by decide +kernel
theorem dX0_advance_73 : decode cX0_advance 73 = .ok (.putfield 22, 3) := by decide +kernel
theorem dX0_advance_76 : decode cX0_advance 76 = .ok (.goto 89, 3) := by decide +kernel
theorem dX0_advance_79 : decode cX0_advance 79 = .ok (.aload_n 0, 1) := by decide +kernel
theorem dX0_advance_80 : decode cX0_advance 80 = .ok (.getfield 11, 3) := by decide +kernel
theorem dX0_advance_83 : decode cX0_advance 83 = .ok (.aload_n 0, 1) := by decide +kernel
theorem dX0_advance_84 : decode cX0_advance 84 = .ok (.getfield 19, 3) := by decide +kernel
theorem dX0_advance_87 : decode cX0_advance 87 = .ok (.iaload, 1) := by decide +kernel
theorem dX0_advance_88 : decode cX0_advance 88 = .ok (.invokestatic 72, 3) := by decide +kernel
theorem dX0_advance_91 : decode cX0_advance 91 = .ok (.ifCond .eq 10, 3) := by decide +kernel
theorem dX0_advance_94 : decode cX0_advance 94 = .ok (.aload_n 0, 1) := by decide +kernel
theorem dX0_advance_95 : decode cX0_advance 95 = .ok (.invokevirtual 75, 3) := by decide +kernel
theorem dX0_advance_98 : decode cX0_advance 98 = .ok (.goto 67, 3) := by decide +kernel
theorem dX0_advance_101 : decode cX0_advance 101 = .ok (.aload_n 0, 1) := by decide +kernel
theorem dX0_advance_102 : decode cX0_advance 102 = .ok (.getfield 11, 3) := by decide +kernel
theorem dX0_advance_105 : decode cX0_advance 105 = .ok (.aload_n 0, 1) := by decide +kernel
theorem dX0_advance_106 : decode cX0_advance 106 = .ok (.getfield 19, 3) := by decide +kernel
theorem dX0_advance_109 : decode cX0_advance 109 = .ok (.iaload, 1) := by decide +kernel
theorem dX0_advance_110 : decode cX0_advance 110 = .ok (.invokestatic 78, 3) := by decide +kernel
theorem dX0_advance_113 : decode cX0_advance 113 = .ok (.ifCond .eq 10, 3) := by decide +kernel
theorem dX0_advance_116 : decode cX0_advance 116 = .ok (.aload_n 0, 1) := by decide +kernel
theorem dX0_advance_117 : decode cX0_advance 117 = .ok (.invokevirtual 81, 3) := by decide +kernel
theorem dX0_advance_120 : decode cX0_advance 120 = .ok (.goto 45, 3) := by decide +kernel
theorem dX0_advance_123 : decode cX0_advance 123 = .ok (.aload_n 0, 1) := by decide +kernel
theorem dX0_advance_124 : decode cX0_advance 124 = .ok (.aload_n 0, 1) := by decide +kernel
theorem dX0_advance_125 : decode cX0_advance 125 = .ok (.getfield 11, 3) := by decide +kernel
theorem dX0_advance_128 : decode cX0_advance 128 = .ok (.aload_n 0, 1) := by decide +kernel
theorem dX0_advance_129 : decode cX0_advance 129 = .ok (.getfield 19, 3) := by decide +kernel
theorem dX0_advance_132 : decode cX0_advance 132 = .ok (.iaload, 1) := by decide +kernel
theorem dX0_advance_133 : decode cX0_advance 133 = .ok (.invokestatic 84, 3) := by decide +kernel
theorem dX0_advance_136 : decode cX0_advance 136 = .ok (.ifCond .eq 15, 3) := by decide +kernel
theorem dX0_advance_139 : decode cX0_advance 139 = .ok (.aload_n 0, 1) := by decide +kernel
theorem dX0_advance_140 : decode cX0_advance 140 = .ok (.getfield 11, 3) := by decide +kernel
theorem dX0_advance_143 : decode cX0_advance 143 = .ok (.aload_n 0, 1) := by decide +kernel
theorem dX0_advance_144 : decode cX0_advance 144 = .ok (.getfield 19, 3) := by decide +kernel
theorem dX0_advance_147 : decode cX0_advance 147 = .ok (.iaload, 1) := by decide +kernel
theorem dX0_advance_148 : decode cX0_advance 148 = .ok (.goto 4, 3) := by decide +kernel
theorem dX0_advance_151 : decode cX0_advance 151 = .ok (.iconst 1, 1) := by decide +kernel
theorem dX0_advance_152 : decode cX0_advance 152 = .ok (.putfield 22, 3) := by decide +kernel
theorem dX0_advance_155 : decode cX0_advance 155 = .ok (.aload_n 0, 1) := by decide +kernel
theorem dX0_advance_156 : decode cX0_advance 156 = .ok (.dup, 1) := by decide +kernel
theorem dX0_advance_157 : decode cX0_advance 157 = .ok (.getfield 19, 3) := by decide +kernel
theorem dX0_advance_160 : decode cX0_advance 160 = .ok (.iconst 1, 1) := by decide +kernel
theorem dX0_advance_161 : decode cX0_advance 161 = .ok (.iadd, 1) := by decide +kernel
theorem dX0_advance_162 : decode cX0_advance 162 = .ok (.putfield 19, 3) := by decide +kernel
theorem dX0_advance_165 : decode cX0_advance 165 = .ok (.return_, 1) := by decide +kernel
theorem dX0_takeWord_0 : decode cX0_takeWord 0 = .ok (.aload_n 0, 1) := by decide +kernel
theorem dX0_takeWord_1 : decode cX0_takeWord 1 = .ok (.getfield 19, 3) := by decide +kernel
theorem dX0_takeWord_4 : decode cX0_takeWord 4 = .ok (.aload_n 0, 1) := by decide +kernel
theorem dX0_takeWord_5 : decode cX0_takeWord 5 = .ok (.getfield 15, 3) := by decide +kernel
theorem dX0_takeWord_8 : decode cX0_takeWord 8 = .ok (.if_icmp .ge 31, 3) := by decide +kernel
theorem dX0_takeWord_11 : decode cX0_takeWord 11 = .ok (.aload_n 0, 1) := by decide +kernel
theorem dX0_takeWord_12 : decode cX0_takeWord 12 = .ok (.getfield 11, 3) := by decide +kernel
theorem dX0_takeWord_15 : decode cX0_takeWord 15 = .ok (.aload_n 0, 1) := by decide +kernel
theorem dX0_takeWord_16 : decode cX0_takeWord 16 = .ok (.getfield 19, 3) := by decide +kernel
theorem dX0_takeWord_19 : decode cX0_takeWord 19 = .ok (.iaload, 1) := by decide +kernel
theorem dX0_takeWord_20 : decode cX0_takeWord 20 = .ok (.invokestatic 72, 3) := by decide +kernel
theorem dX0_takeWord_23 : decode cX0_takeWord 23 = .ok (.ifCond .eq 16, 3) := by decide +kernel
theorem dX0_takeWord_26 : decode cX0_takeWord 26 = .ok (.aload_n 0, 1) := by decide +kernel
theorem dX0_takeWord_27 : decode cX0_takeWord 27 = .ok (.dup, 1) := by decide +kernel
theorem dX0_takeWord_28 : decode cX0_takeWord 28 = .ok (.getfield 19, 3) := by decide +kernel
theorem dX0_takeWord_31 : decode cX0_takeWord 31 = .ok (.iconst 1, 1) := by decide +kernel
theorem dX0_takeWord_32 : decode cX0_takeWord 32 = .ok (.iadd, 1) := by decide +kernel
theorem dX0_takeWord_33 : decode cX0_takeWord 33 = .ok (.putfield 19, 3) := by decide +kernel
theorem dX0_takeWord_36 : decode cX0_takeWord 36 = .ok (.goto (-36), 3) := by decide +kernel
theorem dX0_takeWord_39 : decode cX0_takeWord 39 = .ok (.aload_n 0, 1) := by decide +kernel
theorem dX0_takeWord_40 : decode cX0_takeWord 40 = .ok (.iconst 1, 1) := by decide +kernel
theorem dX0_takeWord_41 : decode cX0_takeWord 41 = .ok (.putfield 22, 3) := by decide +kernel
theorem dX0_takeWord_44 : decode cX0_takeWord 44 = .ok (.iconst 0, 1) := by decide +kernel
theorem dX0_takeWord_45 : decode cX0_takeWord 45 = .ok (.istore_n 1, 1) := by decide +kernel
theorem dX0_takeWord_46 : decode cX0_takeWord 46 = .ok (.iload_n 1, 1) := by decide +kernel
theorem dX0_takeWord_47 : decode cX0_takeWord 47 = .ok (.bipush 12, 2) := by decide +kernel
theorem dX0_takeWord_49 : decode cX0_takeWord 49 = .ok (.if_icmp .ge 29, 3) := by decide +kernel
theorem dX0_takeWord_52 : decode cX0_takeWord 52 = .ok (.aload_n 0, 1) := by decide +kernel
theorem dX0_takeWord_53 : decode cX0_takeWord 53 = .ok (.iload_n 1, 1) := by decide +kernel
theorem dX0_takeWord_54 : decode cX0_takeWord 54 = .ok (.invokestatic 87, 3) := by decide +kernel
theorem dX0_takeWord_57 : decode cX0_takeWord 57 = .ok (.invokevirtual 91, 3) := by decide +kernel
theorem dX0_takeWord_60 : decode cX0_takeWord 60 = .ok (.ifCond .eq 12, 3) := by decide +kernel
theorem dX0_takeWord_63 : decode cX0_takeWord 63 = .ok (.aload_n 0, 1) := by decide +kernel
theorem dX0_takeWord_64 : decode cX0_takeWord 64 = .ok (.sipush 300, 3) := by decide +kernel
theorem dX0_takeWord_67 : decode cX0_takeWord 67 = .ok (.iload_n 1, 1) := by decide +kernel
theorem dX0_takeWord_68 : decode cX0_takeWord 68 = .ok (.iadd, 1) := by decide +kernel
theorem dX0_takeWord_69 : decode cX0_takeWord 69 = .ok (.putfield 22, 3) := by decide +kernel
theorem dX0_takeWord_72 : decode cX0_takeWord 72 = .ok (.iinc 1 1, 3) := by decide +kernel
theorem dX0_takeWord_75 : decode cX0_takeWord 75 = .ok (.goto (-29), 3) := by decide +kernel
theorem dX0_takeWord_78 : decode cX0_takeWord 78 = .ok (.return_, 1) := by decide +kernel
theorem dX0_takeDigits_0 : decode cX0_takeDigits 0 = .ok (.aload_n 0, 1) := by decide +kernel
theorem dX0_takeDigits_1 : decode cX0_takeDigits 1 = .ok (.iconst 0, 1) := by decide +kernel
theorem dX0_takeDigits_2 : decode cX0_takeDigits 2 = .ok (.putfield 28, 3) := by decide +kernel
theorem dX0_takeDigits_5 : decode cX0_takeDigits 5 = .ok (.aload_n 0, 1) := by decide +kernel
theorem dX0_takeDigits_6 : decode cX0_takeDigits 6 = .ok (.getfield 19, 3) := by decide +kernel
theorem dX0_takeDigits_9 : decode cX0_takeDigits 9 = .ok (.aload_n 0, 1) := by decide +kernel
theorem dX0_takeDigits_10 : decode cX0_takeDigits 10 = .ok (.getfield 15, 3) := by decide +kernel
theorem dX0_takeDigits_13 : decode cX0_takeDigits 13 = .ok (.if_icmp .ge 55, 3) := by decide +kernel
theorem dX0_takeDigits_16 : decode cX0_takeDigits 16 = .ok (.aload_n 0, 1) := by decide +kernel
theorem dX0_takeDigits_17 : decode cX0_takeDigits 17 = .ok (.getfield 11, 3) := by decide +kernel
theorem dX0_takeDigits_20 : decode cX0_takeDigits 20 = .ok (.aload_n 0, 1) := by decide +kernel
theorem dX0_takeDigits_21 : decode cX0_takeDigits 21 = .ok (.getfield 19, 3) := by decide +kernel
theorem dX0_takeDigits_24 : decode cX0_takeDigits 24 = .ok (.iaload, 1) := by decide +kernel
theorem dX0_takeDigits_25 : decode cX0_takeDigits 25 = .ok (.invokestatic 78, 3) := by decide +kernel
theorem dX0_takeDigits_28 : decode cX0_takeDigits 28 = .ok (.ifCond .eq 40, 3) := by decide +kernel
theorem dX0_takeDigits_31 : decode cX0_takeDigits 31 = .ok (.aload_n 0, 1) := by decide +kernel
theorem dX0_takeDigits_32 : decode cX0_takeDigits 32 = .ok (.aload_n 0, 1) := by decide +kernel
theorem dX0_takeDigits_33 : decode cX0_takeDigits 33 = .ok (.getfield 28, 3) := by decide +kernel
theorem dX0_takeDigits_36 : decode cX0_takeDigits 36 = .ok (.bipush 10, 2) := by decide +kernel
theorem dX0_takeDigits_38 : decode cX0_takeDigits 38 = .ok (.imul, 1) := by decide +kernel
theorem dX0_takeDigits_39 : decode cX0_takeDigits 39 = .ok (.aload_n 0, 1) := by decide +kernel
theorem dX0_takeDigits_40 : decode cX0_takeDigits 40 = .ok (.getfield 11, 3) := by decide +kernel
theorem dX0_takeDigits_43 : decode cX0_takeDigits 43 = .ok (.aload_n 0, 1) := by decide +kernel
theorem dX0_takeDigits_44 : decode cX0_takeDigits 44 = .ok (.getfield 19, 3) := by decide +kernel
theorem dX0_takeDigits_47 : decode cX0_takeDigits 47 = .ok (.iaload, 1) := by decide +kernel
theorem dX0_takeDigits_48 : decode cX0_takeDigits 48 = .ok (.iadd, 1) := by decide +kernel
theorem dX0_takeDigits_49 : decode cX0_takeDigits 49 = .ok (.bipush 48, 2) := by decide +kernel
theorem dX0_takeDigits_51 : decode cX0_takeDigits 51 = .ok (.isub, 1) := by decide +kernel
theorem dX0_takeDigits_52 : decode cX0_takeDigits 52 = .ok (.putfield 28, 3) := by decide +kernel
theorem dX0_takeDigits_55 : decode cX0_takeDigits 55 = .ok (.aload_n 0, 1) := by decide +kernel
theorem dX0_takeDigits_56 : decode cX0_takeDigits 56 = .ok (.dup, 1) := by decide +kernel
theorem dX0_takeDigits_57 : decode cX0_takeDigits 57 = .ok (.getfield 19, 3) := by decide +kernel
theorem dX0_takeDigits_60 : decode cX0_takeDigits 60 = .ok (.iconst 1, 1) := by decide +kernel
theorem dX0_takeDigits_61 : decode cX0_takeDigits 61 = .ok (.iadd, 1) := by decide +kernel
theorem dX0_takeDigits_62 : decode cX0_takeDigits 62 = .ok (.putfield 19, 3) := by decide +kernel
theorem dX0_takeDigits_65 : decode cX0_takeDigits 65 = .ok (.goto (-60), 3) := by decide +kernel
theorem dX0_takeDigits_68 : decode cX0_takeDigits 68 = .ok (.aload_n 0, 1) := by decide +kernel
theorem dX0_takeDigits_69 : decode cX0_takeDigits 69 = .ok (.aload_n 0, 1) := by decide +kernel
theorem dX0_takeDigits_70 : decode cX0_takeDigits 70 = .ok (.getfield 19, 3) := by decide +kernel
theorem dX0_takeDigits_73 : decode cX0_takeDigits 73 = .ok (.aload_n 0, 1) := by decide +kernel
theorem dX0_takeDigits_74 : decode cX0_takeDigits 74 = .ok (.getfield 25, 3) := by decide +kernel
theorem dX0_takeDigits_77 : decode cX0_takeDigits 77 = .ok (.isub, 1) := by decide +kernel
theorem dX0_takeDigits_78 : decode cX0_takeDigits 78 = .ok (.iconst 4, 1) := by decide +kernel
theorem dX0_takeDigits_79 : decode cX0_takeDigits 79 = .ok (.if_icmp .le 7, 3) := by decide +kernel
theorem dX0_takeDigits_82 : decode cX0_takeDigits 82 = .ok (.iconst 1, 1) := by decide +kernel
theorem dX0_takeDigits_83 : decode cX0_takeDigits 83 = .ok (.goto 4, 3) := by decide +kernel
theorem dX0_takeDigits_86 : decode cX0_takeDigits 86 = .ok (.iconst 2, 1) := by decide +kernel
theorem dX0_takeDigits_87 : decode cX0_takeDigits 87 = .ok (.putfield 22, 3) := by decide +kernel
theorem dX0_takeDigits_90 : decode cX0_takeDigits 90 = .ok (.return_, 1) := by decide +kernel
theorem dX0_isWord_0 : decode cX0_isWord 0 = .ok (.aload_n 1, 1) := by decide +kernel
theorem dX0_isWord_1 : decode cX0_isWord 1 = .ok (.invokevirtual 95, 3) := by decide +kernel
theorem dX0_isWord_4 : decode cX0_isWord 4 = .ok (.aload_n 0, 1) := by decide +kernel
theorem dX0_isWord_5 : decode cX0_isWord 5 = .ok (.getfield 19, 3) := by decide +kernel
theorem dX0_isWord_8 : decode cX0_isWord 8 = .ok (.aload_n 0, 1) := by decide +kernel
theorem dX0_isWord_9 : decode cX0_isWord 9 = .ok (.getfield 25, 3) := by decide +kernel
theorem dX0_isWord_12 : decode cX0_isWord 12 = .ok (.isub, 1) := by decide +kernel
theorem dX0_isWord_13 : decode cX0_isWord 13 = .ok (.if_icmp .eq 5, 3) := by decide +kernel
theorem dX0_isWord_16 : decode cX0_isWord 16 = .ok (.iconst 0, 1) := by decide +kernel
theorem dX0_isWord_17 : decode cX0_isWord 17 = .ok (.ireturn, 1) := by decide +kernel
theorem dX0_isWord_18 : decode cX0_isWord 18 = .ok (.iconst 0, 1) := by decide +kernel
theorem dX0_isWord_19 : decode cX0_isWord 19 = .ok (.istore_n 2, 1) := by decide +kernel
theorem dX0_isWord_20 : decode cX0_isWord 20 = .ok (.iload_n 2, 1) := by decide +kernel
theorem dX0_isWord_21 : decode cX0_isWord 21 = .ok (.aload_n 1, 1) := by decide +kernel
theorem dX0_isWord_22 : decode cX0_isWord 22 = .ok (.invokevirtual 95, 3) := by decide +kernel
theorem dX0_isWord_25 : decode cX0_isWord 25 = .ok (.if_icmp .ge 30, 3) := by decide +kernel
theorem dX0_isWord_28 : decode cX0_isWord 28 = .ok (.aload_n 1, 1) := by decide +kernel
theorem dX0_isWord_29 : decode cX0_isWord 29 = .ok (.iload_n 2, 1) := by decide +kernel
theorem dX0_isWord_30 : decode cX0_isWord 30 = .ok (.invokevirtual 101, 3) := by decide +kernel
theorem dX0_isWord_33 : decode cX0_isWord 33 = .ok (.aload_n 0, 1) := by decide +kernel
theorem dX0_isWord_34 : decode cX0_isWord 34 = .ok (.getfield 11, 3) := by decide +kernel
theorem dX0_isWord_37 : decode cX0_isWord 37 = .ok (.aload_n 0, 1) := by decide +kernel
theorem dX0_isWord_38 : decode cX0_isWord 38 = .ok (.getfield 25, 3) := by decide +kernel
theorem dX0_isWord_41 : decode cX0_isWord 41 = .ok (.iload_n 2, 1) := by decide +kernel
theorem dX0_isWord_42 : decode cX0_isWord 42 = .ok (.iadd, 1) := by decide +kernel
theorem dX0_isWord_43 : decode cX0_isWord 43 = .ok (.iaload, 1) := by decide +kernel
theorem dX0_isWord_44 : decode cX0_isWord 44 = .ok (.if_icmp .eq 5, 3) := by decide +kernel
theorem dX0_isWord_47 : decode cX0_isWord 47 = .ok (.iconst 0, 1) := by decide +kernel
theorem dX0_isWord_48 : decode cX0_isWord 48 = .ok (.ireturn, 1) := by decide +kernel
theorem dX0_isWord_49 : decode cX0_isWord 49 = .ok (.iinc 2 1, 3) := by decide +kernel
theorem dX0_isWord_52 : decode cX0_isWord 52 = .ok (.goto (-32), 3) := by decide +kernel
theorem dX0_isWord_55 : decode cX0_isWord 55 = .ok (.iconst 1, 1) := by decide +kernel
theorem dX0_isWord_56 : decode cX0_isWord 56 = .ok (.ireturn, 1) := by decide +kernel
theorem dX0_wordAt_0 : decode cX0_wordAt 0 = .ok (.iload_n 0, 1) := by decide +kernel
theorem dX0_wordAt_1 : decode cX0_wordAt 1 = .ok (.tableswitch 92 0 10 #[59, 62, 65, 68, 71, 74, 77, 80, 83, 86, 89], 59) := by decide +kernel
theorem dX0_wordAt_60 : decode cX0_wordAt 60 = .ok (.ldc 105, 2) := by decide +kernel
theorem dX0_wordAt_62 : decode cX0_wordAt 62 = .ok (.areturn, 1) := by decide +kernel
theorem dX0_wordAt_63 : decode cX0_wordAt 63 = .ok (.ldc 107, 2) := by decide +kernel
theorem dX0_wordAt_65 : decode cX0_wordAt 65 = .ok (.areturn, 1) := by decide +kernel
theorem dX0_wordAt_66 : decode cX0_wordAt 66 = .ok (.ldc 109, 2) := by decide +kernel
theorem dX0_wordAt_68 : decode cX0_wordAt 68 = .ok (.areturn, 1) := by decide +kernel
theorem dX0_wordAt_69 : decode cX0_wordAt 69 = .ok (.ldc 111, 2) := by decide +kernel
theorem dX0_wordAt_71 : decode cX0_wordAt 71 = .ok (.areturn, 1) := by decide +kernel
theorem dX0_wordAt_72 : decode cX0_wordAt 72 = .ok (.ldc 113, 2) := by decide +kernel
theorem dX0_wordAt_74 : decode cX0_wordAt 74 = .ok (.areturn, 1) := by decide +kernel
theorem dX0_wordAt_75 : decode cX0_wordAt 75 = .ok (.ldc 115, 2) := by decide +kernel
theorem dX0_wordAt_77 : decode cX0_wordAt 77 = .ok (.areturn, 1) := by decide +kernel
theorem dX0_wordAt_78 : decode cX0_wordAt 78 = .ok (.ldc 117, 2) := by decide +kernel
theorem dX0_wordAt_80 : decode cX0_wordAt 80 = .ok (.areturn, 1) := by decide +kernel
theorem dX0_wordAt_81 : decode cX0_wordAt 81 = .ok (.ldc 119, 2) := by decide +kernel
theorem dX0_wordAt_83 : decode cX0_wordAt 83 = .ok (.areturn, 1) := by decide +kernel
theorem dX0_wordAt_84 : decode cX0_wordAt 84 = .ok (.ldc 121, 2) := by decide +kernel
theorem dX0_wordAt_86 : decode cX0_wordAt 86 = .ok (.areturn, 1) := by decide +kernel
theorem dX0_wordAt_87 : decode cX0_wordAt 87 = .ok (.ldc 122, 2) := by decide +kernel
theorem dX0_wordAt_89 : decode cX0_wordAt 89 = .ok (.areturn, 1) := by decide +kernel
theorem dX0_wordAt_90 : decode cX0_wordAt 90 = .ok (.ldc 124, 2) := by decide +kernel
theorem dX0_wordAt_92 : decode cX0_wordAt 92 = .ok (.areturn, 1) := by decide +kernel
theorem dX0_wordAt_93 : decode cX0_wordAt 93 = .ok (.ldc 126, 2) := by decide +kernel
theorem dX0_wordAt_95 : decode cX0_wordAt 95 = .ok (.areturn, 1) := by decide +kernel
theorem dX0_isLetter_0 : decode cX0_isLetter 0 = .ok (.iload_n 0, 1) := by decide +kernel
theorem dX0_isLetter_1 : decode cX0_isLetter 1 = .ok (.bipush 97, 2) := by decide +kernel
theorem dX0_isLetter_3 : decode cX0_isLetter 3 = .ok (.if_icmp .lt 13, 3) := by decide +kernel
theorem dX0_isLetter_6 : decode cX0_isLetter 6 = .ok (.iload_n 0, 1) := by decide +kernel
theorem dX0_isLetter_7 : decode cX0_isLetter 7 = .ok (.bipush 122, 2) := by decide +kernel
theorem dX0_isLetter_9 : decode cX0_isLetter 9 = .ok (.if_icmp .gt 7, 3) := by decide +kernel
theorem dX0_isLetter_12 : decode cX0_isLetter 12 = .ok (.iconst 1, 1) := by decide +kernel
theorem dX0_isLetter_13 : decode cX0_isLetter 13 = .ok (.goto 4, 3) := by decide +kernel
theorem dX0_isLetter_16 : decode cX0_isLetter 16 = .ok (.iconst 0, 1) := by decide +kernel
theorem dX0_isLetter_17 : decode cX0_isLetter 17 = .ok (.ireturn, 1) := by decide +kernel
theorem dX0_isDigit_0 : decode cX0_isDigit 0 = .ok (.iload_n 0, 1) := by decide +kernel
theorem dX0_isDigit_1 : decode cX0_isDigit 1 = .ok (.bipush 48, 2) := by decide +kernel
theorem dX0_isDigit_3 : decode cX0_isDigit 3 = .ok (.if_icmp .lt 13, 3) := by decide +kernel
theorem dX0_isDigit_6 : decode cX0_isDigit 6 = .ok (.iload_n 0, 1) := by decide +kernel
theorem dX0_isDigit_7 : decode cX0_isDigit 7 = .ok (.bipush 57, 2) := by decide +kernel
theorem dX0_isDigit_9 : decode cX0_isDigit 9 = .ok (.if_icmp .gt 7, 3) := by decide +kernel
theorem dX0_isDigit_12 : decode cX0_isDigit 12 = .ok (.iconst 1, 1) := by decide +kernel
theorem dX0_isDigit_13 : decode cX0_isDigit 13 = .ok (.goto 4, 3) := by decide +kernel
theorem dX0_isDigit_16 : decode cX0_isDigit 16 = .ok (.iconst 0, 1) := by decide +kernel
theorem dX0_isDigit_17 : decode cX0_isDigit 17 = .ok (.ireturn, 1) := by decide +kernel
theorem dX0_isSign_0 : decode cX0_isSign 0 = .ok (.iload_n 0, 1) := by decide +kernel
theorem dX0_isSign_1 : decode cX0_isSign 1 = .ok (.bipush 40, 2) := by decide +kernel
theorem dX0_isSign_3 : decode cX0_isSign 3 = .ok (.if_icmp .eq 45, 3) := by decide +kernel
theorem dX0_isSign_6 : decode cX0_isSign 6 = .ok (.iload_n 0, 1) := by decide +kernel
theorem dX0_isSign_7 : decode cX0_isSign 7 = .ok (.bipush 41, 2) := by decide +kernel
theorem dX0_isSign_9 : decode cX0_isSign 9 = .ok (.if_icmp .eq 39, 3) := by decide +kernel
theorem dX0_isSign_12 : decode cX0_isSign 12 = .ok (.iload_n 0, 1) := by decide +kernel
theorem dX0_isSign_13 : decode cX0_isSign 13 = .ok (.bipush 59, 2) := by decide +kernel
theorem dX0_isSign_15 : decode cX0_isSign 15 = .ok (.if_icmp .eq 33, 3) := by decide +kernel
theorem dX0_isSign_18 : decode cX0_isSign 18 = .ok (.iload_n 0, 1) := by decide +kernel
theorem dX0_isSign_19 : decode cX0_isSign 19 = .ok (.bipush 43, 2) := by decide +kernel
theorem dX0_isSign_21 : decode cX0_isSign 21 = .ok (.if_icmp .eq 27, 3) := by decide +kernel
theorem dX0_isSign_24 : decode cX0_isSign 24 = .ok (.iload_n 0, 1) := by decide +kernel
theorem dX0_isSign_25 : decode cX0_isSign 25 = .ok (.bipush 45, 2) := by decide +kernel
theorem dX0_isSign_27 : decode cX0_isSign 27 = .ok (.if_icmp .eq 21, 3) := by decide +kernel
theorem dX0_isSign_30 : decode cX0_isSign 30 = .ok (.iload_n 0, 1) := by decide +kernel
theorem dX0_isSign_31 : decode cX0_isSign 31 = .ok (.bipush 42, 2) := by decide +kernel
theorem dX0_isSign_33 : decode cX0_isSign 33 = .ok (.if_icmp .eq 15, 3) := by decide +kernel
theorem dX0_isSign_36 : decode cX0_isSign 36 = .ok (.iload_n 0, 1) := by decide +kernel
theorem dX0_isSign_37 : decode cX0_isSign 37 = .ok (.bipush 60, 2) := by decide +kernel
theorem dX0_isSign_39 : decode cX0_isSign 39 = .ok (.if_icmp .eq 9, 3) := by decide +kernel
theorem dX0_isSign_42 : decode cX0_isSign 42 = .ok (.iload_n 0, 1) := by decide +kernel
theorem dX0_isSign_43 : decode cX0_isSign 43 = .ok (.bipush 61, 2) := by decide +kernel
theorem dX0_isSign_45 : decode cX0_isSign 45 = .ok (.if_icmp .ne 7, 3) := by decide +kernel
theorem dX0_isSign_48 : decode cX0_isSign 48 = .ok (.iconst 1, 1) := by decide +kernel
theorem dX0_isSign_49 : decode cX0_isSign 49 = .ok (.goto 4, 3) := by decide +kernel
theorem dX0_isSign_52 : decode cX0_isSign 52 = .ok (.iconst 0, 1) := by decide +kernel
theorem dX0_isSign_53 : decode cX0_isSign 53 = .ok (.ireturn, 1) := by decide +kernel
theorem dX1_init_0 : decode cX1_init 0 = .ok (.aload_n 0, 1) := by decide +kernel
theorem dX1_init_1 : decode cX1_init 1 = .ok (.invokespecial 3, 3) := by decide +kernel
theorem dX1_init_4 : decode cX1_init 4 = .ok (.aload_n 0, 1) := by decide +kernel
theorem dX1_init_5 : decode cX1_init 5 = .ok (.bipush 6, 2) := by decide +kernel
theorem dX1_init_7 : decode cX1_init 7 = .ok (.anewarray 9, 3) := by decide +kernel
theorem dX1_init_10 : decode cX1_init 10 = .ok (.putfield 11, 3) := by decide +kernel
theorem dX1_init_13 : decode cX1_init 13 = .ok (.aload_n 0, 1) := by decide +kernel
theorem dX1_init_14 : decode cX1_init 14 = .ok (.iconst 0, 1) := by decide +kernel
theorem dX1_init_15 : decode cX1_init 15 = .ok (.putfield 17, 3) := by decide +kernel
theorem dX1_init_18 : decode cX1_init 18 = .ok (.aload_n 0, 1) := by decide +kernel
theorem dX1_init_19 : decode cX1_init 19 = .ok (.sipush 160, 3) := by decide +kernel
theorem dX1_init_22 : decode cX1_init 22 = .ok (.newarray .int, 2) := by decide +kernel
theorem dX1_init_24 : decode cX1_init 24 = .ok (.putfield 21, 3) := by decide +kernel
theorem dX1_init_27 : decode cX1_init 27 = .ok (.iconst 0, 1) := by decide +kernel
theorem dX1_init_28 : decode cX1_init 28 = .ok (.istore_n 1, 1) := by decide +kernel
theorem dX1_init_29 : decode cX1_init 29 = .ok (.iload_n 1, 1) := by decide +kernel
theorem dX1_init_30 : decode cX1_init 30 = .ok (.bipush 6, 2) := by decide +kernel
theorem dX1_init_32 : decode cX1_init 32 = .ok (.if_icmp .ge 22, 3) := by decide +kernel
theorem dX1_init_35 : decode cX1_init 35 = .ok (.aload_n 0, 1) := by decide +kernel
theorem dX1_init_36 : decode cX1_init 36 = .ok (.getfield 11, 3) := by decide +kernel
theorem dX1_init_39 : decode cX1_init 39 = .ok (.iload_n 1, 1) := by decide +kernel
theorem dX1_init_40 : decode cX1_init 40 = .ok (.new 9, 3) := by decide +kernel
theorem dX1_init_43 : decode cX1_init 43 = .ok (.dup, 1) := by decide +kernel
theorem dX1_init_44 : decode cX1_init 44 = .ok (.invokespecial 25, 3) := by decide +kernel
theorem dX1_init_47 : decode cX1_init 47 = .ok (.aastore, 1) := by decide +kernel
theorem dX1_init_48 : decode cX1_init 48 = .ok (.iinc 1 1, 3) := by decide +kernel
theorem dX1_init_51 : decode cX1_init 51 = .ok (.goto (-22), 3) := by decide +kernel
theorem dX1_init_54 : decode cX1_init 54 = .ok (.return_, 1) := by decide +kernel
theorem dX1_passDay_0 : decode cX1_passDay 0 = .ok (.iconst 0, 1) := by decide +kernel
theorem dX1_passDay_1 : decode cX1_passDay 1 = .ok (.istore_n 3, 1) := by decide +kernel
theorem dX1_passDay_2 : decode cX1_passDay 2 = .ok (.iload_n 3, 1) := by decide +kernel
theorem dX1_passDay_3 : decode cX1_passDay 3 = .ok (.aload_n 1, 1) := by decide +kernel
theorem dX1_passDay_4 : decode cX1_passDay 4 = .ok (.getfield 26, 3) := by decide +kernel
theorem dX1_passDay_7 : decode cX1_passDay 7 = .ok (.if_icmp .ge 107, 3) := by decide +kernel
theorem dX1_passDay_10 : decode cX1_passDay 10 = .ok (.aload_n 1, 1) := by decide +kernel
theorem dX1_passDay_11 : decode cX1_passDay 11 = .ok (.getfield 31, 3) := by decide +kernel
theorem dX1_passDay_14 : decode cX1_passDay 14 = .ok (.iload_n 3, 1) := by decide +kernel
theorem dX1_passDay_15 : decode cX1_passDay 15 = .ok (.bipush 99, 2) := by decide +kernel
theorem dX1_passDay_17 : decode cX1_passDay 17 = .ok (.aload_n 1, 1) := by decide +kernel
theorem dX1_passDay_18 : decode cX1_passDay 18 = .ok (.getfield 31, 3) := by decide +kernel
theorem dX1_passDay_21 : decode cX1_passDay 21 = .ok (.iload_n 3, 1) := by decide +kernel
theorem dX1_passDay_22 : decode cX1_passDay 22 = .ok (.iaload, 1) := by decide +kernel
theorem dX1_passDay_23 : decode cX1_passDay 23 = .ok (.iconst 1, 1) := by decide +kernel
theorem dX1_passDay_24 : decode cX1_passDay 24 = .ok (.iadd, 1) := by decide +kernel
theorem dX1_passDay_25 : decode cX1_passDay 25 = .ok (.invokestatic 34, 3) := by decide +kernel
theorem dX1_passDay_28 : decode cX1_passDay 28 = .ok (.iastore, 1) := by decide +kernel
theorem dX1_passDay_29 : decode cX1_passDay 29 = .ok (.aload_n 1, 1) := by decide +kernel
theorem dX1_passDay_30 : decode cX1_passDay 30 = .ok (.getfield 31, 3) := by decide +kernel
theorem dX1_passDay_33 : decode cX1_passDay 33 = .ok (.iload_n 3, 1) := by decide +kernel
theorem dX1_passDay_34 : decode cX1_passDay 34 = .ok (.iaload, 1) := by decide +kernel
theorem dX1_passDay_35 : decode cX1_passDay 35 = .ok (.aload_n 0, 1) := by decide +kernel
theorem dX1_passDay_36 : decode cX1_passDay 36 = .ok (.aload_n 1, 1) := by decide +kernel
theorem dX1_passDay_37 : decode cX1_passDay 37 = .ok (.iload_n 3, 1) := by decide +kernel
theorem dX1_passDay_38 : decode cX1_passDay 38 = .ok (.invokevirtual 40, 3) := by decide +kernel
theorem dX1_passDay_41 : decode cX1_passDay 41 = .ok (.if_icmp .ge 6, 3) := by decide +kernel
theorem dX1_passDay_44 : decode cX1_passDay 44 = .ok (.goto 64, 3) := by decide +kernel
theorem dX1_passDay_47 : decode cX1_passDay 47 = .ok (.aload_n 0, 1) := by decide +kernel
theorem dX1_passDay_48 : decode cX1_passDay 48 = .ok (.aload_n 1, 1) := by decide +kernel
theorem dX1_passDay_49 : decode cX1_passDay 49 = .ok (.iload_n 3, 1) := by decide +kernel
theorem dX1_passDay_50 : decode cX1_passDay 50 = .ok (.invokevirtual 44, 3) := by decide +kernel
theorem dX1_passDay_53 : decode cX1_passDay 53 = .ok (.istore 4, 2) := by decide +kernel
theorem dX1_passDay_55 : decode cX1_passDay 55 = .ok (.aload_n 0, 1) := by decide +kernel
theorem dX1_passDay_56 : decode cX1_passDay 56 = .ok (.aload_n 1, 1) := by decide +kernel
theorem dX1_passDay_57 : decode cX1_passDay 57 = .ok (.iload_n 3, 1) := by decide +kernel
theorem dX1_passDay_58 : decode cX1_passDay 58 = .ok (.invokevirtual 47, 3) := by decide +kernel
theorem dX1_passDay_61 : decode cX1_passDay 61 = .ok (.istore 5, 2) := by decide +kernel
theorem dX1_passDay_63 : decode cX1_passDay 63 = .ok (.iload_n 3, 1) := by decide +kernel
theorem dX1_passDay_64 : decode cX1_passDay 64 = .ok (.iload_n 2, 1) := by decide +kernel
theorem dX1_passDay_65 : decode cX1_passDay 65 = .ok (.if_icmp .eq 28, 3) := by decide +kernel
theorem dX1_passDay_68 : decode cX1_passDay 68 = .ok (.aload_n 1, 1) := by decide +kernel
theorem dX1_passDay_69 : decode cX1_passDay 69 = .ok (.getfield 50, 3) := by decide +kernel
theorem dX1_passDay_72 : decode cX1_passDay 72 = .ok (.iload_n 3, 1) := by decide +kernel
theorem dX1_passDay_73 : decode cX1_passDay 73 = .ok (.bipush 99, 2) := by decide +kernel
theorem dX1_passDay_75 : decode cX1_passDay 75 = .ok (.aload_n 1, 1) := by decide +kernel
theorem dX1_passDay_76 : decode cX1_passDay 76 = .ok (.getfield 50, 3) := by decide +kernel
theorem dX1_passDay_79 : decode cX1_passDay 79 = .ok (.iload_n 3, 1) := by decide +kernel
theorem dX1_passDay_80 : decode cX1_passDay 80 = .ok (.iaload, 1) := by decide +kernel
theorem dX1_passDay_81 : decode cX1_passDay 81 = .ok (.iconst 1, 1) := by decide +kernel
theorem dX1_passDay_82 : decode cX1_passDay 82 = .ok (.iadd, 1) := by decide +kernel
theorem dX1_passDay_83 : decode cX1_passDay 83 = .ok (.invokestatic 34, 3) := by decide +kernel
theorem dX1_passDay_86 : decode cX1_passDay 86 = .ok (.iastore, 1) := by decide +kernel
theorem dX1_passDay_87 : decode cX1_passDay 87 = .ok (.aload_n 1, 1) := by decide +kernel
theorem dX1_passDay_88 : decode cX1_passDay 88 = .ok (.iload 4, 2) := by decide +kernel
theorem dX1_passDay_90 : decode cX1_passDay 90 = .ok (.invokevirtual 53, 3) := by decide +kernel
theorem dX1_passDay_93 : decode cX1_passDay 93 = .ok (.aload_n 1, 1) := by decide +kernel
theorem dX1_passDay_94 : decode cX1_passDay 94 = .ok (.getfield 57, 3) := by decide +kernel
theorem dX1_passDay_97 : decode cX1_passDay 97 = .ok (.iload_n 3, 1) := by decide +kernel
theorem dX1_passDay_98 : decode cX1_passDay 98 = .ok (.iload 5, 2) := by decide +kernel
theorem dX1_passDay_100 : decode cX1_passDay 100 = .ok (.iastore, 1) := by decide +kernel
theorem dX1_passDay_101 : decode cX1_passDay 101 = .ok (.aload_n 1, 1) := by decide +kernel
theorem dX1_passDay_102 : decode cX1_passDay 102 = .ok (.getfield 31, 3) := by decide +kernel
theorem dX1_passDay_105 : decode cX1_passDay 105 = .ok (.iload_n 3, 1) := by decide +kernel
theorem dX1_passDay_106 : decode cX1_passDay 106 = .ok (.iconst 0, 1) := by decide +kernel
theorem dX1_passDay_107 : decode cX1_passDay 107 = .ok (.iastore, 1) := by decide +kernel
theorem dX1_passDay_108 : decode cX1_passDay 108 = .ok (.iinc 3 1, 3) := by decide +kernel
theorem dX1_passDay_111 : decode cX1_passDay 111 = .ok (.goto (-109), 3) := by decide +kernel
theorem dX1_passDay_114 : decode cX1_passDay 114 = .ok (.aload_n 1, 1) := by decide +kernel
theorem dX1_passDay_115 : decode cX1_passDay 115 = .ok (.dup, 1) := by decide +kernel
theorem dX1_passDay_116 : decode cX1_passDay 116 = .ok (.getfield 60, 3) := by decide +kernel
theorem dX1_passDay_119 : decode cX1_passDay 119 = .ok (.iconst 1, 1) := by decide +kernel
theorem dX1_passDay_120 : decode cX1_passDay 120 = .ok (.iadd, 1) := by decide +kernel
theorem dX1_passDay_121 : decode cX1_passDay 121 = .ok (.putfield 60, 3) := by decide +kernel
theorem dX1_passDay_124 : decode cX1_passDay 124 = .ok (.return_, 1) := by decide +kernel
theorem dX1_daysNeeded_0 : decode cX1_daysNeeded 0 = .ok (.aload_n 1, 1) := by decide +kernel
theorem dX1_daysNeeded_1 : decode cX1_daysNeeded 1 = .ok (.getfield 63, 3) := by decide +kernel
theorem dX1_daysNeeded_4 : decode cX1_daysNeeded 4 = .ok (.iload_n 2, 1) := by decide +kernel
theorem dX1_daysNeeded_5 : decode cX1_daysNeeded 5 = .ok (.iaload, 1) := by decide +kernel
theorem dX1_daysNeeded_6 : decode cX1_daysNeeded 6 = .ok (.tableswitch 109 1 5 #[34, 47, 65, 80, 107], 34) := by decide +kernel
theorem dX1_daysNeeded_40 : decode cX1_daysNeeded 40 = .ok (.aload_n 0, 1) := by decide +kernel
theorem dX1_daysNeeded_41 : decode cX1_daysNeeded 41 = .ok (.iconst 0, 1) := by decide +kernel
theorem dX1_daysNeeded_42 : decode cX1_daysNeeded 42 = .ok (.aload_n 1, 1) := by decide +kernel
theorem dX1_daysNeeded_43 : decode cX1_daysNeeded 43 = .ok (.iload_n 2, 1) := by decide +kernel
theorem dX1_daysNeeded_44 : decode cX1_daysNeeded 44 = .ok (.invokevirtual 66, 3) := by decide +kernel
theorem dX1_daysNeeded_47 : decode cX1_daysNeeded 47 = .ok (.iconst 2, 1) := by decide +kernel
theorem dX1_daysNeeded_48 : decode cX1_daysNeeded 48 = .ok (.idiv, 1) := by decide +kernel
theorem dX1_daysNeeded_49 : decode cX1_daysNeeded 49 = .ok (.invokestatic 70, 3) := by decide +kernel
theorem dX1_daysNeeded_52 : decode cX1_daysNeeded 52 = .ok (.ireturn, 1) := by decide +kernel
theorem dX1_daysNeeded_53 : decode cX1_daysNeeded 53 = .ok (.aload_n 0, 1) := by decide +kernel
theorem dX1_daysNeeded_54 : decode cX1_daysNeeded 54 = .ok (.iconst 0, 1) := by decide +kernel
theorem dX1_daysNeeded_55 : decode cX1_daysNeeded 55 = .ok (.aload_n 1, 1) := by decide +kernel
theorem dX1_daysNeeded_56 : decode cX1_daysNeeded 56 = .ok (.iload_n 2, 1) := by decide +kernel
theorem dX1_daysNeeded_57 : decode cX1_daysNeeded 57 = .ok (.invokevirtual 66, 3) := by decide +kernel
theorem dX1_daysNeeded_60 : decode cX1_daysNeeded 60 = .ok (.aload_n 1, 1) := by decide +kernel
theorem dX1_daysNeeded_61 : decode cX1_daysNeeded 61 = .ok (.getfield 74, 3) := by decide +kernel
theorem dX1_daysNeeded_64 : decode cX1_daysNeeded 64 = .ok (.iload_n 2, 1) := by decide +kernel
theorem dX1_daysNeeded_65 : decode cX1_daysNeeded 65 = .ok (.iaload, 1) := by decide +kernel
theorem dX1_daysNeeded_66 : decode cX1_daysNeeded 66 = .ok (.iadd, 1) := by decide +kernel
theorem dX1_daysNeeded_67 : decode cX1_daysNeeded 67 = .ok (.invokestatic 70, 3) := by decide +kernel
theorem dX1_daysNeeded_70 : decode cX1_daysNeeded 70 = .ok (.ireturn, 1) := by decide +kernel
theorem dX1_daysNeeded_71 : decode cX1_daysNeeded 71 = .ok (.aload_n 0, 1) := by decide +kernel
theorem dX1_daysNeeded_72 : decode cX1_daysNeeded 72 = .ok (.iconst 0, 1) := by decide +kernel
theorem dX1_daysNeeded_73 : decode cX1_daysNeeded 73 = .ok (.aload_n 1, 1) := by decide +kernel
theorem dX1_daysNeeded_74 : decode cX1_daysNeeded 74 = .ok (.iload_n 2, 1) := by decide +kernel
theorem dX1_daysNeeded_75 : decode cX1_daysNeeded 75 = .ok (.invokevirtual 66, 3) := by decide +kernel
theorem dX1_daysNeeded_78 : decode cX1_daysNeeded 78 = .ok (.iconst 2, 1) := by decide +kernel
theorem dX1_daysNeeded_79 : decode cX1_daysNeeded 79 = .ok (.idiv, 1) := by decide +kernel
theorem dX1_daysNeeded_80 : decode cX1_daysNeeded 80 = .ok (.iconst 3, 1) := by decide +kernel
theorem dX1_daysNeeded_81 : decode cX1_daysNeeded 81 = .ok (.iadd, 1) := by decide +kernel
theorem dX1_daysNeeded_82 : decode cX1_daysNeeded 82 = .ok (.invokestatic 70, 3) := by decide +kernel
theorem dX1_daysNeeded_85 : decode cX1_daysNeeded 85 = .ok (.ireturn, 1) := by decide +kernel
theorem dX1_daysNeeded_86 : decode cX1_daysNeeded 86 = .ok (.aload_n 1, 1) := by decide +kernel
theorem dX1_daysNeeded_87 : decode cX1_daysNeeded 87 = .ok (.invokevirtual 77, 3) := by decide +kernel
theorem dX1_daysNeeded_90 : decode cX1_daysNeeded 90 = .ok (.ifCond .ne 5, 3) := by decide +kernel
theorem dX1_daysNeeded_93 : decode cX1_daysNeeded 93 = .ok (.iconst 2, 1) := by decide +kernel
theorem dX1_daysNeeded_94 : decode cX1_daysNeeded 94 = .ok (.ireturn, 1) := by decide +kernel
theorem dX1_daysNeeded_95 : decode cX1_daysNeeded 95 = .ok (.aload_n 0, 1) := by decide +kernel
theorem dX1_daysNeeded_96 : decode cX1_daysNeeded 96 = .ok (.iconst 0, 1) := by decide +kernel
theorem dX1_daysNeeded_97 : decode cX1_daysNeeded 97 = .ok (.aload_n 1, 1) := by decide +kernel
theorem dX1_daysNeeded_98 : decode cX1_daysNeeded 98 = .ok (.iload_n 2, 1) := by decide +kernel
theorem dX1_daysNeeded_99 : decode cX1_daysNeeded 99 = .ok (.invokevirtual 66, 3) := by decide +kernel
theorem dX1_daysNeeded_102 : decode cX1_daysNeeded 102 = .ok (.aload_n 1, 1) := by decide +kernel
theorem dX1_daysNeeded_103 : decode cX1_daysNeeded 103 = .ok (.getfield 74, 3) := by decide +kernel
theorem dX1_daysNeeded_106 : decode cX1_daysNeeded 106 = .ok (.iload_n 2, 1) := by decide +kernel
theorem dX1_daysNeeded_107 : decode cX1_daysNeeded 107 = .ok (.iaload, 1) := by decide +kernel
theorem dX1_daysNeeded_108 : decode cX1_daysNeeded 108 = .ok (.iadd, 1) := by decide +kernel
theorem dX1_daysNeeded_109 : decode cX1_daysNeeded 109 = .ok (.invokestatic 70, 3) := by decide +kernel
theorem dX1_daysNeeded_112 : decode cX1_daysNeeded 112 = .ok (.ireturn, 1) := by decide +kernel
theorem dX1_daysNeeded_113 : decode cX1_daysNeeded 113 = .ok (.iconst 1, 1) := by decide +kernel
theorem dX1_daysNeeded_114 : decode cX1_daysNeeded 114 = .ok (.ireturn, 1) := by decide +kernel
theorem dX1_daysNeeded_115 : decode cX1_daysNeeded 115 = .ok (.aload_n 0, 1) := by decide +kernel
theorem dX1_daysNeeded_116 : decode cX1_daysNeeded 116 = .ok (.iconst 0, 1) := by decide +kernel
theorem dX1_daysNeeded_117 : decode cX1_daysNeeded 117 = .ok (.aload_n 1, 1) := by decide +kernel
theorem dX1_daysNeeded_118 : decode cX1_daysNeeded 118 = .ok (.iload_n 2, 1) := by decide +kernel
theorem dX1_daysNeeded_119 : decode cX1_daysNeeded 119 = .ok (.invokevirtual 66, 3) := by decide +kernel
theorem dX1_daysNeeded_122 : decode cX1_daysNeeded 122 = .ok (.invokestatic 70, 3) := by decide +kernel
theorem dX1_daysNeeded_125 : decode cX1_daysNeeded 125 = .ok (.ireturn, 1) := by decide +kernel
theorem dX1_colourGiven_0 : decode cX1_colourGiven 0 = .ok (.aload_n 1, 1) := by decide +kernel
theorem dX1_colourGiven_1 : decode cX1_colourGiven 1 = .ok (.getfield 57, 3) := by decide +kernel
theorem dX1_colourGiven_4 : decode cX1_colourGiven 4 = .ok (.iload_n 2, 1) := by decide +kernel
theorem dX1_colourGiven_5 : decode cX1_colourGiven 5 = .ok (.iaload, 1) := by decide +kernel
theorem dX1_colourGiven_6 : decode cX1_colourGiven 6 = .ok (.istore_n 3, 1) := by decide +kernel
theorem dX1_colourGiven_7 : decode cX1_colourGiven 7 = .ok (.aload_n 1, 1) := by decide +kernel
theorem dX1_colourGiven_8 : decode cX1_colourGiven 8 = .ok (.getfield 63, 3) := by decide +kernel
theorem dX1_colourGiven_11 : decode cX1_colourGiven 11 = .ok (.iload_n 2, 1) := by decide +kernel
theorem dX1_colourGiven_12 : decode cX1_colourGiven 12 = .ok (.iaload, 1) := by decide +kernel
theorem dX1_colourGiven_13 : decode cX1_colourGiven 13 = .ok (.tableswitch 117 1 5 #[35, 47, 55, 80, 106], 35) := by decide +kernel
theorem dX1_colourGiven_48 : decode cX1_colourGiven 48 = .ok (.aload_n 0, 1) := by decide +kernel
theorem dX1_colourGiven_49 : decode cX1_colourGiven 49 = .ok (.iconst 1, 1) := by decide +kernel
theorem dX1_colourGiven_50 : decode cX1_colourGiven 50 = .ok (.aload_n 1, 1) := by decide +kernel
theorem dX1_colourGiven_51 : decode cX1_colourGiven 51 = .ok (.iload_n 2, 1) := by decide +kernel
theorem dX1_colourGiven_52 : decode cX1_colourGiven 52 = .ok (.invokevirtual 66, 3) := by decide +kernel
theorem dX1_colourGiven_55 : decode cX1_colourGiven 55 = .ok (.iconst 4, 1) := by decide +kernel
theorem dX1_colourGiven_56 : decode cX1_colourGiven 56 = .ok (.invokestatic 81, 3) := by decide +kernel
theorem dX1_colourGiven_59 : decode cX1_colourGiven 59 = .ok (.ireturn, 1) := by decide +kernel
theorem dX1_colourGiven_60 : decode cX1_colourGiven 60 = .ok (.iload_n 3, 1) := by decide +kernel
theorem dX1_colourGiven_61 : decode cX1_colourGiven 61 = .ok (.iconst 1, 1) := by decide +kernel
theorem dX1_colourGiven_62 : decode cX1_colourGiven 62 = .ok (.iadd, 1) := by decide +kernel
theorem dX1_colourGiven_63 : decode cX1_colourGiven 63 = .ok (.iconst 4, 1) := by decide +kernel
theorem dX1_colourGiven_64 : decode cX1_colourGiven 64 = .ok (.invokestatic 81, 3) := by decide +kernel
theorem dX1_colourGiven_67 : decode cX1_colourGiven 67 = .ok (.ireturn, 1) := by decide +kernel
theorem dX1_colourGiven_68 : decode cX1_colourGiven 68 = .ok (.aload_n 1, 1) := by decide +kernel
theorem dX1_colourGiven_69 : decode cX1_colourGiven 69 = .ok (.getfield 60, 3) := by decide +kernel
theorem dX1_colourGiven_72 : decode cX1_colourGiven 72 = .ok (.iconst 2, 1) := by decide +kernel
theorem dX1_colourGiven_73 : decode cX1_colourGiven 73 = .ok (.irem, 1) := by decide +kernel
theorem dX1_colourGiven_74 : decode cX1_colourGiven 74 = .ok (.ifCond .ne 7, 3) := by decide +kernel
theorem dX1_colourGiven_77 : decode cX1_colourGiven 77 = .ok (.iload_n 3, 1) := by decide +kernel
theorem dX1_colourGiven_78 : decode cX1_colourGiven 78 = .ok (.goto 14, 3) := by decide +kernel
theorem dX1_colourGiven_81 : decode cX1_colourGiven 81 = .ok (.aload_n 0, 1) := by decide +kernel
theorem dX1_colourGiven_82 : decode cX1_colourGiven 82 = .ok (.iconst 1, 1) := by decide +kernel
theorem dX1_colourGiven_83 : decode cX1_colourGiven 83 = .ok (.aload_n 1, 1) := by decide +kernel
theorem dX1_colourGiven_84 : decode cX1_colourGiven 84 = .ok (.iload_n 2, 1) := by decide +kernel
theorem dX1_colourGiven_85 : decode cX1_colourGiven 85 = .ok (.invokevirtual 66, 3) := by decide +kernel
theorem dX1_colourGiven_88 : decode cX1_colourGiven 88 = .ok (.iconst 4, 1) := by decide +kernel
theorem dX1_colourGiven_89 : decode cX1_colourGiven 89 = .ok (.invokestatic 81, 3) := by decide +kernel
theorem dX1_colourGiven_92 : decode cX1_colourGiven 92 = .ok (.ireturn, 1) := by decide +kernel
theorem dX1_colourGiven_93 : decode cX1_colourGiven 93 = .ok (.aload_n 1, 1) := by decide +kernel
theorem dX1_colourGiven_94 : decode cX1_colourGiven 94 = .ok (.getfield 84, 3) := by decide +kernel
theorem dX1_colourGiven_97 : decode cX1_colourGiven 97 = .ok (.ldc2_w 88, 3) := by decide +kernel
theorem dX1_colourGiven_100 : decode cX1_colourGiven 100 = .ok (.lcmp, 1) := by decide +kernel
theorem dX1_colourGiven_101 : decode cX1_colourGiven 101 = .ok (.ifCond .ne 13, 3) := by decide +kernel
theorem dX1_colourGiven_104 : decode cX1_colourGiven 104 = .ok (.iload_n 3, 1) := by decide +kernel
theorem dX1_colourGiven_105 : decode cX1_colourGiven 105 = .ok (.iconst 1, 1) := by decide +kernel
theorem dX1_colourGiven_106 : decode cX1_colourGiven 106 = .ok (.iadd, 1) := by decide +kernel
theorem dX1_colourGiven_107 : decode cX1_colourGiven 107 = .ok (.iconst 4, 1) := by decide +kernel
theorem dX1_colourGiven_108 : decode cX1_colourGiven 108 = .ok (.invokestatic 81, 3) := by decide +kernel
theorem dX1_colourGiven_111 : decode cX1_colourGiven 111 = .ok (.goto 7, 3) := by decide +kernel
theorem dX1_colourGiven_114 : decode cX1_colourGiven 114 = .ok (.aload_n 1, 1) := by decide +kernel
theorem dX1_colourGiven_115 : decode cX1_colourGiven 115 = .ok (.invokevirtual 90, 3) := by decide +kernel
theorem dX1_colourGiven_118 : decode cX1_colourGiven 118 = .ok (.ireturn, 1) := by decide +kernel
theorem dX1_colourGiven_119 : decode cX1_colourGiven 119 = .ok (.aload_n 1, 1) := by decide +kernel
theorem dX1_colourGiven_120 : decode cX1_colourGiven 120 = .ok (.getfield 74, 3) := by decide +kernel
theorem dX1_colourGiven_123 : decode cX1_colourGiven 123 = .ok (.iload_n 2, 1) := by decide +kernel
theorem dX1_colourGiven_124 : decode cX1_colourGiven 124 = .ok (.iaload, 1) := by decide +kernel
theorem dX1_colourGiven_125 : decode cX1_colourGiven 125 = .ok (.iconst 4, 1) := by decide +kernel
theorem dX1_colourGiven_126 : decode cX1_colourGiven 126 = .ok (.invokestatic 81, 3) := by decide +kernel
theorem dX1_colourGiven_129 : decode cX1_colourGiven 129 = .ok (.ireturn, 1) := by decide +kernel
theorem dX1_colourGiven_130 : decode cX1_colourGiven 130 = .ok (.iload_n 3, 1) := by decide +kernel
theorem dX1_colourGiven_131 : decode cX1_colourGiven 131 = .ok (.ireturn, 1) := by decide +kernel
theorem dX1_colourNext_0 : decode cX1_colourNext 0 = .ok (.aload_n 1, 1) := by decide +kernel
theorem dX1_colourNext_1 : decode cX1_colourNext 1 = .ok (.getfield 57, 3) := by decide +kernel
theorem dX1_colourNext_4 : decode cX1_colourNext 4 = .ok (.iload_n 2, 1) := by decide +kernel
theorem dX1_colourNext_5 : decode cX1_colourNext 5 = .ok (.iaload, 1) := by decide +kernel
theorem dX1_colourNext_6 : decode cX1_colourNext 6 = .ok (.istore_n 3, 1) := by decide +kernel
theorem dX1_colourNext_7 : decode cX1_colourNext 7 = .ok (.aload_n 1, 1) := by decide +kernel
theorem dX1_colourNext_8 : decode cX1_colourNext 8 = .ok (.getfield 63, 3) := by decide +kernel
theorem dX1_colourNext_11 : decode cX1_colourNext 11 = .ok (.iload_n 2, 1) := by decide +kernel
theorem dX1_colourNext_12 : decode cX1_colourNext 12 = .ok (.iaload, 1) := by decide +kernel
theorem dX1_colourNext_13 : decode cX1_colourNext 13 = .ok (.tableswitch 83 1 5 #[35, 37, 51, 37, 64], 35) := by decide +kernel
theorem dX1_colourNext_48 : decode cX1_colourNext 48 = .ok (.iload_n 3, 1) := by decide +kernel
theorem dX1_colourNext_49 : decode cX1_colourNext 49 = .ok (.ireturn, 1) := by decide +kernel
theorem dX1_colourNext_50 : decode cX1_colourNext 50 = .ok (.aload_n 0, 1) := by decide +kernel
theorem dX1_colourNext_51 : decode cX1_colourNext 51 = .ok (.iconst 2, 1) := by decide +kernel
theorem dX1_colourNext_52 : decode cX1_colourNext 52 = .ok (.aload_n 1, 1) := by decide +kernel
theorem dX1_colourNext_53 : decode cX1_colourNext 53 = .ok (.iload_n 2, 1) := by decide +kernel
theorem dX1_colourNext_54 : decode cX1_colourNext 54 = .ok (.invokevirtual 66, 3) := by decide +kernel
theorem dX1_colourNext_57 : decode cX1_colourNext 57 = .ok (.iload_n 3, 1) := by decide +kernel
theorem dX1_colourNext_58 : decode cX1_colourNext 58 = .ok (.iadd, 1) := by decide +kernel
theorem dX1_colourNext_59 : decode cX1_colourNext 59 = .ok (.iconst 4, 1) := by decide +kernel
theorem dX1_colourNext_60 : decode cX1_colourNext 60 = .ok (.invokestatic 81, 3) := by decide +kernel
theorem dX1_colourNext_63 : decode cX1_colourNext 63 = .ok (.ireturn, 1) := by decide +kernel
theorem dX1_colourNext_64 : decode cX1_colourNext 64 = .ok (.iload_n 3, 1) := by decide +kernel
theorem dX1_colourNext_65 : decode cX1_colourNext 65 = .ok (.aload_n 1, 1) := by decide +kernel
theorem dX1_colourNext_66 : decode cX1_colourNext 66 = .ok (.getfield 74, 3) := by decide +kernel
theorem dX1_colourNext_69 : decode cX1_colourNext 69 = .ok (.iload_n 2, 1) := by decide +kernel
theorem dX1_colourNext_70 : decode cX1_colourNext 70 = .ok (.iaload, 1) := by decide +kernel
theorem dX1_colourNext_71 : decode cX1_colourNext 71 = .ok (.iadd, 1) := by decide +kernel
theorem dX1_colourNext_72 : decode cX1_colourNext 72 = .ok (.iconst 4, 1) := by decide +kernel
theorem dX1_colourNext_73 : decode cX1_colourNext 73 = .ok (.invokestatic 81, 3) := by decide +kernel
theorem dX1_colourNext_76 : decode cX1_colourNext 76 = .ok (.ireturn, 1) := by decide +kernel
theorem dX1_colourNext_77 : decode cX1_colourNext 77 = .ok (.aload_n 0, 1) := by decide +kernel
theorem dX1_colourNext_78 : decode cX1_colourNext 78 = .ok (.iconst 2, 1) := by decide +kernel
theorem dX1_colourNext_79 : decode cX1_colourNext 79 = .ok (.aload_n 1, 1) := by decide +kernel
theorem dX1_colourNext_80 : decode cX1_colourNext 80 = .ok (.iload_n 2, 1) := by decide +kernel
theorem dX1_colourNext_81 : decode cX1_colourNext 81 = .ok (.invokevirtual 66, 3) := by decide +kernel
theorem dX1_colourNext_84 : decode cX1_colourNext 84 = .ok (.aload_n 1, 1) := by decide +kernel
theorem dX1_colourNext_85 : decode cX1_colourNext 85 = .ok (.getfield 74, 3) := by decide +kernel
theorem dX1_colourNext_88 : decode cX1_colourNext 88 = .ok (.iload_n 2, 1) := by decide +kernel
theorem dX1_colourNext_89 : decode cX1_colourNext 89 = .ok (.iaload, 1) := by decide +kernel
theorem dX1_colourNext_90 : decode cX1_colourNext 90 = .ok (.isub, 1) := by decide +kernel
theorem dX1_colourNext_91 : decode cX1_colourNext 91 = .ok (.iconst 4, 1) := by decide +kernel
theorem dX1_colourNext_92 : decode cX1_colourNext 92 = .ok (.invokestatic 81, 3) := by decide +kernel
theorem dX1_colourNext_95 : decode cX1_colourNext 95 = .ok (.ireturn, 1) := by decide +kernel
theorem dX1_colourNext_96 : decode cX1_colourNext 96 = .ok (.aload_n 0, 1) := by decide +kernel
theorem dX1_colourNext_97 : decode cX1_colourNext 97 = .ok (.iconst 2, 1) := by decide +kernel
theorem dX1_colourNext_98 : decode cX1_colourNext 98 = .ok (.aload_n 1, 1) := by decide +kernel
theorem dX1_colourNext_99 : decode cX1_colourNext 99 = .ok (.iload_n 2, 1) := by decide +kernel
theorem dX1_colourNext_100 : decode cX1_colourNext 100 = .ok (.invokevirtual 66, 3) := by decide +kernel
theorem dX1_colourNext_103 : decode cX1_colourNext 103 = .ok (.iconst 4, 1) := by decide +kernel
theorem dX1_colourNext_104 : decode cX1_colourNext 104 = .ok (.invokestatic 81, 3) := by decide +kernel
theorem dX1_colourNext_107 : decode cX1_colourNext 107 = .ok (.ireturn, 1) := by decide +kernel
theorem dX1_daysBounded_0 : decode cX1_daysBounded 0 = .ok (.iconst 1, 1) := by decide +kernel
theorem dX1_daysBounded_1 : decode cX1_daysBounded 1 = .ok (.bipush 99, 2) := by decide +kernel
theorem dX1_daysBounded_3 : decode cX1_daysBounded 3 = .ok (.iload_n 0, 1) := by decide +kernel
theorem dX1_daysBounded_4 : decode cX1_daysBounded 4 = .ok (.invokestatic 34, 3) := by decide +kernel
theorem dX1_daysBounded_7 : decode cX1_daysBounded 7 = .ok (.invokestatic 93, 3) := by decide +kernel
theorem dX1_daysBounded_10 : decode cX1_daysBounded 10 = .ok (.ireturn, 1) := by decide +kernel
theorem dX1_reckon_0 : decode cX1_reckon 0 = .ok (.aload_n 2, 1) := by decide +kernel
theorem dX1_reckon_1 : decode cX1_reckon 1 = .ok (.getfield 96, 3) := by decide +kernel
theorem dX1_reckon_4 : decode cX1_reckon 4 = .ok (.aload_n 0, 1) := by decide +kernel
theorem dX1_reckon_5 : decode cX1_reckon 5 = .ok (.getfield 17, 3) := by decide +kernel
theorem dX1_reckon_8 : decode cX1_reckon 8 = .ok (.invokestatic 99, 3) := by decide +kernel
theorem dX1_reckon_11 : decode cX1_reckon 11 = .ok (.ifCond .ne 5, 3) := by decide +kernel
theorem dX1_reckon_14 : decode cX1_reckon 14 = .ok (.iconst 0, 1) := by decide +kernel
theorem dX1_reckon_15 : decode cX1_reckon 15 = .ok (.ireturn, 1) := by decide +kernel
theorem dX1_reckon_16 : decode cX1_reckon 16 = .ok (.aload_n 0, 1) := by decide +kernel
theorem dX1_reckon_17 : decode cX1_reckon 17 = .ok (.getfield 11, 3) := by decide +kernel
theorem dX1_reckon_20 : decode cX1_reckon 20 = .ok (.aload_n 2, 1) := by decide +kernel
theorem dX1_reckon_21 : decode cX1_reckon 21 = .ok (.getfield 96, 3) := by decide +kernel
theorem dX1_reckon_24 : decode cX1_reckon 24 = .ok (.aaload, 1) := by decide +kernel
theorem dX1_reckon_25 : decode cX1_reckon 25 = .ok (.astore 4, 2) := by decide +kernel
theorem dX1_reckon_27 : decode cX1_reckon 27 = .ok (.iconst 0, 1) := by decide +kernel
theorem dX1_reckon_28 : decode cX1_reckon 28 = .ok (.istore 5, 2) := by decide +kernel
theorem dX1_reckon_30 : decode cX1_reckon 30 = .ok (.aload 4, 2) := by decide +kernel
theorem dX1_reckon_32 : decode cX1_reckon 32 = .ok (.getfield 103, 3) := by decide +kernel
theorem dX1_reckon_35 : decode cX1_reckon 35 = .ok (.iload_n 1, 1) := by decide +kernel
theorem dX1_reckon_36 : decode cX1_reckon 36 = .ok (.iaload, 1) := by decide +kernel
theorem dX1_reckon_37 : decode cX1_reckon 37 = .ok (.istore 6, 2) := by decide +kernel
theorem dX1_reckon_39 : decode cX1_reckon 39 = .ok (.iload_n 1, 1) := by decide +kernel
theorem dX1_reckon_40 : decode cX1_reckon 40 = .ok (.ifCond .ne 7, 3) := by decide +kernel
theorem dX1_reckon_43 : decode cX1_reckon 43 = .ok (.iconst 0, 1) := by decide +kernel
theorem dX1_reckon_44 : decode cX1_reckon 44 = .ok (.goto 12, 3) := by decide +kernel
theorem dX1_reckon_47 : decode cX1_reckon 47 = .ok (.aload 4, 2) := by decide +kernel
theorem dX1_reckon_49 : decode cX1_reckon 49 = .ok (.getfield 103, 3) := by decide +kernel
theorem dX1_reckon_52 : decode cX1_reckon 52 = .ok (.iload_n 1, 1) := by decide +kernel
theorem dX1_reckon_53 : decode cX1_reckon 53 = .ok (.iconst 1, 1) := by decide +kernel
theorem dX1_reckon_54 : decode cX1_reckon 54 = .ok (.isub, 1) := by decide +kernel
theorem dX1_reckon_55 : decode cX1_reckon 55 = .ok (.iaload, 1) := by decide +kernel
theorem dX1_reckon_56 : decode cX1_reckon 56 = .ok (.istore 7, 2) := by decide +kernel
theorem dX1_reckon_58 : decode cX1_reckon 58 = .ok (.iload 7, 2) := by decide +kernel
theorem dX1_reckon_60 : decode cX1_reckon 60 = .ok (.iload 6, 2) := by decide +kernel
theorem dX1_reckon_62 : decode cX1_reckon 62 = .ok (.if_icmp .ge 143, 3) := by decide +kernel
theorem dX1_reckon_65 : decode cX1_reckon 65 = .ok (.aload 4, 2) := by decide +kernel
theorem dX1_reckon_67 : decode cX1_reckon 67 = .ok (.getfield 106, 3) := by decide +kernel
theorem dX1_reckon_70 : decode cX1_reckon 70 = .ok (.iload 7, 2) := by decide +kernel
theorem dX1_reckon_72 : decode cX1_reckon 72 = .ok (.iaload, 1) := by decide +kernel
theorem dX1_reckon_73 : decode cX1_reckon 73 = .ok (.istore 8, 2) := by decide +kernel
theorem dX1_reckon_75 : decode cX1_reckon 75 = .ok (.iload 8, 2) := by decide +kernel
theorem dX1_reckon_77 : decode cX1_reckon 77 = .ok (.bipush (-10), 2) := by decide +kernel
theorem dX1_reckon_79 : decode cX1_reckon 79 = .ok (.if_icmp .le 43, 3) := by decide +kernel
theorem dX1_reckon_82 : decode cX1_reckon 82 = .ok (.iload 5, 2) := by decide +kernel
theorem dX1_reckon_84 : decode cX1_reckon 84 = .ok (.aload_n 0, 1) := by decide +kernel
theorem dX1_reckon_85 : decode cX1_reckon 85 = .ok (.getfield 21, 3) := by decide +kernel
theorem dX1_reckon_88 : decode cX1_reckon 88 = .ok (.arraylength, 1) := by decide +kernel
theorem dX1_reckon_89 : decode cX1_reckon 89 = .ok (.if_icmp .ge 110, 3) := by decide +kernel
theorem dX1_reckon_92 : decode cX1_reckon 92 = .ok (.aload_n 0, 1) := by decide +kernel
theorem dX1_reckon_93 : decode cX1_reckon 93 = .ok (.getfield 21, 3) := by decide +kernel
theorem dX1_reckon_96 : decode cX1_reckon 96 = .ok (.iload 5, 2) := by decide +kernel
theorem dX1_reckon_98 : decode cX1_reckon 98 = .ok (.iload 8, 2) := by decide +kernel
theorem dX1_reckon_100 : decode cX1_reckon 100 = .ok (.ifCond .lt 8, 3) := by decide +kernel
theorem dX1_reckon_103 : decode cX1_reckon 103 = .ok (.iload 8, 2) := by decide +kernel
theorem dX1_reckon_105 : decode cX1_reckon 105 = .ok (.goto 10, 3) := by decide +kernel
theorem dX1_reckon_108 : decode cX1_reckon 108 = .ok (.iload 8, 2) := by decide +kernel
theorem dX1_reckon_110 : decode cX1_reckon 110 = .ok (.aload_n 2, 1) := by decide +kernel
theorem dX1_reckon_111 : decode cX1_reckon 111 = .ok (.iload_n 3, 1) := by decide +kernel
theorem dX1_reckon_112 : decode cX1_reckon 112 = .ok (.invokestatic 109, 3) := by decide +kernel
theorem dX1_reckon_115 : decode cX1_reckon 115 = .ok (.iastore, 1) := by decide +kernel
theorem dX1_reckon_116 : decode cX1_reckon 116 = .ok (.iinc 5 1, 3) := by decide +kernel
theorem dX1_reckon_119 : decode cX1_reckon 119 = .ok (.goto 80, 3) := by decide +kernel
theorem dX1_reckon_122 : decode cX1_reckon 122 = .ok (.iload 8, 2) := by decide +kernel
theorem dX1_reckon_124 : decode cX1_reckon 124 = .ok (.bipush (-20), 2) := by decide +kernel
theorem dX1_reckon_126 : decode cX1_reckon 126 = .ok (.if_icmp .le 34, 3) := by decide +kernel
theorem dX1_reckon_129 : decode cX1_reckon 129 = .ok (.iload 5, 2) := by decide +kernel
theorem dX1_reckon_131 : decode cX1_reckon 131 = .ok (.ifCond .le 68, 3) := by decide +kernel
theorem dX1_reckon_134 : decode cX1_reckon 134 = .ok (.aload_n 0, 1) := by decide +kernel
theorem dX1_reckon_135 : decode cX1_reckon 135 = .ok (.getfield 21, 3) := by decide +kernel
theorem dX1_reckon_138 : decode cX1_reckon 138 = .ok (.iload 5, 2) := by decide +kernel
theorem dX1_reckon_140 : decode cX1_reckon 140 = .ok (.iconst 1, 1) := by decide +kernel
theorem dX1_reckon_141 : decode cX1_reckon 141 = .ok (.isub, 1) := by decide +kernel
theorem dX1_reckon_142 : decode cX1_reckon 142 = .ok (.iload 8, 2) := by decide +kernel
theorem dX1_reckon_144 : decode cX1_reckon 144 = .ok (.aload_n 0, 1) := by decide +kernel
theorem dX1_reckon_145 : decode cX1_reckon 145 = .ok (.getfield 21, 3) := by decide +kernel
theorem dX1_reckon_148 : decode cX1_reckon 148 = .ok (.iload 5, 2) := by decide +kernel
theorem dX1_reckon_150 : decode cX1_reckon 150 = .ok (.iconst 1, 1) := by decide +kernel
theorem dX1_reckon_151 : decode cX1_reckon 151 = .ok (.isub, 1) := by decide +kernel
theorem dX1_reckon_152 : decode cX1_reckon 152 = .ok (.iaload, 1) := by decide +kernel
theorem dX1_reckon_153 : decode cX1_reckon 153 = .ok (.invokestatic 112, 3) := by decide +kernel
theorem dX1_reckon_156 : decode cX1_reckon 156 = .ok (.iastore, 1) := by decide +kernel
theorem dX1_reckon_157 : decode cX1_reckon 157 = .ok (.goto 42, 3) := by decide +kernel
theorem dX1_reckon_160 : decode cX1_reckon 160 = .ok (.iload 5, 2) := by decide +kernel
theorem dX1_reckon_162 : decode cX1_reckon 162 = .ok (.iconst 1, 1) := by decide +kernel
theorem dX1_reckon_163 : decode cX1_reckon 163 = .ok (.if_icmp .le 36, 3) := by decide +kernel
theorem dX1_reckon_166 : decode cX1_reckon 166 = .ok (.iinc 5 (-1), 3) := by decide +kernel
theorem dX1_reckon_169 : decode cX1_reckon 169 = .ok (.aload_n 0, 1) := by decide +kernel
theorem dX1_reckon_170 : decode cX1_reckon 170 = .ok (.getfield 21, 3) := by decide +kernel
theorem dX1_reckon_173 : decode cX1_reckon 173 = .ok (.iload 5, 2) := by decide +kernel
theorem dX1_reckon_175 : decode cX1_reckon 175 = .ok (.iconst 1, 1) := by decide +kernel
theorem dX1_reckon_176 : decode cX1_reckon 176 = .ok (.isub, 1) := by decide +kernel
theorem dX1_reckon_177 : decode cX1_reckon 177 = .ok (.iload 8, 2) := by decide +kernel
theorem dX1_reckon_179 : decode cX1_reckon 179 = .ok (.aload_n 0, 1) := by decide +kernel
theorem dX1_reckon_180 : decode cX1_reckon 180 = .ok (.getfield 21, 3) := by decide +kernel
theorem dX1_reckon_183 : decode cX1_reckon 183 = .ok (.iload 5, 2) := by decide +kernel
theorem dX1_reckon_185 : decode cX1_reckon 185 = .ok (.iconst 1, 1) := by decide +kernel
theorem dX1_reckon_186 : decode cX1_reckon 186 = .ok (.isub, 1) := by decide +kernel
theorem dX1_reckon_187 : decode cX1_reckon 187 = .ok (.iaload, 1) := by decide +kernel
theorem dX1_reckon_188 : decode cX1_reckon 188 = .ok (.aload_n 0, 1) := by decide +kernel
theorem dX1_reckon_189 : decode cX1_reckon 189 = .ok (.getfield 21, 3) := by decide +kernel
theorem dX1_reckon_192 : decode cX1_reckon 192 = .ok (.iload 5, 2) := by decide +kernel
theorem dX1_reckon_194 : decode cX1_reckon 194 = .ok (.iaload, 1) := by decide +kernel
theorem dX1_reckon_195 : decode cX1_reckon 195 = .ok (.invokestatic 115, 3) := by decide +kernel
theorem dX1_reckon_198 : decode cX1_reckon 198 = .ok (.iastore, 1) := by decide +kernel
theorem dX1_reckon_199 : decode cX1_reckon 199 = .ok (.iinc 7 1, 3) := by decide +kernel
theorem dX1_reckon_202 : decode cX1_reckon 202 = .ok (.goto (-144), 3) := by decide +kernel
theorem dX1_reckon_205 : decode cX1_reckon 205 = .ok (.iload 5, 2) := by decide +kernel
theorem dX1_reckon_207 : decode cX1_reckon 207 = .ok (.ifCond .le 12, 3) := by decide +kernel
theorem dX1_reckon_210 : decode cX1_reckon 210 = .ok (.aload_n 0, 1) := by decide +kernel
theorem dX1_reckon_211 : decode cX1_reckon 211 = .ok (.getfield 21, 3) := by decide +kernel
theorem dX1_reckon_214 : decode cX1_reckon 214 = .ok (.iconst 0, 1) := by decide +kernel
theorem dX1_reckon_215 : decode cX1_reckon 215 = .ok (.iaload, 1) := by decide +kernel
theorem dX1_reckon_216 : decode cX1_reckon 216 = .ok (.goto 4, 3) := by decide +kernel
theorem dX1_reckon_219 : decode cX1_reckon 219 = .ok (.iconst 0, 1) := by decide +kernel
theorem dX1_reckon_220 : decode cX1_reckon 220 = .ok (.istore 7, 2) := by decide +kernel
theorem dX1_reckon_222 : decode cX1_reckon 222 = .ok (.iload_n 1, 1) := by decide +kernel
theorem dX1_reckon_223 : decode cX1_reckon 223 = .ok (.ifCond .ne 7, 3) := by decide +kernel
theorem dX1_reckon_226 : decode cX1_reckon 226 = .ok (.iconst 0, 1) := by decide +kernel
theorem dX1_reckon_227 : decode cX1_reckon 227 = .ok (.goto 5, 3) := by decide +kernel
theorem dX1_reckon_230 : decode cX1_reckon 230 = .ok (.bipush (-99), 2) := by decide +kernel
theorem dX1_reckon_232 : decode cX1_reckon 232 = .ok (.bipush 99, 2) := by decide +kernel
theorem dX1_reckon_234 : decode cX1_reckon 234 = .ok (.iload 7, 2) := by decide +kernel
theorem dX1_reckon_236 : decode cX1_reckon 236 = .ok (.invokestatic 34, 3) := by decide +kernel
theorem dX1_reckon_239 : decode cX1_reckon 239 = .ok (.invokestatic 93, 3) := by decide +kernel
theorem dX1_reckon_242 : decode cX1_reckon 242 = .ok (.ireturn, 1) := by decide +kernel
theorem dX1_named_0 : decode cX1_named 0 = .ok (.iload_n 0, 1) := by decide +kernel
theorem dX1_named_1 : decode cX1_named 1 = .ok (.tableswitch 78 (-6) (-1) #[73, 65, 60, 53, 46, 39], 39) := by decide +kernel
theorem dX1_named_40 : decode cX1_named 40 = .ok (.aload_n 1, 1) := by decide +kernel
theorem dX1_named_41 : decode cX1_named 41 = .ok (.getfield 31, 3) := by decide +kernel
theorem dX1_named_44 : decode cX1_named 44 = .ok (.iload_n 2, 1) := by decide +kernel
theorem dX1_named_45 : decode cX1_named 45 = .ok (.iaload, 1) := by decide +kernel
theorem dX1_named_46 : decode cX1_named 46 = .ok (.ireturn, 1) := by decide +kernel
theorem dX1_named_47 : decode cX1_named 47 = .ok (.aload_n 1, 1) := by decide +kernel
theorem dX1_named_48 : decode cX1_named 48 = .ok (.getfield 57, 3) := by decide +kernel
theorem dX1_named_51 : decode cX1_named 51 = .ok (.iload_n 2, 1) := by decide +kernel
theorem dX1_named_52 : decode cX1_named 52 = .ok (.iaload, 1) := by decide +kernel
theorem dX1_named_53 : decode cX1_named 53 = .ok (.ireturn, 1) := by decide +kernel
theorem dX1_named_54 : decode cX1_named 54 = .ok (.aload_n 1, 1) := by decide +kernel
theorem dX1_named_55 : decode cX1_named 55 = .ok (.getfield 74, 3) := by decide +kernel
theorem dX1_named_58 : decode cX1_named 58 = .ok (.iload_n 2, 1) := by decide +kernel
theorem dX1_named_59 : decode cX1_named 59 = .ok (.iaload, 1) := by decide +kernel
theorem dX1_named_60 : decode cX1_named 60 = .ok (.ireturn, 1) := by decide +kernel
theorem dX1_named_61 : decode cX1_named 61 = .ok (.aload_n 1, 1) := by decide +kernel
theorem dX1_named_62 : decode cX1_named 62 = .ok (.getfield 60, 3) := by decide +kernel
theorem dX1_named_65 : decode cX1_named 65 = .ok (.ireturn, 1) := by decide +kernel
theorem dX1_named_66 : decode cX1_named 66 = .ok (.aload_n 1, 1) := by decide +kernel
theorem dX1_named_67 : decode cX1_named 67 = .ok (.getfield 84, 3) := by decide +kernel
theorem dX1_named_70 : decode cX1_named 70 = .ok (.invokestatic 119, 3) := by decide +kernel
theorem dX1_named_73 : decode cX1_named 73 = .ok (.ireturn, 1) := by decide +kernel
theorem dX1_named_74 : decode cX1_named 74 = .ok (.aload_n 1, 1) := by decide +kernel
theorem dX1_named_75 : decode cX1_named 75 = .ok (.invokevirtual 77, 3) := by decide +kernel
theorem dX1_named_78 : decode cX1_named 78 = .ok (.ireturn, 1) := by decide +kernel
theorem dX1_named_79 : decode cX1_named 79 = .ok (.iconst 0, 1) := by decide +kernel
theorem dX1_named_80 : decode cX1_named 80 = .ok (.ireturn, 1) := by decide +kernel
theorem dX1_ofOne_0 : decode cX1_ofOne 0 = .ok (.iload_n 0, 1) := by decide +kernel
theorem dX1_ofOne_1 : decode cX1_ofOne 1 = .ok (.bipush (-11), 2) := by decide +kernel
theorem dX1_ofOne_3 : decode cX1_ofOne 3 = .ok (.if_icmp .ne 6, 3) := by decide +kernel
theorem dX1_ofOne_6 : decode cX1_ofOne 6 = .ok (.iload_n 1, 1) := by decide +kernel
theorem dX1_ofOne_7 : decode cX1_ofOne 7 = .ok (.ineg, 1) := by decide +kernel
theorem dX1_ofOne_8 : decode cX1_ofOne 8 = .ok (.ireturn, 1) := by decide +kernel
theorem dX1_ofOne_9 : decode cX1_ofOne 9 = .ok (.iload_n 1, 1) := by decide +kernel
theorem dX1_ofOne_10 : decode cX1_ofOne 10 = .ok (.ifCond .ne 7, 3) := by decide +kernel
theorem dX1_ofOne_13 : decode cX1_ofOne 13 = .ok (.iconst 1, 1) := by decide +kernel
theorem dX1_ofOne_14 : decode cX1_ofOne 14 = .ok (.goto 4, 3) := by decide +kernel
theorem dX1_ofOne_17 : decode cX1_ofOne 17 = .ok (.iconst 0, 1) := by decide +kernel
theorem dX1_ofOne_18 : decode cX1_ofOne 18 = .ok (.ireturn, 1) := by decide +kernel
theorem dX1_ofTwo_0 : decode cX1_ofTwo 0 = .ok (.iload_n 0, 1) := by decide +kernel
theorem dX1_ofTwo_1 : decode cX1_ofTwo 1 = .ok (.tableswitch 105 (-27) (-21) #[101, 97, 93, 82, 71, 57, 43], 43) := by decide +kernel
theorem dX1_ofTwo_44 : decode cX1_ofTwo 44 = .ok (.iload_n 1, 1) := by decide +kernel
theorem dX1_ofTwo_45 : decode cX1_ofTwo 45 = .ok (.ifCond .ne 7, 3) := by decide +kernel
theorem dX1_ofTwo_48 : decode cX1_ofTwo 48 = .ok (.iload_n 2, 1) := by decide +kernel
theorem dX1_ofTwo_49 : decode cX1_ofTwo 49 = .ok (.ifCond .eq 7, 3) := by decide +kernel
theorem dX1_ofTwo_52 : decode cX1_ofTwo 52 = .ok (.iconst 1, 1) := by decide +kernel
theorem dX1_ofTwo_53 : decode cX1_ofTwo 53 = .ok (.goto 4, 3) := by decide +kernel
theorem dX1_ofTwo_56 : decode cX1_ofTwo 56 = .ok (.iconst 0, 1) := by decide +kernel
theorem dX1_ofTwo_57 : decode cX1_ofTwo 57 = .ok (.ireturn, 1) := by decide +kernel
theorem dX1_ofTwo_58 : decode cX1_ofTwo 58 = .ok (.iload_n 1, 1) := by decide +kernel
theorem dX1_ofTwo_59 : decode cX1_ofTwo 59 = .ok (.ifCond .eq 11, 3) := by decide +kernel
theorem dX1_ofTwo_62 : decode cX1_ofTwo 62 = .ok (.iload_n 2, 1) := by decide +kernel
theorem dX1_ofTwo_63 : decode cX1_ofTwo 63 = .ok (.ifCond .eq 7, 3) := by decide +kernel
theorem dX1_ofTwo_66 : decode cX1_ofTwo 66 = .ok (.iconst 1, 1) := by decide +kernel
theorem dX1_ofTwo_67 : decode cX1_ofTwo 67 = .ok (.goto 4, 3) := by decide +kernel
theorem dX1_ofTwo_70 : decode cX1_ofTwo 70 = .ok (.iconst 0, 1) := by decide +kernel
theorem dX1_ofTwo_71 : decode cX1_ofTwo 71 = .ok (.ireturn, 1) := by decide +kernel
theorem dX1_ofTwo_72 : decode cX1_ofTwo 72 = .ok (.iload_n 1, 1) := by decide +kernel
theorem dX1_ofTwo_73 : decode cX1_ofTwo 73 = .ok (.iload_n 2, 1) := by decide +kernel
theorem dX1_ofTwo_74 : decode cX1_ofTwo 74 = .ok (.if_icmp .ge 7, 3) := by decide +kernel
theorem dX1_ofTwo_77 : decode cX1_ofTwo 77 = .ok (.iconst 1, 1) := by decide +kernel
theorem dX1_ofTwo_78 : decode cX1_ofTwo 78 = .ok (.goto 4, 3) := by decide +kernel
theorem dX1_ofTwo_81 : decode cX1_ofTwo 81 = .ok (.iconst 0, 1) := by decide +kernel
theorem dX1_ofTwo_82 : decode cX1_ofTwo 82 = .ok (.ireturn, 1) := by decide +kernel
theorem dX1_ofTwo_83 : decode cX1_ofTwo 83 = .ok (.iload_n 1, 1) := by decide +kernel
theorem dX1_ofTwo_84 : decode cX1_ofTwo 84 = .ok (.iload_n 2, 1) := by decide +kernel
theorem dX1_ofTwo_85 : decode cX1_ofTwo 85 = .ok (.if_icmp .ne 7, 3) := by decide +kernel
theorem dX1_ofTwo_88 : decode cX1_ofTwo 88 = .ok (.iconst 1, 1) := by decide +kernel
theorem dX1_ofTwo_89 : decode cX1_ofTwo 89 = .ok (.goto 4, 3) := by decide +kernel
theorem dX1_ofTwo_92 : decode cX1_ofTwo 92 = .ok (.iconst 0, 1) := by decide +kernel
theorem dX1_ofTwo_93 : decode cX1_ofTwo 93 = .ok (.ireturn, 1) := by decide +kernel
theorem dX1_ofTwo_94 : decode cX1_ofTwo 94 = .ok (.iload_n 1, 1) := by decide +kernel
theorem dX1_ofTwo_95 : decode cX1_ofTwo 95 = .ok (.iload_n 2, 1) := by decide +kernel
theorem dX1_ofTwo_96 : decode cX1_ofTwo 96 = .ok (.iadd, 1) := by decide +kernel
theorem dX1_ofTwo_97 : decode cX1_ofTwo 97 = .ok (.ireturn, 1) := by decide +kernel
theorem dX1_ofTwo_98 : decode cX1_ofTwo 98 = .ok (.iload_n 1, 1) := by decide +kernel
theorem dX1_ofTwo_99 : decode cX1_ofTwo 99 = .ok (.iload_n 2, 1) := by decide +kernel
theorem dX1_ofTwo_100 : decode cX1_ofTwo 100 = .ok (.isub, 1) := by decide +kernel
theorem dX1_ofTwo_101 : decode cX1_ofTwo 101 = .ok (.ireturn, 1) := by decide +kernel
theorem dX1_ofTwo_102 : decode cX1_ofTwo 102 = .ok (.iload_n 1, 1) := by decide +kernel
theorem dX1_ofTwo_103 : decode cX1_ofTwo 103 = .ok (.iload_n 2, 1) := by decide +kernel
theorem dX1_ofTwo_104 : decode cX1_ofTwo 104 = .ok (.imul, 1) := by decide +kernel
theorem dX1_ofTwo_105 : decode cX1_ofTwo 105 = .ok (.ireturn, 1) := by decide +kernel
theorem dX1_ofTwo_106 : decode cX1_ofTwo 106 = .ok (.iconst 0, 1) := by decide +kernel
theorem dX1_ofTwo_107 : decode cX1_ofTwo 107 = .ok (.ireturn, 1) := by decide +kernel
theorem dX2_init_0 : decode cX2_init 0 = .ok (.aload_n 0, 1) := by decide +kernel
theorem dX2_init_1 : decode cX2_init 1 = .ok (.invokespecial 3, 3) := by decide +kernel
theorem dX2_init_4 : decode cX2_init 4 = .ok (.aload_n 0, 1) := by decide +kernel
theorem dX2_init_5 : decode cX2_init 5 = .ok (.bipush 40, 2) := by decide +kernel
theorem dX2_init_7 : decode cX2_init 7 = .ok (.newarray .int, 2) := by decide +kernel
theorem dX2_init_9 : decode cX2_init 9 = .ok (.putfield 9, 3) := by decide +kernel
theorem dX2_init_12 : decode cX2_init 12 = .ok (.aload_n 0, 1) := by decide +kernel
theorem dX2_init_13 : decode cX2_init 13 = .ok (.iconst 0, 1) := by decide +kernel
theorem dX2_init_14 : decode cX2_init 14 = .ok (.putfield 15, 3) := by decide +kernel
theorem dX2_init_17 : decode cX2_init 17 = .ok (.aload_n 0, 1) := by decide +kernel
theorem dX2_init_18 : decode cX2_init 18 = .ok (.iconst (-1), 1) := by decide +kernel
theorem dX2_init_19 : decode cX2_init 19 = .ok (.putfield 19, 3) := by decide +kernel
theorem dX2_init_22 : decode cX2_init 22 = .ok (.return_, 1) := by decide +kernel
theorem dX2_isMissing_0 : decode cX2_isMissing 0 = .ok (.aload_n 0, 1) := by decide +kernel
theorem dX2_isMissing_1 : decode cX2_isMissing 1 = .ok (.getfield 19, 3) := by decide +kernel
theorem dX2_isMissing_4 : decode cX2_isMissing 4 = .ok (.iconst (-1), 1) := by decide +kernel
theorem dX2_isMissing_5 : decode cX2_isMissing 5 = .ok (.if_icmp .ne 7, 3) := by decide +kernel
theorem dX2_isMissing_8 : decode cX2_isMissing 8 = .ok (.iconst 1, 1) := by decide +kernel
theorem dX2_isMissing_9 : decode cX2_isMissing 9 = .ok (.goto 4, 3) := by decide +kernel
theorem dX2_isMissing_12 : decode cX2_isMissing 12 = .ok (.iconst 0, 1) := by decide +kernel
theorem dX2_isMissing_13 : decode cX2_isMissing 13 = .ok (.ireturn, 1) := by decide +kernel
theorem dX2_become_0 : decode cX2_become 0 = .ok (.aload_n 0, 1) := by decide +kernel
theorem dX2_become_1 : decode cX2_become 1 = .ok (.iload_n 1, 1) := by decide +kernel
theorem dX2_become_2 : decode cX2_become 2 = .ok (.putfield 19, 3) := by decide +kernel
theorem dX2_become_5 : decode cX2_become 5 = .ok (.aload_n 0, 1) := by decide +kernel
theorem dX2_become_6 : decode cX2_become 6 = .ok (.iload_n 2, 1) := by decide +kernel
theorem dX2_become_7 : decode cX2_become 7 = .ok (.putfield 15, 3) := by decide +kernel
theorem dX2_become_10 : decode cX2_become 10 = .ok (.iconst 0, 1) := by decide +kernel
theorem dX2_become_11 : decode cX2_become 11 = .ok (.istore_n 3, 1) := by decide +kernel
theorem dX2_become_12 : decode cX2_become 12 = .ok (.iload_n 3, 1) := by decide +kernel
theorem dX2_become_13 : decode cX2_become 13 = .ok (.bipush 40, 2) := by decide +kernel
theorem dX2_become_15 : decode cX2_become 15 = .ok (.if_icmp .ge 16, 3) := by decide +kernel
theorem dX2_become_18 : decode cX2_become 18 = .ok (.aload_n 0, 1) := by decide +kernel
theorem dX2_become_19 : decode cX2_become 19 = .ok (.getfield 9, 3) := by decide +kernel
theorem dX2_become_22 : decode cX2_become 22 = .ok (.iload_n 3, 1) := by decide +kernel
theorem dX2_become_23 : decode cX2_become 23 = .ok (.iconst 0, 1) := by decide +kernel
theorem dX2_become_24 : decode cX2_become 24 = .ok (.iastore, 1) := by decide +kernel
theorem dX2_become_25 : decode cX2_become 25 = .ok (.iinc 3 1, 3) := by decide +kernel
theorem dX2_become_28 : decode cX2_become 28 = .ok (.goto (-16), 3) := by decide +kernel
theorem dX2_become_31 : decode cX2_become 31 = .ok (.return_, 1) := by decide +kernel
theorem dX2_put_0 : decode cX2_put 0 = .ok (.aload_n 0, 1) := by decide +kernel
theorem dX2_put_1 : decode cX2_put 1 = .ok (.getfield 19, 3) := by decide +kernel
theorem dX2_put_4 : decode cX2_put 4 = .ok (.ifCond .ne 14, 3) := by decide +kernel
theorem dX2_put_7 : decode cX2_put 7 = .ok (.aload_n 0, 1) := by decide +kernel
theorem dX2_put_8 : decode cX2_put 8 = .ok (.getfield 9, 3) := by decide +kernel
theorem dX2_put_11 : decode cX2_put 11 = .ok (.iload_n 1, 1) := by decide +kernel
theorem dX2_put_12 : decode cX2_put 12 = .ok (.iload_n 2, 1) := by decide +kernel
theorem dX2_put_13 : decode cX2_put 13 = .ok (.i2b, 1) := by decide +kernel
theorem dX2_put_14 : decode cX2_put 14 = .ok (.iastore, 1) := by decide +kernel
theorem dX2_put_15 : decode cX2_put 15 = .ok (.goto 29, 3) := by decide +kernel
theorem dX2_put_18 : decode cX2_put 18 = .ok (.aload_n 0, 1) := by decide +kernel
theorem dX2_put_19 : decode cX2_put 19 = .ok (.getfield 19, 3) := by decide +kernel
theorem dX2_put_22 : decode cX2_put 22 = .ok (.iconst 1, 1) := by decide +kernel
theorem dX2_put_23 : decode cX2_put 23 = .ok (.if_icmp .ne 14, 3) := by decide +kernel
theorem dX2_put_26 : decode cX2_put 26 = .ok (.aload_n 0, 1) := by decide +kernel
theorem dX2_put_27 : decode cX2_put 27 = .ok (.getfield 9, 3) := by decide +kernel
theorem dX2_put_30 : decode cX2_put 30 = .ok (.iload_n 1, 1) := by decide +kernel
theorem dX2_put_31 : decode cX2_put 31 = .ok (.iload_n 2, 1) := by decide +kernel
theorem dX2_put_32 : decode cX2_put 32 = .ok (.i2s, 1) := by decide +kernel
theorem dX2_put_33 : decode cX2_put 33 = .ok (.iastore, 1) := by decide +kernel
theorem dX2_put_34 : decode cX2_put 34 = .ok (.goto 10, 3) := by decide +kernel
theorem dX2_put_37 : decode cX2_put 37 = .ok (.aload_n 0, 1) := by decide +kernel
theorem dX2_put_38 : decode cX2_put 38 = .ok (.getfield 9, 3) := by decide +kernel
theorem dX2_put_41 : decode cX2_put 41 = .ok (.iload_n 1, 1) := by decide +kernel
theorem dX2_put_42 : decode cX2_put 42 = .ok (.iload_n 2, 1) := by decide +kernel
theorem dX2_put_43 : decode cX2_put 43 = .ok (.iastore, 1) := by decide +kernel
theorem dX2_put_44 : decode cX2_put 44 = .ok (.return_, 1) := by decide +kernel
theorem dX2_hasRow_0 : decode cX2_hasRow 0 = .ok (.iload_n 1, 1) := by decide +kernel
theorem dX2_hasRow_1 : decode cX2_hasRow 1 = .ok (.ifCond .lt 29, 3) := by decide +kernel
theorem dX2_hasRow_4 : decode cX2_hasRow 4 = .ok (.iload_n 2, 1) := by decide +kernel
theorem dX2_hasRow_5 : decode cX2_hasRow 5 = .ok (.ifCond .lt 25, 3) := by decide +kernel
theorem dX2_hasRow_8 : decode cX2_hasRow 8 = .ok (.iload_n 2, 1) := by decide +kernel
theorem dX2_hasRow_9 : decode cX2_hasRow 9 = .ok (.aload_n 0, 1) := by decide +kernel
theorem dX2_hasRow_10 : decode cX2_hasRow 10 = .ok (.getfield 15, 3) := by decide +kernel
theorem dX2_hasRow_13 : decode cX2_hasRow 13 = .ok (.if_icmp .gt 17, 3) := by decide +kernel
theorem dX2_hasRow_16 : decode cX2_hasRow 16 = .ok (.iload_n 1, 1) := by decide +kernel
theorem dX2_hasRow_17 : decode cX2_hasRow 17 = .ok (.aload_n 0, 1) := by decide +kernel
theorem dX2_hasRow_18 : decode cX2_hasRow 18 = .ok (.getfield 15, 3) := by decide +kernel
theorem dX2_hasRow_21 : decode cX2_hasRow 21 = .ok (.iload_n 2, 1) := by decide +kernel
theorem dX2_hasRow_22 : decode cX2_hasRow 22 = .ok (.isub, 1) := by decide +kernel
theorem dX2_hasRow_23 : decode cX2_hasRow 23 = .ok (.if_icmp .gt 7, 3) := by decide +kernel
theorem dX2_hasRow_26 : decode cX2_hasRow 26 = .ok (.iconst 1, 1) := by decide +kernel
theorem dX2_hasRow_27 : decode cX2_hasRow 27 = .ok (.goto 4, 3) := by decide +kernel
theorem dX2_hasRow_30 : decode cX2_hasRow 30 = .ok (.iconst 0, 1) := by decide +kernel
theorem dX2_hasRow_31 : decode cX2_hasRow 31 = .ok (.ireturn, 1) := by decide +kernel
theorem dX3_init_0 : decode cX3_init 0 = .ok (.aload_n 0, 1) := by decide +kernel
theorem dX3_init_1 : decode cX3_init 1 = .ok (.invokespecial 3, 3) := by decide +kernel
theorem dX3_init_4 : decode cX3_init 4 = .ok (.aload_n 0, 1) := by decide +kernel
theorem dX3_init_5 : decode cX3_init 5 = .ok (.sipush 160, 3) := by decide +kernel
theorem dX3_init_8 : decode cX3_init 8 = .ok (.newarray .int, 2) := by decide +kernel
theorem dX3_init_10 : decode cX3_init 10 = .ok (.putfield 9, 3) := by decide +kernel
theorem dX3_init_13 : decode cX3_init 13 = .ok (.aload_n 0, 1) := by decide +kernel
theorem dX3_init_14 : decode cX3_init 14 = .ok (.iconst 3, 1) := by decide +kernel
theorem dX3_init_15 : decode cX3_init 15 = .ok (.newarray .int, 2) := by decide +kernel
theorem dX3_init_17 : decode cX3_init 17 = .ok (.putfield 15, 3) := by decide +kernel
theorem dX3_init_20 : decode cX3_init 20 = .ok (.aload_n 0, 1) := by decide +kernel
theorem dX3_init_21 : decode cX3_init 21 = .ok (.iconst 0, 1) := by decide +kernel
theorem dX3_init_22 : decode cX3_init 22 = .ok (.putfield 18, 3) := by decide +kernel
theorem dX3_init_25 : decode cX3_init 25 = .ok (.return_, 1) := by decide +kernel
theorem dX3_clear_0 : decode cX3_clear 0 = .ok (.aload_n 0, 1) := by decide +kernel
theorem dX3_clear_1 : decode cX3_clear 1 = .ok (.iconst 0, 1) := by decide +kernel
theorem dX3_clear_2 : decode cX3_clear 2 = .ok (.putfield 18, 3) := by decide +kernel
theorem dX3_clear_5 : decode cX3_clear 5 = .ok (.return_, 1) := by decide +kernel
theorem dX3_add_0 : decode cX3_add 0 = .ok (.aload_n 0, 1) := by decide +kernel
theorem dX3_add_1 : decode cX3_add 1 = .ok (.getfield 18, 3) := by decide +kernel
theorem dX3_add_4 : decode cX3_add 4 = .ok (.aload_n 0, 1) := by decide +kernel
theorem dX3_add_5 : decode cX3_add 5 = .ok (.getfield 9, 3) := by decide +kernel
theorem dX3_add_8 : decode cX3_add 8 = .ok (.arraylength, 1) := by decide +kernel
theorem dX3_add_9 : decode cX3_add 9 = .ok (.if_icmp .ge 23, 3) := by decide +kernel
theorem dX3_add_12 : decode cX3_add 12 = .ok (.aload_n 0, 1) := by decide +kernel
theorem dX3_add_13 : decode cX3_add 13 = .ok (.getfield 9, 3) := by decide +kernel
theorem dX3_add_16 : decode cX3_add 16 = .ok (.aload_n 0, 1) := by decide +kernel
theorem dX3_add_17 : decode cX3_add 17 = .ok (.getfield 18, 3) := by decide +kernel
theorem dX3_add_20 : decode cX3_add 20 = .ok (.iload_n 1, 1) := by decide +kernel
theorem dX3_add_21 : decode cX3_add 21 = .ok (.iastore, 1) := by decide +kernel
theorem dX3_add_22 : decode cX3_add 22 = .ok (.aload_n 0, 1) := by decide +kernel
theorem dX3_add_23 : decode cX3_add 23 = .ok (.dup, 1) := by decide +kernel
theorem dX3_add_24 : decode cX3_add 24 = .ok (.getfield 18, 3) := by decide +kernel
theorem dX3_add_27 : decode cX3_add 27 = .ok (.iconst 1, 1) := by decide +kernel
theorem dX3_add_28 : decode cX3_add 28 = .ok (.iadd, 1) := by decide +kernel
theorem dX3_add_29 : decode cX3_add 29 = .ok (.putfield 18, 3) := by decide +kernel
theorem dX3_add_32 : decode cX3_add 32 = .ok (.return_, 1) := by decide +kernel
theorem dX3_endPart_0 : decode cX3_endPart 0 = .ok (.aload_n 0, 1) := by decide +kernel
theorem dX3_endPart_1 : decode cX3_endPart 1 = .ok (.getfield 15, 3) := by decide +kernel
theorem dX3_endPart_4 : decode cX3_endPart 4 = .ok (.iload_n 1, 1) := by decide +kernel
theorem dX3_endPart_5 : decode cX3_endPart 5 = .ok (.aload_n 0, 1) := by decide +kernel
theorem dX3_endPart_6 : decode cX3_endPart 6 = .ok (.getfield 18, 3) := by decide +kernel
theorem dX3_endPart_9 : decode cX3_endPart 9 = .ok (.iastore, 1) := by decide +kernel
theorem dX3_endPart_10 : decode cX3_endPart 10 = .ok (.return_, 1) := by decide +kernel
theorem dX4_init_0 : decode cX4_init 0 = .ok (.aload_n 0, 1) := by decide +kernel
theorem dX4_init_1 : decode cX4_init 1 = .ok (.invokespecial 3, 3) := by decide +kernel
theorem dX4_init_4 : decode cX4_init 4 = .ok (.aload_n 0, 1) := by decide +kernel
theorem dX4_init_5 : decode cX4_init 5 = .ok (.iconst 4, 1) := by decide +kernel
theorem dX4_init_6 : decode cX4_init 6 = .ok (.newarray .long, 2) := by decide +kernel
theorem dX4_init_8 : decode cX4_init 8 = .ok (.putfield 9, 3) := by decide +kernel
theorem dX4_init_11 : decode cX4_init 11 = .ok (.aload_n 0, 1) := by decide +kernel
theorem dX4_init_12 : decode cX4_init 12 = .ok (.lconst 0, 1) := by decide +kernel
theorem dX4_init_13 : decode cX4_init 13 = .ok (.putfield 15, 3) := by decide +kernel
theorem dX4_init_16 : decode cX4_init 16 = .ok (.aload_n 0, 1) := by decide +kernel
theorem dX4_init_17 : decode cX4_init 17 = .ok (.iconst 0, 1) := by decide +kernel
theorem dX4_init_18 : decode cX4_init 18 = .ok (.putfield 19, 3) := by decide +kernel
theorem dX4_init_21 : decode cX4_init 21 = .ok (.aload_n 0, 1) := by decide +kernel
theorem dX4_init_22 : decode cX4_init 22 = .ok (.iconst 0, 1) := by decide +kernel
theorem dX4_init_23 : decode cX4_init 23 = .ok (.putfield 23, 3) := by decide +kernel
theorem dX4_init_26 : decode cX4_init 26 = .ok (.aload_n 0, 1) := by decide +kernel
theorem dX4_init_27 : decode cX4_init 27 = .ok (.iconst 4, 1) := by decide +kernel
theorem dX4_init_28 : decode cX4_init 28 = .ok (.newarray .int, 2) := by decide +kernel
theorem dX4_init_30 : decode cX4_init 30 = .ok (.putfield 26, 3) := by decide +kernel
theorem dX4_init_33 : decode cX4_init 33 = .ok (.aload_n 0, 1) := by decide +kernel
theorem dX4_init_34 : decode cX4_init 34 = .ok (.iconst 0, 1) := by decide +kernel
theorem dX4_init_35 : decode cX4_init 35 = .ok (.putfield 30, 3) := by decide +kernel
theorem dX4_init_38 : decode cX4_init 38 = .ok (.aload_n 0, 1) := by decide +kernel
theorem dX4_init_39 : decode cX4_init 39 = .ok (.iconst 5, 1) := by decide +kernel
theorem dX4_init_40 : decode cX4_init 40 = .ok (.newarray .int, 2) := by decide +kernel
theorem dX4_init_42 : decode cX4_init 42 = .ok (.putfield 33, 3) := by decide +kernel
theorem dX4_init_45 : decode cX4_init 45 = .ok (.aload_n 0, 1) := by decide +kernel
theorem dX4_init_46 : decode cX4_init 46 = .ok (.iconst 5, 1) := by decide +kernel
theorem dX4_init_47 : decode cX4_init 47 = .ok (.newarray .int, 2) := by decide +kernel
theorem dX4_init_49 : decode cX4_init 49 = .ok (.putfield 36, 3) := by decide +kernel
theorem dX4_init_52 : decode cX4_init 52 = .ok (.aload_n 0, 1) := by decide +kernel
theorem dX4_init_53 : decode cX4_init 53 = .ok (.iconst 5, 1) := by decide +kernel
theorem dX4_init_54 : decode cX4_init 54 = .ok (.newarray .int, 2) := by decide +kernel
theorem dX4_init_56 : decode cX4_init 56 = .ok (.putfield 39, 3) := by decide +kernel
theorem dX4_init_59 : decode cX4_init 59 = .ok (.aload_n 0, 1) := by decide +kernel
theorem dX4_init_60 : decode cX4_init 60 = .ok (.iconst 5, 1) := by decide +kernel
theorem dX4_init_61 : decode cX4_init 61 = .ok (.newarray .int, 2) := by decide +kernel
theorem dX4_init_63 : decode cX4_init 63 = .ok (.putfield 42, 3) := by decide +kernel
theorem dX4_init_66 : decode cX4_init 66 = .ok (.aload_n 0, 1) := by decide +kernel
theorem dX4_init_67 : decode cX4_init 67 = .ok (.iconst 5, 1) := by decide +kernel
theorem dX4_init_68 : decode cX4_init 68 = .ok (.newarray .int, 2) := by decide +kernel
theorem dX4_init_70 : decode cX4_init 70 = .ok (.putfield 45, 3) := by decide +kernel
theorem dX4_init_73 : decode cX4_init 73 = .ok (.iconst 0, 1) := by decide +kernel
theorem dX4_init_74 : decode cX4_init 74 = .ok (.istore_n 1, 1) := by decide +kernel
theorem dX4_init_75 : decode cX4_init 75 = .ok (.iload_n 1, 1) := by decide +kernel
theorem dX4_init_76 : decode cX4_init 76 = .ok (.bipush 64, 2) := by decide +kernel
theorem dX4_init_78 : decode cX4_init 78 = .ok (.if_icmp .ge 23, 3) := by decide +kernel
theorem dX4_init_81 : decode cX4_init 81 = .ok (.aload_n 0, 1) := by decide +kernel
theorem dX4_init_82 : decode cX4_init 82 = .ok (.getfield 9, 3) := by decide +kernel
theorem dX4_init_85 : decode cX4_init 85 = .ok (.iload_n 1, 1) := by decide +kernel
theorem dX4_init_86 : decode cX4_init 86 = .ok (.iconst 4, 1) := by decide +kernel
theorem dX4_init_87 : decode cX4_init 87 = .ok (.irem, 1) := by decide +kernel
theorem dX4_init_88 : decode cX4_init 88 = .ok (.dup2, 1) := by decide +kernel
theorem dX4_init_89 : decode cX4_init 89 = .ok (.laload, 1) := by decide +kernel
theorem dX4_init_90 : decode cX4_init 90 = .ok (.lconst 1, 1) := by decide +kernel
theorem dX4_init_91 : decode cX4_init 91 = .ok (.iload_n 1, 1) := by decide +kernel
theorem dX4_init_92 : decode cX4_init 92 = .ok (.lshl, 1) := by decide +kernel
theorem dX4_init_93 : decode cX4_init 93 = .ok (.lor, 1) := by decide +kernel
theorem dX4_init_94 : decode cX4_init 94 = .ok (.lastore, 1) := by decide +kernel
theorem dX4_init_95 : decode cX4_init 95 = .ok (.iinc 1 1, 3) := by decide +kernel
theorem dX4_init_98 : decode cX4_init 98 = .ok (.goto (-23), 3) := by decide +kernel
theorem dX4_init_101 : decode cX4_init 101 = .ok (.return_, 1) := by decide +kernel
theorem dX4_become_0 : decode cX4_become 0 = .ok (.aload_n 0, 1) := by decide +kernel
theorem dX4_become_1 : decode cX4_become 1 = .ok (.aload_n 1, 1) := by decide +kernel
theorem dX4_become_2 : decode cX4_become 2 = .ok (.getfield 15, 3) := by decide +kernel
theorem dX4_become_5 : decode cX4_become 5 = .ok (.putfield 15, 3) := by decide +kernel
theorem dX4_become_8 : decode cX4_become 8 = .ok (.aload_n 0, 1) := by decide +kernel
theorem dX4_become_9 : decode cX4_become 9 = .ok (.aload_n 1, 1) := by decide +kernel
theorem dX4_become_10 : decode cX4_become 10 = .ok (.getfield 19, 3) := by decide +kernel
theorem dX4_become_13 : decode cX4_become 13 = .ok (.putfield 19, 3) := by decide +kernel
theorem dX4_become_16 : decode cX4_become 16 = .ok (.aload_n 0, 1) := by decide +kernel
theorem dX4_become_17 : decode cX4_become 17 = .ok (.aload_n 1, 1) := by decide +kernel
theorem dX4_become_18 : decode cX4_become 18 = .ok (.getfield 23, 3) := by decide +kernel
theorem dX4_become_21 : decode cX4_become 21 = .ok (.putfield 23, 3) := by decide +kernel
theorem dX4_become_24 : decode cX4_become 24 = .ok (.aload_n 0, 1) := by decide +kernel
theorem dX4_become_25 : decode cX4_become 25 = .ok (.aload_n 1, 1) := by decide +kernel
theorem dX4_become_26 : decode cX4_become 26 = .ok (.getfield 30, 3) := by decide +kernel
theorem dX4_become_29 : decode cX4_become 29 = .ok (.putfield 30, 3) := by decide +kernel
theorem dX4_become_32 : decode cX4_become 32 = .ok (.iconst 0, 1) := by decide +kernel
theorem dX4_become_33 : decode cX4_become 33 = .ok (.istore_n 2, 1) := by decide +kernel
theorem dX4_become_34 : decode cX4_become 34 = .ok (.iload_n 2, 1) := by decide +kernel
theorem dX4_become_35 : decode cX4_become 35 = .ok (.iconst 4, 1) := by decide +kernel
theorem dX4_become_36 : decode cX4_become 36 = .ok (.if_icmp .ge 33, 3) := by decide +kernel
theorem dX4_become_39 : decode cX4_become 39 = .ok (.aload_n 0, 1) := by decide +kernel
theorem dX4_become_40 : decode cX4_become 40 = .ok (.getfield 9, 3) := by decide +kernel
theorem dX4_become_43 : decode cX4_become 43 = .ok (.iload_n 2, 1) := by decide +kernel
theorem dX4_become_44 : decode cX4_become 44 = .ok (.aload_n 1, 1) := by decide +kernel
theorem dX4_become_45 : decode cX4_become 45 = .ok (.getfield 9, 3) := by decide +kernel
theorem dX4_become_48 : decode cX4_become 48 = .ok (.iload_n 2, 1) := by decide +kernel
theorem dX4_become_49 : decode cX4_become 49 = .ok (.laload, 1) := by decide +kernel
theorem dX4_become_50 : decode cX4_become 50 = .ok (.lastore, 1) := by decide +kernel
theorem dX4_become_51 : decode cX4_become 51 = .ok (.aload_n 0, 1) := by decide +kernel
theorem dX4_become_52 : decode cX4_become 52 = .ok (.getfield 26, 3) := by decide +kernel
theorem dX4_become_55 : decode cX4_become 55 = .ok (.iload_n 2, 1) := by decide +kernel
theorem dX4_become_56 : decode cX4_become 56 = .ok (.aload_n 1, 1) := by decide +kernel
theorem dX4_become_57 : decode cX4_become 57 = .ok (.getfield 26, 3) := by decide +kernel
theorem dX4_become_60 : decode cX4_become 60 = .ok (.iload_n 2, 1) := by decide +kernel
theorem dX4_become_61 : decode cX4_become 61 = .ok (.iaload, 1) := by decide +kernel
theorem dX4_become_62 : decode cX4_become 62 = .ok (.iastore, 1) := by decide +kernel
theorem dX4_become_63 : decode cX4_become 63 = .ok (.iinc 2 1, 3) := by decide +kernel
theorem dX4_become_66 : decode cX4_become 66 = .ok (.goto (-32), 3) := by decide +kernel
theorem dX4_become_69 : decode cX4_become 69 = .ok (.iconst 0, 1) := by decide +kernel
theorem dX4_become_70 : decode cX4_become 70 = .ok (.istore_n 2, 1) := by decide +kernel
theorem dX4_become_71 : decode cX4_become 71 = .ok (.iload_n 2, 1) := by decide +kernel
theorem dX4_become_72 : decode cX4_become 72 = .ok (.iconst 5, 1) := by decide +kernel
theorem dX4_become_73 : decode cX4_become 73 = .ok (.if_icmp .ge 69, 3) := by decide +kernel
theorem dX4_become_76 : decode cX4_become 76 = .ok (.aload_n 0, 1) := by decide +kernel
theorem dX4_become_77 : decode cX4_become 77 = .ok (.getfield 33, 3) := by decide +kernel
theorem dX4_become_80 : decode cX4_become 80 = .ok (.iload_n 2, 1) := by decide +kernel
theorem dX4_become_81 : decode cX4_become 81 = .ok (.aload_n 1, 1) := by decide +kernel
theorem dX4_become_82 : decode cX4_become 82 = .ok (.getfield 33, 3) := by decide +kernel
theorem dX4_become_85 : decode cX4_become 85 = .ok (.iload_n 2, 1) := by decide +kernel
theorem dX4_become_86 : decode cX4_become 86 = .ok (.iaload, 1) := by decide +kernel
theorem dX4_become_87 : decode cX4_become 87 = .ok (.iastore, 1) := by decide +kernel
theorem dX4_become_88 : decode cX4_become 88 = .ok (.aload_n 0, 1) := by decide +kernel
theorem dX4_become_89 : decode cX4_become 89 = .ok (.getfield 36, 3) := by decide +kernel
theorem dX4_become_92 : decode cX4_become 92 = .ok (.iload_n 2, 1) := by decide +kernel
theorem dX4_become_93 : decode cX4_become 93 = .ok (.aload_n 1, 1) := by decide +kernel
theorem dX4_become_94 : decode cX4_become 94 = .ok (.getfield 36, 3) := by decide +kernel
theorem dX4_become_97 : decode cX4_become 97 = .ok (.iload_n 2, 1) := by decide +kernel
theorem dX4_become_98 : decode cX4_become 98 = .ok (.iaload, 1) := by decide +kernel
theorem dX4_become_99 : decode cX4_become 99 = .ok (.iastore, 1) := by decide +kernel
theorem dX4_become_100 : decode cX4_become 100 = .ok (.aload_n 0, 1) := by decide +kernel
theorem dX4_become_101 : decode cX4_become 101 = .ok (.getfield 39, 3) := by decide +kernel
theorem dX4_become_104 : decode cX4_become 104 = .ok (.iload_n 2, 1) := by decide +kernel
theorem dX4_become_105 : decode cX4_become 105 = .ok (.aload_n 1, 1) := by decide +kernel
theorem dX4_become_106 : decode cX4_become 106 = .ok (.getfield 39, 3) := by decide +kernel
theorem dX4_become_109 : decode cX4_become 109 = .ok (.iload_n 2, 1) := by decide +kernel
theorem dX4_become_110 : decode cX4_become 110 = .ok (.iaload, 1) := by decide +kernel
theorem dX4_become_111 : decode cX4_become 111 = .ok (.iastore, 1) := by decide +kernel
theorem dX4_become_112 : decode cX4_become 112 = .ok (.aload_n 0, 1) := by decide +kernel
theorem dX4_become_113 : decode cX4_become 113 = .ok (.getfield 42, 3) := by decide +kernel
theorem dX4_become_116 : decode cX4_become 116 = .ok (.iload_n 2, 1) := by decide +kernel
theorem dX4_become_117 : decode cX4_become 117 = .ok (.aload_n 1, 1) := by decide +kernel
theorem dX4_become_118 : decode cX4_become 118 = .ok (.getfield 42, 3) := by decide +kernel
theorem dX4_become_121 : decode cX4_become 121 = .ok (.iload_n 2, 1) := by decide +kernel
theorem dX4_become_122 : decode cX4_become 122 = .ok (.iaload, 1) := by decide +kernel
theorem dX4_become_123 : decode cX4_become 123 = .ok (.iastore, 1) := by decide +kernel
theorem dX4_become_124 : decode cX4_become 124 = .ok (.aload_n 0, 1) := by decide +kernel
theorem dX4_become_125 : decode cX4_become 125 = .ok (.getfield 45, 3) := by decide +kernel
theorem dX4_become_128 : decode cX4_become 128 = .ok (.iload_n 2, 1) := by decide +kernel
theorem dX4_become_129 : decode cX4_become 129 = .ok (.aload_n 1, 1) := by decide +kernel
theorem dX4_become_130 : decode cX4_become 130 = .ok (.getfield 45, 3) := by decide +kernel
theorem dX4_become_133 : decode cX4_become 133 = .ok (.iload_n 2, 1) := by decide +kernel
theorem dX4_become_134 : decode cX4_become 134 = .ok (.iaload, 1) := by decide +kernel
theorem dX4_become_135 : decode cX4_become 135 = .ok (.iastore, 1) := by decide +kernel
theorem dX4_become_136 : decode cX4_become 136 = .ok (.iinc 2 1, 3) := by decide +kernel
theorem dX4_become_139 : decode cX4_become 139 = .ok (.goto (-68), 3) := by decide +kernel
theorem dX4_become_142 : decode cX4_become 142 = .ok (.return_, 1) := by decide +kernel
theorem dX4_welcome_0 : decode cX4_welcome 0 = .ok (.aload_n 0, 1) := by decide +kernel
theorem dX4_welcome_1 : decode cX4_welcome 1 = .ok (.getfield 30, 3) := by decide +kernel
theorem dX4_welcome_4 : decode cX4_welcome 4 = .ok (.iconst 5, 1) := by decide +kernel
theorem dX4_welcome_5 : decode cX4_welcome 5 = .ok (.if_icmp .lt 6, 3) := by decide +kernel
theorem dX4_welcome_8 : decode cX4_welcome 8 = .ok (.bipush (-4), 2) := by decide +kernel
theorem dX4_welcome_10 : decode cX4_welcome 10 = .ok (.ireturn, 1) := by decide +kernel
theorem dX4_welcome_11 : decode cX4_welcome 11 = .ok (.aload_n 0, 1) := by decide +kernel
theorem dX4_welcome_12 : decode cX4_welcome 12 = .ok (.getfield 30, 3) := by decide +kernel
theorem dX4_welcome_15 : decode cX4_welcome 15 = .ok (.istore 4, 2) := by decide +kernel
theorem dX4_welcome_17 : decode cX4_welcome 17 = .ok (.aload_n 0, 1) := by decide +kernel
theorem dX4_welcome_18 : decode cX4_welcome 18 = .ok (.getfield 33, 3) := by decide +kernel
theorem dX4_welcome_21 : decode cX4_welcome 21 = .ok (.iload 4, 2) := by decide +kernel
theorem dX4_welcome_23 : decode cX4_welcome 23 = .ok (.iload_n 1, 1) := by decide +kernel
theorem dX4_welcome_24 : decode cX4_welcome 24 = .ok (.iastore, 1) := by decide +kernel
theorem dX4_welcome_25 : decode cX4_welcome 25 = .ok (.aload_n 0, 1) := by decide +kernel
theorem dX4_welcome_26 : decode cX4_welcome 26 = .ok (.getfield 36, 3) := by decide +kernel
theorem dX4_welcome_29 : decode cX4_welcome 29 = .ok (.iload 4, 2) := by decide +kernel
theorem dX4_welcome_31 : decode cX4_welcome 31 = .ok (.iload_n 2, 1) := by decide +kernel
theorem dX4_welcome_32 : decode cX4_welcome 32 = .ok (.iastore, 1) := by decide +kernel
theorem dX4_welcome_33 : decode cX4_welcome 33 = .ok (.aload_n 0, 1) := by decide +kernel
theorem dX4_welcome_34 : decode cX4_welcome 34 = .ok (.getfield 39, 3) := by decide +kernel
theorem dX4_welcome_37 : decode cX4_welcome 37 = .ok (.iload 4, 2) := by decide +kernel
theorem dX4_welcome_39 : decode cX4_welcome 39 = .ok (.iload_n 3, 1) := by decide +kernel
theorem dX4_welcome_40 : decode cX4_welcome 40 = .ok (.iastore, 1) := by decide +kernel
theorem dX4_welcome_41 : decode cX4_welcome 41 = .ok (.aload_n 0, 1) := by decide +kernel
theorem dX4_welcome_42 : decode cX4_welcome 42 = .ok (.getfield 42, 3) := by decide +kernel
theorem dX4_welcome_45 : decode cX4_welcome 45 = .ok (.iload 4, 2) := by decide +kernel
theorem dX4_welcome_47 : decode cX4_welcome 47 = .ok (.iconst 0, 1) := by decide +kernel
theorem dX4_welcome_48 : decode cX4_welcome 48 = .ok (.iastore, 1) := by decide +kernel
theorem dX4_welcome_49 : decode cX4_welcome 49 = .ok (.aload_n 0, 1) := by decide +kernel
theorem dX4_welcome_50 : decode cX4_welcome 50 = .ok (.getfield 45, 3) := by decide +kernel
theorem dX4_welcome_53 : decode cX4_welcome 53 = .ok (.iload 4, 2) := by decide +kernel
theorem dX4_welcome_55 : decode cX4_welcome 55 = .ok (.iconst 0, 1) := by decide +kernel
theorem dX4_welcome_56 : decode cX4_welcome 56 = .ok (.iastore, 1) := by decide +kernel
theorem dX4_welcome_57 : decode cX4_welcome 57 = .ok (.aload_n 0, 1) := by decide +kernel
theorem dX4_welcome_58 : decode cX4_welcome 58 = .ok (.dup, 1) := by decide +kernel
theorem dX4_welcome_59 : decode cX4_welcome 59 = .ok (.getfield 30, 3) := by decide +kernel
theorem dX4_welcome_62 : decode cX4_welcome 62 = .ok (.iconst 1, 1) := by decide +kernel
theorem dX4_welcome_63 : decode cX4_welcome 63 = .ok (.iadd, 1) := by decide +kernel
theorem dX4_welcome_64 : decode cX4_welcome 64 = .ok (.putfield 30, 3) := by decide +kernel
theorem dX4_welcome_67 : decode cX4_welcome 67 = .ok (.iload 4, 2) := by decide +kernel
theorem dX4_welcome_69 : decode cX4_welcome 69 = .ok (.ireturn, 1) := by decide +kernel
theorem dX4_figure_0 : decode cX4_figure 0 = .ok (.iload_n 1, 1) := by decide +kernel
theorem dX4_figure_1 : decode cX4_figure 1 = .ok (.tableswitch 118 0 8 #[51, 56, 62, 76, 83, 90, 97, 104, 111], 51) := by decide +kernel
theorem dX4_figure_52 : decode cX4_figure 52 = .ok (.aload_n 0, 1) := by decide +kernel
theorem dX4_figure_53 : decode cX4_figure 53 = .ok (.getfield 19, 3) := by decide +kernel
theorem dX4_figure_56 : decode cX4_figure 56 = .ok (.ireturn, 1) := by decide +kernel
theorem dX4_figure_57 : decode cX4_figure 57 = .ok (.aload_n 0, 1) := by decide +kernel
theorem dX4_figure_58 : decode cX4_figure 58 = .ok (.iload_n 2, 1) := by decide +kernel
theorem dX4_figure_59 : decode cX4_figure 59 = .ok (.invokevirtual 48, 3) := by decide +kernel
theorem dX4_figure_62 : decode cX4_figure 62 = .ok (.ireturn, 1) := by decide +kernel
theorem dX4_figure_63 : decode cX4_figure 63 = .ok (.aload_n 0, 1) := by decide +kernel
theorem dX4_figure_64 : decode cX4_figure 64 = .ok (.iload_n 2, 1) := by decide +kernel
theorem dX4_figure_65 : decode cX4_figure 65 = .ok (.invokevirtual 52, 3) := by decide +kernel
theorem dX4_figure_68 : decode cX4_figure 68 = .ok (.ifCond .eq 7, 3) := by decide +kernel
theorem dX4_figure_71 : decode cX4_figure 71 = .ok (.iconst 1, 1) := by decide +kernel
theorem dX4_figure_72 : decode cX4_figure 72 = .ok (.goto 4, 3) := by decide +kernel
theorem dX4_figure_75 : decode cX4_figure 75 = .ok (.iconst 0, 1) := by decide +kernel
theorem dX4_figure_76 : decode cX4_figure 76 = .ok (.ireturn, 1) := by decide +kernel
theorem dX4_figure_77 : decode cX4_figure 77 = .ok (.aload_n 0, 1) := by decide +kernel
theorem dX4_figure_78 : decode cX4_figure 78 = .ok (.getfield 26, 3) := by decide +kernel
theorem dX4_figure_81 : decode cX4_figure 81 = .ok (.iload_n 2, 1) := by decide +kernel
theorem dX4_figure_82 : decode cX4_figure 82 = .ok (.iaload, 1) := by decide +kernel
theorem dX4_figure_83 : decode cX4_figure 83 = .ok (.ireturn, 1) := by decide +kernel
theorem dX4_figure_84 : decode cX4_figure 84 = .ok (.aload_n 0, 1) := by decide +kernel
theorem dX4_figure_85 : decode cX4_figure 85 = .ok (.getfield 36, 3) := by decide +kernel
theorem dX4_figure_88 : decode cX4_figure 88 = .ok (.iload_n 2, 1) := by decide +kernel
theorem dX4_figure_89 : decode cX4_figure 89 = .ok (.iaload, 1) := by decide +kernel
theorem dX4_figure_90 : decode cX4_figure 90 = .ok (.ireturn, 1) := by decide +kernel
theorem dX4_figure_91 : decode cX4_figure 91 = .ok (.aload_n 0, 1) := by decide +kernel
theorem dX4_figure_92 : decode cX4_figure 92 = .ok (.getfield 39, 3) := by decide +kernel
theorem dX4_figure_95 : decode cX4_figure 95 = .ok (.iload_n 2, 1) := by decide +kernel
theorem dX4_figure_96 : decode cX4_figure 96 = .ok (.iaload, 1) := by decide +kernel
theorem dX4_figure_97 : decode cX4_figure 97 = .ok (.ireturn, 1) := by decide +kernel
theorem dX4_figure_98 : decode cX4_figure 98 = .ok (.aload_n 0, 1) := by decide +kernel
theorem dX4_figure_99 : decode cX4_figure 99 = .ok (.getfield 42, 3) := by decide +kernel
theorem dX4_figure_102 : decode cX4_figure 102 = .ok (.iload_n 2, 1) := by decide +kernel
theorem dX4_figure_103 : decode cX4_figure 103 = .ok (.iaload, 1) := by decide +kernel
theorem dX4_figure_104 : decode cX4_figure 104 = .ok (.ireturn, 1) := by decide +kernel
theorem dX4_figure_105 : decode cX4_figure 105 = .ok (.aload_n 0, 1) := by decide +kernel
theorem dX4_figure_106 : decode cX4_figure 106 = .ok (.getfield 45, 3) := by decide +kernel
theorem dX4_figure_109 : decode cX4_figure 109 = .ok (.iload_n 2, 1) := by decide +kernel
theorem dX4_figure_110 : decode cX4_figure 110 = .ok (.iaload, 1) := by decide +kernel
theorem dX4_figure_111 : decode cX4_figure 111 = .ok (.ireturn, 1) := by decide +kernel
theorem dX4_figure_112 : decode cX4_figure 112 = .ok (.aload_n 0, 1) := by decide +kernel
theorem dX4_figure_113 : decode cX4_figure 113 = .ok (.getfield 33, 3) := by decide +kernel
theorem dX4_figure_116 : decode cX4_figure 116 = .ok (.iload_n 2, 1) := by decide +kernel
theorem dX4_figure_117 : decode cX4_figure 117 = .ok (.iaload, 1) := by decide +kernel
theorem dX4_figure_118 : decode cX4_figure 118 = .ok (.ireturn, 1) := by decide +kernel
theorem dX4_figure_119 : decode cX4_figure 119 = .ok (.sipush (-1000), 3) := by decide +kernel
theorem dX4_figure_122 : decode cX4_figure 122 = .ok (.ireturn, 1) := by decide +kernel
theorem dX4_change_0 : decode cX4_change 0 = .ok (.iload_n 1, 1) := by decide +kernel
theorem dX4_change_1 : decode cX4_change 1 = .ok (.tableswitch 149 0 7 #[47, 55, 64, 99, 109, 119, 129, 139], 47) := by decide +kernel
theorem dX4_change_48 : decode cX4_change 48 = .ok (.aload_n 0, 1) := by decide +kernel
theorem dX4_change_49 : decode cX4_change 49 = .ok (.iload_n 3, 1) := by decide +kernel
theorem dX4_change_50 : decode cX4_change 50 = .ok (.putfield 19, 3) := by decide +kernel
theorem dX4_change_53 : decode cX4_change 53 = .ok (.goto 97, 3) := by decide +kernel
theorem dX4_change_56 : decode cX4_change 56 = .ok (.aload_n 0, 1) := by decide +kernel
theorem dX4_change_57 : decode cX4_change 57 = .ok (.iload_n 2, 1) := by decide +kernel
theorem dX4_change_58 : decode cX4_change 58 = .ok (.iload_n 3, 1) := by decide +kernel
theorem dX4_change_59 : decode cX4_change 59 = .ok (.invokevirtual 56, 3) := by decide +kernel
theorem dX4_change_62 : decode cX4_change 62 = .ok (.goto 88, 3) := by decide +kernel
theorem dX4_change_65 : decode cX4_change 65 = .ok (.aload_n 0, 1) := by decide +kernel
theorem dX4_change_66 : decode cX4_change 66 = .ok (.iload_n 3, 1) := by decide +kernel
theorem dX4_change_67 : decode cX4_change 67 = .ok (.iconst 1, 1) := by decide +kernel
theorem dX4_change_68 : decode cX4_change 68 = .ok (.if_icmp .ne 14, 3) := by decide +kernel
theorem dX4_change_71 : decode cX4_change 71 = .ok (.aload_n 0, 1) := by decide +kernel
theorem dX4_change_72 : decode cX4_change 72 = .ok (.getfield 15, 3) := by decide +kernel
theorem dX4_change_75 : decode cX4_change 75 = .ok (.lconst 1, 1) := by decide +kernel
theorem dX4_change_76 : decode cX4_change 76 = .ok (.iload_n 2, 1) := by decide +kernel
theorem dX4_change_77 : decode cX4_change 77 = .ok (.lshl, 1) := by decide +kernel
theorem dX4_change_78 : decode cX4_change 78 = .ok (.lor, 1) := by decide +kernel
theorem dX4_change_79 : decode cX4_change 79 = .ok (.goto 15, 3) := by decide +kernel
theorem dX4_change_82 : decode cX4_change 82 = .ok (.aload_n 0, 1) := by decide +kernel
theorem dX4_change_83 : decode cX4_change 83 = .ok (.getfield 15, 3) := by decide +kernel
theorem dX4_change_86 : decode cX4_change 86 = .ok (.lconst 1, 1) := by decide +kernel
theorem dX4_change_87 : decode cX4_change 87 = .ok (.iload_n 2, 1) := by decide +kernel
theorem dX4_change_88 : decode cX4_change 88 = .ok (.lshl, 1) := by decide +kernel
theorem dX4_change_89 : decode cX4_change 89 = .ok (.ldc2_w 60, 3) := by decide +kernel
theorem dX4_change_92 : decode cX4_change 92 = .ok (.lxor, 1) := by decide +kernel
theorem dX4_change_93 : decode cX4_change 93 = .ok (.land, 1) := by decide +kernel
theorem dX4_change_94 : decode cX4_change 94 = .ok (.putfield 15, 3) := by decide +kernel
theorem dX4_change_97 : decode cX4_change 97 = .ok (.goto 53, 3) := by decide +kernel
theorem dX4_change_100 : decode cX4_change 100 = .ok (.aload_n 0, 1) := by decide +kernel
theorem dX4_change_101 : decode cX4_change 101 = .ok (.getfield 26, 3) := by decide +kernel
theorem dX4_change_104 : decode cX4_change 104 = .ok (.iload_n 2, 1) := by decide +kernel
theorem dX4_change_105 : decode cX4_change 105 = .ok (.iload_n 3, 1) := by decide +kernel
theorem dX4_change_106 : decode cX4_change 106 = .ok (.iastore, 1) := by decide +kernel
theorem dX4_change_107 : decode cX4_change 107 = .ok (.goto 43, 3) := by decide +kernel
theorem dX4_change_110 : decode cX4_change 110 = .ok (.aload_n 0, 1) := by decide +kernel
theorem dX4_change_111 : decode cX4_change 111 = .ok (.getfield 36, 3) := by decide +kernel
theorem dX4_change_114 : decode cX4_change 114 = .ok (.iload_n 2, 1) := by decide +kernel
theorem dX4_change_115 : decode cX4_change 115 = .ok (.iload_n 3, 1) := by decide +kernel
theorem dX4_change_116 : decode cX4_change 116 = .ok (.iastore, 1) := by decide +kernel
theorem dX4_change_117 : decode cX4_change 117 = .ok (.goto 33, 3) := by decide +kernel
theorem dX4_change_120 : decode cX4_change 120 = .ok (.aload_n 0, 1) := by decide +kernel
theorem dX4_change_121 : decode cX4_change 121 = .ok (.getfield 39, 3) := by decide +kernel
theorem dX4_change_124 : decode cX4_change 124 = .ok (.iload_n 2, 1) := by decide +kernel
theorem dX4_change_125 : decode cX4_change 125 = .ok (.iload_n 3, 1) := by decide +kernel
theorem dX4_change_126 : decode cX4_change 126 = .ok (.iastore, 1) := by decide +kernel
theorem dX4_change_127 : decode cX4_change 127 = .ok (.goto 23, 3) := by decide +kernel
theorem dX4_change_130 : decode cX4_change 130 = .ok (.aload_n 0, 1) := by decide +kernel
theorem dX4_change_131 : decode cX4_change 131 = .ok (.getfield 42, 3) := by decide +kernel
theorem dX4_change_134 : decode cX4_change 134 = .ok (.iload_n 2, 1) := by decide +kernel
theorem dX4_change_135 : decode cX4_change 135 = .ok (.iload_n 3, 1) := by decide +kernel
theorem dX4_change_136 : decode cX4_change 136 = .ok (.iastore, 1) := by decide +kernel
theorem dX4_change_137 : decode cX4_change 137 = .ok (.goto 13, 3) := by decide +kernel
theorem dX4_change_140 : decode cX4_change 140 = .ok (.aload_n 0, 1) := by decide +kernel
theorem dX4_change_141 : decode cX4_change 141 = .ok (.getfield 45, 3) := by decide +kernel
theorem dX4_change_144 : decode cX4_change 144 = .ok (.iload_n 2, 1) := by decide +kernel
theorem dX4_change_145 : decode cX4_change 145 = .ok (.iload_n 3, 1) := by decide +kernel
theorem dX4_change_146 : decode cX4_change 146 = .ok (.iastore, 1) := by decide +kernel
theorem dX4_change_147 : decode cX4_change 147 = .ok (.goto 3, 3) := by decide +kernel
theorem dX4_change_150 : decode cX4_change 150 = .ok (.return_, 1) := by decide +kernel
theorem dX4_isFilled_0 : decode cX4_isFilled 0 = .ok (.aload_n 0, 1) := by decide +kernel
theorem dX4_isFilled_1 : decode cX4_isFilled 1 = .ok (.getfield 15, 3) := by decide +kernel
theorem dX4_isFilled_4 : decode cX4_isFilled 4 = .ok (.lconst 1, 1) := by decide +kernel
theorem dX4_isFilled_5 : decode cX4_isFilled 5 = .ok (.iload_n 1, 1) := by decide +kernel
theorem dX4_isFilled_6 : decode cX4_isFilled 6 = .ok (.lshl, 1) := by decide +kernel
theorem dX4_isFilled_7 : decode cX4_isFilled 7 = .ok (.land, 1) := by decide +kernel
theorem dX4_isFilled_8 : decode cX4_isFilled 8 = .ok (.lconst 0, 1) := by decide +kernel
theorem dX4_isFilled_9 : decode cX4_isFilled 9 = .ok (.lcmp, 1) := by decide +kernel
theorem dX4_isFilled_10 : decode cX4_isFilled 10 = .ok (.ifCond .eq 7, 3) := by decide +kernel
theorem dX4_isFilled_13 : decode cX4_isFilled 13 = .ok (.iconst 1, 1) := by decide +kernel
theorem dX4_isFilled_14 : decode cX4_isFilled 14 = .ok (.goto 4, 3) := by decide +kernel
theorem dX4_isFilled_17 : decode cX4_isFilled 17 = .ok (.iconst 0, 1) := by decide +kernel
theorem dX4_isFilled_18 : decode cX4_isFilled 18 = .ok (.ireturn, 1) := by decide +kernel
theorem dX4_wantOf_0 : decode cX4_wantOf 0 = .ok (.aload_n 0, 1) := by decide +kernel
theorem dX4_wantOf_1 : decode cX4_wantOf 1 = .ok (.lconst 1, 1) := by decide +kernel
theorem dX4_wantOf_2 : decode cX4_wantOf 2 = .ok (.iload_n 1, 1) := by decide +kernel
theorem dX4_wantOf_3 : decode cX4_wantOf 3 = .ok (.lshl, 1) := by decide +kernel
theorem dX4_wantOf_4 : decode cX4_wantOf 4 = .ok (.invokevirtual 62, 3) := by decide +kernel
theorem dX4_wantOf_7 : decode cX4_wantOf 7 = .ok (.ireturn, 1) := by decide +kernel
theorem dX4_colourOf_0 : decode cX4_colourOf 0 = .ok (.iconst 0, 1) := by decide +kernel
theorem dX4_colourOf_1 : decode cX4_colourOf 1 = .ok (.istore_n 3, 1) := by decide +kernel
theorem dX4_colourOf_2 : decode cX4_colourOf 2 = .ok (.iload_n 3, 1) := by decide +kernel
theorem dX4_colourOf_3 : decode cX4_colourOf 3 = .ok (.iconst 3, 1) := by decide +kernel
theorem dX4_colourOf_4 : decode cX4_colourOf 4 = .ok (.if_icmp .ge 22, 3) := by decide +kernel
theorem dX4_colourOf_7 : decode cX4_colourOf 7 = .ok (.aload_n 0, 1) := by decide +kernel
theorem dX4_colourOf_8 : decode cX4_colourOf 8 = .ok (.getfield 9, 3) := by decide +kernel
theorem dX4_colourOf_11 : decode cX4_colourOf 11 = .ok (.iload_n 3, 1) := by decide +kernel
theorem dX4_colourOf_12 : decode cX4_colourOf 12 = .ok (.laload, 1) := by decide +kernel
theorem dX4_colourOf_13 : decode cX4_colourOf 13 = .ok (.lload_n 1, 1) := by decide +kernel
theorem dX4_colourOf_14 : decode cX4_colourOf 14 = .ok (.land, 1) := by decide +kernel
theorem dX4_colourOf_15 : decode cX4_colourOf 15 = .ok (.lconst 0, 1) := by decide +kernel
theorem dX4_colourOf_16 : decode cX4_colourOf 16 = .ok (.lcmp, 1) := by decide +kernel
theorem dX4_colourOf_17 : decode cX4_colourOf 17 = .ok (.ifCond .ne 9, 3) := by decide +kernel
theorem dX4_colourOf_20 : decode cX4_colourOf 20 = .ok (.iinc 3 1, 3) := by decide +kernel
theorem dX4_colourOf_23 : decode cX4_colourOf 23 = .ok (.goto (-21), 3) := by decide +kernel
theorem dX4_colourOf_26 : decode cX4_colourOf 26 = .ok (.iload_n 3, 1) := by decide +kernel
theorem dX4_colourOf_27 : decode cX4_colourOf 27 = .ok (.ireturn, 1) := by decide +kernel
theorem dX4_wish_0 : decode cX4_wish 0 = .ok (.iconst 0, 1) := by decide +kernel
theorem dX4_wish_1 : decode cX4_wish 1 = .ok (.istore_n 3, 1) := by decide +kernel
theorem dX4_wish_2 : decode cX4_wish 2 = .ok (.iload_n 3, 1) := by decide +kernel
theorem dX4_wish_3 : decode cX4_wish 3 = .ok (.iconst 4, 1) := by decide +kernel
theorem dX4_wish_4 : decode cX4_wish 4 = .ok (.if_icmp .ge 25, 3) := by decide +kernel
theorem dX4_wish_7 : decode cX4_wish 7 = .ok (.aload_n 0, 1) := by decide +kernel
theorem dX4_wish_8 : decode cX4_wish 8 = .ok (.getfield 9, 3) := by decide +kernel
theorem dX4_wish_11 : decode cX4_wish 11 = .ok (.iload_n 3, 1) := by decide +kernel
theorem dX4_wish_12 : decode cX4_wish 12 = .ok (.dup2, 1) := by decide +kernel
theorem dX4_wish_13 : decode cX4_wish 13 = .ok (.laload, 1) := by decide +kernel
theorem dX4_wish_14 : decode cX4_wish 14 = .ok (.lconst 1, 1) := by decide +kernel
theorem dX4_wish_15 : decode cX4_wish 15 = .ok (.iload_n 1, 1) := by decide +kernel
theorem dX4_wish_16 : decode cX4_wish 16 = .ok (.lshl, 1) := by decide +kernel
theorem dX4_wish_17 : decode cX4_wish 17 = .ok (.ldc2_w 60, 3) := by decide +kernel
theorem dX4_wish_20 : decode cX4_wish 20 = .ok (.lxor, 1) := by decide +kernel
theorem dX4_wish_21 : decode cX4_wish 21 = .ok (.land, 1) := by decide +kernel
theorem dX4_wish_22 : decode cX4_wish 22 = .ok (.lastore, 1) := by decide +kernel
theorem dX4_wish_23 : decode cX4_wish 23 = .ok (.iinc 3 1, 3) := by decide +kernel
theorem dX4_wish_26 : decode cX4_wish 26 = .ok (.goto (-24), 3) := by decide +kernel
theorem dX4_wish_29 : decode cX4_wish 29 = .ok (.aload_n 0, 1) := by decide +kernel
theorem dX4_wish_30 : decode cX4_wish 30 = .ok (.getfield 9, 3) := by decide +kernel
theorem dX4_wish_33 : decode cX4_wish 33 = .ok (.iload_n 2, 1) := by decide +kernel
theorem dX4_wish_34 : decode cX4_wish 34 = .ok (.dup2, 1) := by decide +kernel
theorem dX4_wish_35 : decode cX4_wish 35 = .ok (.laload, 1) := by decide +kernel
theorem dX4_wish_36 : decode cX4_wish 36 = .ok (.lconst 1, 1) := by decide +kernel
theorem dX4_wish_37 : decode cX4_wish 37 = .ok (.iload_n 1, 1) := by decide +kernel
theorem dX4_wish_38 : decode cX4_wish 38 = .ok (.lshl, 1) := by decide +kernel
theorem dX4_wish_39 : decode cX4_wish 39 = .ok (.lor, 1) := by decide +kernel
theorem dX4_wish_40 : decode cX4_wish 40 = .ok (.lastore, 1) := by decide +kernel
theorem dX4_wish_41 : decode cX4_wish 41 = .ok (.return_, 1) := by decide +kernel
theorem dX4_filledCells_0 : decode cX4_filledCells 0 = .ok (.aload_n 0, 1) := by decide +kernel
theorem dX4_filledCells_1 : decode cX4_filledCells 1 = .ok (.getfield 15, 3) := by decide +kernel
theorem dX4_filledCells_4 : decode cX4_filledCells 4 = .ok (.invokestatic 66, 3) := by decide +kernel
theorem dX4_filledCells_7 : decode cX4_filledCells 7 = .ok (.ireturn, 1) := by decide +kernel
theorem dX4_squaresInBox_0 : decode cX4_squaresInBox 0 = .ok (.iconst 0, 1) := by decide +kernel
theorem dX4_squaresInBox_1 : decode cX4_squaresInBox 1 = .ok (.istore_n 1, 1) := by decide +kernel
theorem dX4_squaresInBox_2 : decode cX4_squaresInBox 2 = .ok (.iconst 0, 1) := by decide +kernel
theorem dX4_squaresInBox_3 : decode cX4_squaresInBox 3 = .ok (.istore_n 2, 1) := by decide +kernel
theorem dX4_squaresInBox_4 : decode cX4_squaresInBox 4 = .ok (.iload_n 2, 1) := by decide +kernel
theorem dX4_squaresInBox_5 : decode cX4_squaresInBox 5 = .ok (.iconst 4, 1) := by decide +kernel
theorem dX4_squaresInBox_6 : decode cX4_squaresInBox 6 = .ok (.if_icmp .ge 18, 3) := by decide +kernel
theorem dX4_squaresInBox_9 : decode cX4_squaresInBox 9 = .ok (.iload_n 1, 1) := by decide +kernel
theorem dX4_squaresInBox_10 : decode cX4_squaresInBox 10 = .ok (.aload_n 0, 1) := by decide +kernel
theorem dX4_squaresInBox_11 : decode cX4_squaresInBox 11 = .ok (.getfield 26, 3) := by decide +kernel
theorem dX4_squaresInBox_14 : decode cX4_squaresInBox 14 = .ok (.iload_n 2, 1) := by decide +kernel
theorem dX4_squaresInBox_15 : decode cX4_squaresInBox 15 = .ok (.iaload, 1) := by decide +kernel
theorem dX4_squaresInBox_16 : decode cX4_squaresInBox 16 = .ok (.iadd, 1) := by decide +kernel
theorem dX4_squaresInBox_17 : decode cX4_squaresInBox 17 = .ok (.istore_n 1, 1) := by decide +kernel
theorem dX4_squaresInBox_18 : decode cX4_squaresInBox 18 = .ok (.iinc 2 1, 3) := by decide +kernel
theorem dX4_squaresInBox_21 : decode cX4_squaresInBox 21 = .ok (.goto (-17), 3) := by decide +kernel
theorem dX4_squaresInBox_24 : decode cX4_squaresInBox 24 = .ok (.iload_n 1, 1) := by decide +kernel
theorem dX4_squaresInBox_25 : decode cX4_squaresInBox 25 = .ok (.ireturn, 1) := by decide +kernel
theorem dX4_squaresGiven_0 : decode cX4_squaresGiven 0 = .ok (.iconst 0, 1) := by decide +kernel
theorem dX4_squaresGiven_1 : decode cX4_squaresGiven 1 = .ok (.istore_n 1, 1) := by decide +kernel
theorem dX4_squaresGiven_2 : decode cX4_squaresGiven 2 = .ok (.iconst 0, 1) := by decide +kernel
theorem dX4_squaresGiven_3 : decode cX4_squaresGiven 3 = .ok (.istore_n 2, 1) := by decide +kernel
theorem dX4_squaresGiven_4 : decode cX4_squaresGiven 4 = .ok (.iload_n 2, 1) := by decide +kernel
