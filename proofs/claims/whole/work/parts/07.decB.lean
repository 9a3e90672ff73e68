theorem dX4_squaresGiven_5 : decode cX4_squaresGiven 5 = .ok (.aload_n 0, 1) := by decide +kernel
theorem dX4_squaresGiven_6 : decode cX4_squaresGiven 6 = .ok (.getfield 30, 3) := by decide +kernel
theorem dX4_squaresGiven_9 : decode cX4_squaresGiven 9 = .ok (.if_icmp .ge 18, 3) := by decide +kernel
theorem dX4_squaresGiven_12 : decode cX4_squaresGiven 12 = .ok (.iload_n 1, 1) := by decide +kernel
theorem dX4_squaresGiven_13 : decode cX4_squaresGiven 13 = .ok (.aload_n 0, 1) := by decide +kernel
theorem dX4_squaresGiven_14 : decode cX4_squaresGiven 14 = .ok (.getfield 45, 3) := by decide +kernel
theorem dX4_squaresGiven_17 : decode cX4_squaresGiven 17 = .ok (.iload_n 2, 1) := by decide +kernel
theorem dX4_squaresGiven_18 : decode cX4_squaresGiven 18 = .ok (.iaload, 1) := by decide +kernel
theorem dX4_squaresGiven_19 : decode cX4_squaresGiven 19 = .ok (.iadd, 1) := by decide +kernel
theorem dX4_squaresGiven_20 : decode cX4_squaresGiven 20 = .ok (.istore_n 1, 1) := by decide +kernel
theorem dX4_squaresGiven_21 : decode cX4_squaresGiven 21 = .ok (.iinc 2 1, 3) := by decide +kernel
theorem dX4_squaresGiven_24 : decode cX4_squaresGiven 24 = .ok (.goto (-20), 3) := by decide +kernel
theorem dX4_squaresGiven_27 : decode cX4_squaresGiven 27 = .ok (.iload_n 1, 1) := by decide +kernel
theorem dX4_squaresGiven_28 : decode cX4_squaresGiven 28 = .ok (.ireturn, 1) := by decide +kernel
theorem dX4_colourOfFirstEmpty_0 : decode cX4_colourOfFirstEmpty 0 = .ok (.aload_n 0, 1) := by decide +kernel
theorem dX4_colourOfFirstEmpty_1 : decode cX4_colourOfFirstEmpty 1 = .ok (.getfield 15, 3) := by decide +kernel
theorem dX4_colourOfFirstEmpty_4 : decode cX4_colourOfFirstEmpty 4 = .ok (.ldc2_w 60, 3) := by decide +kernel
theorem dX4_colourOfFirstEmpty_7 : decode cX4_colourOfFirstEmpty 7 = .ok (.lxor, 1) := by decide +kernel
theorem dX4_colourOfFirstEmpty_8 : decode cX4_colourOfFirstEmpty 8 = .ok (.lstore_n 1, 1) := by decide +kernel
theorem dX4_colourOfFirstEmpty_9 : decode cX4_colourOfFirstEmpty 9 = .ok (.aload_n 0, 1) := by decide +kernel
theorem dX4_colourOfFirstEmpty_10 : decode cX4_colourOfFirstEmpty 10 = .ok (.lload_n 1, 1) := by decide +kernel
theorem dX4_colourOfFirstEmpty_11 : decode cX4_colourOfFirstEmpty 11 = .ok (.lload_n 1, 1) := by decide +kernel
theorem dX4_colourOfFirstEmpty_12 : decode cX4_colourOfFirstEmpty 12 = .ok (.lneg, 1) := by decide +kernel
theorem dX4_colourOfFirstEmpty_13 : decode cX4_colourOfFirstEmpty 13 = .ok (.land, 1) := by decide +kernel
theorem dX4_colourOfFirstEmpty_14 : decode cX4_colourOfFirstEmpty 14 = .ok (.invokevirtual 62, 3) := by decide +kernel
theorem dX4_colourOfFirstEmpty_17 : decode cX4_colourOfFirstEmpty 17 = .ok (.ireturn, 1) := by decide +kernel
theorem dX4_lay_0 : decode cX4_lay 0 = .ok (.aload_n 0, 1) := by decide +kernel
theorem dX4_lay_1 : decode cX4_lay 1 = .ok (.getfield 9, 3) := by decide +kernel
theorem dX4_lay_4 : decode cX4_lay 4 = .ok (.iload_n 1, 1) := by decide +kernel
theorem dX4_lay_5 : decode cX4_lay 5 = .ok (.laload, 1) := by decide +kernel
theorem dX4_lay_6 : decode cX4_lay 6 = .ok (.aload_n 0, 1) := by decide +kernel
theorem dX4_lay_7 : decode cX4_lay 7 = .ok (.getfield 15, 3) := by decide +kernel
theorem dX4_lay_10 : decode cX4_lay 10 = .ok (.ldc2_w 60, 3) := by decide +kernel
theorem dX4_lay_13 : decode cX4_lay 13 = .ok (.lxor, 1) := by decide +kernel
theorem dX4_lay_14 : decode cX4_lay 14 = .ok (.land, 1) := by decide +kernel
theorem dX4_lay_15 : decode cX4_lay 15 = .ok (.lstore_n 2, 1) := by decide +kernel
theorem dX4_lay_16 : decode cX4_lay 16 = .ok (.lload_n 2, 1) := by decide +kernel
theorem dX4_lay_17 : decode cX4_lay 17 = .ok (.lconst 0, 1) := by decide +kernel
theorem dX4_lay_18 : decode cX4_lay 18 = .ok (.lcmp, 1) := by decide +kernel
theorem dX4_lay_19 : decode cX4_lay 19 = .ok (.ifCond .eq 19, 3) := by decide +kernel
theorem dX4_lay_22 : decode cX4_lay 22 = .ok (.aload_n 0, 1) := by decide +kernel
theorem dX4_lay_23 : decode cX4_lay 23 = .ok (.dup, 1) := by decide +kernel
theorem dX4_lay_24 : decode cX4_lay 24 = .ok (.getfield 15, 3) := by decide +kernel
theorem dX4_lay_27 : decode cX4_lay 27 = .ok (.lload_n 2, 1) := by decide +kernel
theorem dX4_lay_28 : decode cX4_lay 28 = .ok (.lload_n 2, 1) := by decide +kernel
theorem dX4_lay_29 : decode cX4_lay 29 = .ok (.lneg, 1) := by decide +kernel
theorem dX4_lay_30 : decode cX4_lay 30 = .ok (.land, 1) := by decide +kernel
theorem dX4_lay_31 : decode cX4_lay 31 = .ok (.lor, 1) := by decide +kernel
theorem dX4_lay_32 : decode cX4_lay 32 = .ok (.putfield 15, 3) := by decide +kernel
theorem dX4_lay_35 : decode cX4_lay 35 = .ok (.goto 24, 3) := by decide +kernel
theorem dX4_lay_38 : decode cX4_lay 38 = .ok (.aload_n 0, 1) := by decide +kernel
theorem dX4_lay_39 : decode cX4_lay 39 = .ok (.getfield 26, 3) := by decide +kernel
theorem dX4_lay_42 : decode cX4_lay 42 = .ok (.iload_n 1, 1) := by decide +kernel
theorem dX4_lay_43 : decode cX4_lay 43 = .ok (.iaload, 1) := by decide +kernel
theorem dX4_lay_44 : decode cX4_lay 44 = .ok (.bipush 99, 2) := by decide +kernel
theorem dX4_lay_46 : decode cX4_lay 46 = .ok (.if_icmp .ge 13, 3) := by decide +kernel
theorem dX4_lay_49 : decode cX4_lay 49 = .ok (.aload_n 0, 1) := by decide +kernel
theorem dX4_lay_50 : decode cX4_lay 50 = .ok (.getfield 26, 3) := by decide +kernel
theorem dX4_lay_53 : decode cX4_lay 53 = .ok (.iload_n 1, 1) := by decide +kernel
theorem dX4_lay_54 : decode cX4_lay 54 = .ok (.dup2, 1) := by decide +kernel
theorem dX4_lay_55 : decode cX4_lay 55 = .ok (.iaload, 1) := by decide +kernel
theorem dX4_lay_56 : decode cX4_lay 56 = .ok (.iconst 1, 1) := by decide +kernel
theorem dX4_lay_57 : decode cX4_lay 57 = .ok (.iadd, 1) := by decide +kernel
theorem dX4_lay_58 : decode cX4_lay 58 = .ok (.iastore, 1) := by decide +kernel
theorem dX4_lay_59 : decode cX4_lay 59 = .ok (.return_, 1) := by decide +kernel
theorem dX4_longestGap_0 : decode cX4_longestGap 0 = .ok (.iconst (-1), 1) := by decide +kernel
theorem dX4_longestGap_1 : decode cX4_longestGap 1 = .ok (.istore_n 2, 1) := by decide +kernel
theorem dX4_longestGap_2 : decode cX4_longestGap 2 = .ok (.iconst 0, 1) := by decide +kernel
theorem dX4_longestGap_3 : decode cX4_longestGap 3 = .ok (.istore_n 3, 1) := by decide +kernel
theorem dX4_longestGap_4 : decode cX4_longestGap 4 = .ok (.iconst 0, 1) := by decide +kernel
theorem dX4_longestGap_5 : decode cX4_longestGap 5 = .ok (.istore 4, 2) := by decide +kernel
theorem dX4_longestGap_7 : decode cX4_longestGap 7 = .ok (.iconst 0, 1) := by decide +kernel
theorem dX4_longestGap_8 : decode cX4_longestGap 8 = .ok (.istore 5, 2) := by decide +kernel
theorem dX4_longestGap_10 : decode cX4_longestGap 10 = .ok (.iload 5, 2) := by decide +kernel
theorem dX4_longestGap_12 : decode cX4_longestGap 12 = .ok (.bipush 64, 2) := by decide +kernel
theorem dX4_longestGap_14 : decode cX4_longestGap 14 = .ok (.if_icmp .ge 45, 3) := by decide +kernel
theorem dX4_longestGap_17 : decode cX4_longestGap 17 = .ok (.aload_n 0, 1) := by decide +kernel
theorem dX4_longestGap_18 : decode cX4_longestGap 18 = .ok (.iload 5, 2) := by decide +kernel
theorem dX4_longestGap_20 : decode cX4_longestGap 20 = .ok (.invokevirtual 52, 3) := by decide +kernel
theorem dX4_longestGap_23 : decode cX4_longestGap 23 = .ok (.ifCond .eq 7, 3) := by decide +kernel
theorem dX4_longestGap_26 : decode cX4_longestGap 26 = .ok (.iconst 0, 1) := by decide +kernel
theorem dX4_longestGap_27 : decode cX4_longestGap 27 = .ok (.goto 7, 3) := by decide +kernel
theorem dX4_longestGap_30 : decode cX4_longestGap 30 = .ok (.iload 4, 2) := by decide +kernel
theorem dX4_longestGap_32 : decode cX4_longestGap 32 = .ok (.iconst 1, 1) := by decide +kernel
theorem dX4_longestGap_33 : decode cX4_longestGap 33 = .ok (.iadd, 1) := by decide +kernel
theorem dX4_longestGap_34 : decode cX4_longestGap 34 = .ok (.istore 4, 2) := by decide +kernel
theorem dX4_longestGap_36 : decode cX4_longestGap 36 = .ok (.iload 4, 2) := by decide +kernel
theorem dX4_longestGap_38 : decode cX4_longestGap 38 = .ok (.iload_n 3, 1) := by decide +kernel
theorem dX4_longestGap_39 : decode cX4_longestGap 39 = .ok (.if_icmp .le 14, 3) := by decide +kernel
theorem dX4_longestGap_42 : decode cX4_longestGap 42 = .ok (.iload 4, 2) := by decide +kernel
theorem dX4_longestGap_44 : decode cX4_longestGap 44 = .ok (.istore_n 3, 1) := by decide +kernel
theorem dX4_longestGap_45 : decode cX4_longestGap 45 = .ok (.iload 5, 2) := by decide +kernel
theorem dX4_longestGap_47 : decode cX4_longestGap 47 = .ok (.iload 4, 2) := by decide +kernel
theorem dX4_longestGap_49 : decode cX4_longestGap 49 = .ok (.isub, 1) := by decide +kernel
theorem dX4_longestGap_50 : decode cX4_longestGap 50 = .ok (.iconst 1, 1) := by decide +kernel
theorem dX4_longestGap_51 : decode cX4_longestGap 51 = .ok (.iadd, 1) := by decide +kernel
theorem dX4_longestGap_52 : decode cX4_longestGap 52 = .ok (.istore_n 2, 1) := by decide +kernel
theorem dX4_longestGap_53 : decode cX4_longestGap 53 = .ok (.iinc 5 1, 3) := by decide +kernel
theorem dX4_longestGap_56 : decode cX4_longestGap 56 = .ok (.goto (-46), 3) := by decide +kernel
theorem dX4_longestGap_59 : decode cX4_longestGap 59 = .ok (.iload_n 1, 1) := by decide +kernel
theorem dX4_longestGap_60 : decode cX4_longestGap 60 = .ok (.ifCond .eq 7, 3) := by decide +kernel
theorem dX4_longestGap_63 : decode cX4_longestGap 63 = .ok (.iload_n 2, 1) := by decide +kernel
theorem dX4_longestGap_64 : decode cX4_longestGap 64 = .ok (.goto 4, 3) := by decide +kernel
theorem dX4_longestGap_67 : decode cX4_longestGap 67 = .ok (.iload_n 3, 1) := by decide +kernel
theorem dX4_longestGap_68 : decode cX4_longestGap 68 = .ok (.ireturn, 1) := by decide +kernel
theorem dX4_fillableFromBox_0 : decode cX4_fillableFromBox 0 = .ok (.iconst 0, 1) := by decide +kernel
theorem dX4_fillableFromBox_1 : decode cX4_fillableFromBox 1 = .ok (.istore_n 1, 1) := by decide +kernel
theorem dX4_fillableFromBox_2 : decode cX4_fillableFromBox 2 = .ok (.iconst 0, 1) := by decide +kernel
theorem dX4_fillableFromBox_3 : decode cX4_fillableFromBox 3 = .ok (.istore_n 2, 1) := by decide +kernel
theorem dX4_fillableFromBox_4 : decode cX4_fillableFromBox 4 = .ok (.iload_n 2, 1) := by decide +kernel
theorem dX4_fillableFromBox_5 : decode cX4_fillableFromBox 5 = .ok (.iconst 4, 1) := by decide +kernel
theorem dX4_fillableFromBox_6 : decode cX4_fillableFromBox 6 = .ok (.if_icmp .ge 39, 3) := by decide +kernel
theorem dX4_fillableFromBox_9 : decode cX4_fillableFromBox 9 = .ok (.iload_n 1, 1) := by decide +kernel
theorem dX4_fillableFromBox_10 : decode cX4_fillableFromBox 10 = .ok (.aload_n 0, 1) := by decide +kernel
theorem dX4_fillableFromBox_11 : decode cX4_fillableFromBox 11 = .ok (.getfield 26, 3) := by decide +kernel
theorem dX4_fillableFromBox_14 : decode cX4_fillableFromBox 14 = .ok (.iload_n 2, 1) := by decide +kernel
theorem dX4_fillableFromBox_15 : decode cX4_fillableFromBox 15 = .ok (.iaload, 1) := by decide +kernel
theorem dX4_fillableFromBox_16 : decode cX4_fillableFromBox 16 = .ok (.aload_n 0, 1) := by decide +kernel
theorem dX4_fillableFromBox_17 : decode cX4_fillableFromBox 17 = .ok (.getfield 9, 3) := by decide +kernel
theorem dX4_fillableFromBox_20 : decode cX4_fillableFromBox 20 = .ok (.iload_n 2, 1) := by decide +kernel
theorem dX4_fillableFromBox_21 : decode cX4_fillableFromBox 21 = .ok (.laload, 1) := by decide +kernel
theorem dX4_fillableFromBox_22 : decode cX4_fillableFromBox 22 = .ok (.aload_n 0, 1) := by decide +kernel
theorem dX4_fillableFromBox_23 : decode cX4_fillableFromBox 23 = .ok (.getfield 15, 3) := by decide +kernel
theorem dX4_fillableFromBox_26 : decode cX4_fillableFromBox 26 = .ok (.ldc2_w 60, 3) := by decide +kernel
theorem dX4_fillableFromBox_29 : decode cX4_fillableFromBox 29 = .ok (.lxor, 1) := by decide +kernel
theorem dX4_fillableFromBox_30 : decode cX4_fillableFromBox 30 = .ok (.land, 1) := by decide +kernel
theorem dX4_fillableFromBox_31 : decode cX4_fillableFromBox 31 = .ok (.invokestatic 66, 3) := by decide +kernel
theorem dX4_fillableFromBox_34 : decode cX4_fillableFromBox 34 = .ok (.invokestatic 71, 3) := by decide +kernel
theorem dX4_fillableFromBox_37 : decode cX4_fillableFromBox 37 = .ok (.iadd, 1) := by decide +kernel
theorem dX4_fillableFromBox_38 : decode cX4_fillableFromBox 38 = .ok (.istore_n 1, 1) := by decide +kernel
theorem dX4_fillableFromBox_39 : decode cX4_fillableFromBox 39 = .ok (.iinc 2 1, 3) := by decide +kernel
theorem dX4_fillableFromBox_42 : decode cX4_fillableFromBox 42 = .ok (.goto (-38), 3) := by decide +kernel
theorem dX4_fillableFromBox_45 : decode cX4_fillableFromBox 45 = .ok (.iload_n 1, 1) := by decide +kernel
theorem dX4_fillableFromBox_46 : decode cX4_fillableFromBox 46 = .ok (.ireturn, 1) := by decide +kernel
theorem dX4_coloursUnwanted_0 : decode cX4_coloursUnwanted 0 = .ok (.iconst 0, 1) := by decide +kernel
theorem dX4_coloursUnwanted_1 : decode cX4_coloursUnwanted 1 = .ok (.istore_n 1, 1) := by decide +kernel
theorem dX4_coloursUnwanted_2 : decode cX4_coloursUnwanted 2 = .ok (.iconst 0, 1) := by decide +kernel
theorem dX4_coloursUnwanted_3 : decode cX4_coloursUnwanted 3 = .ok (.istore_n 2, 1) := by decide +kernel
theorem dX4_coloursUnwanted_4 : decode cX4_coloursUnwanted 4 = .ok (.iload_n 2, 1) := by decide +kernel
theorem dX4_coloursUnwanted_5 : decode cX4_coloursUnwanted 5 = .ok (.iconst 4, 1) := by decide +kernel
theorem dX4_coloursUnwanted_6 : decode cX4_coloursUnwanted 6 = .ok (.if_icmp .ge 35, 3) := by decide +kernel
theorem dX4_coloursUnwanted_9 : decode cX4_coloursUnwanted 9 = .ok (.aload_n 0, 1) := by decide +kernel
theorem dX4_coloursUnwanted_10 : decode cX4_coloursUnwanted 10 = .ok (.getfield 9, 3) := by decide +kernel
theorem dX4_coloursUnwanted_13 : decode cX4_coloursUnwanted 13 = .ok (.iload_n 2, 1) := by decide +kernel
theorem dX4_coloursUnwanted_14 : decode cX4_coloursUnwanted 14 = .ok (.laload, 1) := by decide +kernel
theorem dX4_coloursUnwanted_15 : decode cX4_coloursUnwanted 15 = .ok (.aload_n 0, 1) := by decide +kernel
theorem dX4_coloursUnwanted_16 : decode cX4_coloursUnwanted 16 = .ok (.getfield 15, 3) := by decide +kernel
theorem dX4_coloursUnwanted_19 : decode cX4_coloursUnwanted 19 = .ok (.ldc2_w 60, 3) := by decide +kernel
theorem dX4_coloursUnwanted_22 : decode cX4_coloursUnwanted 22 = .ok (.lxor, 1) := by decide +kernel
theorem dX4_coloursUnwanted_23 : decode cX4_coloursUnwanted 23 = .ok (.land, 1) := by decide +kernel
theorem dX4_coloursUnwanted_24 : decode cX4_coloursUnwanted 24 = .ok (.lconst 0, 1) := by decide +kernel
theorem dX4_coloursUnwanted_25 : decode cX4_coloursUnwanted 25 = .ok (.lcmp, 1) := by decide +kernel
theorem dX4_coloursUnwanted_26 : decode cX4_coloursUnwanted 26 = .ok (.ifCond .ne 9, 3) := by decide +kernel
theorem dX4_coloursUnwanted_29 : decode cX4_coloursUnwanted 29 = .ok (.iload_n 1, 1) := by decide +kernel
theorem dX4_coloursUnwanted_30 : decode cX4_coloursUnwanted 30 = .ok (.iconst 1, 1) := by decide +kernel
theorem dX4_coloursUnwanted_31 : decode cX4_coloursUnwanted 31 = .ok (.iload_n 2, 1) := by decide +kernel
theorem dX4_coloursUnwanted_32 : decode cX4_coloursUnwanted 32 = .ok (.ishl, 1) := by decide +kernel
theorem dX4_coloursUnwanted_33 : decode cX4_coloursUnwanted 33 = .ok (.ior, 1) := by decide +kernel
theorem dX4_coloursUnwanted_34 : decode cX4_coloursUnwanted 34 = .ok (.istore_n 1, 1) := by decide +kernel
theorem dX4_coloursUnwanted_35 : decode cX4_coloursUnwanted 35 = .ok (.iinc 2 1, 3) := by decide +kernel
theorem dX4_coloursUnwanted_38 : decode cX4_coloursUnwanted 38 = .ok (.goto (-34), 3) := by decide +kernel
theorem dX4_coloursUnwanted_41 : decode cX4_coloursUnwanted 41 = .ok (.iload_n 1, 1) := by decide +kernel
theorem dX4_coloursUnwanted_42 : decode cX4_coloursUnwanted 42 = .ok (.ireturn, 1) := by decide +kernel
theorem dX5_init_0 : decode cX5_init 0 = .ok (.aload_n 0, 1) := by decide +kernel
theorem dX5_init_1 : decode cX5_init 1 = .ok (.invokespecial 1, 3) := by decide +kernel
theorem dX5_init_4 : decode cX5_init 4 = .ok (.aload_n 0, 1) := by decide +kernel
theorem dX5_init_5 : decode cX5_init 5 = .ok (.new 7, 3) := by decide +kernel
theorem dX5_init_8 : decode cX5_init 8 = .ok (.dup, 1) := by decide +kernel
theorem dX5_init_9 : decode cX5_init 9 = .ok (.invokespecial 9, 3) := by decide +kernel
theorem dX5_init_12 : decode cX5_init 12 = .ok (.putfield 10, 3) := by decide +kernel
theorem dX5_init_15 : decode cX5_init 15 = .ok (.aload_n 0, 1) := by decide +kernel
theorem dX5_init_16 : decode cX5_init 16 = .ok (.new 7, 3) := by decide +kernel
theorem dX5_init_19 : decode cX5_init 19 = .ok (.dup, 1) := by decide +kernel
theorem dX5_init_20 : decode cX5_init 20 = .ok (.invokespecial 9, 3) := by decide +kernel
theorem dX5_init_23 : decode cX5_init 23 = .ok (.putfield 16, 3) := by decide +kernel
theorem dX5_init_26 : decode cX5_init 26 = .ok (.aload_n 0, 1) := by decide +kernel
theorem dX5_init_27 : decode cX5_init 27 = .ok (.new 7, 3) := by decide +kernel
theorem dX5_init_30 : decode cX5_init 30 = .ok (.dup, 1) := by decide +kernel
theorem dX5_init_31 : decode cX5_init 31 = .ok (.invokespecial 9, 3) := by decide +kernel
theorem dX5_init_34 : decode cX5_init 34 = .ok (.putfield 19, 3) := by decide +kernel
theorem dX5_init_37 : decode cX5_init 37 = .ok (.aload_n 0, 1) := by decide +kernel
theorem dX5_init_38 : decode cX5_init 38 = .ok (.iconst 0, 1) := by decide +kernel
theorem dX5_init_39 : decode cX5_init 39 = .ok (.putfield 22, 3) := by decide +kernel
theorem dX5_init_42 : decode cX5_init 42 = .ok (.aload_n 0, 1) := by decide +kernel
theorem dX5_init_43 : decode cX5_init 43 = .ok (.new 26, 3) := by decide +kernel
theorem dX5_init_46 : decode cX5_init 46 = .ok (.dup, 1) := by decide +kernel
theorem dX5_init_47 : decode cX5_init 47 = .ok (.invokespecial 28, 3) := by decide +kernel
theorem dX5_init_50 : decode cX5_init 50 = .ok (.putfield 29, 3) := by decide +kernel
theorem dX5_init_53 : decode cX5_init 53 = .ok (.aload_n 0, 1) := by decide +kernel
theorem dX5_init_54 : decode cX5_init 54 = .ok (.new 33, 3) := by decide +kernel
theorem dX5_init_57 : decode cX5_init 57 = .ok (.dup, 1) := by decide +kernel
theorem dX5_init_58 : decode cX5_init 58 = .ok (.invokespecial 35, 3) := by decide +kernel
theorem dX5_init_61 : decode cX5_init 61 = .ok (.putfield 36, 3) := by decide +kernel
theorem dX5_init_64 : decode cX5_init 64 = .ok (.aload_n 0, 1) := by decide +kernel
theorem dX5_init_65 : decode cX5_init 65 = .ok (.iconst 4, 1) := by decide +kernel
theorem dX5_init_66 : decode cX5_init 66 = .ok (.anewarray 40, 3) := by decide +kernel
theorem dX5_init_69 : decode cX5_init 69 = .ok (.putfield 42, 3) := by decide +kernel
theorem dX5_init_72 : decode cX5_init 72 = .ok (.iconst 0, 1) := by decide +kernel
theorem dX5_init_73 : decode cX5_init 73 = .ok (.istore_n 1, 1) := by decide +kernel
theorem dX5_init_74 : decode cX5_init 74 = .ok (.iload_n 1, 1) := by decide +kernel
theorem dX5_init_75 : decode cX5_init 75 = .ok (.iconst 4, 1) := by decide +kernel
theorem dX5_init_76 : decode cX5_init 76 = .ok (.if_icmp .ge 22, 3) := by decide +kernel
theorem dX5_init_79 : decode cX5_init 79 = .ok (.aload_n 0, 1) := by decide +kernel
theorem dX5_init_80 : decode cX5_init 80 = .ok (.getfield 42, 3) := by decide +kernel
theorem dX5_init_83 : decode cX5_init 83 = .ok (.iload_n 1, 1) := by decide +kernel
theorem dX5_init_84 : decode cX5_init 84 = .ok (.new 40, 3) := by decide +kernel
theorem dX5_init_87 : decode cX5_init 87 = .ok (.dup, 1) := by decide +kernel
theorem dX5_init_88 : decode cX5_init 88 = .ok (.invokespecial 46, 3) := by decide +kernel
theorem dX5_init_91 : decode cX5_init 91 = .ok (.aastore, 1) := by decide +kernel
theorem dX5_init_92 : decode cX5_init 92 = .ok (.iinc 1 1, 3) := by decide +kernel
theorem dX5_init_95 : decode cX5_init 95 = .ok (.goto (-21), 3) := by decide +kernel
theorem dX5_init_98 : decode cX5_init 98 = .ok (.iconst 0, 1) := by decide +kernel
theorem dX5_init_99 : decode cX5_init 99 = .ok (.istore_n 1, 1) := by decide +kernel
theorem dX5_init_100 : decode cX5_init 100 = .ok (.iload_n 1, 1) := by decide +kernel
theorem dX5_init_101 : decode cX5_init 101 = .ok (.ldc 47, 2) := by decide +kernel
theorem dX5_init_103 : decode cX5_init 103 = .ok (.invokevirtual 49, 3) := by decide +kernel
theorem dX5_init_106 : decode cX5_init 106 = .ok (.if_icmp .ge 23, 3) := by decide +kernel
theorem dX5_init_109 : decode cX5_init 109 = .ok (.aload_n 0, 1) := by decide +kernel
theorem dX5_init_110 : decode cX5_init 110 = .ok (.getfield 36, 3) := by decide +kernel
theorem dX5_init_113 : decode cX5_init 113 = .ok (.ldc 47, 2) := by decide +kernel
theorem dX5_init_115 : decode cX5_init 115 = .ok (.iload_n 1, 1) := by decide +kernel
theorem dX5_init_116 : decode cX5_init 116 = .ok (.invokevirtual 55, 3) := by decide +kernel
theorem dX5_init_119 : decode cX5_init 119 = .ok (.invokevirtual 59, 3) := by decide +kernel
theorem dX5_init_122 : decode cX5_init 122 = .ok (.pop, 1) := by decide +kernel
theorem dX5_init_123 : decode cX5_init 123 = .ok (.iinc 1 1, 3) := by decide +kernel
theorem dX5_init_126 : decode cX5_init 126 = .ok (.goto (-26), 3) := by decide +kernel
theorem dX5_init_129 : decode cX5_init 129 = .ok (.aload_n 0, 1) := by decide +kernel
theorem dX5_init_130 : decode cX5_init 130 = .ok (.getfield 36, 3) := by decide +kernel
theorem dX5_init_133 : decode cX5_init 133 = .ok (.aload_n 0, 1) := by decide +kernel
theorem dX5_init_134 : decode cX5_init 134 = .ok (.getfield 29, 3) := by decide +kernel
theorem dX5_init_137 : decode cX5_init 137 = .ok (.getfield 63, 3) := by decide +kernel
theorem dX5_init_140 : decode cX5_init 140 = .ok (.iconst 0, 1) := by decide +kernel
theorem dX5_init_141 : decode cX5_init 141 = .ok (.aaload, 1) := by decide +kernel
theorem dX5_init_142 : decode cX5_init 142 = .ok (.invokevirtual 67, 3) := by decide +kernel
theorem dX5_init_145 : decode cX5_init 145 = .ok (.pop, 1) := by decide +kernel
theorem dX5_init_146 : decode cX5_init 146 = .ok (.aload_n 0, 1) := by decide +kernel
theorem dX5_init_147 : decode cX5_init 147 = .ok (.getfield 36, 3) := by decide +kernel
theorem dX5_init_150 : decode cX5_init 150 = .ok (.invokevirtual 71, 3) := by decide +kernel
theorem dX5_init_153 : decode cX5_init 153 = .ok (.aload_n 0, 1) := by decide +kernel
theorem dX5_init_154 : decode cX5_init 154 = .ok (.getfield 29, 3) := by decide +kernel
theorem dX5_init_157 : decode cX5_init 157 = .ok (.iconst 1, 1) := by decide +kernel
theorem dX5_init_158 : decode cX5_init 158 = .ok (.putfield 74, 3) := by decide +kernel
theorem dX5_init_161 : decode cX5_init 161 = .ok (.return_, 1) := by decide +kernel
theorem dX5_set_0 : decode cX5_set 0 = .ok (.iload_n 1, 1) := by decide +kernel
theorem dX5_set_1 : decode cX5_set 1 = .ok (.ifCond .lt 31, 3) := by decide +kernel
theorem dX5_set_4 : decode cX5_set 4 = .ok (.iload_n 1, 1) := by decide +kernel
theorem dX5_set_5 : decode cX5_set 5 = .ok (.bipush 7, 2) := by decide +kernel
theorem dX5_set_7 : decode cX5_set 7 = .ok (.if_icmp .gt 25, 3) := by decide +kernel
theorem dX5_set_10 : decode cX5_set 10 = .ok (.aload_n 0, 1) := by decide +kernel
theorem dX5_set_11 : decode cX5_set 11 = .ok (.iload_n 1, 1) := by decide +kernel
theorem dX5_set_12 : decode cX5_set 12 = .ok (.iload_n 2, 1) := by decide +kernel
theorem dX5_set_13 : decode cX5_set 13 = .ok (.invokevirtual 78, 3) := by decide +kernel
theorem dX5_set_16 : decode cX5_set 16 = .ok (.ifCond .eq 16, 3) := by decide +kernel
theorem dX5_set_19 : decode cX5_set 19 = .ok (.iload_n 3, 1) := by decide +kernel
theorem dX5_set_20 : decode cX5_set 20 = .ok (.ifCond .lt 12, 3) := by decide +kernel
theorem dX5_set_23 : decode cX5_set 23 = .ok (.iload_n 3, 1) := by decide +kernel
theorem dX5_set_24 : decode cX5_set 24 = .ok (.getstatic 82, 3) := by decide +kernel
theorem dX5_set_27 : decode cX5_set 27 = .ok (.iload_n 1, 1) := by decide +kernel
theorem dX5_set_28 : decode cX5_set 28 = .ok (.iaload, 1) := by decide +kernel
theorem dX5_set_29 : decode cX5_set 29 = .ok (.if_icmp .le 6, 3) := by decide +kernel
theorem dX5_set_32 : decode cX5_set 32 = .ok (.bipush (-2), 2) := by decide +kernel
theorem dX5_set_34 : decode cX5_set 34 = .ok (.ireturn, 1) := by decide +kernel
theorem dX5_set_35 : decode cX5_set 35 = .ok (.aload_n 0, 1) := by decide +kernel
theorem dX5_set_36 : decode cX5_set 36 = .ok (.getfield 10, 3) := by decide +kernel
theorem dX5_set_39 : decode cX5_set 39 = .ok (.iload_n 1, 1) := by decide +kernel
theorem dX5_set_40 : decode cX5_set 40 = .ok (.iload_n 2, 1) := by decide +kernel
theorem dX5_set_41 : decode cX5_set 41 = .ok (.invokevirtual 86, 3) := by decide +kernel
theorem dX5_set_44 : decode cX5_set 44 = .ok (.istore 4, 2) := by decide +kernel
theorem dX5_set_46 : decode cX5_set 46 = .ok (.aload_n 0, 1) := by decide +kernel
theorem dX5_set_47 : decode cX5_set 47 = .ok (.getfield 10, 3) := by decide +kernel
theorem dX5_set_50 : decode cX5_set 50 = .ok (.iload_n 1, 1) := by decide +kernel
theorem dX5_set_51 : decode cX5_set 51 = .ok (.iload_n 2, 1) := by decide +kernel
theorem dX5_set_52 : decode cX5_set 52 = .ok (.iload_n 3, 1) := by decide +kernel
theorem dX5_set_53 : decode cX5_set 53 = .ok (.invokevirtual 90, 3) := by decide +kernel
theorem dX5_set_56 : decode cX5_set 56 = .ok (.iload 4, 2) := by decide +kernel
theorem dX5_set_58 : decode cX5_set 58 = .ok (.ireturn, 1) := by decide +kernel
theorem dX5_person_0 : decode cX5_person 0 = .ok (.iload_n 1, 1) := by decide +kernel
theorem dX5_person_1 : decode cX5_person 1 = .ok (.bipush 6, 2) := by decide +kernel
theorem dX5_person_3 : decode cX5_person 3 = .ok (.invokestatic 94, 3) := by decide +kernel
theorem dX5_person_6 : decode cX5_person 6 = .ok (.ifCond .eq 20, 3) := by decide +kernel
theorem dX5_person_9 : decode cX5_person 9 = .ok (.iload_n 2, 1) := by decide +kernel
theorem dX5_person_10 : decode cX5_person 10 = .ok (.bipush 10, 2) := by decide +kernel
theorem dX5_person_12 : decode cX5_person 12 = .ok (.invokestatic 94, 3) := by decide +kernel
theorem dX5_person_15 : decode cX5_person 15 = .ok (.ifCond .eq 11, 3) := by decide +kernel
theorem dX5_person_18 : decode cX5_person 18 = .ok (.iload_n 3, 1) := by decide +kernel
theorem dX5_person_19 : decode cX5_person 19 = .ok (.iconst 4, 1) := by decide +kernel
theorem dX5_person_20 : decode cX5_person 20 = .ok (.invokestatic 94, 3) := by decide +kernel
theorem dX5_person_23 : decode cX5_person 23 = .ok (.ifCond .ne 6, 3) := by decide +kernel
theorem dX5_person_26 : decode cX5_person 26 = .ok (.bipush (-2), 2) := by decide +kernel
theorem dX5_person_28 : decode cX5_person 28 = .ok (.ireturn, 1) := by decide +kernel
theorem dX5_person_29 : decode cX5_person 29 = .ok (.aload_n 0, 1) := by decide +kernel
theorem dX5_person_30 : decode cX5_person 30 = .ok (.getfield 10, 3) := by decide +kernel
theorem dX5_person_33 : decode cX5_person 33 = .ok (.iload_n 1, 1) := by decide +kernel
theorem dX5_person_34 : decode cX5_person 34 = .ok (.iload_n 2, 1) := by decide +kernel
theorem dX5_person_35 : decode cX5_person 35 = .ok (.iload_n 3, 1) := by decide +kernel
theorem dX5_person_36 : decode cX5_person 36 = .ok (.invokevirtual 97, 3) := by decide +kernel
theorem dX5_person_39 : decode cX5_person 39 = .ok (.ireturn, 1) := by decide +kernel
theorem dX5_told_0 : decode cX5_told 0 = .ok (.iload_n 2, 1) := by decide +kernel
theorem dX5_told_1 : decode cX5_told 1 = .ok (.ifCond .lt 18, 3) := by decide +kernel
theorem dX5_told_4 : decode cX5_told 4 = .ok (.iload_n 2, 1) := by decide +kernel
theorem dX5_told_5 : decode cX5_told 5 = .ok (.bipush 11, 2) := by decide +kernel
theorem dX5_told_7 : decode cX5_told 7 = .ok (.if_icmp .gt 12, 3) := by decide +kernel
theorem dX5_told_10 : decode cX5_told 10 = .ok (.aload_n 0, 1) := by decide +kernel
theorem dX5_told_11 : decode cX5_told 11 = .ok (.iload_n 2, 1) := by decide +kernel
theorem dX5_told_12 : decode cX5_told 12 = .ok (.iload_n 1, 1) := by decide +kernel
theorem dX5_told_13 : decode cX5_told 13 = .ok (.invokevirtual 78, 3) := by decide +kernel
theorem dX5_told_16 : decode cX5_told 16 = .ok (.ifCond .ne 7, 3) := by decide +kernel
theorem dX5_told_19 : decode cX5_told 19 = .ok (.sipush (-1000), 3) := by decide +kernel
theorem dX5_told_22 : decode cX5_told 22 = .ok (.ireturn, 1) := by decide +kernel
theorem dX5_told_23 : decode cX5_told 23 = .ok (.iload_n 2, 1) := by decide +kernel
theorem dX5_told_24 : decode cX5_told 24 = .ok (.tableswitch 67 9 11 #[28, 41, 54], 28) := by decide +kernel
theorem dX5_told_52 : decode cX5_told 52 = .ok (.aload_n 0, 1) := by decide +kernel
theorem dX5_told_53 : decode cX5_told 53 = .ok (.getfield 29, 3) := by decide +kernel
theorem dX5_told_56 : decode cX5_told 56 = .ok (.aload_n 0, 1) := by decide +kernel
theorem dX5_told_57 : decode cX5_told 57 = .ok (.getfield 10, 3) := by decide +kernel
theorem dX5_told_60 : decode cX5_told 60 = .ok (.iload_n 1, 1) := by decide +kernel
theorem dX5_told_61 : decode cX5_told 61 = .ok (.invokevirtual 101, 3) := by decide +kernel
theorem dX5_told_64 : decode cX5_told 64 = .ok (.ireturn, 1) := by decide +kernel
theorem dX5_told_65 : decode cX5_told 65 = .ok (.aload_n 0, 1) := by decide +kernel
theorem dX5_told_66 : decode cX5_told 66 = .ok (.getfield 29, 3) := by decide +kernel
theorem dX5_told_69 : decode cX5_told 69 = .ok (.aload_n 0, 1) := by decide +kernel
theorem dX5_told_70 : decode cX5_told 70 = .ok (.getfield 10, 3) := by decide +kernel
theorem dX5_told_73 : decode cX5_told 73 = .ok (.iload_n 1, 1) := by decide +kernel
theorem dX5_told_74 : decode cX5_told 74 = .ok (.invokevirtual 105, 3) := by decide +kernel
theorem dX5_told_77 : decode cX5_told 77 = .ok (.ireturn, 1) := by decide +kernel
theorem dX5_told_78 : decode cX5_told 78 = .ok (.aload_n 0, 1) := by decide +kernel
theorem dX5_told_79 : decode cX5_told 79 = .ok (.getfield 29, 3) := by decide +kernel
theorem dX5_told_82 : decode cX5_told 82 = .ok (.aload_n 0, 1) := by decide +kernel
theorem dX5_told_83 : decode cX5_told 83 = .ok (.getfield 10, 3) := by decide +kernel
theorem dX5_told_86 : decode cX5_told 86 = .ok (.iload_n 1, 1) := by decide +kernel
theorem dX5_told_87 : decode cX5_told 87 = .ok (.invokevirtual 108, 3) := by decide +kernel
theorem dX5_told_90 : decode cX5_told 90 = .ok (.ireturn, 1) := by decide +kernel
theorem dX5_told_91 : decode cX5_told 91 = .ok (.aload_n 0, 1) := by decide +kernel
theorem dX5_told_92 : decode cX5_told 92 = .ok (.getfield 10, 3) := by decide +kernel
theorem dX5_told_95 : decode cX5_told 95 = .ok (.iload_n 2, 1) := by decide +kernel
theorem dX5_told_96 : decode cX5_told 96 = .ok (.iload_n 1, 1) := by decide +kernel
theorem dX5_told_97 : decode cX5_told 97 = .ok (.invokevirtual 86, 3) := by decide +kernel
theorem dX5_told_100 : decode cX5_told 100 = .ok (.ireturn, 1) := by decide +kernel
theorem dX5_picture_0 : decode cX5_picture 0 = .ok (.iload_n 1, 1) := by decide +kernel
theorem dX5_picture_1 : decode cX5_picture 1 = .ok (.iconst 4, 1) := by decide +kernel
theorem dX5_picture_2 : decode cX5_picture 2 = .ok (.invokestatic 94, 3) := by decide +kernel
theorem dX5_picture_5 : decode cX5_picture 5 = .ok (.ifCond .eq 13, 3) := by decide +kernel
theorem dX5_picture_8 : decode cX5_picture 8 = .ok (.aload_n 0, 1) := by decide +kernel
theorem dX5_picture_9 : decode cX5_picture 9 = .ok (.getfield 10, 3) := by decide +kernel
theorem dX5_picture_12 : decode cX5_picture 12 = .ok (.getfield 111, 3) := by decide +kernel
theorem dX5_picture_15 : decode cX5_picture 15 = .ok (.iload_n 1, 1) := by decide +kernel
theorem dX5_picture_16 : decode cX5_picture 16 = .ok (.laload, 1) := by decide +kernel
theorem dX5_picture_17 : decode cX5_picture 17 = .ok (.lreturn, 1) := by decide +kernel
theorem dX5_picture_18 : decode cX5_picture 18 = .ok (.iload_n 1, 1) := by decide +kernel
theorem dX5_picture_19 : decode cX5_picture 19 = .ok (.iconst 4, 1) := by decide +kernel
theorem dX5_picture_20 : decode cX5_picture 20 = .ok (.if_icmp .ne 13, 3) := by decide +kernel
theorem dX5_picture_23 : decode cX5_picture 23 = .ok (.aload_n 0, 1) := by decide +kernel
theorem dX5_picture_24 : decode cX5_picture 24 = .ok (.getfield 10, 3) := by decide +kernel
theorem dX5_picture_27 : decode cX5_picture 27 = .ok (.getfield 115, 3) := by decide +kernel
theorem dX5_picture_30 : decode cX5_picture 30 = .ok (.goto 6, 3) := by decide +kernel
theorem dX5_picture_33 : decode cX5_picture 33 = .ok (.ldc2_w 119, 3) := by decide +kernel
theorem dX5_picture_36 : decode cX5_picture 36 = .ok (.lreturn, 1) := by decide +kernel
theorem dX5_feed_0 : decode cX5_feed 0 = .ok (.iload_n 1, 1) := by decide +kernel
theorem dX5_feed_1 : decode cX5_feed 1 = .ok (.ifCond .lt 10, 3) := by decide +kernel
theorem dX5_feed_4 : decode cX5_feed 4 = .ok (.iload_n 1, 1) := by decide +kernel
theorem dX5_feed_5 : decode cX5_feed 5 = .ok (.sipush 255, 3) := by decide +kernel
theorem dX5_feed_8 : decode cX5_feed 8 = .ok (.if_icmp .le 8, 3) := by decide +kernel
theorem dX5_feed_11 : decode cX5_feed 11 = .ok (.bipush (-2), 2) := by decide +kernel
theorem dX5_feed_13 : decode cX5_feed 13 = .ok (.goto 11, 3) := by decide +kernel
theorem dX5_feed_16 : decode cX5_feed 16 = .ok (.aload_n 0, 1) := by decide +kernel
theorem dX5_feed_17 : decode cX5_feed 17 = .ok (.getfield 36, 3) := by decide +kernel
theorem dX5_feed_20 : decode cX5_feed 20 = .ok (.iload_n 1, 1) := by decide +kernel
theorem dX5_feed_21 : decode cX5_feed 21 = .ok (.invokevirtual 59, 3) := by decide +kernel
theorem dX5_feed_24 : decode cX5_feed 24 = .ok (.ireturn, 1) := by decide +kernel
theorem dX5_text_0 : decode cX5_text 0 = .ok (.aload_n 0, 1) := by decide +kernel
theorem dX5_text_1 : decode cX5_text 1 = .ok (.getfield 29, 3) := by decide +kernel
theorem dX5_text_4 : decode cX5_text 4 = .ok (.getfield 74, 3) := by decide +kernel
theorem dX5_text_7 : decode cX5_text 7 = .ok (.bipush 6, 2) := by decide +kernel
theorem dX5_text_9 : decode cX5_text 9 = .ok (.if_icmp .lt 6, 3) := by decide +kernel
theorem dX5_text_12 : decode cX5_text 12 = .ok (.bipush (-4), 2) := by decide +kernel
theorem dX5_text_14 : decode cX5_text 14 = .ok (.ireturn, 1) := by decide +kernel
theorem dX5_text_15 : decode cX5_text 15 = .ok (.aload_n 0, 1) := by decide +kernel
theorem dX5_text_16 : decode cX5_text 16 = .ok (.getfield 36, 3) := by decide +kernel
theorem dX5_text_19 : decode cX5_text 19 = .ok (.aload_n 0, 1) := by decide +kernel
theorem dX5_text_20 : decode cX5_text 20 = .ok (.getfield 29, 3) := by decide +kernel
theorem dX5_text_23 : decode cX5_text 23 = .ok (.getfield 63, 3) := by decide +kernel
theorem dX5_text_26 : decode cX5_text 26 = .ok (.aload_n 0, 1) := by decide +kernel
theorem dX5_text_27 : decode cX5_text 27 = .ok (.getfield 29, 3) := by decide +kernel
theorem dX5_text_30 : decode cX5_text 30 = .ok (.getfield 74, 3) := by decide +kernel
theorem dX5_text_33 : decode cX5_text 33 = .ok (.aaload, 1) := by decide +kernel
theorem dX5_text_34 : decode cX5_text 34 = .ok (.invokevirtual 67, 3) := by decide +kernel
theorem dX5_text_37 : decode cX5_text 37 = .ok (.istore_n 1, 1) := by decide +kernel
theorem dX5_text_38 : decode cX5_text 38 = .ok (.aload_n 0, 1) := by decide +kernel
theorem dX5_text_39 : decode cX5_text 39 = .ok (.getfield 36, 3) := by decide +kernel
theorem dX5_text_42 : decode cX5_text 42 = .ok (.invokevirtual 71, 3) := by decide +kernel
theorem dX5_text_45 : decode cX5_text 45 = .ok (.iload_n 1, 1) := by decide +kernel
theorem dX5_text_46 : decode cX5_text 46 = .ok (.iconst (-1), 1) := by decide +kernel
theorem dX5_text_47 : decode cX5_text 47 = .ok (.if_icmp .eq 8, 3) := by decide +kernel
theorem dX5_text_50 : decode cX5_text 50 = .ok (.bipush (-100), 2) := by decide +kernel
theorem dX5_text_52 : decode cX5_text 52 = .ok (.iload_n 1, 1) := by decide +kernel
theorem dX5_text_53 : decode cX5_text 53 = .ok (.isub, 1) := by decide +kernel
theorem dX5_text_54 : decode cX5_text 54 = .ok (.ireturn, 1) := by decide +kernel
theorem dX5_text_55 : decode cX5_text 55 = .ok (.aload_n 0, 1) := by decide +kernel
theorem dX5_text_56 : decode cX5_text 56 = .ok (.getfield 29, 3) := by decide +kernel
theorem dX5_text_59 : decode cX5_text 59 = .ok (.dup, 1) := by decide +kernel
theorem dX5_text_60 : decode cX5_text 60 = .ok (.getfield 74, 3) := by decide +kernel
theorem dX5_text_63 : decode cX5_text 63 = .ok (.iconst 1, 1) := by decide +kernel
theorem dX5_text_64 : decode cX5_text 64 = .ok (.iadd, 1) := by decide +kernel
theorem dX5_text_65 : decode cX5_text 65 = .ok (.putfield 74, 3) := by decide +kernel
theorem dX5_text_68 : decode cX5_text 68 = .ok (.aload_n 0, 1) := by decide +kernel
theorem dX5_text_69 : decode cX5_text 69 = .ok (.getfield 29, 3) := by decide +kernel
theorem dX5_text_72 : decode cX5_text 72 = .ok (.getfield 74, 3) := by decide +kernel
theorem dX5_text_75 : decode cX5_text 75 = .ok (.iconst 1, 1) := by decide +kernel
theorem dX5_text_76 : decode cX5_text 76 = .ok (.isub, 1) := by decide +kernel
theorem dX5_text_77 : decode cX5_text 77 = .ok (.ireturn, 1) := by decide +kernel
theorem dX5_force_0 : decode cX5_force 0 = .ok (.iload_n 1, 1) := by decide +kernel
theorem dX5_force_1 : decode cX5_force 1 = .ok (.aload_n 0, 1) := by decide +kernel
theorem dX5_force_2 : decode cX5_force 2 = .ok (.getfield 29, 3) := by decide +kernel
theorem dX5_force_5 : decode cX5_force 5 = .ok (.getfield 74, 3) := by decide +kernel
theorem dX5_force_8 : decode cX5_force 8 = .ok (.invokestatic 94, 3) := by decide +kernel
theorem dX5_force_11 : decode cX5_force 11 = .ok (.ifCond .ne 6, 3) := by decide +kernel
theorem dX5_force_14 : decode cX5_force 14 = .ok (.bipush (-2), 2) := by decide +kernel
theorem dX5_force_16 : decode cX5_force 16 = .ok (.ireturn, 1) := by decide +kernel
theorem dX5_force_17 : decode cX5_force 17 = .ok (.aload_n 0, 1) := by decide +kernel
theorem dX5_force_18 : decode cX5_force 18 = .ok (.getfield 10, 3) := by decide +kernel
theorem dX5_force_21 : decode cX5_force 21 = .ok (.getfield 121, 3) := by decide +kernel
theorem dX5_force_24 : decode cX5_force 24 = .ok (.istore_n 2, 1) := by decide +kernel
theorem dX5_force_25 : decode cX5_force 25 = .ok (.aload_n 0, 1) := by decide +kernel
theorem dX5_force_26 : decode cX5_force 26 = .ok (.getfield 10, 3) := by decide +kernel
theorem dX5_force_29 : decode cX5_force 29 = .ok (.iload_n 1, 1) := by decide +kernel
theorem dX5_force_30 : decode cX5_force 30 = .ok (.putfield 121, 3) := by decide +kernel
theorem dX5_force_33 : decode cX5_force 33 = .ok (.iload_n 2, 1) := by decide +kernel
theorem dX5_force_34 : decode cX5_force 34 = .ok (.ireturn, 1) := by decide +kernel
theorem dX5_day_0 : decode cX5_day 0 = .ok (.aload_n 0, 1) := by decide +kernel
theorem dX5_day_1 : decode cX5_day 1 = .ok (.getfield 10, 3) := by decide +kernel
theorem dX5_day_4 : decode cX5_day 4 = .ok (.getfield 124, 3) := by decide +kernel
theorem dX5_day_7 : decode cX5_day 7 = .ok (.sipush 999, 3) := by decide +kernel
theorem dX5_day_10 : decode cX5_day 10 = .ok (.if_icmp .lt 6, 3) := by decide +kernel
theorem dX5_day_13 : decode cX5_day 13 = .ok (.bipush (-3), 2) := by decide +kernel
theorem dX5_day_15 : decode cX5_day 15 = .ok (.ireturn, 1) := by decide +kernel
theorem dX5_day_16 : decode cX5_day 16 = .ok (.aload_n 0, 1) := by decide +kernel
theorem dX5_day_17 : decode cX5_day 17 = .ok (.getfield 29, 3) := by decide +kernel
theorem dX5_day_20 : decode cX5_day 20 = .ok (.aload_n 0, 1) := by decide +kernel
theorem dX5_day_21 : decode cX5_day 21 = .ok (.getfield 10, 3) := by decide +kernel
theorem dX5_day_24 : decode cX5_day 24 = .ok (.iconst (-1), 1) := by decide +kernel
theorem dX5_day_25 : decode cX5_day 25 = .ok (.invokevirtual 127, 3) := by decide +kernel
theorem dX5_day_28 : decode cX5_day 28 = .ok (.aload_n 0, 1) := by decide +kernel
theorem dX5_day_29 : decode cX5_day 29 = .ok (.getfield 10, 3) := by decide +kernel
theorem dX5_day_32 : decode cX5_day 32 = .ok (.invokevirtual 131, 3) := by decide +kernel
theorem dX5_day_35 : decode cX5_day 35 = .ok (.ireturn, 1) := by decide +kernel
theorem dX5_run_0 : decode cX5_run 0 = .ok (.iload_n 1, 1) := by decide +kernel
theorem dX5_run_1 : decode cX5_run 1 = .ok (.aload_n 0, 1) := by decide +kernel
theorem dX5_run_2 : decode cX5_run 2 = .ok (.getfield 10, 3) := by decide +kernel
theorem dX5_run_5 : decode cX5_run 5 = .ok (.getfield 134, 3) := by decide +kernel
theorem dX5_run_8 : decode cX5_run 8 = .ok (.invokestatic 94, 3) := by decide +kernel
theorem dX5_run_11 : decode cX5_run 11 = .ok (.ifCond .eq 22, 3) := by decide +kernel
theorem dX5_run_14 : decode cX5_run 14 = .ok (.iload_n 2, 1) := by decide +kernel
theorem dX5_run_15 : decode cX5_run 15 = .ok (.ifCond .lt 18, 3) := by decide +kernel
theorem dX5_run_18 : decode cX5_run 18 = .ok (.iload_n 2, 1) := by decide +kernel
theorem dX5_run_19 : decode cX5_run 19 = .ok (.bipush 40, 2) := by decide +kernel
theorem dX5_run_21 : decode cX5_run 21 = .ok (.if_icmp .gt 12, 3) := by decide +kernel
theorem dX5_run_24 : decode cX5_run 24 = .ok (.iload_n 3, 1) := by decide +kernel
theorem dX5_run_25 : decode cX5_run 25 = .ok (.ifCond .lt 8, 3) := by decide +kernel
theorem dX5_run_28 : decode cX5_run 28 = .ok (.iload_n 3, 1) := by decide +kernel
theorem dX5_run_29 : decode cX5_run 29 = .ok (.iconst 4, 1) := by decide +kernel
theorem dX5_run_30 : decode cX5_run 30 = .ok (.if_icmp .le 6, 3) := by decide +kernel
theorem dX5_run_33 : decode cX5_run 33 = .ok (.bipush (-2), 2) := by decide +kernel
theorem dX5_run_35 : decode cX5_run 35 = .ok (.ireturn, 1) := by decide +kernel
theorem dX5_run_36 : decode cX5_run 36 = .ok (.aload_n 0, 1) := by decide +kernel
theorem dX5_run_37 : decode cX5_run 37 = .ok (.invokevirtual 137, 3) := by decide +kernel
theorem dX5_run_40 : decode cX5_run 40 = .ok (.aload_n 0, 1) := by decide +kernel
theorem dX5_run_41 : decode cX5_run 41 = .ok (.iload_n 2, 1) := by decide +kernel
theorem dX5_run_42 : decode cX5_run 42 = .ok (.invokevirtual 140, 3) := by decide +kernel
theorem dX5_run_45 : decode cX5_run 45 = .ok (.iload_n 3, 1) := by decide +kernel
theorem dX5_run_46 : decode cX5_run 46 = .ok (.tableswitch 66 0 3 #[30, 38, 46, 56], 30) := by decide +kernel
theorem dX5_run_76 : decode cX5_run 76 = .ok (.aload_n 0, 1) := by decide +kernel
theorem dX5_run_77 : decode cX5_run 77 = .ok (.getfield 16, 3) := by decide +kernel
theorem dX5_run_80 : decode cX5_run 80 = .ok (.invokevirtual 131, 3) := by decide +kernel
theorem dX5_run_83 : decode cX5_run 83 = .ok (.ireturn, 1) := by decide +kernel
theorem dX5_run_84 : decode cX5_run 84 = .ok (.aload_n 0, 1) := by decide +kernel
theorem dX5_run_85 : decode cX5_run 85 = .ok (.getfield 16, 3) := by decide +kernel
theorem dX5_run_88 : decode cX5_run 88 = .ok (.invokevirtual 144, 3) := by decide +kernel
theorem dX5_run_91 : decode cX5_run 91 = .ok (.ireturn, 1) := by decide +kernel
theorem dX5_run_92 : decode cX5_run 92 = .ok (.aload_n 0, 1) := by decide +kernel
theorem dX5_run_93 : decode cX5_run 93 = .ok (.getfield 16, 3) := by decide +kernel
theorem dX5_run_96 : decode cX5_run 96 = .ok (.getfield 147, 3) := by decide +kernel
theorem dX5_run_99 : decode cX5_run 99 = .ok (.iload_n 1, 1) := by decide +kernel
theorem dX5_run_100 : decode cX5_run 100 = .ok (.iaload, 1) := by decide +kernel
theorem dX5_run_101 : decode cX5_run 101 = .ok (.ireturn, 1) := by decide +kernel
theorem dX5_run_102 : decode cX5_run 102 = .ok (.aload_n 0, 1) := by decide +kernel
theorem dX5_run_103 : decode cX5_run 103 = .ok (.getfield 16, 3) := by decide +kernel
theorem dX5_run_106 : decode cX5_run 106 = .ok (.getfield 150, 3) := by decide +kernel
theorem dX5_run_109 : decode cX5_run 109 = .ok (.iload_n 1, 1) := by decide +kernel
theorem dX5_run_110 : decode cX5_run 110 = .ok (.iaload, 1) := by decide +kernel
theorem dX5_run_111 : decode cX5_run 111 = .ok (.ireturn, 1) := by decide +kernel
theorem dX5_run_112 : decode cX5_run 112 = .ok (.aload_n 0, 1) := by decide +kernel
theorem dX5_run_113 : decode cX5_run 113 = .ok (.getfield 16, 3) := by decide +kernel
theorem dX5_run_116 : decode cX5_run 116 = .ok (.getfield 153, 3) := by decide +kernel
theorem dX5_run_119 : decode cX5_run 119 = .ok (.iload_n 1, 1) := by decide +kernel
theorem dX5_run_120 : decode cX5_run 120 = .ok (.iaload, 1) := by decide +kernel
theorem dX5_run_121 : decode cX5_run 121 = .ok (.ireturn, 1) := by decide +kernel
theorem dX5_later_0 : decode cX5_later 0 = .ok (.iload_n 1, 1) := by decide +kernel
theorem dX5_later_1 : decode cX5_later 1 = .ok (.ifCond .lt 9, 3) := by decide +kernel
theorem dX5_later_4 : decode cX5_later 4 = .ok (.iload_n 1, 1) := by decide +kernel
theorem dX5_later_5 : decode cX5_later 5 = .ok (.bipush 40, 2) := by decide +kernel
theorem dX5_later_7 : decode cX5_later 7 = .ok (.if_icmp .le 7, 3) := by decide +kernel
theorem dX5_later_10 : decode cX5_later 10 = .ok (.ldc2_w 119, 3) := by decide +kernel
theorem dX5_later_13 : decode cX5_later 13 = .ok (.lreturn, 1) := by decide +kernel
theorem dX5_later_14 : decode cX5_later 14 = .ok (.aload_n 0, 1) := by decide +kernel
theorem dX5_later_15 : decode cX5_later 15 = .ok (.invokevirtual 137, 3) := by decide +kernel
theorem dX5_later_18 : decode cX5_later 18 = .ok (.aload_n 0, 1) := by decide +kernel
theorem dX5_later_19 : decode cX5_later 19 = .ok (.iload_n 1, 1) := by decide +kernel
theorem dX5_later_20 : decode cX5_later 20 = .ok (.invokevirtual 140, 3) := by decide +kernel
theorem dX5_later_23 : decode cX5_later 23 = .ok (.aload_n 0, 1) := by decide +kernel
theorem dX5_later_24 : decode cX5_later 24 = .ok (.getfield 16, 3) := by decide +kernel
theorem dX5_later_27 : decode cX5_later 27 = .ok (.getfield 115, 3) := by decide +kernel
theorem dX5_later_30 : decode cX5_later 30 = .ok (.lreturn, 1) := by decide +kernel
theorem dX5_ends_0 : decode cX5_ends 0 = .ok (.aload_n 0, 1) := by decide +kernel
theorem dX5_ends_1 : decode cX5_ends 1 = .ok (.invokevirtual 137, 3) := by decide +kernel
theorem dX5_ends_4 : decode cX5_ends 4 = .ok (.iconst 0, 1) := by decide +kernel
theorem dX5_ends_5 : decode cX5_ends 5 = .ok (.istore_n 1, 1) := by decide +kernel
theorem dX5_ends_6 : decode cX5_ends 6 = .ok (.iload_n 1, 1) := by decide +kernel
theorem dX5_ends_7 : decode cX5_ends 7 = .ok (.bipush 60, 2) := by decide +kernel
theorem dX5_ends_9 : decode cX5_ends 9 = .ok (.if_icmp .gt 37, 3) := by decide +kernel
theorem dX5_ends_12 : decode cX5_ends 12 = .ok (.aload_n 0, 1) := by decide +kernel
theorem dX5_ends_13 : decode cX5_ends 13 = .ok (.getfield 16, 3) := by decide +kernel
theorem dX5_ends_16 : decode cX5_ends 16 = .ok (.getfield 115, 3) := by decide +kernel
theorem dX5_ends_19 : decode cX5_ends 19 = .ok (.ldc2_w 156, 3) := by decide +kernel
theorem dX5_ends_22 : decode cX5_ends 22 = .ok (.lcmp, 1) := by decide +kernel
theorem dX5_ends_23 : decode cX5_ends 23 = .ok (.ifCond .ne 5, 3) := by decide +kernel
theorem dX5_ends_26 : decode cX5_ends 26 = .ok (.iload_n 1, 1) := by decide +kernel
theorem dX5_ends_27 : decode cX5_ends 27 = .ok (.ireturn, 1) := by decide +kernel
theorem dX5_ends_28 : decode cX5_ends 28 = .ok (.aload_n 0, 1) := by decide +kernel
theorem dX5_ends_29 : decode cX5_ends 29 = .ok (.getfield 29, 3) := by decide +kernel
theorem dX5_ends_32 : decode cX5_ends 32 = .ok (.aload_n 0, 1) := by decide +kernel
theorem dX5_ends_33 : decode cX5_ends 33 = .ok (.getfield 16, 3) := by decide +kernel
theorem dX5_ends_36 : decode cX5_ends 36 = .ok (.iconst (-1), 1) := by decide +kernel
theorem dX5_ends_37 : decode cX5_ends 37 = .ok (.invokevirtual 127, 3) := by decide +kernel
theorem dX5_ends_40 : decode cX5_ends 40 = .ok (.iinc 1 1, 3) := by decide +kernel
theorem dX5_ends_43 : decode cX5_ends 43 = .ok (.goto (-37), 3) := by decide +kernel
theorem dX5_ends_46 : decode cX5_ends 46 = .ok (.iconst (-1), 1) := by decide +kernel
theorem dX5_ends_47 : decode cX5_ends 47 = .ok (.ireturn, 1) := by decide +kernel
theorem dX5_atWhat_0 : decode cX5_atWhat 0 = .ok (.iload_n 1, 1) := by decide +kernel
theorem dX5_atWhat_1 : decode cX5_atWhat 1 = .ok (.aload_n 0, 1) := by decide +kernel
theorem dX5_atWhat_2 : decode cX5_atWhat 2 = .ok (.getfield 10, 3) := by decide +kernel
theorem dX5_atWhat_5 : decode cX5_atWhat 5 = .ok (.getfield 134, 3) := by decide +kernel
theorem dX5_atWhat_8 : decode cX5_atWhat 8 = .ok (.invokestatic 94, 3) := by decide +kernel
theorem dX5_atWhat_11 : decode cX5_atWhat 11 = .ok (.ifCond .eq 22, 3) := by decide +kernel
theorem dX5_atWhat_14 : decode cX5_atWhat 14 = .ok (.iload_n 2, 1) := by decide +kernel
theorem dX5_atWhat_15 : decode cX5_atWhat 15 = .ok (.ifCond .lt 18, 3) := by decide +kernel
theorem dX5_atWhat_18 : decode cX5_atWhat 18 = .ok (.iload_n 2, 1) := by decide +kernel
theorem dX5_atWhat_19 : decode cX5_atWhat 19 = .ok (.bipush 40, 2) := by decide +kernel
theorem dX5_atWhat_21 : decode cX5_atWhat 21 = .ok (.if_icmp .gt 12, 3) := by decide +kernel
theorem dX5_atWhat_24 : decode cX5_atWhat 24 = .ok (.iload_n 3, 1) := by decide +kernel
theorem dX5_atWhat_25 : decode cX5_atWhat 25 = .ok (.ifCond .lt 8, 3) := by decide +kernel
theorem dX5_atWhat_28 : decode cX5_atWhat 28 = .ok (.iload_n 3, 1) := by decide +kernel
theorem dX5_atWhat_29 : decode cX5_atWhat 29 = .ok (.iconst 1, 1) := by decide +kernel
theorem dX5_atWhat_30 : decode cX5_atWhat 30 = .ok (.if_icmp .le 6, 3) := by decide +kernel
theorem dX5_atWhat_33 : decode cX5_atWhat 33 = .ok (.bipush (-2), 2) := by decide +kernel
theorem dX5_atWhat_35 : decode cX5_atWhat 35 = .ok (.ireturn, 1) := by decide +kernel
theorem dX5_atWhat_36 : decode cX5_atWhat 36 = .ok (.iconst (-1), 1) := by decide +kernel
theorem dX5_atWhat_37 : decode cX5_atWhat 37 = .ok (.istore 4, 2) := by decide +kernel
theorem dX5_atWhat_39 : decode cX5_atWhat 39 = .ok (.iconst (-1), 1) := by decide +kernel
theorem dX5_atWhat_40 : decode cX5_atWhat 40 = .ok (.istore 5, 2) := by decide +kernel
theorem dX5_atWhat_42 : decode cX5_atWhat 42 = .ok (.iconst 0, 1) := by decide +kernel
theorem dX5_atWhat_43 : decode cX5_atWhat 43 = .ok (.istore 6, 2) := by decide +kernel
theorem dX5_atWhat_45 : decode cX5_atWhat 45 = .ok (.iload 6, 2) := by decide +kernel
theorem dX5_atWhat_47 : decode cX5_atWhat 47 = .ok (.iconst 4, 1) := by decide +kernel
theorem dX5_atWhat_48 : decode cX5_atWhat 48 = .ok (.if_icmp .ge 47, 3) := by decide +kernel
theorem dX5_atWhat_51 : decode cX5_atWhat 51 = .ok (.aload_n 0, 1) := by decide +kernel
theorem dX5_atWhat_52 : decode cX5_atWhat 52 = .ok (.invokevirtual 137, 3) := by decide +kernel
theorem dX5_atWhat_55 : decode cX5_atWhat 55 = .ok (.aload_n 0, 1) := by decide +kernel
theorem dX5_atWhat_56 : decode cX5_atWhat 56 = .ok (.getfield 16, 3) := by decide +kernel
theorem dX5_atWhat_59 : decode cX5_atWhat 59 = .ok (.getfield 147, 3) := by decide +kernel
theorem dX5_atWhat_62 : decode cX5_atWhat 62 = .ok (.iload_n 1, 1) := by decide +kernel
theorem dX5_atWhat_63 : decode cX5_atWhat 63 = .ok (.iload 6, 2) := by decide +kernel
theorem dX5_atWhat_65 : decode cX5_atWhat 65 = .ok (.iastore, 1) := by decide +kernel
theorem dX5_atWhat_66 : decode cX5_atWhat 66 = .ok (.aload_n 0, 1) := by decide +kernel
theorem dX5_atWhat_67 : decode cX5_atWhat 67 = .ok (.iload_n 2, 1) := by decide +kernel
theorem dX5_atWhat_68 : decode cX5_atWhat 68 = .ok (.iconst (-1), 1) := by decide +kernel
theorem dX5_atWhat_69 : decode cX5_atWhat 69 = .ok (.invokevirtual 158, 3) := by decide +kernel
theorem dX5_atWhat_72 : decode cX5_atWhat 72 = .ok (.istore 7, 2) := by decide +kernel
theorem dX5_atWhat_74 : decode cX5_atWhat 74 = .ok (.iload 7, 2) := by decide +kernel
theorem dX5_atWhat_76 : decode cX5_atWhat 76 = .ok (.iload 5, 2) := by decide +kernel
theorem dX5_atWhat_78 : decode cX5_atWhat 78 = .ok (.if_icmp .le 11, 3) := by decide +kernel
theorem dX5_atWhat_81 : decode cX5_atWhat 81 = .ok (.iload 7, 2) := by decide +kernel
theorem dX5_atWhat_83 : decode cX5_atWhat 83 = .ok (.istore 5, 2) := by decide +kernel
theorem dX5_atWhat_85 : decode cX5_atWhat 85 = .ok (.iload 6, 2) := by decide +kernel
theorem dX5_atWhat_87 : decode cX5_atWhat 87 = .ok (.istore 4, 2) := by decide +kernel
theorem dX5_atWhat_89 : decode cX5_atWhat 89 = .ok (.iinc 6 1, 3) := by decide +kernel
theorem dX5_atWhat_92 : decode cX5_atWhat 92 = .ok (.goto (-47), 3) := by decide +kernel
theorem dX5_atWhat_95 : decode cX5_atWhat 95 = .ok (.iload_n 3, 1) := by decide +kernel
theorem dX5_atWhat_96 : decode cX5_atWhat 96 = .ok (.ifCond .ne 8, 3) := by decide +kernel
theorem dX5_atWhat_99 : decode cX5_atWhat 99 = .ok (.iload 4, 2) := by decide +kernel
theorem dX5_atWhat_101 : decode cX5_atWhat 101 = .ok (.goto 5, 3) := by decide +kernel
theorem dX5_atWhat_104 : decode cX5_atWhat 104 = .ok (.iload 5, 2) := by decide +kernel
theorem dX5_atWhat_106 : decode cX5_atWhat 106 = .ok (.ireturn, 1) := by decide +kernel
theorem dX5_want_0 : decode cX5_want 0 = .ok (.iload_n 1, 1) := by decide +kernel
theorem dX5_want_1 : decode cX5_want 1 = .ok (.iconst 1, 1) := by decide +kernel
theorem dX5_want_2 : decode cX5_want 2 = .ok (.if_icmp .lt 18, 3) := by decide +kernel
theorem dX5_want_5 : decode cX5_want 5 = .ok (.iload_n 1, 1) := by decide +kernel
theorem dX5_want_6 : decode cX5_want 6 = .ok (.bipush 20, 2) := by decide +kernel
theorem dX5_want_8 : decode cX5_want 8 = .ok (.if_icmp .gt 12, 3) := by decide +kernel
theorem dX5_want_11 : decode cX5_want 11 = .ok (.iload_n 2, 1) := by decide +kernel
theorem dX5_want_12 : decode cX5_want 12 = .ok (.ifCond .lt 8, 3) := by decide +kernel
theorem dX5_want_15 : decode cX5_want 15 = .ok (.iload_n 2, 1) := by decide +kernel
theorem dX5_want_16 : decode cX5_want 16 = .ok (.iconst 1, 1) := by decide +kernel
theorem dX5_want_17 : decode cX5_want 17 = .ok (.if_icmp .le 6, 3) := by decide +kernel
theorem dX5_want_20 : decode cX5_want 20 = .ok (.bipush (-2), 2) := by decide +kernel
theorem dX5_want_22 : decode cX5_want 22 = .ok (.ireturn, 1) := by decide +kernel
theorem dX5_want_23 : decode cX5_want 23 = .ok (.aload_n 0, 1) := by decide +kernel
theorem dX5_want_24 : decode cX5_want 24 = .ok (.invokevirtual 137, 3) := by decide +kernel
theorem dX5_want_27 : decode cX5_want 27 = .ok (.aload_n 0, 1) := by decide +kernel
theorem dX5_want_28 : decode cX5_want 28 = .ok (.iload_n 1, 1) := by decide +kernel
theorem dX5_want_29 : decode cX5_want 29 = .ok (.iconst (-1), 1) := by decide +kernel
theorem dX5_want_30 : decode cX5_want 30 = .ok (.invokevirtual 158, 3) := by decide +kernel
theorem dX5_want_33 : decode cX5_want 33 = .ok (.istore_n 3, 1) := by decide +kernel
theorem dX5_want_34 : decode cX5_want 34 = .ok (.iconst (-1), 1) := by decide +kernel
theorem dX5_want_35 : decode cX5_want 35 = .ok (.istore 4, 2) := by decide +kernel
theorem dX5_want_37 : decode cX5_want 37 = .ok (.bipush 64, 2) := by decide +kernel
theorem dX5_want_39 : decode cX5_want 39 = .ok (.aload_n 0, 1) := by decide +kernel
theorem dX5_want_40 : decode cX5_want 40 = .ok (.getfield 10, 3) := by decide +kernel
theorem dX5_want_43 : decode cX5_want 43 = .ok (.invokevirtual 131, 3) := by decide +kernel
theorem dX5_want_46 : decode cX5_want 46 = .ok (.iload_n 1, 1) := by decide +kernel
theorem dX5_want_47 : decode cX5_want 47 = .ok (.aload_n 0, 1) := by decide +kernel
theorem dX5_want_48 : decode cX5_want 48 = .ok (.getfield 10, 3) := by decide +kernel
theorem dX5_want_51 : decode cX5_want 51 = .ok (.getfield 134, 3) := by decide +kernel
theorem dX5_want_54 : decode cX5_want 54 = .ok (.imul, 1) := by decide +kernel
theorem dX5_want_55 : decode cX5_want 55 = .ok (.iadd, 1) := by decide +kernel
theorem dX5_want_56 : decode cX5_want 56 = .ok (.invokestatic 161, 3) := by decide +kernel
theorem dX5_want_59 : decode cX5_want 59 = .ok (.istore 5, 2) := by decide +kernel
theorem dX5_want_61 : decode cX5_want 61 = .ok (.iconst 0, 1) := by decide +kernel
theorem dX5_want_62 : decode cX5_want 62 = .ok (.istore 6, 2) := by decide +kernel
theorem dX5_want_64 : decode cX5_want 64 = .ok (.iload 6, 2) := by decide +kernel
theorem dX5_want_66 : decode cX5_want 66 = .ok (.sipush 256, 3) := by decide +kernel
theorem dX5_want_69 : decode cX5_want 69 = .ok (.if_icmp .ge 98, 3) := by decide +kernel
theorem dX5_want_72 : decode cX5_want 72 = .ok (.iload_n 3, 1) := by decide +kernel
theorem dX5_want_73 : decode cX5_want 73 = .ok (.iload 5, 2) := by decide +kernel
theorem dX5_want_75 : decode cX5_want 75 = .ok (.if_icmp .ge 92, 3) := by decide +kernel
theorem dX5_want_78 : decode cX5_want 78 = .ok (.iload 6, 2) := by decide +kernel
theorem dX5_want_80 : decode cX5_want 80 = .ok (.iconst 4, 1) := by decide +kernel
theorem dX5_want_81 : decode cX5_want 81 = .ok (.idiv, 1) := by decide +kernel
theorem dX5_want_82 : decode cX5_want 82 = .ok (.istore 7, 2) := by decide +kernel
theorem dX5_want_84 : decode cX5_want 84 = .ok (.iload 6, 2) := by decide +kernel
theorem dX5_want_86 : decode cX5_want 86 = .ok (.iconst 4, 1) := by decide +kernel
theorem dX5_want_87 : decode cX5_want 87 = .ok (.irem, 1) := by decide +kernel
theorem dX5_want_88 : decode cX5_want 88 = .ok (.istore 8, 2) := by decide +kernel
theorem dX5_want_90 : decode cX5_want 90 = .ok (.aload_n 0, 1) := by decide +kernel
theorem dX5_want_91 : decode cX5_want 91 = .ok (.getfield 10, 3) := by decide +kernel
theorem dX5_want_94 : decode cX5_want 94 = .ok (.iload 7, 2) := by decide +kernel
theorem dX5_want_96 : decode cX5_want 96 = .ok (.invokevirtual 166, 3) := by decide +kernel
theorem dX5_want_99 : decode cX5_want 99 = .ok (.ifCond .ne 62, 3) := by decide +kernel
theorem dX5_want_102 : decode cX5_want 102 = .ok (.aload_n 0, 1) := by decide +kernel
theorem dX5_want_103 : decode cX5_want 103 = .ok (.getfield 10, 3) := by decide +kernel
theorem dX5_want_106 : decode cX5_want 106 = .ok (.iload 7, 2) := by decide +kernel
theorem dX5_want_108 : decode cX5_want 108 = .ok (.invokevirtual 170, 3) := by decide +kernel
theorem dX5_want_111 : decode cX5_want 111 = .ok (.iload 8, 2) := by decide +kernel
theorem dX5_want_113 : decode cX5_want 113 = .ok (.if_icmp .ne 6, 3) := by decide +kernel
theorem dX5_want_116 : decode cX5_want 116 = .ok (.goto 45, 3) := by decide +kernel
theorem dX5_want_119 : decode cX5_want 119 = .ok (.aload_n 0, 1) := by decide +kernel
theorem dX5_want_120 : decode cX5_want 120 = .ok (.invokevirtual 137, 3) := by decide +kernel
theorem dX5_want_123 : decode cX5_want 123 = .ok (.aload_n 0, 1) := by decide +kernel
theorem dX5_want_124 : decode cX5_want 124 = .ok (.getfield 16, 3) := by decide +kernel
theorem dX5_want_127 : decode cX5_want 127 = .ok (.iload 7, 2) := by decide +kernel
theorem dX5_want_129 : decode cX5_want 129 = .ok (.iload 8, 2) := by decide +kernel
theorem dX5_want_131 : decode cX5_want 131 = .ok (.invokevirtual 173, 3) := by decide +kernel
theorem dX5_want_134 : decode cX5_want 134 = .ok (.aload_n 0, 1) := by decide +kernel
theorem dX5_want_135 : decode cX5_want 135 = .ok (.iload_n 1, 1) := by decide +kernel
theorem dX5_want_136 : decode cX5_want 136 = .ok (.iconst (-1), 1) := by decide +kernel
theorem dX5_want_137 : decode cX5_want 137 = .ok (.invokevirtual 158, 3) := by decide +kernel
theorem dX5_want_140 : decode cX5_want 140 = .ok (.istore 9, 2) := by decide +kernel
theorem dX5_want_142 : decode cX5_want 142 = .ok (.iload 9, 2) := by decide +kernel
theorem dX5_want_144 : decode cX5_want 144 = .ok (.iload_n 3, 1) := by decide +kernel
theorem dX5_want_145 : decode cX5_want 145 = .ok (.if_icmp .le 16, 3) := by decide +kernel
theorem dX5_want_148 : decode cX5_want 148 = .ok (.iload 9, 2) := by decide +kernel
theorem dX5_want_150 : decode cX5_want 150 = .ok (.istore_n 3, 1) := by decide +kernel
theorem dX5_want_151 : decode cX5_want 151 = .ok (.bipush 10, 2) := by decide +kernel
theorem dX5_want_153 : decode cX5_want 153 = .ok (.iload 7, 2) := by decide +kernel
theorem dX5_want_155 : decode cX5_want 155 = .ok (.imul, 1) := by decide +kernel
theorem dX5_want_156 : decode cX5_want 156 = .ok (.iload 8, 2) := by decide +kernel
theorem dX5_want_158 : decode cX5_want 158 = .ok (.iadd, 1) := by decide +kernel
theorem dX5_want_159 : decode cX5_want 159 = .ok (.istore 4, 2) := by decide +kernel
theorem dX5_want_161 : decode cX5_want 161 = .ok (.iinc 6 1, 3) := by decide +kernel
theorem dX5_want_164 : decode cX5_want 164 = .ok (.goto (-100), 3) := by decide +kernel
theorem dX5_want_167 : decode cX5_want 167 = .ok (.iload_n 2, 1) := by decide +kernel
theorem dX5_want_168 : decode cX5_want 168 = .ok (.ifCond .ne 8, 3) := by decide +kernel
theorem dX5_want_171 : decode cX5_want 171 = .ok (.iload 4, 2) := by decide +kernel
theorem dX5_want_173 : decode cX5_want 173 = .ok (.goto 4, 3) := by decide +kernel
theorem dX5_want_176 : decode cX5_want 176 = .ok (.iload_n 3, 1) := by decide +kernel
theorem dX5_want_177 : decode cX5_want 177 = .ok (.ireturn, 1) := by decide +kernel
theorem dX5_idle_0 : decode cX5_idle 0 = .ok (.iload_n 1, 1) := by decide +kernel
theorem dX5_idle_1 : decode cX5_idle 1 = .ok (.ifCond .lt 9, 3) := by decide +kernel
theorem dX5_idle_4 : decode cX5_idle 4 = .ok (.iload_n 1, 1) := by decide +kernel
theorem dX5_idle_5 : decode cX5_idle 5 = .ok (.bipush 40, 2) := by decide +kernel
theorem dX5_idle_7 : decode cX5_idle 7 = .ok (.if_icmp .le 6, 3) := by decide +kernel
theorem dX5_idle_10 : decode cX5_idle 10 = .ok (.bipush (-2), 2) := by decide +kernel
theorem dX5_idle_12 : decode cX5_idle 12 = .ok (.ireturn, 1) := by decide +kernel
theorem dX5_idle_13 : decode cX5_idle 13 = .ok (.aload_n 0, 1) := by decide +kernel
theorem dX5_idle_14 : decode cX5_idle 14 = .ok (.invokevirtual 137, 3) := by decide +kernel
theorem dX5_idle_17 : decode cX5_idle 17 = .ok (.aload_n 0, 1) := by decide +kernel
theorem dX5_idle_18 : decode cX5_idle 18 = .ok (.iload_n 1, 1) := by decide +kernel
theorem dX5_idle_19 : decode cX5_idle 19 = .ok (.iconst (-1), 1) := by decide +kernel
theorem dX5_idle_20 : decode cX5_idle 20 = .ok (.invokevirtual 158, 3) := by decide +kernel
theorem dX5_idle_23 : decode cX5_idle 23 = .ok (.istore_n 2, 1) := by decide +kernel
theorem dX5_idle_24 : decode cX5_idle 24 = .ok (.iconst 0, 1) := by decide +kernel
theorem dX5_idle_25 : decode cX5_idle 25 = .ok (.istore_n 3, 1) := by decide +kernel
theorem dX5_idle_26 : decode cX5_idle 26 = .ok (.iload_n 3, 1) := by decide +kernel
theorem dX5_idle_27 : decode cX5_idle 27 = .ok (.aload_n 0, 1) := by decide +kernel
theorem dX5_idle_28 : decode cX5_idle 28 = .ok (.getfield 10, 3) := by decide +kernel
theorem dX5_idle_31 : decode cX5_idle 31 = .ok (.getfield 134, 3) := by decide +kernel
theorem dX5_idle_34 : decode cX5_idle 34 = .ok (.if_icmp .ge 25, 3) := by decide +kernel
theorem dX5_idle_37 : decode cX5_idle 37 = .ok (.aload_n 0, 1) := by decide +kernel
theorem dX5_idle_38 : decode cX5_idle 38 = .ok (.invokevirtual 137, 3) := by decide +kernel
theorem dX5_idle_41 : decode cX5_idle 41 = .ok (.aload_n 0, 1) := by decide +kernel
theorem dX5_idle_42 : decode cX5_idle 42 = .ok (.iload_n 1, 1) := by decide +kernel
theorem dX5_idle_43 : decode cX5_idle 43 = .ok (.iload_n 3, 1) := by decide +kernel
theorem dX5_idle_44 : decode cX5_idle 44 = .ok (.invokevirtual 158, 3) := by decide +kernel
theorem dX5_idle_47 : decode cX5_idle 47 = .ok (.iload_n 2, 1) := by decide +kernel
theorem dX5_idle_48 : decode cX5_idle 48 = .ok (.if_icmp .ne 5, 3) := by decide +kernel
theorem dX5_idle_51 : decode cX5_idle 51 = .ok (.iload_n 3, 1) := by decide +kernel
theorem dX5_idle_52 : decode cX5_idle 52 = .ok (.ireturn, 1) := by decide +kernel
theorem dX5_idle_53 : decode cX5_idle 53 = .ok (.iinc 3 1, 3) := by decide +kernel
theorem dX5_idle_56 : decode cX5_idle 56 = .ok (.goto (-30), 3) := by decide +kernel
theorem dX5_idle_59 : decode cX5_idle 59 = .ok (.iconst (-1), 1) := by decide +kernel
theorem dX5_idle_60 : decode cX5_idle 60 = .ok (.ireturn, 1) := by decide +kernel
theorem dX5_gap_0 : decode cX5_gap 0 = .ok (.iload_n 1, 1) := by decide +kernel
theorem dX5_gap_1 : decode cX5_gap 1 = .ok (.tableswitch 65 0 3 #[31, 40, 49, 57], 31) := by decide +kernel
theorem dX5_gap_32 : decode cX5_gap 32 = .ok (.aload_n 0, 1) := by decide +kernel
theorem dX5_gap_33 : decode cX5_gap 33 = .ok (.getfield 10, 3) := by decide +kernel
theorem dX5_gap_36 : decode cX5_gap 36 = .ok (.iconst 1, 1) := by decide +kernel
theorem dX5_gap_37 : decode cX5_gap 37 = .ok (.invokevirtual 177, 3) := by decide +kernel
theorem dX5_gap_40 : decode cX5_gap 40 = .ok (.ireturn, 1) := by decide +kernel
theorem dX5_gap_41 : decode cX5_gap 41 = .ok (.aload_n 0, 1) := by decide +kernel
theorem dX5_gap_42 : decode cX5_gap 42 = .ok (.getfield 10, 3) := by decide +kernel
theorem dX5_gap_45 : decode cX5_gap 45 = .ok (.iconst 0, 1) := by decide +kernel
theorem dX5_gap_46 : decode cX5_gap 46 = .ok (.invokevirtual 177, 3) := by decide +kernel
theorem dX5_gap_49 : decode cX5_gap 49 = .ok (.ireturn, 1) := by decide +kernel
theorem dX5_gap_50 : decode cX5_gap 50 = .ok (.aload_n 0, 1) := by decide +kernel
theorem dX5_gap_51 : decode cX5_gap 51 = .ok (.getfield 10, 3) := by decide +kernel
theorem dX5_gap_54 : decode cX5_gap 54 = .ok (.invokevirtual 181, 3) := by decide +kernel
theorem dX5_gap_57 : decode cX5_gap 57 = .ok (.ireturn, 1) := by decide +kernel
theorem dX5_gap_58 : decode cX5_gap 58 = .ok (.aload_n 0, 1) := by decide +kernel
theorem dX5_gap_59 : decode cX5_gap 59 = .ok (.getfield 10, 3) := by decide +kernel
theorem dX5_gap_62 : decode cX5_gap 62 = .ok (.invokevirtual 184, 3) := by decide +kernel
theorem dX5_gap_65 : decode cX5_gap 65 = .ok (.ireturn, 1) := by decide +kernel
theorem dX5_gap_66 : decode cX5_gap 66 = .ok (.bipush (-2), 2) := by decide +kernel
theorem dX5_gap_68 : decode cX5_gap 68 = .ok (.ireturn, 1) := by decide +kernel
theorem dX5_share_0 : decode cX5_share 0 = .ok (.aload_n 0, 1) := by decide +kernel
theorem dX5_share_1 : decode cX5_share 1 = .ok (.getfield 10, 3) := by decide +kernel
theorem dX5_share_4 : decode cX5_share 4 = .ok (.invokevirtual 187, 3) := by decide +kernel
theorem dX5_share_7 : decode cX5_share 7 = .ok (.istore_n 2, 1) := by decide +kernel
theorem dX5_share_8 : decode cX5_share 8 = .ok (.iload_n 1, 1) := by decide +kernel
theorem dX5_share_9 : decode cX5_share 9 = .ok (.ifCond .lt 12, 3) := by decide +kernel
theorem dX5_share_12 : decode cX5_share 12 = .ok (.iload_n 1, 1) := by decide +kernel
theorem dX5_share_13 : decode cX5_share 13 = .ok (.iconst 1, 1) := by decide +kernel
theorem dX5_share_14 : decode cX5_share 14 = .ok (.if_icmp .gt 7, 3) := by decide +kernel
theorem dX5_share_17 : decode cX5_share 17 = .ok (.iload_n 2, 1) := by decide +kernel
theorem dX5_share_18 : decode cX5_share 18 = .ok (.ifCond .ne 7, 3) := by decide +kernel
theorem dX5_share_21 : decode cX5_share 21 = .ok (.ldc2_w 119, 3) := by decide +kernel
theorem dX5_share_24 : decode cX5_share 24 = .ok (.lreturn, 1) := by decide +kernel
theorem dX5_share_25 : decode cX5_share 25 = .ok (.aload_n 0, 1) := by decide +kernel
theorem dX5_share_26 : decode cX5_share 26 = .ok (.getfield 10, 3) := by decide +kernel
theorem dX5_share_29 : decode cX5_share 29 = .ok (.invokevirtual 131, 3) := by decide +kernel
theorem dX5_share_32 : decode cX5_share 32 = .ok (.iload_n 2, 1) := by decide +kernel
theorem dX5_share_33 : decode cX5_share 33 = .ok (.iload_n 1, 1) := by decide +kernel
theorem dX5_share_34 : decode cX5_share 34 = .ok (.invokestatic 190, 3) := by decide +kernel
theorem dX5_share_37 : decode cX5_share 37 = .ok (.lreturn, 1) := by decide +kernel
theorem dX5_tells_0 : decode cX5_tells 0 = .ok (.iload_n 1, 1) := by decide +kernel
theorem dX5_tells_1 : decode cX5_tells 1 = .ok (.iconst 4, 1) := by decide +kernel
theorem dX5_tells_2 : decode cX5_tells 2 = .ok (.invokestatic 94, 3) := by decide +kernel
theorem dX5_tells_5 : decode cX5_tells 5 = .ok (.ifCond .eq 27, 3) := by decide +kernel
theorem dX5_tells_8 : decode cX5_tells 8 = .ok (.iload_n 2, 1) := by decide +kernel
theorem dX5_tells_9 : decode cX5_tells 9 = .ok (.aload_n 0, 1) := by decide +kernel
theorem dX5_tells_10 : decode cX5_tells 10 = .ok (.getfield 10, 3) := by decide +kernel
theorem dX5_tells_13 : decode cX5_tells 13 = .ok (.getfield 134, 3) := by decide +kernel
theorem dX5_tells_16 : decode cX5_tells 16 = .ok (.invokestatic 94, 3) := by decide +kernel
theorem dX5_tells_19 : decode cX5_tells 19 = .ok (.ifCond .eq 13, 3) := by decide +kernel
theorem dX5_tells_22 : decode cX5_tells 22 = .ok (.iload_n 3, 1) := by decide +kernel
theorem dX5_tells_23 : decode cX5_tells 23 = .ok (.ifCond .lt 9, 3) := by decide +kernel
theorem dX5_tells_26 : decode cX5_tells 26 = .ok (.iload_n 3, 1) := by decide +kernel
theorem dX5_tells_27 : decode cX5_tells 27 = .ok (.bipush 6, 2) := by decide +kernel
theorem dX5_tells_29 : decode cX5_tells 29 = .ok (.if_icmp .le 6, 3) := by decide +kernel
theorem dX5_tells_32 : decode cX5_tells 32 = .ok (.bipush (-2), 2) := by decide +kernel
theorem dX5_tells_34 : decode cX5_tells 34 = .ok (.ireturn, 1) := by decide +kernel
theorem dX5_tells_35 : decode cX5_tells 35 = .ok (.aload_n 0, 1) := by decide +kernel
theorem dX5_tells_36 : decode cX5_tells 36 = .ok (.getfield 42, 3) := by decide +kernel
theorem dX5_tells_39 : decode cX5_tells 39 = .ok (.iload_n 1, 1) := by decide +kernel
theorem dX5_tells_40 : decode cX5_tells 40 = .ok (.aaload, 1) := by decide +kernel
theorem dX5_tells_41 : decode cX5_tells 41 = .ok (.astore 4, 2) := by decide +kernel
theorem dX5_tells_43 : decode cX5_tells 43 = .ok (.aload 4, 2) := by decide +kernel
theorem dX5_tells_45 : decode cX5_tells 45 = .ok (.invokevirtual 194, 3) := by decide +kernel
theorem dX5_tells_48 : decode cX5_tells 48 = .ok (.ifCond .eq 6, 3) := by decide +kernel
theorem dX5_tells_51 : decode cX5_tells 51 = .ok (.bipush (-11), 2) := by decide +kernel
theorem dX5_tells_53 : decode cX5_tells 53 = .ok (.ireturn, 1) := by decide +kernel
theorem dX5_tells_54 : decode cX5_tells 54 = .ok (.aload 4, 2) := by decide +kernel
theorem dX5_tells_56 : decode cX5_tells 56 = .ok (.getfield 198, 3) := by decide +kernel
theorem dX5_tells_59 : decode cX5_tells 59 = .ok (.bipush 20, 2) := by decide +kernel
theorem dX5_tells_61 : decode cX5_tells 61 = .ok (.if_icmp .le 6, 3) := by decide +kernel
theorem dX5_tells_64 : decode cX5_tells 64 = .ok (.bipush (-2), 2) := by decide +kernel
theorem dX5_tells_66 : decode cX5_tells 66 = .ok (.ireturn, 1) := by decide +kernel
theorem dX5_tells_67 : decode cX5_tells 67 = .ok (.iload_n 3, 1) := by decide +kernel
theorem dX5_tells_68 : decode cX5_tells 68 = .ok (.ifCond .ne 14, 3) := by decide +kernel
theorem dX5_tells_71 : decode cX5_tells 71 = .ok (.aload_n 0, 1) := by decide +kernel
theorem dX5_tells_72 : decode cX5_tells 72 = .ok (.invokevirtual 137, 3) := by decide +kernel
theorem dX5_tells_75 : decode cX5_tells 75 = .ok (.aload_n 0, 1) := by decide +kernel
theorem dX5_tells_76 : decode cX5_tells 76 = .ok (.aload 4, 2) := by decide +kernel
theorem dX5_tells_78 : decode cX5_tells 78 = .ok (.invokevirtual 201, 3) := by decide +kernel
theorem dX5_tells_81 : decode cX5_tells 81 = .ok (.ireturn, 1) := by decide +kernel
theorem dX5_tells_82 : decode cX5_tells 82 = .ok (.iconst 0, 1) := by decide +kernel
theorem dX5_tells_83 : decode cX5_tells 83 = .ok (.istore 5, 2) := by decide +kernel
theorem dX5_tells_85 : decode cX5_tells 85 = .ok (.iconst 0, 1) := by decide +kernel
theorem dX5_tells_86 : decode cX5_tells 86 = .ok (.istore 6, 2) := by decide +kernel
theorem dX5_tells_88 : decode cX5_tells 88 = .ok (.iconst (-1), 1) := by decide +kernel
theorem dX5_tells_89 : decode cX5_tells 89 = .ok (.istore 7, 2) := by decide +kernel
theorem dX5_tells_91 : decode cX5_tells 91 = .ok (.aload_n 0, 1) := by decide +kernel
theorem dX5_tells_92 : decode cX5_tells 92 = .ok (.iload_n 3, 1) := by decide +kernel
theorem dX5_tells_93 : decode cX5_tells 93 = .ok (.invokevirtual 205, 3) := by decide +kernel
theorem dX5_tells_96 : decode cX5_tells 96 = .ok (.istore 8, 2) := by decide +kernel
theorem dX5_tells_98 : decode cX5_tells 98 = .ok (.iconst 0, 1) := by decide +kernel
theorem dX5_tells_99 : decode cX5_tells 99 = .ok (.istore 9, 2) := by decide +kernel
theorem dX5_tells_101 : decode cX5_tells 101 = .ok (.iload 9, 2) := by decide +kernel
theorem dX5_tells_103 : decode cX5_tells 103 = .ok (.iload 8, 2) := by decide +kernel
theorem dX5_tells_105 : decode cX5_tells 105 = .ok (.if_icmp .ge 58, 3) := by decide +kernel
theorem dX5_tells_108 : decode cX5_tells 108 = .ok (.aload_n 0, 1) := by decide +kernel
theorem dX5_tells_109 : decode cX5_tells 109 = .ok (.invokevirtual 137, 3) := by decide +kernel
theorem dX5_tells_112 : decode cX5_tells 112 = .ok (.aload_n 0, 1) := by decide +kernel
theorem dX5_tells_113 : decode cX5_tells 113 = .ok (.iload_n 2, 1) := by decide +kernel
theorem dX5_tells_114 : decode cX5_tells 114 = .ok (.iload_n 3, 1) := by decide +kernel
theorem dX5_tells_115 : decode cX5_tells 115 = .ok (.iload 9, 2) := by decide +kernel
theorem dX5_tells_117 : decode cX5_tells 117 = .ok (.invokevirtual 208, 3) := by decide +kernel
theorem dX5_tells_120 : decode cX5_tells 120 = .ok (.aload_n 0, 1) := by decide +kernel
theorem dX5_tells_121 : decode cX5_tells 121 = .ok (.aload 4, 2) := by decide +kernel
theorem dX5_tells_123 : decode cX5_tells 123 = .ok (.invokevirtual 201, 3) := by decide +kernel
theorem dX5_tells_126 : decode cX5_tells 126 = .ok (.iconst (-1), 1) := by decide +kernel
theorem dX5_tells_127 : decode cX5_tells 127 = .ok (.if_icmp .ne 30, 3) := by decide +kernel
theorem dX5_tells_130 : decode cX5_tells 130 = .ok (.iload 5, 2) := by decide +kernel
theorem dX5_tells_132 : decode cX5_tells 132 = .ok (.iconst 1, 1) := by decide +kernel
theorem dX5_tells_133 : decode cX5_tells 133 = .ok (.iload 9, 2) := by decide +kernel
theorem dX5_tells_135 : decode cX5_tells 135 = .ok (.ishl, 1) := by decide +kernel
theorem dX5_tells_136 : decode cX5_tells 136 = .ok (.ior, 1) := by decide +kernel
theorem dX5_tells_137 : decode cX5_tells 137 = .ok (.istore 5, 2) := by decide +kernel
theorem dX5_tells_139 : decode cX5_tells 139 = .ok (.iinc 6 1, 3) := by decide +kernel
theorem dX5_tells_142 : decode cX5_tells 142 = .ok (.iload 7, 2) := by decide +kernel
theorem dX5_tells_144 : decode cX5_tells 144 = .ok (.iconst (-1), 1) := by decide +kernel
theorem dX5_tells_145 : decode cX5_tells 145 = .ok (.if_icmp .ne 8, 3) := by decide +kernel
theorem dX5_tells_148 : decode cX5_tells 148 = .ok (.iload 9, 2) := by decide +kernel
theorem dX5_tells_150 : decode cX5_tells 150 = .ok (.goto 5, 3) := by decide +kernel
theorem dX5_tells_153 : decode cX5_tells 153 = .ok (.iload 7, 2) := by decide +kernel
theorem dX5_tells_155 : decode cX5_tells 155 = .ok (.istore 7, 2) := by decide +kernel
theorem dX5_tells_157 : decode cX5_tells 157 = .ok (.iinc 9 1, 3) := by decide +kernel
theorem dX5_tells_160 : decode cX5_tells 160 = .ok (.goto (-59), 3) := by decide +kernel
theorem dX5_tells_163 : decode cX5_tells 163 = .ok (.iload_n 3, 1) := by decide +kernel
theorem dX5_tells_164 : decode cX5_tells 164 = .ok (.iconst 4, 1) := by decide +kernel
theorem dX5_tells_165 : decode cX5_tells 165 = .ok (.if_icmp .ne 6, 3) := by decide +kernel
theorem dX5_tells_168 : decode cX5_tells 168 = .ok (.iload 6, 2) := by decide +kernel
theorem dX5_tells_170 : decode cX5_tells 170 = .ok (.ireturn, 1) := by decide +kernel
theorem dX5_tells_171 : decode cX5_tells 171 = .ok (.iload_n 3, 1) := by decide +kernel
theorem dX5_tells_172 : decode cX5_tells 172 = .ok (.iconst 5, 1) := by decide +kernel
theorem dX5_tells_173 : decode cX5_tells 173 = .ok (.if_icmp .ne 8, 3) := by decide +kernel
theorem dX5_tells_176 : decode cX5_tells 176 = .ok (.iload 7, 2) := by decide +kernel
theorem dX5_tells_178 : decode cX5_tells 178 = .ok (.goto 5, 3) := by decide +kernel
theorem dX5_tells_181 : decode cX5_tells 181 = .ok (.iload 5, 2) := by decide +kernel
theorem dX5_tells_183 : decode cX5_tells 183 = .ok (.ireturn, 1) := by decide +kernel
theorem dX5_film_0 : decode cX5_film 0 = .ok (.iload_n 1, 1) := by decide +kernel
theorem dX5_film_1 : decode cX5_film 1 = .ok (.iconst 4, 1) := by decide +kernel
theorem dX5_film_2 : decode cX5_film 2 = .ok (.invokestatic 94, 3) := by decide +kernel
theorem dX5_film_5 : decode cX5_film 5 = .ok (.ifCond .eq 13, 3) := by decide +kernel
theorem dX5_film_8 : decode cX5_film 8 = .ok (.iload_n 2, 1) := by decide +kernel
theorem dX5_film_9 : decode cX5_film 9 = .ok (.ifCond .lt 9, 3) := by decide +kernel
theorem dX5_film_12 : decode cX5_film 12 = .ok (.iload_n 2, 1) := by decide +kernel
theorem dX5_film_13 : decode cX5_film 13 = .ok (.bipush 20, 2) := by decide +kernel
theorem dX5_film_15 : decode cX5_film 15 = .ok (.if_icmp .le 6, 3) := by decide +kernel
theorem dX5_film_18 : decode cX5_film 18 = .ok (.bipush (-2), 2) := by decide +kernel
theorem dX5_film_20 : decode cX5_film 20 = .ok (.ireturn, 1) := by decide +kernel
theorem dX5_film_21 : decode cX5_film 21 = .ok (.aload_n 0, 1) := by decide +kernel
theorem dX5_film_22 : decode cX5_film 22 = .ok (.getfield 42, 3) := by decide +kernel
theorem dX5_film_25 : decode cX5_film 25 = .ok (.iload_n 1, 1) := by decide +kernel
theorem dX5_film_26 : decode cX5_film 26 = .ok (.aaload, 1) := by decide +kernel
theorem dX5_film_27 : decode cX5_film 27 = .ok (.astore_n 3, 1) := by decide +kernel
theorem dX5_film_28 : decode cX5_film 28 = .ok (.aload_n 3, 1) := by decide +kernel
theorem dX5_film_29 : decode cX5_film 29 = .ok (.iconst 0, 1) := by decide +kernel
theorem dX5_film_30 : decode cX5_film 30 = .ok (.iload_n 2, 1) := by decide +kernel
theorem dX5_film_31 : decode cX5_film 31 = .ok (.invokevirtual 211, 3) := by decide +kernel
theorem dX5_film_34 : decode cX5_film 34 = .ok (.aload_n 0, 1) := by decide +kernel
theorem dX5_film_35 : decode cX5_film 35 = .ok (.invokevirtual 137, 3) := by decide +kernel
theorem dX5_film_38 : decode cX5_film 38 = .ok (.iconst 0, 1) := by decide +kernel
theorem dX5_film_39 : decode cX5_film 39 = .ok (.istore 4, 2) := by decide +kernel
theorem dX5_film_41 : decode cX5_film 41 = .ok (.iload 4, 2) := by decide +kernel
theorem dX5_film_43 : decode cX5_film 43 = .ok (.iload_n 2, 1) := by decide +kernel
theorem dX5_film_44 : decode cX5_film 44 = .ok (.if_icmp .ge 34, 3) := by decide +kernel
theorem dX5_film_47 : decode cX5_film 47 = .ok (.aload_n 0, 1) := by decide +kernel
theorem dX5_film_48 : decode cX5_film 48 = .ok (.getfield 29, 3) := by decide +kernel
theorem dX5_film_51 : decode cX5_film 51 = .ok (.aload_n 0, 1) := by decide +kernel
theorem dX5_film_52 : decode cX5_film 52 = .ok (.getfield 16, 3) := by decide +kernel
theorem dX5_film_55 : decode cX5_film 55 = .ok (.iconst (-1), 1) := by decide +kernel
theorem dX5_film_56 : decode cX5_film 56 = .ok (.invokevirtual 127, 3) := by decide +kernel
theorem dX5_film_59 : decode cX5_film 59 = .ok (.aload_n 3, 1) := by decide +kernel
theorem dX5_film_60 : decode cX5_film 60 = .ok (.iload 4, 2) := by decide +kernel
theorem dX5_film_62 : decode cX5_film 62 = .ok (.aload_n 0, 1) := by decide +kernel
theorem dX5_film_63 : decode cX5_film 63 = .ok (.getfield 16, 3) := by decide +kernel
theorem dX5_film_66 : decode cX5_film 66 = .ok (.invokevirtual 131, 3) := by decide +kernel
theorem dX5_film_69 : decode cX5_film 69 = .ok (.invokevirtual 214, 3) := by decide +kernel
theorem dX5_film_72 : decode cX5_film 72 = .ok (.iinc 4 1, 3) := by decide +kernel
theorem dX5_film_75 : decode cX5_film 75 = .ok (.goto (-34), 3) := by decide +kernel
theorem dX5_film_78 : decode cX5_film 78 = .ok (.iload_n 2, 1) := by decide +kernel
theorem dX5_film_79 : decode cX5_film 79 = .ok (.ireturn, 1) := by decide +kernel
theorem dX5_drawn_0 : decode cX5_drawn 0 = .ok (.iload_n 2, 1) := by decide +kernel
theorem dX5_drawn_1 : decode cX5_drawn 1 = .ok (.ifCond .lt 9, 3) := by decide +kernel
theorem dX5_drawn_4 : decode cX5_drawn 4 = .ok (.iload_n 2, 1) := by decide +kernel
theorem dX5_drawn_5 : decode cX5_drawn 5 = .ok (.bipush 40, 2) := by decide +kernel
theorem dX5_drawn_7 : decode cX5_drawn 7 = .ok (.if_icmp .le 6, 3) := by decide +kernel
theorem dX5_drawn_10 : decode cX5_drawn 10 = .ok (.bipush (-2), 2) := by decide +kernel
theorem dX5_drawn_12 : decode cX5_drawn 12 = .ok (.ireturn, 1) := by decide +kernel
theorem dX5_drawn_13 : decode cX5_drawn 13 = .ok (.aload_n 0, 1) := by decide +kernel
theorem dX5_drawn_14 : decode cX5_drawn 14 = .ok (.iload_n 1, 1) := by decide +kernel
theorem dX5_drawn_15 : decode cX5_drawn 15 = .ok (.invokevirtual 217, 3) := by decide +kernel
theorem dX5_drawn_18 : decode cX5_drawn 18 = .ok (.aload_n 0, 1) := by decide +kernel
theorem dX5_drawn_19 : decode cX5_drawn 19 = .ok (.iload_n 2, 1) := by decide +kernel
theorem dX5_drawn_20 : decode cX5_drawn 20 = .ok (.iconst (-1), 1) := by decide +kernel
theorem dX5_drawn_21 : decode cX5_drawn 21 = .ok (.invokevirtual 158, 3) := by decide +kernel
theorem dX5_drawn_24 : decode cX5_drawn 24 = .ok (.ireturn, 1) := by decide +kernel
theorem dX5_chance_0 : decode cX5_chance 0 = .ok (.iload_n 2, 1) := by decide +kernel
theorem dX5_chance_1 : decode cX5_chance 1 = .ok (.iconst 1, 1) := by decide +kernel
theorem dX5_chance_2 : decode cX5_chance 2 = .ok (.if_icmp .lt 30, 3) := by decide +kernel
theorem dX5_chance_5 : decode cX5_chance 5 = .ok (.iload_n 2, 1) := by decide +kernel
theorem dX5_chance_6 : decode cX5_chance 6 = .ok (.bipush 20, 2) := by decide +kernel
theorem dX5_chance_8 : decode cX5_chance 8 = .ok (.if_icmp .gt 24, 3) := by decide +kernel
theorem dX5_chance_11 : decode cX5_chance 11 = .ok (.iload_n 3, 1) := by decide +kernel
theorem dX5_chance_12 : decode cX5_chance 12 = .ok (.ifCond .lt 20, 3) := by decide +kernel
theorem dX5_chance_15 : decode cX5_chance 15 = .ok (.iload_n 3, 1) := by decide +kernel
theorem dX5_chance_16 : decode cX5_chance 16 = .ok (.bipush 64, 2) := by decide +kernel
theorem dX5_chance_18 : decode cX5_chance 18 = .ok (.if_icmp .gt 14, 3) := by decide +kernel
theorem dX5_chance_21 : decode cX5_chance 21 = .ok (.iload 4, 2) := by decide +kernel
theorem dX5_chance_23 : decode cX5_chance 23 = .ok (.ifCond .lt 9, 3) := by decide +kernel
theorem dX5_chance_26 : decode cX5_chance 26 = .ok (.iload 4, 2) := by decide +kernel
theorem dX5_chance_28 : decode cX5_chance 28 = .ok (.iconst 1, 1) := by decide +kernel
theorem dX5_chance_29 : decode cX5_chance 29 = .ok (.if_icmp .le 7, 3) := by decide +kernel
theorem dX5_chance_32 : decode cX5_chance 32 = .ok (.ldc2_w 119, 3) := by decide +kernel
theorem dX5_chance_35 : decode cX5_chance 35 = .ok (.lreturn, 1) := by decide +kernel
theorem dX5_chance_36 : decode cX5_chance 36 = .ok (.iconst 0, 1) := by decide +kernel
theorem dX5_chance_37 : decode cX5_chance 37 = .ok (.istore 5, 2) := by decide +kernel
theorem dX5_chance_39 : decode cX5_chance 39 = .ok (.iconst 0, 1) := by decide +kernel
theorem dX5_chance_40 : decode cX5_chance 40 = .ok (.istore 6, 2) := by decide +kernel
theorem dX5_chance_42 : decode cX5_chance 42 = .ok (.iload 6, 2) := by decide +kernel
theorem dX5_chance_44 : decode cX5_chance 44 = .ok (.iload_n 2, 1) := by decide +kernel
theorem dX5_chance_45 : decode cX5_chance 45 = .ok (.if_icmp .ge 31, 3) := by decide +kernel
theorem dX5_chance_48 : decode cX5_chance 48 = .ok (.aload_n 0, 1) := by decide +kernel
theorem dX5_chance_49 : decode cX5_chance 49 = .ok (.iload_n 1, 1) := by decide +kernel
theorem dX5_chance_50 : decode cX5_chance 50 = .ok (.iload 6, 2) := by decide +kernel
theorem dX5_chance_52 : decode cX5_chance 52 = .ok (.iadd, 1) := by decide +kernel
theorem dX5_chance_53 : decode cX5_chance 53 = .ok (.invokevirtual 217, 3) := by decide +kernel
theorem dX5_chance_56 : decode cX5_chance 56 = .ok (.aload_n 0, 1) := by decide +kernel
theorem dX5_chance_57 : decode cX5_chance 57 = .ok (.bipush 12, 2) := by decide +kernel
theorem dX5_chance_59 : decode cX5_chance 59 = .ok (.iconst (-1), 1) := by decide +kernel
theorem dX5_chance_60 : decode cX5_chance 60 = .ok (.invokevirtual 158, 3) := by decide +kernel
theorem dX5_chance_63 : decode cX5_chance 63 = .ok (.iload_n 3, 1) := by decide +kernel
theorem dX5_chance_64 : decode cX5_chance 64 = .ok (.if_icmp .lt 6, 3) := by decide +kernel
theorem dX5_chance_67 : decode cX5_chance 67 = .ok (.iinc 5 1, 3) := by decide +kernel
theorem dX5_chance_70 : decode cX5_chance 70 = .ok (.iinc 6 1, 3) := by decide +kernel
theorem dX5_chance_73 : decode cX5_chance 73 = .ok (.goto (-31), 3) := by decide +kernel
theorem dX5_chance_76 : decode cX5_chance 76 = .ok (.iload 5, 2) := by decide +kernel
theorem dX5_chance_78 : decode cX5_chance 78 = .ok (.iload_n 2, 1) := by decide +kernel
theorem dX5_chance_79 : decode cX5_chance 79 = .ok (.iload 4, 2) := by decide +kernel
theorem dX5_chance_81 : decode cX5_chance 81 = .ok (.invokestatic 190, 3) := by decide +kernel
theorem dX5_chance_84 : decode cX5_chance 84 = .ok (.lreturn, 1) := by decide +kernel
theorem dX5_image_0 : decode cX5_image 0 = .ok (.aload_n 0, 1) := by decide +kernel
theorem dX5_image_1 : decode cX5_image 1 = .ok (.getfield 19, 3) := by decide +kernel
theorem dX5_image_4 : decode cX5_image 4 = .ok (.aload_n 0, 1) := by decide +kernel
theorem dX5_image_5 : decode cX5_image 5 = .ok (.getfield 10, 3) := by decide +kernel
theorem dX5_image_8 : decode cX5_image 8 = .ok (.invokevirtual 220, 3) := by decide +kernel
theorem dX5_image_11 : decode cX5_image 11 = .ok (.aload_n 0, 1) := by decide +kernel
theorem dX5_image_12 : decode cX5_image 12 = .ok (.iconst 1, 1) := by decide +kernel
theorem dX5_image_13 : decode cX5_image 13 = .ok (.putfield 22, 3) := by decide +kernel
theorem dX5_image_16 : decode cX5_image 16 = .ok (.aload_n 0, 1) := by decide +kernel
theorem dX5_image_17 : decode cX5_image 17 = .ok (.getfield 10, 3) := by decide +kernel
theorem dX5_image_20 : decode cX5_image 20 = .ok (.getfield 134, 3) := by decide +kernel
theorem dX5_image_23 : decode cX5_image 23 = .ok (.ireturn, 1) := by decide +kernel
theorem dX5_back_0 : decode cX5_back 0 = .ok (.aload_n 0, 1) := by decide +kernel
theorem dX5_back_1 : decode cX5_back 1 = .ok (.getfield 22, 3) := by decide +kernel
theorem dX5_back_4 : decode cX5_back 4 = .ok (.ifCond .ne 6, 3) := by decide +kernel
theorem dX5_back_7 : decode cX5_back 7 = .ok (.bipush (-3), 2) := by decide +kernel
theorem dX5_back_9 : decode cX5_back 9 = .ok (.ireturn, 1) := by decide +kernel
theorem dX5_back_10 : decode cX5_back 10 = .ok (.aload_n 0, 1) := by decide +kernel
theorem dX5_back_11 : decode cX5_back 11 = .ok (.getfield 10, 3) := by decide +kernel
theorem dX5_back_14 : decode cX5_back 14 = .ok (.aload_n 0, 1) := by decide +kernel
theorem dX5_back_15 : decode cX5_back 15 = .ok (.getfield 19, 3) := by decide +kernel
theorem dX5_back_18 : decode cX5_back 18 = .ok (.invokevirtual 220, 3) := by decide +kernel
theorem dX5_back_21 : decode cX5_back 21 = .ok (.aload_n 0, 1) := by decide +kernel
theorem dX5_back_22 : decode cX5_back 22 = .ok (.getfield 10, 3) := by decide +kernel
theorem dX5_back_25 : decode cX5_back 25 = .ok (.getfield 134, 3) := by decide +kernel
theorem dX5_back_28 : decode cX5_back 28 = .ok (.ireturn, 1) := by decide +kernel
theorem dX5_count_0 : decode cX5_count 0 = .ok (.iload_n 1, 1) := by decide +kernel
theorem dX5_count_1 : decode cX5_count 1 = .ok (.tableswitch 87 0 5 #[39, 47, 55, 63, 71, 79], 39) := by decide +kernel
theorem dX5_count_40 : decode cX5_count 40 = .ok (.aload_n 0, 1) := by decide +kernel
theorem dX5_count_41 : decode cX5_count 41 = .ok (.getfield 10, 3) := by decide +kernel
theorem dX5_count_44 : decode cX5_count 44 = .ok (.getfield 134, 3) := by decide +kernel
theorem dX5_count_47 : decode cX5_count 47 = .ok (.ireturn, 1) := by decide +kernel
theorem dX5_count_48 : decode cX5_count 48 = .ok (.aload_n 0, 1) := by decide +kernel
theorem dX5_count_49 : decode cX5_count 49 = .ok (.getfield 10, 3) := by decide +kernel
theorem dX5_count_52 : decode cX5_count 52 = .ok (.invokevirtual 131, 3) := by decide +kernel
theorem dX5_count_55 : decode cX5_count 55 = .ok (.ireturn, 1) := by decide +kernel
theorem dX5_count_56 : decode cX5_count 56 = .ok (.aload_n 0, 1) := by decide +kernel
theorem dX5_count_57 : decode cX5_count 57 = .ok (.getfield 10, 3) := by decide +kernel
theorem dX5_count_60 : decode cX5_count 60 = .ok (.getfield 124, 3) := by decide +kernel
theorem dX5_count_63 : decode cX5_count 63 = .ok (.ireturn, 1) := by decide +kernel
theorem dX5_count_64 : decode cX5_count 64 = .ok (.aload_n 0, 1) := by decide +kernel
theorem dX5_count_65 : decode cX5_count 65 = .ok (.getfield 29, 3) := by decide +kernel
theorem dX5_count_68 : decode cX5_count 68 = .ok (.getfield 74, 3) := by decide +kernel
theorem dX5_count_71 : decode cX5_count 71 = .ok (.ireturn, 1) := by decide +kernel
theorem dX5_count_72 : decode cX5_count 72 = .ok (.aload_n 0, 1) := by decide +kernel
theorem dX5_count_73 : decode cX5_count 73 = .ok (.getfield 36, 3) := by decide +kernel
theorem dX5_count_76 : decode cX5_count 76 = .ok (.getfield 223, 3) := by decide +kernel
theorem dX5_count_79 : decode cX5_count 79 = .ok (.ireturn, 1) := by decide +kernel
theorem dX5_count_80 : decode cX5_count 80 = .ok (.aload_n 0, 1) := by decide +kernel
theorem dX5_count_81 : decode cX5_count 81 = .ok (.getfield 10, 3) := by decide +kernel
theorem dX5_count_84 : decode cX5_count 84 = .ok (.getfield 121, 3) := by decide +kernel
theorem dX5_count_87 : decode cX5_count 87 = .ok (.ireturn, 1) := by decide +kernel
theorem dX5_count_88 : decode cX5_count 88 = .ok (.bipush (-2), 2) := by decide +kernel
theorem dX5_count_90 : decode cX5_count 90 = .ok (.ireturn, 1) := by decide +kernel
theorem dX5_sheet_0 : decode cX5_sheet 0 = .ok (.iload_n 1, 1) := by decide +kernel
theorem dX5_sheet_1 : decode cX5_sheet 1 = .ok (.iconst 4, 1) := by decide +kernel
theorem dX5_sheet_2 : decode cX5_sheet 2 = .ok (.invokestatic 94, 3) := by decide +kernel
theorem dX5_sheet_5 : decode cX5_sheet 5 = .ok (.ifCond .eq 13, 3) := by decide +kernel
theorem dX5_sheet_8 : decode cX5_sheet 8 = .ok (.iload_n 2, 1) := by decide +kernel
theorem dX5_sheet_9 : decode cX5_sheet 9 = .ok (.iconst (-1), 1) := by decide +kernel
theorem dX5_sheet_10 : decode cX5_sheet 10 = .ok (.if_icmp .lt 8, 3) := by decide +kernel
theorem dX5_sheet_13 : decode cX5_sheet 13 = .ok (.iload_n 2, 1) := by decide +kernel
theorem dX5_sheet_14 : decode cX5_sheet 14 = .ok (.iconst 3, 1) := by decide +kernel
theorem dX5_sheet_15 : decode cX5_sheet 15 = .ok (.if_icmp .lt 6, 3) := by decide +kernel
theorem dX5_sheet_18 : decode cX5_sheet 18 = .ok (.bipush (-2), 2) := by decide +kernel
theorem dX5_sheet_20 : decode cX5_sheet 20 = .ok (.ireturn, 1) := by decide +kernel
theorem dX5_sheet_21 : decode cX5_sheet 21 = .ok (.iload_n 2, 1) := by decide +kernel
theorem dX5_sheet_22 : decode cX5_sheet 22 = .ok (.iconst (-1), 1) := by decide +kernel
theorem dX5_sheet_23 : decode cX5_sheet 23 = .ok (.if_icmp .ne 16, 3) := by decide +kernel
theorem dX5_sheet_26 : decode cX5_sheet 26 = .ok (.aload_n 0, 1) := by decide +kernel
theorem dX5_sheet_27 : decode cX5_sheet 27 = .ok (.getfield 42, 3) := by decide +kernel
theorem dX5_sheet_30 : decode cX5_sheet 30 = .ok (.iload_n 1, 1) := by decide +kernel
theorem dX5_sheet_31 : decode cX5_sheet 31 = .ok (.aaload, 1) := by decide +kernel
theorem dX5_sheet_32 : decode cX5_sheet 32 = .ok (.iconst (-1), 1) := by decide +kernel
theorem dX5_sheet_33 : decode cX5_sheet 33 = .ok (.iconst 0, 1) := by decide +kernel
theorem dX5_sheet_34 : decode cX5_sheet 34 = .ok (.invokevirtual 211, 3) := by decide +kernel
theorem dX5_sheet_37 : decode cX5_sheet 37 = .ok (.iconst 1, 1) := by decide +kernel
theorem dX5_sheet_38 : decode cX5_sheet 38 = .ok (.ireturn, 1) := by decide +kernel
theorem dX5_sheet_39 : decode cX5_sheet 39 = .ok (.iload_n 3, 1) := by decide +kernel
theorem dX5_sheet_40 : decode cX5_sheet 40 = .ok (.bipush 40, 2) := by decide +kernel
theorem dX5_sheet_42 : decode cX5_sheet 42 = .ok (.if_icmp .le 6, 3) := by decide +kernel
theorem dX5_sheet_45 : decode cX5_sheet 45 = .ok (.bipush (-2), 2) := by decide +kernel
theorem dX5_sheet_47 : decode cX5_sheet 47 = .ok (.ireturn, 1) := by decide +kernel
theorem dX5_sheet_48 : decode cX5_sheet 48 = .ok (.iload_n 3, 1) := by decide +kernel
theorem dX5_sheet_49 : decode cX5_sheet 49 = .ok (.ifCond .ge 6, 3) := by decide +kernel
theorem dX5_sheet_52 : decode cX5_sheet 52 = .ok (.bipush (-14), 2) := by decide +kernel
theorem dX5_sheet_54 : decode cX5_sheet 54 = .ok (.ireturn, 1) := by decide +kernel
theorem dX5_sheet_55 : decode cX5_sheet 55 = .ok (.aload_n 0, 1) := by decide +kernel
theorem dX5_sheet_56 : decode cX5_sheet 56 = .ok (.getfield 42, 3) := by decide +kernel
theorem dX5_sheet_59 : decode cX5_sheet 59 = .ok (.iload_n 1, 1) := by decide +kernel
theorem dX5_sheet_60 : decode cX5_sheet 60 = .ok (.aaload, 1) := by decide +kernel
theorem dX5_sheet_61 : decode cX5_sheet 61 = .ok (.iload_n 2, 1) := by decide +kernel
theorem dX5_sheet_62 : decode cX5_sheet 62 = .ok (.iload_n 3, 1) := by decide +kernel
theorem dX5_sheet_63 : decode cX5_sheet 63 = .ok (.invokevirtual 211, 3) := by decide +kernel
theorem dX5_sheet_66 : decode cX5_sheet 66 = .ok (.iconst 1, 1) := by decide +kernel
theorem dX5_sheet_67 : decode cX5_sheet 67 = .ok (.ireturn, 1) := by decide +kernel
theorem dX5_cell_0 : decode cX5_cell 0 = .ok (.iload_n 1, 1) := by decide +kernel
theorem dX5_cell_1 : decode cX5_cell 1 = .ok (.iconst 4, 1) := by decide +kernel
theorem dX5_cell_2 : decode cX5_cell 2 = .ok (.invokestatic 94, 3) := by decide +kernel
theorem dX5_cell_5 : decode cX5_cell 5 = .ok (.ifCond .ne 6, 3) := by decide +kernel
theorem dX5_cell_8 : decode cX5_cell 8 = .ok (.bipush (-2), 2) := by decide +kernel
theorem dX5_cell_10 : decode cX5_cell 10 = .ok (.ireturn, 1) := by decide +kernel
theorem dX5_cell_11 : decode cX5_cell 11 = .ok (.aload_n 0, 1) := by decide +kernel
theorem dX5_cell_12 : decode cX5_cell 12 = .ok (.getfield 42, 3) := by decide +kernel
theorem dX5_cell_15 : decode cX5_cell 15 = .ok (.iload_n 1, 1) := by decide +kernel
theorem dX5_cell_16 : decode cX5_cell 16 = .ok (.aaload, 1) := by decide +kernel
theorem dX5_cell_17 : decode cX5_cell 17 = .ok (.astore 4, 2) := by decide +kernel
theorem dX5_cell_19 : decode cX5_cell 19 = .ok (.aload 4, 2) := by decide +kernel
theorem dX5_cell_21 : decode cX5_cell 21 = .ok (.invokevirtual 194, 3) := by decide +kernel
theorem dX5_cell_24 : decode cX5_cell 24 = .ok (.ifCond .eq 6, 3) := by decide +kernel
theorem dX5_cell_27 : decode cX5_cell 27 = .ok (.bipush (-11), 2) := by decide +kernel
theorem dX5_cell_29 : decode cX5_cell 29 = .ok (.ireturn, 1) := by decide +kernel
theorem dX5_cell_30 : decode cX5_cell 30 = .ok (.iload_n 2, 1) := by decide +kernel
theorem dX5_cell_31 : decode cX5_cell 31 = .ok (.aload 4, 2) := by decide +kernel
theorem dX5_cell_33 : decode cX5_cell 33 = .ok (.getfield 198, 3) := by decide +kernel
theorem dX5_cell_36 : decode cX5_cell 36 = .ok (.invokestatic 94, 3) := by decide +kernel
theorem dX5_cell_39 : decode cX5_cell 39 = .ok (.ifCond .ne 6, 3) := by decide +kernel
theorem dX5_cell_42 : decode cX5_cell 42 = .ok (.bipush (-12), 2) := by decide +kernel
theorem dX5_cell_44 : decode cX5_cell 44 = .ok (.ireturn, 1) := by decide +kernel
theorem dX5_cell_45 : decode cX5_cell 45 = .ok (.aload 4, 2) := by decide +kernel
theorem dX5_cell_47 : decode cX5_cell 47 = .ok (.iload_n 2, 1) := by decide +kernel
theorem dX5_cell_48 : decode cX5_cell 48 = .ok (.iload_n 3, 1) := by decide +kernel
theorem dX5_cell_49 : decode cX5_cell 49 = .ok (.invokevirtual 214, 3) := by decide +kernel
theorem dX5_cell_52 : decode cX5_cell 52 = .ok (.iconst 1, 1) := by decide +kernel
theorem dX5_cell_53 : decode cX5_cell 53 = .ok (.ireturn, 1) := by decide +kernel
theorem dX5_copy_0 : decode cX5_copy 0 = .ok (.iload_n 1, 1) := by decide +kernel
theorem dX5_copy_1 : decode cX5_copy 1 = .ok (.iconst 4, 1) := by decide +kernel
theorem dX5_copy_2 : decode cX5_copy 2 = .ok (.invokestatic 94, 3) := by decide +kernel
theorem dX5_copy_5 : decode cX5_copy 5 = .ok (.ifCond .eq 11, 3) := by decide +kernel
theorem dX5_copy_8 : decode cX5_copy 8 = .ok (.iload_n 3, 1) := by decide +kernel
theorem dX5_copy_9 : decode cX5_copy 9 = .ok (.iconst 4, 1) := by decide +kernel
theorem dX5_copy_10 : decode cX5_copy 10 = .ok (.invokestatic 94, 3) := by decide +kernel
theorem dX5_copy_13 : decode cX5_copy 13 = .ok (.ifCond .ne 6, 3) := by decide +kernel
theorem dX5_copy_16 : decode cX5_copy 16 = .ok (.bipush (-2), 2) := by decide +kernel
theorem dX5_copy_18 : decode cX5_copy 18 = .ok (.ireturn, 1) := by decide +kernel
theorem dX5_copy_19 : decode cX5_copy 19 = .ok (.aload_n 0, 1) := by decide +kernel
theorem dX5_copy_20 : decode cX5_copy 20 = .ok (.getfield 42, 3) := by decide +kernel
theorem dX5_copy_23 : decode cX5_copy 23 = .ok (.iload_n 1, 1) := by decide +kernel
theorem dX5_copy_24 : decode cX5_copy 24 = .ok (.aaload, 1) := by decide +kernel
theorem dX5_copy_25 : decode cX5_copy 25 = .ok (.astore 6, 2) := by decide +kernel
theorem dX5_copy_27 : decode cX5_copy 27 = .ok (.aload_n 0, 1) := by decide +kernel
theorem dX5_copy_28 : decode cX5_copy 28 = .ok (.getfield 42, 3) := by decide +kernel
theorem dX5_copy_31 : decode cX5_copy 31 = .ok (.iload_n 3, 1) := by decide +kernel
theorem dX5_copy_32 : decode cX5_copy 32 = .ok (.aaload, 1) := by decide +kernel
theorem dX5_copy_33 : decode cX5_copy 33 = .ok (.astore 7, 2) := by decide +kernel
theorem dX5_copy_35 : decode cX5_copy 35 = .ok (.aload 6, 2) := by decide +kernel
theorem dX5_copy_37 : decode cX5_copy 37 = .ok (.invokevirtual 194, 3) := by decide +kernel
theorem dX5_copy_40 : decode cX5_copy 40 = .ok (.ifCond .ne 11, 3) := by decide +kernel
theorem dX5_copy_43 : decode cX5_copy 43 = .ok (.aload 7, 2) := by decide +kernel
theorem dX5_copy_45 : decode cX5_copy 45 = .ok (.invokevirtual 194, 3) := by decide +kernel
theorem dX5_copy_48 : decode cX5_copy 48 = .ok (.ifCond .eq 6, 3) := by decide +kernel
theorem dX5_copy_51 : decode cX5_copy 51 = .ok (.bipush (-11), 2) := by decide +kernel
theorem dX5_copy_53 : decode cX5_copy 53 = .ok (.ireturn, 1) := by decide +kernel
theorem dX5_copy_54 : decode cX5_copy 54 = .ok (.aload 6, 2) := by decide +kernel
theorem dX5_copy_56 : decode cX5_copy 56 = .ok (.getfield 224, 3) := by decide +kernel
theorem dX5_copy_59 : decode cX5_copy 59 = .ok (.aload 7, 2) := by decide +kernel
theorem dX5_copy_61 : decode cX5_copy 61 = .ok (.getfield 224, 3) := by decide +kernel
theorem dX5_copy_64 : decode cX5_copy 64 = .ok (.if_icmp .eq 6, 3) := by decide +kernel
theorem dX5_copy_67 : decode cX5_copy 67 = .ok (.bipush (-13), 2) := by decide +kernel
theorem dX5_copy_69 : decode cX5_copy 69 = .ok (.ireturn, 1) := by decide +kernel
theorem dX5_copy_70 : decode cX5_copy 70 = .ok (.aload 6, 2) := by decide +kernel
theorem dX5_copy_72 : decode cX5_copy 72 = .ok (.iload_n 2, 1) := by decide +kernel
theorem dX5_copy_73 : decode cX5_copy 73 = .ok (.iload 5, 2) := by decide +kernel
theorem dX5_copy_75 : decode cX5_copy 75 = .ok (.invokevirtual 227, 3) := by decide +kernel
theorem dX5_copy_78 : decode cX5_copy 78 = .ok (.ifCond .eq 15, 3) := by decide +kernel
theorem dX5_copy_81 : decode cX5_copy 81 = .ok (.aload 7, 2) := by decide +kernel
theorem dX5_copy_83 : decode cX5_copy 83 = .ok (.iload 4, 2) := by decide +kernel
theorem dX5_copy_85 : decode cX5_copy 85 = .ok (.iload 5, 2) := by decide +kernel
theorem dX5_copy_87 : decode cX5_copy 87 = .ok (.invokevirtual 227, 3) := by decide +kernel
theorem dX5_copy_90 : decode cX5_copy 90 = .ok (.ifCond .ne 6, 3) := by decide +kernel
theorem dX5_copy_93 : decode cX5_copy 93 = .ok (.bipush (-12), 2) := by decide +kernel
theorem dX5_copy_95 : decode cX5_copy 95 = .ok (.ireturn, 1) := by decide +kernel
theorem dX5_copy_96 : decode cX5_copy 96 = .ok (.aload 6, 2) := by decide +kernel
theorem dX5_copy_98 : decode cX5_copy 98 = .ok (.getfield 230, 3) := by decide +kernel
theorem dX5_copy_101 : decode cX5_copy 101 = .ok (.iload_n 2, 1) := by decide +kernel
theorem dX5_copy_102 : decode cX5_copy 102 = .ok (.aload 7, 2) := by decide +kernel
theorem dX5_copy_104 : decode cX5_copy 104 = .ok (.getfield 230, 3) := by decide +kernel
theorem dX5_copy_107 : decode cX5_copy 107 = .ok (.iload 4, 2) := by decide +kernel
theorem dX5_copy_109 : decode cX5_copy 109 = .ok (.iload 5, 2) := by decide +kernel
theorem dX5_copy_111 : decode cX5_copy 111 = .ok (.invokestatic 233, 3) := by decide +kernel
theorem dX5_copy_114 : decode cX5_copy 114 = .ok (.iload 5, 2) := by decide +kernel
theorem dX5_copy_116 : decode cX5_copy 116 = .ok (.ireturn, 1) := by decide +kernel
theorem dX5_exarchate_0 : decode cX5_exarchate 0 = .ok (.iload_n 1, 1) := by decide +kernel
theorem dX5_exarchate_1 : decode cX5_exarchate 1 = .ok (.iconst 4, 1) := by decide +kernel
theorem dX5_exarchate_2 : decode cX5_exarchate 2 = .ok (.invokestatic 94, 3) := by decide +kernel
theorem dX5_exarchate_5 : decode cX5_exarchate 5 = .ok (.ifCond .eq 22, 3) := by decide +kernel
theorem dX5_exarchate_8 : decode cX5_exarchate 8 = .ok (.iload_n 2, 1) := by decide +kernel
theorem dX5_exarchate_9 : decode cX5_exarchate 9 = .ok (.iconst 3, 1) := by decide +kernel
theorem dX5_exarchate_10 : decode cX5_exarchate 10 = .ok (.invokestatic 94, 3) := by decide +kernel
theorem dX5_exarchate_13 : decode cX5_exarchate 13 = .ok (.ifCond .eq 14, 3) := by decide +kernel
theorem dX5_exarchate_16 : decode cX5_exarchate 16 = .ok (.iload 4, 2) := by decide +kernel
theorem dX5_exarchate_18 : decode cX5_exarchate 18 = .ok (.ifCond .lt 9, 3) := by decide +kernel
theorem dX5_exarchate_21 : decode cX5_exarchate 21 = .ok (.iload 4, 2) := by decide +kernel
theorem dX5_exarchate_23 : decode cX5_exarchate 23 = .ok (.iconst 5, 1) := by decide +kernel
theorem dX5_exarchate_24 : decode cX5_exarchate 24 = .ok (.if_icmp .le 6, 3) := by decide +kernel
theorem dX5_exarchate_27 : decode cX5_exarchate 27 = .ok (.bipush (-2), 2) := by decide +kernel
theorem dX5_exarchate_29 : decode cX5_exarchate 29 = .ok (.ireturn, 1) := by decide +kernel
theorem dX5_exarchate_30 : decode cX5_exarchate 30 = .ok (.aload_n 0, 1) := by decide +kernel
theorem dX5_exarchate_31 : decode cX5_exarchate 31 = .ok (.getfield 42, 3) := by decide +kernel
theorem dX5_exarchate_34 : decode cX5_exarchate 34 = .ok (.iload_n 1, 1) := by decide +kernel
theorem dX5_exarchate_35 : decode cX5_exarchate 35 = .ok (.aaload, 1) := by decide +kernel
theorem dX5_exarchate_36 : decode cX5_exarchate 36 = .ok (.astore 5, 2) := by decide +kernel
theorem dX5_exarchate_38 : decode cX5_exarchate 38 = .ok (.aload 5, 2) := by decide +kernel
theorem dX5_exarchate_40 : decode cX5_exarchate 40 = .ok (.invokevirtual 194, 3) := by decide +kernel
theorem dX5_exarchate_43 : decode cX5_exarchate 43 = .ok (.ifCond .eq 6, 3) := by decide +kernel
theorem dX5_exarchate_46 : decode cX5_exarchate 46 = .ok (.bipush (-11), 2) := by decide +kernel
theorem dX5_exarchate_48 : decode cX5_exarchate 48 = .ok (.ireturn, 1) := by decide +kernel
theorem dX5_exarchate_49 : decode cX5_exarchate 49 = .ok (.aload 5, 2) := by decide +kernel
theorem dX5_exarchate_51 : decode cX5_exarchate 51 = .ok (.getfield 224, 3) := by decide +kernel
theorem dX5_exarchate_54 : decode cX5_exarchate 54 = .ok (.iload_n 2, 1) := by decide +kernel
theorem dX5_exarchate_55 : decode cX5_exarchate 55 = .ok (.if_icmp .eq 6, 3) := by decide +kernel
theorem dX5_exarchate_58 : decode cX5_exarchate 58 = .ok (.bipush (-13), 2) := by decide +kernel
theorem dX5_exarchate_60 : decode cX5_exarchate 60 = .ok (.ireturn, 1) := by decide +kernel
theorem dX5_exarchate_61 : decode cX5_exarchate 61 = .ok (.iconst 0, 1) := by decide +kernel
theorem dX5_exarchate_62 : decode cX5_exarchate 62 = .ok (.istore 6, 2) := by decide +kernel
theorem dX5_exarchate_64 : decode cX5_exarchate 64 = .ok (.iconst 0, 1) := by decide +kernel
theorem dX5_exarchate_65 : decode cX5_exarchate 65 = .ok (.istore 7, 2) := by decide +kernel
theorem dX5_exarchate_67 : decode cX5_exarchate 67 = .ok (.iload 7, 2) := by decide +kernel
theorem dX5_exarchate_69 : decode cX5_exarchate 69 = .ok (.iload 4, 2) := by decide +kernel
theorem dX5_exarchate_71 : decode cX5_exarchate 71 = .ok (.if_icmp .ge 69, 3) := by decide +kernel
theorem dX5_exarchate_74 : decode cX5_exarchate 74 = .ok (.iload_n 3, 1) := by decide +kernel
theorem dX5_exarchate_75 : decode cX5_exarchate 75 = .ok (.iconst 3, 1) := by decide +kernel
theorem dX5_exarchate_76 : decode cX5_exarchate 76 = .ok (.iload 7, 2) := by decide +kernel
theorem dX5_exarchate_78 : decode cX5_exarchate 78 = .ok (.imul, 1) := by decide +kernel
theorem dX5_exarchate_79 : decode cX5_exarchate 79 = .ok (.iadd, 1) := by decide +kernel
theorem dX5_exarchate_80 : decode cX5_exarchate 80 = .ok (.istore 8, 2) := by decide +kernel
theorem dX5_exarchate_82 : decode cX5_exarchate 82 = .ok (.aload 5, 2) := by decide +kernel
theorem dX5_exarchate_84 : decode cX5_exarchate 84 = .ok (.iload 8, 2) := by decide +kernel
theorem dX5_exarchate_86 : decode cX5_exarchate 86 = .ok (.iconst 3, 1) := by decide +kernel
theorem dX5_exarchate_87 : decode cX5_exarchate 87 = .ok (.invokevirtual 227, 3) := by decide +kernel
theorem dX5_exarchate_90 : decode cX5_exarchate 90 = .ok (.ifCond .ne 6, 3) := by decide +kernel
theorem dX5_exarchate_93 : decode cX5_exarchate 93 = .ok (.bipush (-12), 2) := by decide +kernel
theorem dX5_exarchate_95 : decode cX5_exarchate 95 = .ok (.ireturn, 1) := by decide +kernel
theorem dX5_exarchate_96 : decode cX5_exarchate 96 = .ok (.aload_n 0, 1) := by decide +kernel
theorem dX5_exarchate_97 : decode cX5_exarchate 97 = .ok (.aload 5, 2) := by decide +kernel
theorem dX5_exarchate_99 : decode cX5_exarchate 99 = .ok (.getfield 230, 3) := by decide +kernel
theorem dX5_exarchate_102 : decode cX5_exarchate 102 = .ok (.iload 8, 2) := by decide +kernel
theorem dX5_exarchate_104 : decode cX5_exarchate 104 = .ok (.iaload, 1) := by decide +kernel
theorem dX5_exarchate_105 : decode cX5_exarchate 105 = .ok (.aload 5, 2) := by decide +kernel
theorem dX5_exarchate_107 : decode cX5_exarchate 107 = .ok (.getfield 230, 3) := by decide +kernel
theorem dX5_exarchate_110 : decode cX5_exarchate 110 = .ok (.iload 8, 2) := by decide +kernel
theorem dX5_exarchate_112 : decode cX5_exarchate 112 = .ok (.iconst 1, 1) := by decide +kernel
theorem dX5_exarchate_113 : decode cX5_exarchate 113 = .ok (.iadd, 1) := by decide +kernel
theorem dX5_exarchate_114 : decode cX5_exarchate 114 = .ok (.iaload, 1) := by decide +kernel
theorem dX5_exarchate_115 : decode cX5_exarchate 115 = .ok (.aload 5, 2) := by decide +kernel
theorem dX5_exarchate_117 : decode cX5_exarchate 117 = .ok (.getfield 230, 3) := by decide +kernel
theorem dX5_exarchate_120 : decode cX5_exarchate 120 = .ok (.iload 8, 2) := by decide +kernel
theorem dX5_exarchate_122 : decode cX5_exarchate 122 = .ok (.iconst 2, 1) := by decide +kernel
theorem dX5_exarchate_123 : decode cX5_exarchate 123 = .ok (.iadd, 1) := by decide +kernel
theorem dX5_exarchate_124 : decode cX5_exarchate 124 = .ok (.iaload, 1) := by decide +kernel
theorem dX5_exarchate_125 : decode cX5_exarchate 125 = .ok (.invokevirtual 239, 3) := by decide +kernel
theorem dX5_exarchate_128 : decode cX5_exarchate 128 = .ok (.ifCond .lt 6, 3) := by decide +kernel
theorem dX5_exarchate_131 : decode cX5_exarchate 131 = .ok (.iinc 6 1, 3) := by decide +kernel
theorem dX5_exarchate_134 : decode cX5_exarchate 134 = .ok (.iinc 7 1, 3) := by decide +kernel
theorem dX5_exarchate_137 : decode cX5_exarchate 137 = .ok (.goto (-70), 3) := by decide +kernel
theorem dX5_exarchate_140 : decode cX5_exarchate 140 = .ok (.iload 6, 2) := by decide +kernel
theorem dX5_exarchate_142 : decode cX5_exarchate 142 = .ok (.ireturn, 1) := by decide +kernel
theorem dX5_taken_0 : decode cX5_taken 0 = .ok (.iload_n 2, 1) := by decide +kernel
theorem dX5_taken_1 : decode cX5_taken 1 = .ok (.bipush 6, 2) := by decide +kernel
theorem dX5_taken_3 : decode cX5_taken 3 = .ok (.invokestatic 94, 3) := by decide +kernel
theorem dX5_taken_6 : decode cX5_taken 6 = .ok (.ifCond .ne 6, 3) := by decide +kernel
theorem dX5_taken_9 : decode cX5_taken 9 = .ok (.bipush (-2), 2) := by decide +kernel
theorem dX5_taken_11 : decode cX5_taken 11 = .ok (.ireturn, 1) := by decide +kernel
theorem dX5_taken_12 : decode cX5_taken 12 = .ok (.iload_n 1, 1) := by decide +kernel
theorem dX5_taken_13 : decode cX5_taken 13 = .ok (.aload_n 0, 1) := by decide +kernel
theorem dX5_taken_14 : decode cX5_taken 14 = .ok (.getfield 10, 3) := by decide +kernel
theorem dX5_taken_17 : decode cX5_taken 17 = .ok (.getfield 134, 3) := by decide +kernel
theorem dX5_taken_20 : decode cX5_taken 20 = .ok (.invokestatic 94, 3) := by decide +kernel
theorem dX5_taken_23 : decode cX5_taken 23 = .ok (.ifCond .ne 6, 3) := by decide +kernel
theorem dX5_taken_26 : decode cX5_taken 26 = .ok (.bipush (-11), 2) := by decide +kernel
theorem dX5_taken_28 : decode cX5_taken 28 = .ok (.ireturn, 1) := by decide +kernel
theorem dX5_taken_29 : decode cX5_taken 29 = .ok (.aload_n 0, 1) := by decide +kernel
theorem dX5_taken_30 : decode cX5_taken 30 = .ok (.getfield 10, 3) := by decide +kernel
theorem dX5_taken_33 : decode cX5_taken 33 = .ok (.getfield 242, 3) := by decide +kernel
theorem dX5_taken_36 : decode cX5_taken 36 = .ok (.iload_n 1, 1) := by decide +kernel
theorem dX5_taken_37 : decode cX5_taken 37 = .ok (.iaload, 1) := by decide +kernel
theorem dX5_taken_38 : decode cX5_taken 38 = .ok (.iload_n 2, 1) := by decide +kernel
theorem dX5_taken_39 : decode cX5_taken 39 = .ok (.invokestatic 245, 3) := by decide +kernel
theorem dX5_taken_42 : decode cX5_taken 42 = .ok (.ifCond .eq 15, 3) := by decide +kernel
theorem dX5_taken_45 : decode cX5_taken 45 = .ok (.aload_n 0, 1) := by decide +kernel
theorem dX5_taken_46 : decode cX5_taken 46 = .ok (.getfield 10, 3) := by decide +kernel
theorem dX5_taken_49 : decode cX5_taken 49 = .ok (.getfield 248, 3) := by decide +kernel
theorem dX5_taken_52 : decode cX5_taken 52 = .ok (.iload_n 1, 1) := by decide +kernel
theorem dX5_taken_53 : decode cX5_taken 53 = .ok (.iaload, 1) := by decide +kernel
theorem dX5_taken_54 : decode cX5_taken 54 = .ok (.goto 5, 3) := by decide +kernel
theorem dX5_taken_57 : decode cX5_taken 57 = .ok (.bipush (-13), 2) := by decide +kernel
theorem dX5_taken_59 : decode cX5_taken 59 = .ok (.ireturn, 1) := by decide +kernel
theorem dX5_isIn_0 : decode cX5_isIn 0 = .ok (.iload_n 0, 1) := by decide +kernel
theorem dX5_isIn_1 : decode cX5_isIn 1 = .ok (.ifCond .lt 12, 3) := by decide +kernel
theorem dX5_isIn_4 : decode cX5_isIn 4 = .ok (.iload_n 0, 1) := by decide +kernel
theorem dX5_isIn_5 : decode cX5_isIn 5 = .ok (.iload_n 1, 1) := by decide +kernel
theorem dX5_isIn_6 : decode cX5_isIn 6 = .ok (.if_icmp .ge 7, 3) := by decide +kernel
theorem dX5_isIn_9 : decode cX5_isIn 9 = .ok (.iconst 1, 1) := by decide +kernel
theorem dX5_isIn_10 : decode cX5_isIn 10 = .ok (.goto 4, 3) := by decide +kernel
theorem dX5_isIn_13 : decode cX5_isIn 13 = .ok (.iconst 0, 1) := by decide +kernel
theorem dX5_isIn_14 : decode cX5_isIn 14 = .ok (.ireturn, 1) := by decide +kernel
theorem dX5_isThere_0 : decode cX5_isThere 0 = .ok (.iload_n 1, 1) := by decide +kernel
theorem dX5_isThere_1 : decode cX5_isThere 1 = .ok (.tableswitch 46 0 3 #[31, 33, 33, 40], 31) := by decide +kernel
theorem dX5_isThere_32 : decode cX5_isThere 32 = .ok (.iconst 1, 1) := by decide +kernel
theorem dX5_isThere_33 : decode cX5_isThere 33 = .ok (.ireturn, 1) := by decide +kernel
theorem dX5_isThere_34 : decode cX5_isThere 34 = .ok (.iload_n 2, 1) := by decide +kernel
theorem dX5_isThere_35 : decode cX5_isThere 35 = .ok (.bipush 64, 2) := by decide +kernel
theorem dX5_isThere_37 : decode cX5_isThere 37 = .ok (.invokestatic 94, 3) := by decide +kernel
theorem dX5_isThere_40 : decode cX5_isThere 40 = .ok (.ireturn, 1) := by decide +kernel
theorem dX5_isThere_41 : decode cX5_isThere 41 = .ok (.iload_n 2, 1) := by decide +kernel
theorem dX5_isThere_42 : decode cX5_isThere 42 = .ok (.iconst 4, 1) := by decide +kernel
theorem dX5_isThere_43 : decode cX5_isThere 43 = .ok (.invokestatic 94, 3) := by decide +kernel
theorem dX5_isThere_46 : decode cX5_isThere 46 = .ok (.ireturn, 1) := by decide +kernel
theorem dX5_isThere_47 : decode cX5_isThere 47 = .ok (.iload_n 2, 1) := by decide +kernel
theorem dX5_isThere_48 : decode cX5_isThere 48 = .ok (.aload_n 0, 1) := by decide +kernel
theorem dX5_isThere_49 : decode cX5_isThere 49 = .ok (.getfield 10, 3) := by decide +kernel
theorem dX5_isThere_52 : decode cX5_isThere 52 = .ok (.getfield 134, 3) := by decide +kernel
theorem dX5_isThere_55 : decode cX5_isThere 55 = .ok (.invokestatic 94, 3) := by decide +kernel
theorem dX5_isThere_58 : decode cX5_isThere 58 = .ok (.ireturn, 1) := by decide +kernel
theorem dX5_isUnder_0 : decode cX5_isUnder 0 = .ok (.iload_n 0, 1) := by decide +kernel
theorem dX5_isUnder_1 : decode cX5_isUnder 1 = .ok (.istore_n 2, 1) := by decide +kernel
theorem dX5_isUnder_2 : decode cX5_isUnder 2 = .ok (.iconst 0, 1) := by decide +kernel
theorem dX5_isUnder_3 : decode cX5_isUnder 3 = .ok (.istore_n 3, 1) := by decide +kernel
theorem dX5_isUnder_4 : decode cX5_isUnder 4 = .ok (.iload_n 3, 1) := by decide +kernel
theorem dX5_isUnder_5 : decode cX5_isUnder 5 = .ok (.bipush 6, 2) := by decide +kernel
theorem dX5_isUnder_7 : decode cX5_isUnder 7 = .ok (.if_icmp .ge 31, 3) := by decide +kernel
theorem dX5_isUnder_10 : decode cX5_isUnder 10 = .ok (.iload_n 2, 1) := by decide +kernel
theorem dX5_isUnder_11 : decode cX5_isUnder 11 = .ok (.bipush 6, 2) := by decide +kernel
theorem dX5_isUnder_13 : decode cX5_isUnder 13 = .ok (.invokestatic 94, 3) := by decide +kernel
theorem dX5_isUnder_16 : decode cX5_isUnder 16 = .ok (.ifCond .eq 22, 3) := by decide +kernel
theorem dX5_isUnder_19 : decode cX5_isUnder 19 = .ok (.iload_n 2, 1) := by decide +kernel
theorem dX5_isUnder_20 : decode cX5_isUnder 20 = .ok (.iload_n 1, 1) := by decide +kernel
theorem dX5_isUnder_21 : decode cX5_isUnder 21 = .ok (.if_icmp .ne 5, 3) := by decide +kernel
theorem dX5_isUnder_24 : decode cX5_isUnder 24 = .ok (.iconst 1, 1) := by decide +kernel
theorem dX5_isUnder_25 : decode cX5_isUnder 25 = .ok (.ireturn, 1) := by decide +kernel
theorem dX5_isUnder_26 : decode cX5_isUnder 26 = .ok (.getstatic 251, 3) := by decide +kernel
theorem dX5_isUnder_29 : decode cX5_isUnder 29 = .ok (.iload_n 2, 1) := by decide +kernel
theorem dX5_isUnder_30 : decode cX5_isUnder 30 = .ok (.iaload, 1) := by decide +kernel
theorem dX5_isUnder_31 : decode cX5_isUnder 31 = .ok (.istore_n 2, 1) := by decide +kernel
theorem dX5_isUnder_32 : decode cX5_isUnder 32 = .ok (.iinc 3 1, 3) := by decide +kernel
theorem dX5_isUnder_35 : decode cX5_isUnder 35 = .ok (.goto (-31), 3) := by decide +kernel
theorem dX5_isUnder_38 : decode cX5_isUnder 38 = .ok (.iconst 0, 1) := by decide +kernel
theorem dX5_isUnder_39 : decode cX5_isUnder 39 = .ok (.ireturn, 1) := by decide +kernel
theorem dX5_think_0 : decode cX5_think 0 = .ok (.aload_n 0, 1) := by decide +kernel
theorem dX5_think_1 : decode cX5_think 1 = .ok (.getfield 16, 3) := by decide +kernel
theorem dX5_think_4 : decode cX5_think 4 = .ok (.aload_n 0, 1) := by decide +kernel
theorem dX5_think_5 : decode cX5_think 5 = .ok (.getfield 10, 3) := by decide +kernel
theorem dX5_think_8 : decode cX5_think 8 = .ok (.invokevirtual 220, 3) := by decide +kernel
theorem dX5_think_11 : decode cX5_think 11 = .ok (.return_, 1) := by decide +kernel
theorem dX5_passInThought_0 : decode cX5_passInThought 0 = .ok (.iconst 0, 1) := by decide +kernel
theorem dX5_passInThought_1 : decode cX5_passInThought 1 = .ok (.istore_n 2, 1) := by decide +kernel
theorem dX5_passInThought_2 : decode cX5_passInThought 2 = .ok (.iload_n 2, 1) := by decide +kernel
theorem dX5_passInThought_3 : decode cX5_passInThought 3 = .ok (.iload_n 1, 1) := by decide +kernel
theorem dX5_passInThought_4 : decode cX5_passInThought 4 = .ok (.if_icmp .ge 21, 3) := by decide +kernel
theorem dX5_passInThought_7 : decode cX5_passInThought 7 = .ok (.aload_n 0, 1) := by decide +kernel
theorem dX5_passInThought_8 : decode cX5_passInThought 8 = .ok (.getfield 29, 3) := by decide +kernel
theorem dX5_passInThought_11 : decode cX5_passInThought 11 = .ok (.aload_n 0, 1) := by decide +kernel
theorem dX5_passInThought_12 : decode cX5_passInThought 12 = .ok (.getfield 16, 3) := by decide +kernel
theorem dX5_passInThought_15 : decode cX5_passInThought 15 = .ok (.iconst (-1), 1) := by decide +kernel
theorem dX5_passInThought_16 : decode cX5_passInThought 16 = .ok (.invokevirtual 127, 3) := by decide +kernel
theorem dX5_passInThought_19 : decode cX5_passInThought 19 = .ok (.iinc 2 1, 3) := by decide +kernel
theorem dX5_passInThought_22 : decode cX5_passInThought 22 = .ok (.goto (-20), 3) := by decide +kernel
theorem dX5_passInThought_25 : decode cX5_passInThought 25 = .ok (.return_, 1) := by decide +kernel
theorem dX5_filledBehind_0 : decode cX5_filledBehind 0 = .ok (.iconst 0, 1) := by decide +kernel
theorem dX5_filledBehind_1 : decode cX5_filledBehind 1 = .ok (.istore_n 3, 1) := by decide +kernel
theorem dX5_filledBehind_2 : decode cX5_filledBehind 2 = .ok (.iload_n 3, 1) := by decide +kernel
theorem dX5_filledBehind_3 : decode cX5_filledBehind 3 = .ok (.iload_n 1, 1) := by decide +kernel
theorem dX5_filledBehind_4 : decode cX5_filledBehind 4 = .ok (.if_icmp .ge 35, 3) := by decide +kernel
theorem dX5_filledBehind_7 : decode cX5_filledBehind 7 = .ok (.aload_n 0, 1) := by decide +kernel
theorem dX5_filledBehind_8 : decode cX5_filledBehind 8 = .ok (.getfield 16, 3) := by decide +kernel
theorem dX5_filledBehind_11 : decode cX5_filledBehind 11 = .ok (.getfield 115, 3) := by decide +kernel
theorem dX5_filledBehind_14 : decode cX5_filledBehind 14 = .ok (.ldc2_w 156, 3) := by decide +kernel
theorem dX5_filledBehind_17 : decode cX5_filledBehind 17 = .ok (.lcmp, 1) := by decide +kernel
theorem dX5_filledBehind_18 : decode cX5_filledBehind 18 = .ok (.ifCond .eq 21, 3) := by decide +kernel
theorem dX5_filledBehind_21 : decode cX5_filledBehind 21 = .ok (.aload_n 0, 1) := by decide +kernel
theorem dX5_filledBehind_22 : decode cX5_filledBehind 22 = .ok (.getfield 29, 3) := by decide +kernel
theorem dX5_filledBehind_25 : decode cX5_filledBehind 25 = .ok (.aload_n 0, 1) := by decide +kernel
theorem dX5_filledBehind_26 : decode cX5_filledBehind 26 = .ok (.getfield 16, 3) := by decide +kernel
theorem dX5_filledBehind_29 : decode cX5_filledBehind 29 = .ok (.iload_n 2, 1) := by decide +kernel
theorem dX5_filledBehind_30 : decode cX5_filledBehind 30 = .ok (.invokevirtual 127, 3) := by decide +kernel
theorem dX5_filledBehind_33 : decode cX5_filledBehind 33 = .ok (.iinc 3 1, 3) := by decide +kernel
theorem dX5_filledBehind_36 : decode cX5_filledBehind 36 = .ok (.goto (-34), 3) := by decide +kernel
theorem dX5_filledBehind_39 : decode cX5_filledBehind 39 = .ok (.aload_n 0, 1) := by decide +kernel
theorem dX5_filledBehind_40 : decode cX5_filledBehind 40 = .ok (.getfield 16, 3) := by decide +kernel
theorem dX5_filledBehind_43 : decode cX5_filledBehind 43 = .ok (.invokevirtual 131, 3) := by decide +kernel
theorem dX5_filledBehind_46 : decode cX5_filledBehind 46 = .ok (.ireturn, 1) := by decide +kernel
theorem dX5_thinkDrawn_0 : decode cX5_thinkDrawn 0 = .ok (.aload_n 0, 1) := by decide +kernel
theorem dX5_thinkDrawn_1 : decode cX5_thinkDrawn 1 = .ok (.invokevirtual 137, 3) := by decide +kernel
theorem dX5_thinkDrawn_4 : decode cX5_thinkDrawn 4 = .ok (.iload_n 1, 1) := by decide +kernel
theorem dX5_thinkDrawn_5 : decode cX5_thinkDrawn 5 = .ok (.istore_n 2, 1) := by decide +kernel
theorem dX5_thinkDrawn_6 : decode cX5_thinkDrawn 6 = .ok (.iconst 0, 1) := by decide +kernel
theorem dX5_thinkDrawn_7 : decode cX5_thinkDrawn 7 = .ok (.istore_n 3, 1) := by decide +kernel
theorem dX5_thinkDrawn_8 : decode cX5_thinkDrawn 8 = .ok (.iload_n 3, 1) := by decide +kernel
theorem dX5_thinkDrawn_9 : decode cX5_thinkDrawn 9 = .ok (.bipush 64, 2) := by decide +kernel
theorem dX5_thinkDrawn_11 : decode cX5_thinkDrawn 11 = .ok (.if_icmp .ge 32, 3) := by decide +kernel
theorem dX5_thinkDrawn_14 : decode cX5_thinkDrawn 14 = .ok (.iload_n 2, 1) := by decide +kernel
theorem dX5_thinkDrawn_15 : decode cX5_thinkDrawn 15 = .ok (.ldc 254, 2) := by decide +kernel
theorem dX5_thinkDrawn_17 : decode cX5_thinkDrawn 17 = .ok (.imul, 1) := by decide +kernel
theorem dX5_thinkDrawn_18 : decode cX5_thinkDrawn 18 = .ok (.sipush 12345, 3) := by decide +kernel
theorem dX5_thinkDrawn_21 : decode cX5_thinkDrawn 21 = .ok (.iadd, 1) := by decide +kernel
theorem dX5_thinkDrawn_22 : decode cX5_thinkDrawn 22 = .ok (.istore_n 2, 1) := by decide +kernel
theorem dX5_thinkDrawn_23 : decode cX5_thinkDrawn 23 = .ok (.aload_n 0, 1) := by decide +kernel
theorem dX5_thinkDrawn_24 : decode cX5_thinkDrawn 24 = .ok (.getfield 16, 3) := by decide +kernel
theorem dX5_thinkDrawn_27 : decode cX5_thinkDrawn 27 = .ok (.iload_n 3, 1) := by decide +kernel
theorem dX5_thinkDrawn_28 : decode cX5_thinkDrawn 28 = .ok (.iload_n 2, 1) := by decide +kernel
theorem dX5_thinkDrawn_29 : decode cX5_thinkDrawn 29 = .ok (.bipush 9, 2) := by decide +kernel
theorem dX5_thinkDrawn_31 : decode cX5_thinkDrawn 31 = .ok (.iushr, 1) := by decide +kernel
theorem dX5_thinkDrawn_32 : decode cX5_thinkDrawn 32 = .ok (.iconst 4, 1) := by decide +kernel
theorem dX5_thinkDrawn_33 : decode cX5_thinkDrawn 33 = .ok (.irem, 1) := by decide +kernel
theorem dX5_thinkDrawn_34 : decode cX5_thinkDrawn 34 = .ok (.invokevirtual 173, 3) := by decide +kernel
theorem dX5_thinkDrawn_37 : decode cX5_thinkDrawn 37 = .ok (.iinc 3 1, 3) := by decide +kernel
theorem dX5_thinkDrawn_40 : decode cX5_thinkDrawn 40 = .ok (.goto (-32), 3) := by decide +kernel
theorem dX5_thinkDrawn_43 : decode cX5_thinkDrawn 43 = .ok (.return_, 1) := by decide +kernel
theorem dX5_firstOtherwise_0 : decode cX5_firstOtherwise 0 = .ok (.iconst 0, 1) := by decide +kernel
theorem dX5_firstOtherwise_1 : decode cX5_firstOtherwise 1 = .ok (.istore_n 2, 1) := by decide +kernel
theorem dX5_firstOtherwise_2 : decode cX5_firstOtherwise 2 = .ok (.iload_n 2, 1) := by decide +kernel
theorem dX5_firstOtherwise_3 : decode cX5_firstOtherwise 3 = .ok (.aload_n 1, 1) := by decide +kernel
theorem dX5_firstOtherwise_4 : decode cX5_firstOtherwise 4 = .ok (.getfield 198, 3) := by decide +kernel
theorem dX5_firstOtherwise_7 : decode cX5_firstOtherwise 7 = .ok (.if_icmp .ge 39, 3) := by decide +kernel
theorem dX5_firstOtherwise_10 : decode cX5_firstOtherwise 10 = .ok (.aload_n 0, 1) := by decide +kernel
theorem dX5_firstOtherwise_11 : decode cX5_firstOtherwise 11 = .ok (.getfield 29, 3) := by decide +kernel
theorem dX5_firstOtherwise_14 : decode cX5_firstOtherwise 14 = .ok (.aload_n 0, 1) := by decide +kernel
theorem dX5_firstOtherwise_15 : decode cX5_firstOtherwise 15 = .ok (.getfield 16, 3) := by decide +kernel
theorem dX5_firstOtherwise_18 : decode cX5_firstOtherwise 18 = .ok (.iconst (-1), 1) := by decide +kernel
theorem dX5_firstOtherwise_19 : decode cX5_firstOtherwise 19 = .ok (.invokevirtual 127, 3) := by decide +kernel
theorem dX5_firstOtherwise_22 : decode cX5_firstOtherwise 22 = .ok (.aload_n 1, 1) := by decide +kernel
theorem dX5_firstOtherwise_23 : decode cX5_firstOtherwise 23 = .ok (.getfield 230, 3) := by decide +kernel
theorem dX5_firstOtherwise_26 : decode cX5_firstOtherwise 26 = .ok (.iload_n 2, 1) := by decide +kernel
theorem dX5_firstOtherwise_27 : decode cX5_firstOtherwise 27 = .ok (.iaload, 1) := by decide +kernel
theorem dX5_firstOtherwise_28 : decode cX5_firstOtherwise 28 = .ok (.aload_n 0, 1) := by decide +kernel
theorem dX5_firstOtherwise_29 : decode cX5_firstOtherwise 29 = .ok (.getfield 16, 3) := by decide +kernel
theorem dX5_firstOtherwise_32 : decode cX5_firstOtherwise 32 = .ok (.invokevirtual 131, 3) := by decide +kernel
theorem dX5_firstOtherwise_35 : decode cX5_firstOtherwise 35 = .ok (.if_icmp .eq 5, 3) := by decide +kernel
theorem dX5_firstOtherwise_38 : decode cX5_firstOtherwise 38 = .ok (.iload_n 2, 1) := by decide +kernel
theorem dX5_firstOtherwise_39 : decode cX5_firstOtherwise 39 = .ok (.ireturn, 1) := by decide +kernel
theorem dX5_firstOtherwise_40 : decode cX5_firstOtherwise 40 = .ok (.iinc 2 1, 3) := by decide +kernel
theorem dX5_firstOtherwise_43 : decode cX5_firstOtherwise 43 = .ok (.goto (-41), 3) := by decide +kernel
theorem dX5_firstOtherwise_46 : decode cX5_firstOtherwise 46 = .ok (.iconst (-1), 1) := by decide +kernel
theorem dX5_firstOtherwise_47 : decode cX5_firstOtherwise 47 = .ok (.ireturn, 1) := by decide +kernel
theorem dX5_choicesOf_0 : decode cX5_choicesOf 0 = .ok (.iload_n 1, 1) := by decide +kernel
theorem dX5_choicesOf_1 : decode cX5_choicesOf 1 = .ok (.tableswitch 55 1 6 #[39, 42, 45, 55, 55, 47], 39) := by decide +kernel
theorem dX5_choicesOf_40 : decode cX5_choicesOf 40 = .ok (.bipush 6, 2) := by decide +kernel
theorem dX5_choicesOf_42 : decode cX5_choicesOf 42 = .ok (.ireturn, 1) := by decide +kernel
theorem dX5_choicesOf_43 : decode cX5_choicesOf 43 = .ok (.bipush 10, 2) := by decide +kernel
theorem dX5_choicesOf_45 : decode cX5_choicesOf 45 = .ok (.ireturn, 1) := by decide +kernel
theorem dX5_choicesOf_46 : decode cX5_choicesOf 46 = .ok (.iconst 4, 1) := by decide +kernel
theorem dX5_choicesOf_47 : decode cX5_choicesOf 47 = .ok (.ireturn, 1) := by decide +kernel
theorem dX5_choicesOf_48 : decode cX5_choicesOf 48 = .ok (.aload_n 0, 1) := by decide +kernel
theorem dX5_choicesOf_49 : decode cX5_choicesOf 49 = .ok (.getfield 29, 3) := by decide +kernel
theorem dX5_choicesOf_52 : decode cX5_choicesOf 52 = .ok (.getfield 74, 3) := by decide +kernel
theorem dX5_choicesOf_55 : decode cX5_choicesOf 55 = .ok (.ireturn, 1) := by decide +kernel
theorem dX5_choicesOf_56 : decode cX5_choicesOf 56 = .ok (.bipush 100, 2) := by decide +kernel
theorem dX5_choicesOf_58 : decode cX5_choicesOf 58 = .ok (.ireturn, 1) := by decide +kernel
theorem dX5_suppose_0 : decode cX5_suppose 0 = .ok (.iload_n 2, 1) := by decide +kernel
theorem dX5_suppose_1 : decode cX5_suppose 1 = .ok (.tableswitch 89 1 6 #[39, 52, 65, 89, 89, 78], 39) := by decide +kernel
theorem dX5_suppose_40 : decode cX5_suppose 40 = .ok (.aload_n 0, 1) := by decide +kernel
theorem dX5_suppose_41 : decode cX5_suppose 41 = .ok (.getfield 16, 3) := by decide +kernel
theorem dX5_suppose_44 : decode cX5_suppose 44 = .ok (.getfield 242, 3) := by decide +kernel
theorem dX5_suppose_47 : decode cX5_suppose 47 = .ok (.iload_n 1, 1) := by decide +kernel
theorem dX5_suppose_48 : decode cX5_suppose 48 = .ok (.iload_n 3, 1) := by decide +kernel
theorem dX5_suppose_49 : decode cX5_suppose 49 = .ok (.iastore, 1) := by decide +kernel
theorem dX5_suppose_50 : decode cX5_suppose 50 = .ok (.goto 50, 3) := by decide +kernel
theorem dX5_suppose_53 : decode cX5_suppose 53 = .ok (.aload_n 0, 1) := by decide +kernel
theorem dX5_suppose_54 : decode cX5_suppose 54 = .ok (.getfield 16, 3) := by decide +kernel
theorem dX5_suppose_57 : decode cX5_suppose 57 = .ok (.getfield 248, 3) := by decide +kernel
theorem dX5_suppose_60 : decode cX5_suppose 60 = .ok (.iload_n 1, 1) := by decide +kernel
theorem dX5_suppose_61 : decode cX5_suppose 61 = .ok (.iload_n 3, 1) := by decide +kernel
theorem dX5_suppose_62 : decode cX5_suppose 62 = .ok (.iastore, 1) := by decide +kernel
theorem dX5_suppose_63 : decode cX5_suppose 63 = .ok (.goto 37, 3) := by decide +kernel
theorem dX5_suppose_66 : decode cX5_suppose 66 = .ok (.aload_n 0, 1) := by decide +kernel
theorem dX5_suppose_67 : decode cX5_suppose 67 = .ok (.getfield 16, 3) := by decide +kernel
theorem dX5_suppose_70 : decode cX5_suppose 70 = .ok (.getfield 147, 3) := by decide +kernel
theorem dX5_suppose_73 : decode cX5_suppose 73 = .ok (.iload_n 1, 1) := by decide +kernel
theorem dX5_suppose_74 : decode cX5_suppose 74 = .ok (.iload_n 3, 1) := by decide +kernel
theorem dX5_suppose_75 : decode cX5_suppose 75 = .ok (.iastore, 1) := by decide +kernel
theorem dX5_suppose_76 : decode cX5_suppose 76 = .ok (.goto 24, 3) := by decide +kernel
theorem dX5_suppose_79 : decode cX5_suppose 79 = .ok (.aload_n 0, 1) := by decide +kernel
theorem dX5_suppose_80 : decode cX5_suppose 80 = .ok (.getfield 16, 3) := by decide +kernel
theorem dX5_suppose_83 : decode cX5_suppose 83 = .ok (.iload_n 3, 1) := by decide +kernel
theorem dX5_suppose_84 : decode cX5_suppose 84 = .ok (.putfield 121, 3) := by decide +kernel
theorem dX5_suppose_87 : decode cX5_suppose 87 = .ok (.goto 13, 3) := by decide +kernel
theorem dX5_suppose_90 : decode cX5_suppose 90 = .ok (.aload_n 0, 1) := by decide +kernel
theorem dX5_suppose_91 : decode cX5_suppose 91 = .ok (.getfield 16, 3) := by decide +kernel
theorem dX5_suppose_94 : decode cX5_suppose 94 = .ok (.getfield 150, 3) := by decide +kernel
theorem dX5_suppose_97 : decode cX5_suppose 97 = .ok (.iload_n 1, 1) := by decide +kernel
theorem dX5_suppose_98 : decode cX5_suppose 98 = .ok (.iload_n 3, 1) := by decide +kernel
theorem dX5_suppose_99 : decode cX5_suppose 99 = .ok (.iastore, 1) := by decide +kernel
theorem dX5_suppose_100 : decode cX5_suppose 100 = .ok (.return_, 1) := by decide +kernel
theorem dX5_lowest_0 : decode cX5_lowest 0 = .ok (.iload_n 1, 1) := by decide +kernel
theorem dX5_lowest_1 : decode cX5_lowest 1 = .ok (.istore_n 3, 1) := by decide +kernel
theorem dX5_lowest_2 : decode cX5_lowest 2 = .ok (.iload_n 0, 1) := by decide +kernel
theorem dX5_lowest_3 : decode cX5_lowest 3 = .ok (.istore 4, 2) := by decide +kernel
theorem dX5_lowest_5 : decode cX5_lowest 5 = .ok (.iconst 0, 1) := by decide +kernel
theorem dX5_lowest_6 : decode cX5_lowest 6 = .ok (.istore 5, 2) := by decide +kernel
theorem dX5_lowest_8 : decode cX5_lowest 8 = .ok (.iload 5, 2) := by decide +kernel
theorem dX5_lowest_10 : decode cX5_lowest 10 = .ok (.bipush 100, 2) := by decide +kernel
theorem dX5_lowest_12 : decode cX5_lowest 12 = .ok (.if_icmp .ge 27, 3) := by decide +kernel
theorem dX5_lowest_15 : decode cX5_lowest 15 = .ok (.iload 4, 2) := by decide +kernel
theorem dX5_lowest_17 : decode cX5_lowest 17 = .ok (.ifCond .eq 22, 3) := by decide +kernel
theorem dX5_lowest_20 : decode cX5_lowest 20 = .ok (.iload_n 3, 1) := by decide +kernel
theorem dX5_lowest_21 : decode cX5_lowest 21 = .ok (.iload 4, 2) := by decide +kernel
theorem dX5_lowest_23 : decode cX5_lowest 23 = .ok (.irem, 1) := by decide +kernel
theorem dX5_lowest_24 : decode cX5_lowest 24 = .ok (.istore 6, 2) := by decide +kernel
theorem dX5_lowest_26 : decode cX5_lowest 26 = .ok (.iload 4, 2) := by decide +kernel
theorem dX5_lowest_28 : decode cX5_lowest 28 = .ok (.istore_n 3, 1) := by decide +kernel
theorem dX5_lowest_29 : decode cX5_lowest 29 = .ok (.iload 6, 2) := by decide +kernel
theorem dX5_lowest_31 : decode cX5_lowest 31 = .ok (.istore 4, 2) := by decide +kernel
theorem dX5_lowest_33 : decode cX5_lowest 33 = .ok (.iinc 5 1, 3) := by decide +kernel
theorem dX5_lowest_36 : decode cX5_lowest 36 = .ok (.goto (-28), 3) := by decide +kernel
theorem dX5_lowest_39 : decode cX5_lowest 39 = .ok (.iload_n 3, 1) := by decide +kernel
theorem dX5_lowest_40 : decode cX5_lowest 40 = .ok (.ifCond .ne 7, 3) := by decide +kernel
theorem dX5_lowest_43 : decode cX5_lowest 43 = .ok (.ldc2_w 119, 3) := by decide +kernel
theorem dX5_lowest_46 : decode cX5_lowest 46 = .ok (.lreturn, 1) := by decide +kernel
theorem dX5_lowest_47 : decode cX5_lowest 47 = .ok (.iload_n 2, 1) := by decide +kernel
theorem dX5_lowest_48 : decode cX5_lowest 48 = .ok (.ifCond .ne 10, 3) := by decide +kernel
theorem dX5_lowest_51 : decode cX5_lowest 51 = .ok (.iload_n 0, 1) := by decide +kernel
theorem dX5_lowest_52 : decode cX5_lowest 52 = .ok (.iload_n 3, 1) := by decide +kernel
theorem dX5_lowest_53 : decode cX5_lowest 53 = .ok (.idiv, 1) := by decide +kernel
theorem dX5_lowest_54 : decode cX5_lowest 54 = .ok (.i2l, 1) := by decide +kernel
theorem dX5_lowest_55 : decode cX5_lowest 55 = .ok (.goto 7, 3) := by decide +kernel
theorem dX5_lowest_58 : decode cX5_lowest 58 = .ok (.iload_n 1, 1) := by decide +kernel
theorem dX5_lowest_59 : decode cX5_lowest 59 = .ok (.iload_n 3, 1) := by decide +kernel
theorem dX5_lowest_60 : decode cX5_lowest 60 = .ok (.idiv, 1) := by decide +kernel
theorem dX5_lowest_61 : decode cX5_lowest 61 = .ok (.i2l, 1) := by decide +kernel
theorem dX5_lowest_62 : decode cX5_lowest 62 = .ok (.lreturn, 1) := by decide +kernel
theorem dJ13_bitCount_95d88_0 : decode cJ13_bitCount_95d88 0 = .ok (.lload_n 0, 1) := by decide +kernel
theorem dJ13_bitCount_95d88_1 : decode cJ13_bitCount_95d88 1 = .ok (.lload_n 0, 1) := by decide +kernel
theorem dJ13_bitCount_95d88_2 : decode cJ13_bitCount_95d88 2 = .ok (.iconst 1, 1) := by decide +kernel
theorem dJ13_bitCount_95d88_3 : decode cJ13_bitCount_95d88 3 = .ok (.lushr, 1) := by decide +kernel
theorem dJ13_bitCount_95d88_4 : decode cJ13_bitCount_95d88 4 = .ok (.ldc2_w 314, 3) := by decide +kernel
theorem dJ13_bitCount_95d88_7 : decode cJ13_bitCount_95d88 7 = .ok (.land, 1) := by decide +kernel
theorem dJ13_bitCount_95d88_8 : decode cJ13_bitCount_95d88 8 = .ok (.lsub, 1) := by decide +kernel
theorem dJ13_bitCount_95d88_9 : decode cJ13_bitCount_95d88 9 = .ok (.lstore_n 0, 1) := by decide +kernel
theorem dJ13_bitCount_95d88_10 : decode cJ13_bitCount_95d88 10 = .ok (.lload_n 0, 1) := by decide +kernel
theorem dJ13_bitCount_95d88_11 : decode cJ13_bitCount_95d88 11 = .ok (.ldc2_w 316, 3) := by decide +kernel
theorem dJ13_bitCount_95d88_14 : decode cJ13_bitCount_95d88 14 = .ok (.land, 1) := by decide +kernel
theorem dJ13_bitCount_95d88_15 : decode cJ13_bitCount_95d88 15 = .ok (.lload_n 0, 1) := by decide +kernel
theorem dJ13_bitCount_95d88_16 : decode cJ13_bitCount_95d88 16 = .ok (.iconst 2, 1) := by decide +kernel
theorem dJ13_bitCount_95d88_17 : decode cJ13_bitCount_95d88 17 = .ok (.lushr, 1) := by decide +kernel
theorem dJ13_bitCount_95d88_18 : decode cJ13_bitCount_95d88 18 = .ok (.ldc2_w 316, 3) := by decide +kernel
theorem dJ13_bitCount_95d88_21 : decode cJ13_bitCount_95d88 21 = .ok (.land, 1) := by decide +kernel
theorem dJ13_bitCount_95d88_22 : decode cJ13_bitCount_95d88 22 = .ok (.ladd, 1) := by decide +kernel
theorem dJ13_bitCount_95d88_23 : decode cJ13_bitCount_95d88 23 = .ok (.lstore_n 0, 1) := by decide +kernel
theorem dJ13_bitCount_95d88_24 : decode cJ13_bitCount_95d88 24 = .ok (.lload_n 0, 1) := by decide +kernel
theorem dJ13_bitCount_95d88_25 : decode cJ13_bitCount_95d88 25 = .ok (.lload_n 0, 1) := by decide +kernel
theorem dJ13_bitCount_95d88_26 : decode cJ13_bitCount_95d88 26 = .ok (.iconst 4, 1) := by decide +kernel
theorem dJ13_bitCount_95d88_27 : decode cJ13_bitCount_95d88 27 = .ok (.lushr, 1) := by decide +kernel
theorem dJ13_bitCount_95d88_28 : decode cJ13_bitCount_95d88 28 = .ok (.ladd, 1) := by decide +kernel
theorem dJ13_bitCount_95d88_29 : decode cJ13_bitCount_95d88 29 = .ok (.ldc2_w 318, 3) := by decide +kernel
theorem dJ13_bitCount_95d88_32 : decode cJ13_bitCount_95d88 32 = .ok (.land, 1) := by decide +kernel
theorem dJ13_bitCount_95d88_33 : decode cJ13_bitCount_95d88 33 = .ok (.lstore_n 0, 1) := by decide +kernel
theorem dJ13_bitCount_95d88_34 : decode cJ13_bitCount_95d88 34 = .ok (.lload_n 0, 1) := by decide +kernel
theorem dJ13_bitCount_95d88_35 : decode cJ13_bitCount_95d88 35 = .ok (.lload_n 0, 1) := by decide +kernel
theorem dJ13_bitCount_95d88_36 : decode cJ13_bitCount_95d88 36 = .ok (.bipush 8, 2) := by decide +kernel
theorem dJ13_bitCount_95d88_38 : decode cJ13_bitCount_95d88 38 = .ok (.lushr, 1) := by decide +kernel
theorem dJ13_bitCount_95d88_39 : decode cJ13_bitCount_95d88 39 = .ok (.ladd, 1) := by decide +kernel
theorem dJ13_bitCount_95d88_40 : decode cJ13_bitCount_95d88 40 = .ok (.lstore_n 0, 1) := by decide +kernel
theorem dJ13_bitCount_95d88_41 : decode cJ13_bitCount_95d88 41 = .ok (.lload_n 0, 1) := by decide +kernel
theorem dJ13_bitCount_95d88_42 : decode cJ13_bitCount_95d88 42 = .ok (.lload_n 0, 1) := by decide +kernel
theorem dJ13_bitCount_95d88_43 : decode cJ13_bitCount_95d88 43 = .ok (.bipush 16, 2) := by decide +kernel
theorem dJ13_bitCount_95d88_45 : decode cJ13_bitCount_95d88 45 = .ok (.lushr, 1) := by decide +kernel
theorem dJ13_bitCount_95d88_46 : decode cJ13_bitCount_95d88 46 = .ok (.ladd, 1) := by decide +kernel
theorem dJ13_bitCount_95d88_47 : decode cJ13_bitCount_95d88 47 = .ok (.lstore_n 0, 1) := by decide +kernel
theorem dJ13_bitCount_95d88_48 : decode cJ13_bitCount_95d88 48 = .ok (.lload_n 0, 1) := by decide +kernel
theorem dJ13_bitCount_95d88_49 : decode cJ13_bitCount_95d88 49 = .ok (.lload_n 0, 1) := by decide +kernel
theorem dJ13_bitCount_95d88_50 : decode cJ13_bitCount_95d88 50 = .ok (.bipush 32, 2) := by decide +kernel
theorem dJ13_bitCount_95d88_52 : decode cJ13_bitCount_95d88 52 = .ok (.lushr, 1) := by decide +kernel
theorem dJ13_bitCount_95d88_53 : decode cJ13_bitCount_95d88 53 = .ok (.ladd, 1) := by decide +kernel
theorem dJ13_bitCount_95d88_54 : decode cJ13_bitCount_95d88 54 = .ok (.lstore_n 0, 1) := by decide +kernel
theorem dJ13_bitCount_95d88_55 : decode cJ13_bitCount_95d88 55 = .ok (.lload_n 0, 1) := by decide +kernel
theorem dJ13_bitCount_95d88_56 : decode cJ13_bitCount_95d88 56 = .ok (.l2i, 1) := by decide +kernel
theorem dJ13_bitCount_95d88_57 : decode cJ13_bitCount_95d88 57 = .ok (.bipush 127, 2) := by decide +kernel
theorem dJ13_bitCount_95d88_59 : decode cJ13_bitCount_95d88 59 = .ok (.iand, 1) := by decide +kernel
theorem dJ13_bitCount_95d88_60 : decode cJ13_bitCount_95d88 60 = .ok (.ireturn, 1) := by decide +kernel
theorem dJ9_floorMod_7cf53_0 : decode cJ9_floorMod_7cf53 0 = .ok (.iload_n 0, 1) := by decide +kernel
theorem dJ9_floorMod_7cf53_1 : decode cJ9_floorMod_7cf53 1 = .ok (.iload_n 1, 1) := by decide +kernel
theorem dJ9_floorMod_7cf53_2 : decode cJ9_floorMod_7cf53 2 = .ok (.irem, 1) := by decide +kernel
theorem dJ9_floorMod_7cf53_3 : decode cJ9_floorMod_7cf53 3 = .ok (.istore_n 2, 1) := by decide +kernel
theorem dJ9_floorMod_7cf53_4 : decode cJ9_floorMod_7cf53 4 = .ok (.iload_n 0, 1) := by decide +kernel
theorem dJ9_floorMod_7cf53_5 : decode cJ9_floorMod_7cf53 5 = .ok (.iload_n 1, 1) := by decide +kernel
theorem dJ9_floorMod_7cf53_6 : decode cJ9_floorMod_7cf53 6 = .ok (.ixor, 1) := by decide +kernel
theorem dJ9_floorMod_7cf53_7 : decode cJ9_floorMod_7cf53 7 = .ok (.ifCond .ge 11, 3) := by decide +kernel
theorem dJ9_floorMod_7cf53_10 : decode cJ9_floorMod_7cf53 10 = .ok (.iload_n 2, 1) := by decide +kernel
theorem dJ9_floorMod_7cf53_11 : decode cJ9_floorMod_7cf53 11 = .ok (.ifCond .eq 7, 3) := by decide +kernel
theorem dJ9_floorMod_7cf53_14 : decode cJ9_floorMod_7cf53 14 = .ok (.iload_n 2, 1) := by decide +kernel
theorem dJ9_floorMod_7cf53_15 : decode cJ9_floorMod_7cf53 15 = .ok (.iload_n 1, 1) := by decide +kernel
theorem dJ9_floorMod_7cf53_16 : decode cJ9_floorMod_7cf53 16 = .ok (.iadd, 1) := by decide +kernel
theorem dJ9_floorMod_7cf53_17 : decode cJ9_floorMod_7cf53 17 = .ok (.ireturn, 1) := by decide +kernel
theorem dJ9_floorMod_7cf53_18 : decode cJ9_floorMod_7cf53 18 = .ok (.iload_n 2, 1) := by decide +kernel
theorem dJ9_floorMod_7cf53_19 : decode cJ9_floorMod_7cf53 19 = .ok (.ireturn, 1) := by decide +kernel
theorem dJ9_max_7cf53_0 : decode cJ9_max_7cf53 0 = .ok (.iload_n 0, 1) := by decide +kernel
theorem dJ9_max_7cf53_1 : decode cJ9_max_7cf53 1 = .ok (.iload_n 1, 1) := by decide +kernel
theorem dJ9_max_7cf53_2 : decode cJ9_max_7cf53 2 = .ok (.if_icmp .lt 7, 3) := by decide +kernel
theorem dJ9_max_7cf53_5 : decode cJ9_max_7cf53 5 = .ok (.iload_n 0, 1) := by decide +kernel
theorem dJ9_max_7cf53_6 : decode cJ9_max_7cf53 6 = .ok (.goto 4, 3) := by decide +kernel
theorem dJ9_max_7cf53_9 : decode cJ9_max_7cf53 9 = .ok (.iload_n 1, 1) := by decide +kernel
theorem dJ9_max_7cf53_10 : decode cJ9_max_7cf53 10 = .ok (.ireturn, 1) := by decide +kernel
theorem dJ9_min_7cf53_0 : decode cJ9_min_7cf53 0 = .ok (.iload_n 0, 1) := by decide +kernel
theorem dJ9_min_7cf53_1 : decode cJ9_min_7cf53 1 = .ok (.iload_n 1, 1) := by decide +kernel
theorem dJ9_min_7cf53_2 : decode cJ9_min_7cf53 2 = .ok (.if_icmp .gt 7, 3) := by decide +kernel
theorem dJ9_min_7cf53_5 : decode cJ9_min_7cf53 5 = .ok (.iload_n 0, 1) := by decide +kernel
theorem dJ9_min_7cf53_6 : decode cJ9_min_7cf53 6 = .ok (.goto 4, 3) := by decide +kernel
theorem dJ9_min_7cf53_9 : decode cJ9_min_7cf53 9 = .ok (.iload_n 1, 1) := by decide +kernel
theorem dJ9_min_7cf53_10 : decode cJ9_min_7cf53 10 = .ok (.ireturn, 1) := by decide +kernel
theorem dJ0_length_8abf5_0 : decode cJ0_length_8abf5 0 = .ok (.aload_n 0, 1) := by decide +kernel
theorem dJ0_length_8abf5_1 : decode cJ0_length_8abf5 1 = .ok (.getfield 9, 3) := by decide +kernel
theorem dJ0_length_8abf5_4 : decode cJ0_length_8abf5 4 = .ok (.arraylength, 1) := by decide +kernel
theorem dJ0_length_8abf5_5 : decode cJ0_length_8abf5 5 = .ok (.aload_n 0, 1) := by decide +kernel
theorem dJ0_length_8abf5_6 : decode cJ0_length_8abf5 6 = .ok (.invokevirtual 335, 3) := by decide +kernel
theorem dJ0_length_8abf5_9 : decode cJ0_length_8abf5 9 = .ok (.ishr, 1) := by decide +kernel
theorem dJ0_length_8abf5_10 : decode cJ0_length_8abf5 10 = .ok (.ireturn, 1) := by decide +kernel
theorem dJ0_charAt_5068e_0 : decode cJ0_charAt_5068e 0 = .ok (.aload_n 0, 1) := by decide +kernel
theorem dJ0_charAt_5068e_1 : decode cJ0_charAt_5068e 1 = .ok (.invokevirtual 492, 3) := by decide +kernel
theorem dJ0_charAt_5068e_4 : decode cJ0_charAt_5068e 4 = .ok (.ifCond .eq 12, 3) := by decide +kernel
theorem dJ0_charAt_5068e_7 : decode cJ0_charAt_5068e 7 = .ok (.aload_n 0, 1) := by decide +kernel
theorem dJ0_charAt_5068e_8 : decode cJ0_charAt_5068e 8 = .ok (.getfield 9, 3) := by decide +kernel
theorem dJ0_charAt_5068e_11 : decode cJ0_charAt_5068e 11 = .ok (.iload_n 1, 1) := by decide +kernel
theorem dJ0_charAt_5068e_12 : decode cJ0_charAt_5068e 12 = .ok (.invokestatic 495, 3) := by decide +kernel
theorem dJ0_charAt_5068e_15 : decode cJ0_charAt_5068e 15 = .ok (.ireturn, 1) := by decide +kernel
theorem dJ0_charAt_5068e_16 : decode cJ0_charAt_5068e 16 = .ok (.aload_n 0, 1) := by decide +kernel
theorem dJ0_charAt_5068e_17 : decode cJ0_charAt_5068e 17 = .ok (.getfield 9, 3) := by decide +kernel
theorem dJ0_charAt_5068e_20 : decode cJ0_charAt_5068e 20 = .ok (.iload_n 1, 1) := by decide +kernel
theorem dJ0_charAt_5068e_21 : decode cJ0_charAt_5068e 21 = .ok (.invokestatic 498, 3) := by decide +kernel
theorem dJ0_charAt_5068e_24 : decode cJ0_charAt_5068e 24 = .ok (.ireturn, 1) := by decide +kernel
theorem dJ0_coder_7d493_0 : decode cJ0_coder_7d493 0 = .ok (.getstatic 38, 3) := by decide +kernel
theorem dJ0_coder_7d493_3 : decode cJ0_coder_7d493 3 = .ok (.ifCond .eq 10, 3) := by decide +kernel
theorem dJ0_coder_7d493_6 : decode cJ0_coder_7d493 6 = .ok (.aload_n 0, 1) := by decide +kernel
theorem dJ0_coder_7d493_7 : decode cJ0_coder_7d493 7 = .ok (.getfield 15, 3) := by decide +kernel
theorem dJ0_coder_7d493_10 : decode cJ0_coder_7d493 10 = .ok (.goto 4, 3) := by decide +kernel
theorem dJ0_coder_7d493_13 : decode cJ0_coder_7d493 13 = .ok (.iconst 1, 1) := by decide +kernel
theorem dJ0_coder_7d493_14 : decode cJ0_coder_7d493 14 = .ok (.ireturn, 1) := by decide +kernel
theorem dJ0_isLatin1_aae02_0 : decode cJ0_isLatin1_aae02 0 = .ok (.getstatic 38, 3) := by decide +kernel
theorem dJ0_isLatin1_aae02_3 : decode cJ0_isLatin1_aae02 3 = .ok (.ifCond .eq 14, 3) := by decide +kernel
theorem dJ0_isLatin1_aae02_6 : decode cJ0_isLatin1_aae02 6 = .ok (.aload_n 0, 1) := by decide +kernel
theorem dJ0_isLatin1_aae02_7 : decode cJ0_isLatin1_aae02 7 = .ok (.getfield 15, 3) := by decide +kernel
theorem dJ0_isLatin1_aae02_10 : decode cJ0_isLatin1_aae02 10 = .ok (.ifCond .ne 7, 3) := by decide +kernel
theorem dJ0_isLatin1_aae02_13 : decode cJ0_isLatin1_aae02 13 = .ok (.iconst 1, 1) := by decide +kernel
theorem dJ0_isLatin1_aae02_14 : decode cJ0_isLatin1_aae02 14 = .ok (.goto 4, 3) := by decide +kernel
theorem dJ0_isLatin1_aae02_17 : decode cJ0_isLatin1_aae02 17 = .ok (.iconst 0, 1) := by decide +kernel
theorem dJ0_isLatin1_aae02_18 : decode cJ0_isLatin1_aae02 18 = .ok (.ireturn, 1) := by decide +kernel
theorem dJ0_checkIndex_df160_0 : decode cJ0_checkIndex_df160 0 = .ok (.iload_n 0, 1) := by decide +kernel
theorem dJ0_checkIndex_df160_1 : decode cJ0_checkIndex_df160 1 = .ok (.iload_n 1, 1) := by decide +kernel
theorem dJ0_checkIndex_df160_2 : decode cJ0_checkIndex_df160 2 = .ok (.getstatic 1053, 3) := by decide +kernel
theorem dJ0_checkIndex_df160_5 : decode cJ0_checkIndex_df160 5 = .ok (.invokestatic 1059, 3) := by decide +kernel
theorem dJ0_checkIndex_df160_8 : decode cJ0_checkIndex_df160 8 = .ok (.pop, 1) := by decide +kernel
theorem dJ0_checkIndex_df160_9 : decode cJ0_checkIndex_df160 9 = .ok (.return_, 1) := by decide +kernel
theorem dJ1_charAt_3b067_0 : decode cJ1_charAt_3b067 0 = .ok (.iload_n 1, 1) := by decide +kernel
theorem dJ1_charAt_3b067_1 : decode cJ1_charAt_3b067 1 = .ok (.aload_n 0, 1) := by decide +kernel
theorem dJ1_charAt_3b067_2 : decode cJ1_charAt_3b067 2 = .ok (.arraylength, 1) := by decide +kernel
theorem dJ1_charAt_3b067_3 : decode cJ1_charAt_3b067 3 = .ok (.invokestatic 9, 3) := by decide +kernel
theorem dJ1_charAt_3b067_6 : decode cJ1_charAt_3b067 6 = .ok (.aload_n 0, 1) := by decide +kernel
theorem dJ1_charAt_3b067_7 : decode cJ1_charAt_3b067 7 = .ok (.iload_n 1, 1) := by decide +kernel
theorem dJ1_charAt_3b067_8 : decode cJ1_charAt_3b067 8 = .ok (.baload, 1) := by decide +kernel
theorem dJ1_charAt_3b067_9 : decode cJ1_charAt_3b067 9 = .ok (.sipush 255, 3) := by decide +kernel
theorem dJ1_charAt_3b067_12 : decode cJ1_charAt_3b067 12 = .ok (.iand, 1) := by decide +kernel
theorem dJ1_charAt_3b067_13 : decode cJ1_charAt_3b067 13 = .ok (.i2c, 1) := by decide +kernel
theorem dJ1_charAt_3b067_14 : decode cJ1_charAt_3b067 14 = .ok (.ireturn, 1) := by decide +kernel
theorem dJ2_getChar_3b067_0 : decode cJ2_getChar_3b067 0 = .ok (.getstatic 44, 3) := by decide +kernel
theorem dJ2_getChar_3b067_3 : decode cJ2_getChar_3b067 3 = .ok (.ifCond .ne 25, 3) := by decide +kernel
theorem dJ2_getChar_3b067_6 : decode cJ2_getChar_3b067 6 = .ok (.iload_n 1, 1) := by decide +kernel
theorem dJ2_getChar_3b067_7 : decode cJ2_getChar_3b067 7 = .ok (.ifCond .lt 11, 3) := by decide +kernel
theorem dJ2_getChar_3b067_10 : decode cJ2_getChar_3b067 10 = .ok (.iload_n 1, 1) := by decide +kernel
theorem dJ2_getChar_3b067_11 : decode cJ2_getChar_3b067 11 = .ok (.aload_n 0, 1) := by decide +kernel
theorem dJ2_getChar_3b067_12 : decode cJ2_getChar_3b067 12 = .ok (.invokestatic 48, 3) := by decide +kernel
theorem dJ2_getChar_3b067_15 : decode cJ2_getChar_3b067 15 = .ok (.if_icmp .lt 13, 3) := by decide +kernel
theorem dJ2_getChar_3b067_18 : decode cJ2_getChar_3b067 18 = .ok (.new 52, 3) := by decide +kernel
theorem dJ2_getChar_3b067_21 : decode cJ2_getChar_3b067 21 = .ok (.dup, 1) := by decide +kernel
theorem dJ2_getChar_3b067_22 : decode cJ2_getChar_3b067 22 = .ok (.ldc 54, 2) := by decide +kernel
theorem dJ2_getChar_3b067_24 : decode cJ2_getChar_3b067 24 = .ok (.invokespecial 56, 3) := by decide +kernel
theorem dJ2_getChar_3b067_27 : decode cJ2_getChar_3b067 27 = .ok (.athrow, 1) := by decide +kernel
theorem dJ2_getChar_3b067_28 : decode cJ2_getChar_3b067 28 = .ok (.iload_n 1, 1) := by decide +kernel
theorem dJ2_getChar_3b067_29 : decode cJ2_getChar_3b067 29 = .ok (.iconst 1, 1) := by decide +kernel
theorem dJ2_getChar_3b067_30 : decode cJ2_getChar_3b067 30 = .ok (.ishl, 1) := by decide +kernel
theorem dJ2_getChar_3b067_31 : decode cJ2_getChar_3b067 31 = .ok (.istore_n 1, 1) := by decide +kernel
theorem dJ2_getChar_3b067_32 : decode cJ2_getChar_3b067 32 = .ok (.aload_n 0, 1) := by decide +kernel
theorem dJ2_getChar_3b067_33 : decode cJ2_getChar_3b067 33 = .ok (.iload_n 1, 1) := by decide +kernel
theorem dJ2_getChar_3b067_34 : decode cJ2_getChar_3b067 34 = .ok (.iinc 1 1, 3) := by decide +kernel
theorem dJ2_getChar_3b067_37 : decode cJ2_getChar_3b067 37 = .ok (.baload, 1) := by decide +kernel
theorem dJ2_getChar_3b067_38 : decode cJ2_getChar_3b067 38 = .ok (.sipush 255, 3) := by decide +kernel
theorem dJ2_getChar_3b067_41 : decode cJ2_getChar_3b067 41 = .ok (.iand, 1) := by decide +kernel
theorem dJ2_getChar_3b067_42 : decode cJ2_getChar_3b067 42 = .ok (.getstatic 59, 3) := by decide +kernel
theorem dJ2_getChar_3b067_45 : decode cJ2_getChar_3b067 45 = .ok (.ishl, 1) := by decide +kernel
theorem dJ2_getChar_3b067_46 : decode cJ2_getChar_3b067 46 = .ok (.aload_n 0, 1) := by decide +kernel
theorem dJ2_getChar_3b067_47 : decode cJ2_getChar_3b067 47 = .ok (.iload_n 1, 1) := by decide +kernel
theorem dJ2_getChar_3b067_48 : decode cJ2_getChar_3b067 48 = .ok (.baload, 1) := by decide +kernel
theorem dJ2_getChar_3b067_49 : decode cJ2_getChar_3b067 49 = .ok (.sipush 255, 3) := by decide +kernel
theorem dJ2_getChar_3b067_52 : decode cJ2_getChar_3b067 52 = .ok (.iand, 1) := by decide +kernel
theorem dJ2_getChar_3b067_53 : decode cJ2_getChar_3b067 53 = .ok (.getstatic 63, 3) := by decide +kernel
theorem dJ2_getChar_3b067_56 : decode cJ2_getChar_3b067 56 = .ok (.ishl, 1) := by decide +kernel
theorem dJ2_getChar_3b067_57 : decode cJ2_getChar_3b067 57 = .ok (.ior, 1) := by decide +kernel
theorem dJ2_getChar_3b067_58 : decode cJ2_getChar_3b067 58 = .ok (.i2c, 1) := by decide +kernel
theorem dJ2_getChar_3b067_59 : decode cJ2_getChar_3b067 59 = .ok (.ireturn, 1) := by decide +kernel
theorem dJ2_length_9d52b_0 : decode cJ2_length_9d52b 0 = .ok (.aload_n 0, 1) := by decide +kernel
theorem dJ2_length_9d52b_1 : decode cJ2_length_9d52b 1 = .ok (.arraylength, 1) := by decide +kernel
theorem dJ2_length_9d52b_2 : decode cJ2_length_9d52b 2 = .ok (.iconst 1, 1) := by decide +kernel
theorem dJ2_length_9d52b_3 : decode cJ2_length_9d52b 3 = .ok (.ishr, 1) := by decide +kernel
theorem dJ2_length_9d52b_4 : decode cJ2_length_9d52b 4 = .ok (.ireturn, 1) := by decide +kernel
theorem dJ2_charAt_3b067_0 : decode cJ2_charAt_3b067 0 = .ok (.iload_n 1, 1) := by decide +kernel
theorem dJ2_charAt_3b067_1 : decode cJ2_charAt_3b067 1 = .ok (.aload_n 0, 1) := by decide +kernel
theorem dJ2_charAt_3b067_2 : decode cJ2_charAt_3b067 2 = .ok (.invokestatic 67, 3) := by decide +kernel
theorem dJ2_charAt_3b067_5 : decode cJ2_charAt_3b067 5 = .ok (.aload_n 0, 1) := by decide +kernel
theorem dJ2_charAt_3b067_6 : decode cJ2_charAt_3b067 6 = .ok (.iload_n 1, 1) := by decide +kernel
theorem dJ2_charAt_3b067_7 : decode cJ2_charAt_3b067 7 = .ok (.invokestatic 71, 3) := by decide +kernel
theorem dJ2_charAt_3b067_10 : decode cJ2_charAt_3b067 10 = .ok (.ireturn, 1) := by decide +kernel
theorem dJ2_checkIndex_2214a_0 : decode cJ2_checkIndex_2214a 0 = .ok (.iload_n 0, 1) := by decide +kernel
theorem dJ2_checkIndex_2214a_1 : decode cJ2_checkIndex_2214a 1 = .ok (.aload_n 1, 1) := by decide +kernel
theorem dJ2_checkIndex_2214a_2 : decode cJ2_checkIndex_2214a 2 = .ok (.invokestatic 48, 3) := by decide +kernel
theorem dJ2_checkIndex_2214a_5 : decode cJ2_checkIndex_2214a 5 = .ok (.invokestatic 414, 3) := by decide +kernel
theorem dJ2_checkIndex_2214a_8 : decode cJ2_checkIndex_2214a 8 = .ok (.return_, 1) := by decide +kernel
theorem dJ3_checkIndex_8e157_0 : decode cJ3_checkIndex_8e157 0 = .ok (.iload_n 0, 1) := by decide +kernel
theorem dJ3_checkIndex_8e157_1 : decode cJ3_checkIndex_8e157 1 = .ok (.ifCond .lt 8, 3) := by decide +kernel
theorem dJ3_checkIndex_8e157_4 : decode cJ3_checkIndex_8e157 4 = .ok (.iload_n 0, 1) := by decide +kernel
theorem dJ3_checkIndex_8e157_5 : decode cJ3_checkIndex_8e157 5 = .ok (.iload_n 1, 1) := by decide +kernel
theorem dJ3_checkIndex_8e157_6 : decode cJ3_checkIndex_8e157 6 = .ok (.if_icmp .lt 10, 3) := by decide +kernel
theorem dJ3_checkIndex_8e157_9 : decode cJ3_checkIndex_8e157 9 = .ok (.aload_n 2, 1) := by decide +kernel
theorem dJ3_checkIndex_8e157_10 : decode cJ3_checkIndex_8e157 10 = .ok (.iload_n 0, 1) := by decide +kernel
theorem dJ3_checkIndex_8e157_11 : decode cJ3_checkIndex_8e157 11 = .ok (.iload_n 1, 1) := by decide +kernel
theorem dJ3_checkIndex_8e157_12 : decode cJ3_checkIndex_8e157 12 = .ok (.invokestatic 95, 3) := by decide +kernel
theorem dJ3_checkIndex_8e157_15 : decode cJ3_checkIndex_8e157 15 = .ok (.athrow, 1) := by decide +kernel
theorem dJ3_checkIndex_8e157_16 : decode cJ3_checkIndex_8e157 16 = .ok (.iload_n 0, 1) := by decide +kernel
theorem dJ3_checkIndex_8e157_17 : decode cJ3_checkIndex_8e157 17 = .ok (.ireturn, 1) := by decide +kernel
