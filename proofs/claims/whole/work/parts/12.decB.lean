theorem dX7_init_0 : decode cX7_init 0 = .ok (.aload_n 0, 1) := by decide +kernel
theorem dX7_init_1 : decode cX7_init 1 = .ok (.invokespecial 3, 3) := by decide +kernel
theorem dX7_init_4 : decode cX7_init 4 = .ok (.aload_n 0, 1) := by decide +kernel
theorem dX7_init_5 : decode cX7_init 5 = .ok (.sipush 1000, 3) := by decide +kernel
theorem dX7_init_8 : decode cX7_init 8 = .ok (.newarray .char, 2) := by decide +kernel
theorem dX7_init_10 : decode cX7_init 10 = .ok (.putfield 9, 3) := by decide +kernel
theorem dX7_init_13 : decode cX7_init 13 = .ok (.return_, 1) := by decide +kernel
theorem dX7_addSigns_0 : decode cX7_addSigns 0 = .ok (.bipush 56, 2) := by decide +kernel
theorem dX7_addSigns_2 : decode cX7_addSigns 2 = .ok (.istore_n 3, 1) := by decide +kernel
theorem dX7_addSigns_3 : decode cX7_addSigns 3 = .ok (.iload_n 3, 1) := by decide +kernel
theorem dX7_addSigns_4 : decode cX7_addSigns 4 = .ok (.ifCond .lt 74, 3) := by decide +kernel
theorem dX7_addSigns_7 : decode cX7_addSigns 7 = .ok (.lload_n 1, 1) := by decide +kernel
theorem dX7_addSigns_8 : decode cX7_addSigns 8 = .ok (.iload_n 3, 1) := by decide +kernel
theorem dX7_addSigns_9 : decode cX7_addSigns 9 = .ok (.lushr, 1) := by decide +kernel
theorem dX7_addSigns_10 : decode cX7_addSigns 10 = .ok (.ldc2_w 15, 3) := by decide +kernel
theorem dX7_addSigns_13 : decode cX7_addSigns 13 = .ok (.land, 1) := by decide +kernel
theorem dX7_addSigns_14 : decode cX7_addSigns 14 = .ok (.l2i, 1) := by decide +kernel
theorem dX7_addSigns_15 : decode cX7_addSigns 15 = .ok (.istore 4, 2) := by decide +kernel
theorem dX7_addSigns_17 : decode cX7_addSigns 17 = .ok (.iload 4, 2) := by decide +kernel
theorem dX7_addSigns_19 : decode cX7_addSigns 19 = .ok (.bipush 10, 2) := by decide +kernel
theorem dX7_addSigns_21 : decode cX7_addSigns 21 = .ok (.if_icmp .eq 17, 3) := by decide +kernel
theorem dX7_addSigns_24 : decode cX7_addSigns 24 = .ok (.iload 4, 2) := by decide +kernel
theorem dX7_addSigns_26 : decode cX7_addSigns 26 = .ok (.bipush 32, 2) := by decide +kernel
theorem dX7_addSigns_28 : decode cX7_addSigns 28 = .ok (.if_icmp .lt 44, 3) := by decide +kernel
theorem dX7_addSigns_31 : decode cX7_addSigns 31 = .ok (.iload 4, 2) := by decide +kernel
theorem dX7_addSigns_33 : decode cX7_addSigns 33 = .ok (.bipush 126, 2) := by decide +kernel
theorem dX7_addSigns_35 : decode cX7_addSigns 35 = .ok (.if_icmp .gt 37, 3) := by decide +kernel
theorem dX7_addSigns_38 : decode cX7_addSigns 38 = .ok (.aload_n 0, 1) := by decide +kernel
theorem dX7_addSigns_39 : decode cX7_addSigns 39 = .ok (.getfield 17, 3) := by decide +kernel
theorem dX7_addSigns_42 : decode cX7_addSigns 42 = .ok (.aload_n 0, 1) := by decide +kernel
theorem dX7_addSigns_43 : decode cX7_addSigns 43 = .ok (.getfield 9, 3) := by decide +kernel
theorem dX7_addSigns_46 : decode cX7_addSigns 46 = .ok (.arraylength, 1) := by decide +kernel
theorem dX7_addSigns_47 : decode cX7_addSigns 47 = .ok (.if_icmp .ge 25, 3) := by decide +kernel
theorem dX7_addSigns_50 : decode cX7_addSigns 50 = .ok (.aload_n 0, 1) := by decide +kernel
theorem dX7_addSigns_51 : decode cX7_addSigns 51 = .ok (.getfield 9, 3) := by decide +kernel
theorem dX7_addSigns_54 : decode cX7_addSigns 54 = .ok (.aload_n 0, 1) := by decide +kernel
theorem dX7_addSigns_55 : decode cX7_addSigns 55 = .ok (.getfield 17, 3) := by decide +kernel
theorem dX7_addSigns_58 : decode cX7_addSigns 58 = .ok (.iload 4, 2) := by decide +kernel
theorem dX7_addSigns_60 : decode cX7_addSigns 60 = .ok (.i2c, 1) := by decide +kernel
theorem dX7_addSigns_61 : decode cX7_addSigns 61 = .ok (.castore, 1) := by decide +kernel
theorem dX7_addSigns_62 : decode cX7_addSigns 62 = .ok (.aload_n 0, 1) := by decide +kernel
theorem dX7_addSigns_63 : decode cX7_addSigns 63 = .ok (.dup, 1) := by decide +kernel
theorem dX7_addSigns_64 : decode cX7_addSigns 64 = .ok (.getfield 17, 3) := by decide +kernel
theorem dX7_addSigns_67 : decode cX7_addSigns 67 = .ok (.iconst 1, 1) := by decide +kernel
theorem dX7_addSigns_68 : decode cX7_addSigns 68 = .ok (.iadd, 1) := by decide +kernel
theorem dX7_addSigns_69 : decode cX7_addSigns 69 = .ok (.putfield 17, 3) := by decide +kernel
theorem dX7_addSigns_72 : decode cX7_addSigns 72 = .ok (.iinc 3 (-8), 3) := by decide +kernel
theorem dX7_addSigns_75 : decode cX7_addSigns 75 = .ok (.goto (-72), 3) := by decide +kernel
theorem dX7_addSigns_78 : decode cX7_addSigns 78 = .ok (.return_, 1) := by decide +kernel
theorem dX7_readLine_0 : decode cX7_readLine 0 = .ok (.aload_n 1, 1) := by decide +kernel
theorem dX7_readLine_1 : decode cX7_readLine 1 = .ok (.invokevirtual 21, 3) := by decide +kernel
theorem dX7_readLine_4 : decode cX7_readLine 4 = .ok (.aload_n 0, 1) := by decide +kernel
theorem dX7_readLine_5 : decode cX7_readLine 5 = .ok (.iconst 0, 1) := by decide +kernel
theorem dX7_readLine_6 : decode cX7_readLine 6 = .ok (.putfield 26, 3) := by decide +kernel
theorem dX7_readLine_9 : decode cX7_readLine 9 = .ok (.aload_n 0, 1) := by decide +kernel
theorem dX7_readLine_10 : decode cX7_readLine 10 = .ok (.invokevirtual 29, 3) := by decide +kernel
theorem dX7_readLine_13 : decode cX7_readLine 13 = .ok (.iconst 0, 1) := by decide +kernel
theorem dX7_readLine_14 : decode cX7_readLine 14 = .ok (.istore_n 2, 1) := by decide +kernel
theorem dX7_readLine_15 : decode cX7_readLine 15 = .ok (.iload_n 2, 1) := by decide +kernel
theorem dX7_readLine_16 : decode cX7_readLine 16 = .ok (.sipush 1000, 3) := by decide +kernel
theorem dX7_readLine_19 : decode cX7_readLine 19 = .ok (.if_icmp .ge 28, 3) := by decide +kernel
theorem dX7_readLine_22 : decode cX7_readLine 22 = .ok (.aload_n 0, 1) := by decide +kernel
theorem dX7_readLine_23 : decode cX7_readLine 23 = .ok (.getfield 32, 3) := by decide +kernel
theorem dX7_readLine_26 : decode cX7_readLine 26 = .ok (.ifCond .ne 21, 3) := by decide +kernel
theorem dX7_readLine_29 : decode cX7_readLine 29 = .ok (.aload_n 0, 1) := by decide +kernel
theorem dX7_readLine_30 : decode cX7_readLine 30 = .ok (.getfield 35, 3) := by decide +kernel
theorem dX7_readLine_33 : decode cX7_readLine 33 = .ok (.ifCond .eq 14, 3) := by decide +kernel
theorem dX7_readLine_36 : decode cX7_readLine 36 = .ok (.aload_n 0, 1) := by decide +kernel
theorem dX7_readLine_37 : decode cX7_readLine 37 = .ok (.aload_n 1, 1) := by decide +kernel
theorem dX7_readLine_38 : decode cX7_readLine 38 = .ok (.invokevirtual 38, 3) := by decide +kernel
theorem dX7_readLine_41 : decode cX7_readLine 41 = .ok (.iinc 2 1, 3) := by decide +kernel
theorem dX7_readLine_44 : decode cX7_readLine 44 = .ok (.goto (-29), 3) := by decide +kernel
theorem dX7_readLine_47 : decode cX7_readLine 47 = .ok (.aload_n 0, 1) := by decide +kernel
theorem dX7_readLine_48 : decode cX7_readLine 48 = .ok (.iconst 0, 1) := by decide +kernel
theorem dX7_readLine_49 : decode cX7_readLine 49 = .ok (.putfield 17, 3) := by decide +kernel
theorem dX7_readLine_52 : decode cX7_readLine 52 = .ok (.aload_n 0, 1) := by decide +kernel
theorem dX7_readLine_53 : decode cX7_readLine 53 = .ok (.getfield 32, 3) := by decide +kernel
theorem dX7_readLine_56 : decode cX7_readLine 56 = .ok (.ireturn, 1) := by decide +kernel
theorem dX7_readDay_0 : decode cX7_readDay 0 = .ok (.aload_n 2, 1) := by decide +kernel
theorem dX7_readDay_1 : decode cX7_readDay 1 = .ok (.invokevirtual 42, 3) := by decide +kernel
theorem dX7_readDay_4 : decode cX7_readDay 4 = .ok (.aload_n 0, 1) := by decide +kernel
theorem dX7_readDay_5 : decode cX7_readDay 5 = .ok (.invokevirtual 29, 3) := by decide +kernel
theorem dX7_readDay_8 : decode cX7_readDay 8 = .ok (.iconst 0, 1) := by decide +kernel
theorem dX7_readDay_9 : decode cX7_readDay 9 = .ok (.istore_n 3, 1) := by decide +kernel
theorem dX7_readDay_10 : decode cX7_readDay 10 = .ok (.iload_n 3, 1) := by decide +kernel
theorem dX7_readDay_11 : decode cX7_readDay 11 = .ok (.sipush 1000, 3) := by decide +kernel
theorem dX7_readDay_14 : decode cX7_readDay 14 = .ok (.if_icmp .ge 29, 3) := by decide +kernel
theorem dX7_readDay_17 : decode cX7_readDay 17 = .ok (.aload_n 0, 1) := by decide +kernel
theorem dX7_readDay_18 : decode cX7_readDay 18 = .ok (.getfield 32, 3) := by decide +kernel
theorem dX7_readDay_21 : decode cX7_readDay 21 = .ok (.ifCond .ne 22, 3) := by decide +kernel
theorem dX7_readDay_24 : decode cX7_readDay 24 = .ok (.aload_n 0, 1) := by decide +kernel
theorem dX7_readDay_25 : decode cX7_readDay 25 = .ok (.getfield 35, 3) := by decide +kernel
theorem dX7_readDay_28 : decode cX7_readDay 28 = .ok (.ifCond .eq 15, 3) := by decide +kernel
theorem dX7_readDay_31 : decode cX7_readDay 31 = .ok (.aload_n 0, 1) := by decide +kernel
theorem dX7_readDay_32 : decode cX7_readDay 32 = .ok (.aload_n 1, 1) := by decide +kernel
theorem dX7_readDay_33 : decode cX7_readDay 33 = .ok (.aload_n 2, 1) := by decide +kernel
theorem dX7_readDay_34 : decode cX7_readDay 34 = .ok (.invokevirtual 45, 3) := by decide +kernel
theorem dX7_readDay_37 : decode cX7_readDay 37 = .ok (.iinc 3 1, 3) := by decide +kernel
theorem dX7_readDay_40 : decode cX7_readDay 40 = .ok (.goto (-30), 3) := by decide +kernel
theorem dX7_readDay_43 : decode cX7_readDay 43 = .ok (.aload_n 0, 1) := by decide +kernel
theorem dX7_readDay_44 : decode cX7_readDay 44 = .ok (.iconst 0, 1) := by decide +kernel
theorem dX7_readDay_45 : decode cX7_readDay 45 = .ok (.putfield 17, 3) := by decide +kernel
theorem dX7_readDay_48 : decode cX7_readDay 48 = .ok (.aload_n 0, 1) := by decide +kernel
theorem dX7_readDay_49 : decode cX7_readDay 49 = .ok (.getfield 32, 3) := by decide +kernel
theorem dX7_readDay_52 : decode cX7_readDay 52 = .ok (.ireturn, 1) := by decide +kernel
theorem dX7_begin_0 : decode cX7_begin 0 = .ok (.aload_n 0, 1) := by decide +kernel
theorem dX7_begin_1 : decode cX7_begin 1 = .ok (.iconst 0, 1) := by decide +kernel
theorem dX7_begin_2 : decode cX7_begin 2 = .ok (.putfield 32, 3) := by decide +kernel
theorem dX7_begin_5 : decode cX7_begin 5 = .ok (.aload_n 0, 1) := by decide +kernel
theorem dX7_begin_6 : decode cX7_begin 6 = .ok (.iconst 0, 1) := by decide +kernel
theorem dX7_begin_7 : decode cX7_begin 7 = .ok (.putfield 49, 3) := by decide +kernel
theorem dX7_begin_10 : decode cX7_begin 10 = .ok (.aload_n 0, 1) := by decide +kernel
theorem dX7_begin_11 : decode cX7_begin 11 = .ok (.invokevirtual 52, 3) := by decide +kernel
theorem dX7_begin_14 : decode cX7_begin 14 = .ok (.return_, 1) := by decide +kernel
theorem dX7_readTold_0 : decode cX7_readTold 0 = .ok (.aload_n 0, 1) := by decide +kernel
theorem dX7_readTold_1 : decode cX7_readTold 1 = .ok (.getfield 35, 3) := by decide +kernel
theorem dX7_readTold_4 : decode cX7_readTold 4 = .ok (.iconst 2, 1) := by decide +kernel
theorem dX7_readTold_5 : decode cX7_readTold 5 = .ok (.if_icmp .ne 10, 3) := by decide +kernel
theorem dX7_readTold_8 : decode cX7_readTold 8 = .ok (.aload_n 0, 1) := by decide +kernel
theorem dX7_readTold_9 : decode cX7_readTold 9 = .ok (.getfield 55, 3) := by decide +kernel
theorem dX7_readTold_12 : decode cX7_readTold 12 = .ok (.goto 4, 3) := by decide +kernel
theorem dX7_readTold_15 : decode cX7_readTold 15 = .ok (.iconst (-1), 1) := by decide +kernel
theorem dX7_readTold_16 : decode cX7_readTold 16 = .ok (.istore_n 2, 1) := by decide +kernel
theorem dX7_readTold_17 : decode cX7_readTold 17 = .ok (.iload_n 2, 1) := by decide +kernel
theorem dX7_readTold_18 : decode cX7_readTold 18 = .ok (.ifCond .ne 11, 3) := by decide +kernel
theorem dX7_readTold_21 : decode cX7_readTold 21 = .ok (.aload_n 0, 1) := by decide +kernel
theorem dX7_readTold_22 : decode cX7_readTold 22 = .ok (.aload_n 1, 1) := by decide +kernel
theorem dX7_readTold_23 : decode cX7_readTold 23 = .ok (.invokevirtual 58, 3) := by decide +kernel
theorem dX7_readTold_26 : decode cX7_readTold 26 = .ok (.goto 42, 3) := by decide +kernel
theorem dX7_readTold_29 : decode cX7_readTold 29 = .ok (.iload_n 2, 1) := by decide +kernel
theorem dX7_readTold_30 : decode cX7_readTold 30 = .ok (.bipush 8, 2) := by decide +kernel
theorem dX7_readTold_32 : decode cX7_readTold 32 = .ok (.if_icmp .ne 11, 3) := by decide +kernel
theorem dX7_readTold_35 : decode cX7_readTold 35 = .ok (.aload_n 0, 1) := by decide +kernel
theorem dX7_readTold_36 : decode cX7_readTold 36 = .ok (.aload_n 1, 1) := by decide +kernel
theorem dX7_readTold_37 : decode cX7_readTold 37 = .ok (.invokevirtual 61, 3) := by decide +kernel
theorem dX7_readTold_40 : decode cX7_readTold 40 = .ok (.goto 28, 3) := by decide +kernel
theorem dX7_readTold_43 : decode cX7_readTold 43 = .ok (.iload_n 2, 1) := by decide +kernel
theorem dX7_readTold_44 : decode cX7_readTold 44 = .ok (.iconst 4, 1) := by decide +kernel
theorem dX7_readTold_45 : decode cX7_readTold 45 = .ok (.if_icmp .lt 18, 3) := by decide +kernel
theorem dX7_readTold_48 : decode cX7_readTold 48 = .ok (.iload_n 2, 1) := by decide +kernel
theorem dX7_readTold_49 : decode cX7_readTold 49 = .ok (.bipush 10, 2) := by decide +kernel
theorem dX7_readTold_51 : decode cX7_readTold 51 = .ok (.if_icmp .gt 12, 3) := by decide +kernel
theorem dX7_readTold_54 : decode cX7_readTold 54 = .ok (.aload_n 0, 1) := by decide +kernel
theorem dX7_readTold_55 : decode cX7_readTold 55 = .ok (.aload_n 1, 1) := by decide +kernel
theorem dX7_readTold_56 : decode cX7_readTold 56 = .ok (.iload_n 2, 1) := by decide +kernel
theorem dX7_readTold_57 : decode cX7_readTold 57 = .ok (.invokevirtual 64, 3) := by decide +kernel
theorem dX7_readTold_60 : decode cX7_readTold 60 = .ok (.goto 8, 3) := by decide +kernel
theorem dX7_readTold_63 : decode cX7_readTold 63 = .ok (.aload_n 0, 1) := by decide +kernel
theorem dX7_readTold_64 : decode cX7_readTold 64 = .ok (.iconst 1, 1) := by decide +kernel
theorem dX7_readTold_65 : decode cX7_readTold 65 = .ok (.invokevirtual 68, 3) := by decide +kernel
theorem dX7_readTold_68 : decode cX7_readTold 68 = .ok (.aload_n 0, 1) := by decide +kernel
theorem dX7_readTold_69 : decode cX7_readTold 69 = .ok (.bipush 59, 2) := by decide +kernel
theorem dX7_readTold_71 : decode cX7_readTold 71 = .ok (.invokevirtual 72, 3) := by decide +kernel
theorem dX7_readTold_74 : decode cX7_readTold 74 = .ok (.return_, 1) := by decide +kernel
theorem dX7_readCloth_0 : decode cX7_readCloth 0 = .ok (.aload_n 1, 1) := by decide +kernel
theorem dX7_readCloth_1 : decode cX7_readCloth 1 = .ok (.getfield 75, 3) := by decide +kernel
theorem dX7_readCloth_4 : decode cX7_readCloth 4 = .ok (.istore_n 2, 1) := by decide +kernel
theorem dX7_readCloth_5 : decode cX7_readCloth 5 = .ok (.iload_n 2, 1) := by decide +kernel
theorem dX7_readCloth_6 : decode cX7_readCloth 6 = .ok (.bipush 6, 2) := by decide +kernel
theorem dX7_readCloth_8 : decode cX7_readCloth 8 = .ok (.if_icmp .lt 9, 3) := by decide +kernel
theorem dX7_readCloth_11 : decode cX7_readCloth 11 = .ok (.aload_n 0, 1) := by decide +kernel
theorem dX7_readCloth_12 : decode cX7_readCloth 12 = .ok (.iconst 5, 1) := by decide +kernel
theorem dX7_readCloth_13 : decode cX7_readCloth 13 = .ok (.invokevirtual 68, 3) := by decide +kernel
theorem dX7_readCloth_16 : decode cX7_readCloth 16 = .ok (.return_, 1) := by decide +kernel
theorem dX7_readCloth_17 : decode cX7_readCloth 17 = .ok (.aload_n 0, 1) := by decide +kernel
theorem dX7_readCloth_18 : decode cX7_readCloth 18 = .ok (.invokevirtual 52, 3) := by decide +kernel
theorem dX7_readCloth_21 : decode cX7_readCloth 21 = .ok (.aload_n 0, 1) := by decide +kernel
theorem dX7_readCloth_22 : decode cX7_readCloth 22 = .ok (.invokevirtual 78, 3) := by decide +kernel
theorem dX7_readCloth_25 : decode cX7_readCloth 25 = .ok (.ifCond .ne 11, 3) := by decide +kernel
theorem dX7_readCloth_28 : decode cX7_readCloth 28 = .ok (.aload_n 0, 1) := by decide +kernel
theorem dX7_readCloth_29 : decode cX7_readCloth 29 = .ok (.iconst 1, 1) := by decide +kernel
theorem dX7_readCloth_30 : decode cX7_readCloth 30 = .ok (.invokevirtual 68, 3) := by decide +kernel
theorem dX7_readCloth_33 : decode cX7_readCloth 33 = .ok (.goto 20, 3) := by decide +kernel
theorem dX7_readCloth_36 : decode cX7_readCloth 36 = .ok (.aload_n 1, 1) := by decide +kernel
theorem dX7_readCloth_37 : decode cX7_readCloth 37 = .ok (.aload_n 0, 1) := by decide +kernel
theorem dX7_readCloth_38 : decode cX7_readCloth 38 = .ok (.getfield 82, 3) := by decide +kernel
theorem dX7_readCloth_41 : decode cX7_readCloth 41 = .ok (.invokevirtual 86, 3) := by decide +kernel
theorem dX7_readCloth_44 : decode cX7_readCloth 44 = .ok (.iconst (-1), 1) := by decide +kernel
theorem dX7_readCloth_45 : decode cX7_readCloth 45 = .ok (.if_icmp .eq 8, 3) := by decide +kernel
theorem dX7_readCloth_48 : decode cX7_readCloth 48 = .ok (.aload_n 0, 1) := by decide +kernel
theorem dX7_readCloth_49 : decode cX7_readCloth 49 = .ok (.iconst 3, 1) := by decide +kernel
theorem dX7_readCloth_50 : decode cX7_readCloth 50 = .ok (.invokevirtual 68, 3) := by decide +kernel
theorem dX7_readCloth_53 : decode cX7_readCloth 53 = .ok (.aload_n 1, 1) := by decide +kernel
theorem dX7_readCloth_54 : decode cX7_readCloth 54 = .ok (.getfield 90, 3) := by decide +kernel
theorem dX7_readCloth_57 : decode cX7_readCloth 57 = .ok (.iload_n 2, 1) := by decide +kernel
theorem dX7_readCloth_58 : decode cX7_readCloth 58 = .ok (.aload_n 0, 1) := by decide +kernel
theorem dX7_readCloth_59 : decode cX7_readCloth 59 = .ok (.getfield 82, 3) := by decide +kernel
theorem dX7_readCloth_62 : decode cX7_readCloth 62 = .ok (.lastore, 1) := by decide +kernel
theorem dX7_readCloth_63 : decode cX7_readCloth 63 = .ok (.aload_n 0, 1) := by decide +kernel
theorem dX7_readCloth_64 : decode cX7_readCloth 64 = .ok (.invokevirtual 52, 3) := by decide +kernel
theorem dX7_readCloth_67 : decode cX7_readCloth 67 = .ok (.aload_n 0, 1) := by decide +kernel
theorem dX7_readCloth_68 : decode cX7_readCloth 68 = .ok (.getfield 35, 3) := by decide +kernel
theorem dX7_readCloth_71 : decode cX7_readCloth 71 = .ok (.iconst 2, 1) := by decide +kernel
theorem dX7_readCloth_72 : decode cX7_readCloth 72 = .ok (.if_icmp .ne 21, 3) := by decide +kernel
theorem dX7_readCloth_75 : decode cX7_readCloth 75 = .ok (.aload_n 0, 1) := by decide +kernel
theorem dX7_readCloth_76 : decode cX7_readCloth 76 = .ok (.getfield 55, 3) := by decide +kernel
theorem dX7_readCloth_79 : decode cX7_readCloth 79 = .ok (.bipush 16, 2) := by decide +kernel
theorem dX7_readCloth_81 : decode cX7_readCloth 81 = .ok (.if_icmp .lt 12, 3) := by decide +kernel
theorem dX7_readCloth_84 : decode cX7_readCloth 84 = .ok (.aload_n 0, 1) := by decide +kernel
theorem dX7_readCloth_85 : decode cX7_readCloth 85 = .ok (.getfield 55, 3) := by decide +kernel
theorem dX7_readCloth_88 : decode cX7_readCloth 88 = .ok (.bipush 19, 2) := by decide +kernel
theorem dX7_readCloth_90 : decode cX7_readCloth 90 = .ok (.if_icmp .le 8, 3) := by decide +kernel
theorem dX7_readCloth_93 : decode cX7_readCloth 93 = .ok (.aload_n 0, 1) := by decide +kernel
theorem dX7_readCloth_94 : decode cX7_readCloth 94 = .ok (.iconst 1, 1) := by decide +kernel
theorem dX7_readCloth_95 : decode cX7_readCloth 95 = .ok (.invokevirtual 68, 3) := by decide +kernel
theorem dX7_readCloth_98 : decode cX7_readCloth 98 = .ok (.aload_n 1, 1) := by decide +kernel
theorem dX7_readCloth_99 : decode cX7_readCloth 99 = .ok (.getfield 94, 3) := by decide +kernel
theorem dX7_readCloth_102 : decode cX7_readCloth 102 = .ok (.iload_n 2, 1) := by decide +kernel
theorem dX7_readCloth_103 : decode cX7_readCloth 103 = .ok (.aload_n 0, 1) := by decide +kernel
theorem dX7_readCloth_104 : decode cX7_readCloth 104 = .ok (.getfield 55, 3) := by decide +kernel
theorem dX7_readCloth_107 : decode cX7_readCloth 107 = .ok (.bipush 16, 2) := by decide +kernel
theorem dX7_readCloth_109 : decode cX7_readCloth 109 = .ok (.isub, 1) := by decide +kernel
theorem dX7_readCloth_110 : decode cX7_readCloth 110 = .ok (.iastore, 1) := by decide +kernel
theorem dX7_readCloth_111 : decode cX7_readCloth 111 = .ok (.aload_n 0, 1) := by decide +kernel
theorem dX7_readCloth_112 : decode cX7_readCloth 112 = .ok (.invokevirtual 52, 3) := by decide +kernel
theorem dX7_readCloth_115 : decode cX7_readCloth 115 = .ok (.aload_n 1, 1) := by decide +kernel
theorem dX7_readCloth_116 : decode cX7_readCloth 116 = .ok (.getfield 98, 3) := by decide +kernel
theorem dX7_readCloth_119 : decode cX7_readCloth 119 = .ok (.iload_n 2, 1) := by decide +kernel
theorem dX7_readCloth_120 : decode cX7_readCloth 120 = .ok (.aload_n 0, 1) := by decide +kernel
theorem dX7_readCloth_121 : decode cX7_readCloth 121 = .ok (.iconst 1, 1) := by decide +kernel
theorem dX7_readCloth_122 : decode cX7_readCloth 122 = .ok (.iconst 1, 1) := by decide +kernel
theorem dX7_readCloth_123 : decode cX7_readCloth 123 = .ok (.bipush 20, 2) := by decide +kernel
theorem dX7_readCloth_125 : decode cX7_readCloth 125 = .ok (.invokevirtual 101, 3) := by decide +kernel
theorem dX7_readCloth_128 : decode cX7_readCloth 128 = .ok (.iastore, 1) := by decide +kernel
theorem dX7_readCloth_129 : decode cX7_readCloth 129 = .ok (.aload_n 1, 1) := by decide +kernel
theorem dX7_readCloth_130 : decode cX7_readCloth 130 = .ok (.getfield 105, 3) := by decide +kernel
theorem dX7_readCloth_133 : decode cX7_readCloth 133 = .ok (.iload_n 2, 1) := by decide +kernel
theorem dX7_readCloth_134 : decode cX7_readCloth 134 = .ok (.aload_n 0, 1) := by decide +kernel
theorem dX7_readCloth_135 : decode cX7_readCloth 135 = .ok (.iconst 2, 1) := by decide +kernel
theorem dX7_readCloth_136 : decode cX7_readCloth 136 = .ok (.iconst 0, 1) := by decide +kernel
theorem dX7_readCloth_137 : decode cX7_readCloth 137 = .ok (.bipush 20, 2) := by decide +kernel
theorem dX7_readCloth_139 : decode cX7_readCloth 139 = .ok (.invokevirtual 101, 3) := by decide +kernel
theorem dX7_readCloth_142 : decode cX7_readCloth 142 = .ok (.iastore, 1) := by decide +kernel
theorem dX7_readCloth_143 : decode cX7_readCloth 143 = .ok (.aload_n 1, 1) := by decide +kernel
theorem dX7_readCloth_144 : decode cX7_readCloth 144 = .ok (.getfield 108, 3) := by decide +kernel
theorem dX7_readCloth_147 : decode cX7_readCloth 147 = .ok (.iload_n 2, 1) := by decide +kernel
theorem dX7_readCloth_148 : decode cX7_readCloth 148 = .ok (.aload_n 0, 1) := by decide +kernel
theorem dX7_readCloth_149 : decode cX7_readCloth 149 = .ok (.iconst 3, 1) := by decide +kernel
theorem dX7_readCloth_150 : decode cX7_readCloth 150 = .ok (.iconst 0, 1) := by decide +kernel
theorem dX7_readCloth_151 : decode cX7_readCloth 151 = .ok (.bipush 99, 2) := by decide +kernel
theorem dX7_readCloth_153 : decode cX7_readCloth 153 = .ok (.invokevirtual 101, 3) := by decide +kernel
theorem dX7_readCloth_156 : decode cX7_readCloth 156 = .ok (.iastore, 1) := by decide +kernel
theorem dX7_readCloth_157 : decode cX7_readCloth 157 = .ok (.aload_n 1, 1) := by decide +kernel
theorem dX7_readCloth_158 : decode cX7_readCloth 158 = .ok (.dup, 1) := by decide +kernel
theorem dX7_readCloth_159 : decode cX7_readCloth 159 = .ok (.getfield 75, 3) := by decide +kernel
theorem dX7_readCloth_162 : decode cX7_readCloth 162 = .ok (.iconst 1, 1) := by decide +kernel
theorem dX7_readCloth_163 : decode cX7_readCloth 163 = .ok (.iadd, 1) := by decide +kernel
theorem dX7_readCloth_164 : decode cX7_readCloth 164 = .ok (.putfield 75, 3) := by decide +kernel
theorem dX7_readCloth_167 : decode cX7_readCloth 167 = .ok (.return_, 1) := by decide +kernel
theorem dX7_readMeasure_0 : decode cX7_readMeasure 0 = .ok (.aload_n 0, 1) := by decide +kernel
theorem dX7_readMeasure_1 : decode cX7_readMeasure 1 = .ok (.getfield 35, 3) := by decide +kernel
theorem dX7_readMeasure_4 : decode cX7_readMeasure 4 = .ok (.iconst 2, 1) := by decide +kernel
theorem dX7_readMeasure_5 : decode cX7_readMeasure 5 = .ok (.if_icmp .ne 11, 3) := by decide +kernel
theorem dX7_readMeasure_8 : decode cX7_readMeasure 8 = .ok (.aload_n 0, 1) := by decide +kernel
theorem dX7_readMeasure_9 : decode cX7_readMeasure 9 = .ok (.getfield 55, 3) := by decide +kernel
theorem dX7_readMeasure_12 : decode cX7_readMeasure 12 = .ok (.iload_n 1, 1) := by decide +kernel
theorem dX7_readMeasure_13 : decode cX7_readMeasure 13 = .ok (.if_icmp .eq 8, 3) := by decide +kernel
theorem dX7_readMeasure_16 : decode cX7_readMeasure 16 = .ok (.aload_n 0, 1) := by decide +kernel
theorem dX7_readMeasure_17 : decode cX7_readMeasure 17 = .ok (.iconst 1, 1) := by decide +kernel
theorem dX7_readMeasure_18 : decode cX7_readMeasure 18 = .ok (.invokevirtual 68, 3) := by decide +kernel
theorem dX7_readMeasure_21 : decode cX7_readMeasure 21 = .ok (.aload_n 0, 1) := by decide +kernel
theorem dX7_readMeasure_22 : decode cX7_readMeasure 22 = .ok (.invokevirtual 52, 3) := by decide +kernel
theorem dX7_readMeasure_25 : decode cX7_readMeasure 25 = .ok (.aload_n 0, 1) := by decide +kernel
theorem dX7_readMeasure_26 : decode cX7_readMeasure 26 = .ok (.iload_n 2, 1) := by decide +kernel
theorem dX7_readMeasure_27 : decode cX7_readMeasure 27 = .ok (.iload_n 3, 1) := by decide +kernel
theorem dX7_readMeasure_28 : decode cX7_readMeasure 28 = .ok (.invokevirtual 111, 3) := by decide +kernel
theorem dX7_readMeasure_31 : decode cX7_readMeasure 31 = .ok (.ireturn, 1) := by decide +kernel
theorem dX7_readClash_0 : decode cX7_readClash 0 = .ok (.aload_n 0, 1) := by decide +kernel
theorem dX7_readClash_1 : decode cX7_readClash 1 = .ok (.invokevirtual 52, 3) := by decide +kernel
theorem dX7_readClash_4 : decode cX7_readClash 4 = .ok (.aload_n 0, 1) := by decide +kernel
theorem dX7_readClash_5 : decode cX7_readClash 5 = .ok (.aload_n 1, 1) := by decide +kernel
theorem dX7_readClash_6 : decode cX7_readClash 6 = .ok (.invokevirtual 115, 3) := by decide +kernel
theorem dX7_readClash_9 : decode cX7_readClash 9 = .ok (.istore_n 2, 1) := by decide +kernel
theorem dX7_readClash_10 : decode cX7_readClash 10 = .ok (.aload_n 0, 1) := by decide +kernel
theorem dX7_readClash_11 : decode cX7_readClash 11 = .ok (.getfield 32, 3) := by decide +kernel
theorem dX7_readClash_14 : decode cX7_readClash 14 = .ok (.ifCond .eq 4, 3) := by decide +kernel
theorem dX7_readClash_17 : decode cX7_readClash 17 = .ok (.return_, 1) := by decide +kernel
theorem dX7_readClash_18 : decode cX7_readClash 18 = .ok (.aload_n 0, 1) := by decide +kernel
theorem dX7_readClash_19 : decode cX7_readClash 19 = .ok (.aload_n 1, 1) := by decide +kernel
theorem dX7_readClash_20 : decode cX7_readClash 20 = .ok (.invokevirtual 119, 3) := by decide +kernel
theorem dX7_readClash_23 : decode cX7_readClash 23 = .ok (.istore_n 3, 1) := by decide +kernel
theorem dX7_readClash_24 : decode cX7_readClash 24 = .ok (.aload_n 0, 1) := by decide +kernel
theorem dX7_readClash_25 : decode cX7_readClash 25 = .ok (.getfield 32, 3) := by decide +kernel
theorem dX7_readClash_28 : decode cX7_readClash 28 = .ok (.ifCond .ne 22, 3) := by decide +kernel
theorem dX7_readClash_31 : decode cX7_readClash 31 = .ok (.iload_n 2, 1) := by decide +kernel
theorem dX7_readClash_32 : decode cX7_readClash 32 = .ok (.iload_n 3, 1) := by decide +kernel
theorem dX7_readClash_33 : decode cX7_readClash 33 = .ok (.if_icmp .eq 12, 3) := by decide +kernel
theorem dX7_readClash_36 : decode cX7_readClash 36 = .ok (.aload_n 1, 1) := by decide +kernel
theorem dX7_readClash_37 : decode cX7_readClash 37 = .ok (.iload_n 2, 1) := by decide +kernel
theorem dX7_readClash_38 : decode cX7_readClash 38 = .ok (.iload_n 3, 1) := by decide +kernel
theorem dX7_readClash_39 : decode cX7_readClash 39 = .ok (.invokevirtual 122, 3) := by decide +kernel
theorem dX7_readClash_42 : decode cX7_readClash 42 = .ok (.ifCond .eq 8, 3) := by decide +kernel
theorem dX7_readClash_45 : decode cX7_readClash 45 = .ok (.aload_n 0, 1) := by decide +kernel
theorem dX7_readClash_46 : decode cX7_readClash 46 = .ok (.iconst 3, 1) := by decide +kernel
theorem dX7_readClash_47 : decode cX7_readClash 47 = .ok (.invokevirtual 68, 3) := by decide +kernel
theorem dX7_readClash_50 : decode cX7_readClash 50 = .ok (.aload_n 0, 1) := by decide +kernel
theorem dX7_readClash_51 : decode cX7_readClash 51 = .ok (.invokevirtual 52, 3) := by decide +kernel
theorem dX7_readClash_54 : decode cX7_readClash 54 = .ok (.aload_n 0, 1) := by decide +kernel
theorem dX7_readClash_55 : decode cX7_readClash 55 = .ok (.getfield 32, 3) := by decide +kernel
theorem dX7_readClash_58 : decode cX7_readClash 58 = .ok (.ifCond .ne 9, 3) := by decide +kernel
theorem dX7_readClash_61 : decode cX7_readClash 61 = .ok (.aload_n 1, 1) := by decide +kernel
theorem dX7_readClash_62 : decode cX7_readClash 62 = .ok (.iload_n 2, 1) := by decide +kernel
theorem dX7_readClash_63 : decode cX7_readClash 63 = .ok (.iload_n 3, 1) := by decide +kernel
theorem dX7_readClash_64 : decode cX7_readClash 64 = .ok (.invokevirtual 126, 3) := by decide +kernel
theorem dX7_readClash_67 : decode cX7_readClash 67 = .ok (.return_, 1) := by decide +kernel
theorem dX7_readOnce_0 : decode cX7_readOnce 0 = .ok (.aload_n 0, 1) := by decide +kernel
theorem dX7_readOnce_1 : decode cX7_readOnce 1 = .ok (.getfield 26, 3) := by decide +kernel
theorem dX7_readOnce_4 : decode cX7_readOnce 4 = .ok (.iload_n 2, 1) := by decide +kernel
theorem dX7_readOnce_5 : decode cX7_readOnce 5 = .ok (.ishr, 1) := by decide +kernel
theorem dX7_readOnce_6 : decode cX7_readOnce 6 = .ok (.iconst 1, 1) := by decide +kernel
theorem dX7_readOnce_7 : decode cX7_readOnce 7 = .ok (.iand, 1) := by decide +kernel
theorem dX7_readOnce_8 : decode cX7_readOnce 8 = .ok (.ifCond .eq 9, 3) := by decide +kernel
theorem dX7_readOnce_11 : decode cX7_readOnce 11 = .ok (.aload_n 0, 1) := by decide +kernel
theorem dX7_readOnce_12 : decode cX7_readOnce 12 = .ok (.iconst 3, 1) := by decide +kernel
theorem dX7_readOnce_13 : decode cX7_readOnce 13 = .ok (.invokevirtual 68, 3) := by decide +kernel
theorem dX7_readOnce_16 : decode cX7_readOnce 16 = .ok (.return_, 1) := by decide +kernel
theorem dX7_readOnce_17 : decode cX7_readOnce 17 = .ok (.aload_n 0, 1) := by decide +kernel
theorem dX7_readOnce_18 : decode cX7_readOnce 18 = .ok (.dup, 1) := by decide +kernel
theorem dX7_readOnce_19 : decode cX7_readOnce 19 = .ok (.getfield 26, 3) := by decide +kernel
theorem dX7_readOnce_22 : decode cX7_readOnce 22 = .ok (.iconst 1, 1) := by decide +kernel
theorem dX7_readOnce_23 : decode cX7_readOnce 23 = .ok (.iload_n 2, 1) := by decide +kernel
theorem dX7_readOnce_24 : decode cX7_readOnce 24 = .ok (.ishl, 1) := by decide +kernel
theorem dX7_readOnce_25 : decode cX7_readOnce 25 = .ok (.ior, 1) := by decide +kernel
theorem dX7_readOnce_26 : decode cX7_readOnce 26 = .ok (.putfield 26, 3) := by decide +kernel
theorem dX7_readOnce_29 : decode cX7_readOnce 29 = .ok (.aload_n 0, 1) := by decide +kernel
theorem dX7_readOnce_30 : decode cX7_readOnce 30 = .ok (.invokevirtual 52, 3) := by decide +kernel
theorem dX7_readOnce_33 : decode cX7_readOnce 33 = .ok (.iload_n 2, 1) := by decide +kernel
theorem dX7_readOnce_34 : decode cX7_readOnce 34 = .ok (.tableswitch 121 4 9 #[38, 56, 74, 88, 121, 102], 38) := by decide +kernel
theorem dX7_readOnce_72 : decode cX7_readOnce 72 = .ok (.aload_n 1, 1) := by decide +kernel
theorem dX7_readOnce_73 : decode cX7_readOnce 73 = .ok (.aload_n 0, 1) := by decide +kernel
theorem dX7_readOnce_74 : decode cX7_readOnce 74 = .ok (.aload_n 1, 1) := by decide +kernel
theorem dX7_readOnce_75 : decode cX7_readOnce 75 = .ok (.getfield 130, 3) := by decide +kernel
theorem dX7_readOnce_78 : decode cX7_readOnce 78 = .ok (.iconst 1, 1) := by decide +kernel
theorem dX7_readOnce_79 : decode cX7_readOnce 79 = .ok (.bipush 9, 2) := by decide +kernel
theorem dX7_readOnce_81 : decode cX7_readOnce 81 = .ok (.invokevirtual 133, 3) := by decide +kernel
theorem dX7_readOnce_84 : decode cX7_readOnce 84 = .ok (.putfield 137, 3) := by decide +kernel
theorem dX7_readOnce_87 : decode cX7_readOnce 87 = .ok (.goto 84, 3) := by decide +kernel
theorem dX7_readOnce_90 : decode cX7_readOnce 90 = .ok (.aload_n 1, 1) := by decide +kernel
theorem dX7_readOnce_91 : decode cX7_readOnce 91 = .ok (.aload_n 0, 1) := by decide +kernel
theorem dX7_readOnce_92 : decode cX7_readOnce 92 = .ok (.aload_n 1, 1) := by decide +kernel
theorem dX7_readOnce_93 : decode cX7_readOnce 93 = .ok (.getfield 140, 3) := by decide +kernel
theorem dX7_readOnce_96 : decode cX7_readOnce 96 = .ok (.iconst 0, 1) := by decide +kernel
theorem dX7_readOnce_97 : decode cX7_readOnce 97 = .ok (.bipush 9, 2) := by decide +kernel
theorem dX7_readOnce_99 : decode cX7_readOnce 99 = .ok (.invokevirtual 133, 3) := by decide +kernel
theorem dX7_readOnce_102 : decode cX7_readOnce 102 = .ok (.putfield 143, 3) := by decide +kernel
theorem dX7_readOnce_105 : decode cX7_readOnce 105 = .ok (.goto 66, 3) := by decide +kernel
theorem dX7_readOnce_108 : decode cX7_readOnce 108 = .ok (.aload_n 1, 1) := by decide +kernel
theorem dX7_readOnce_109 : decode cX7_readOnce 109 = .ok (.aload_n 0, 1) := by decide +kernel
theorem dX7_readOnce_110 : decode cX7_readOnce 110 = .ok (.iconst 1, 1) := by decide +kernel
theorem dX7_readOnce_111 : decode cX7_readOnce 111 = .ok (.bipush 60, 2) := by decide +kernel
theorem dX7_readOnce_113 : decode cX7_readOnce 113 = .ok (.invokevirtual 111, 3) := by decide +kernel
theorem dX7_readOnce_116 : decode cX7_readOnce 116 = .ok (.putfield 146, 3) := by decide +kernel
theorem dX7_readOnce_119 : decode cX7_readOnce 119 = .ok (.goto 52, 3) := by decide +kernel
theorem dX7_readOnce_122 : decode cX7_readOnce 122 = .ok (.aload_n 1, 1) := by decide +kernel
theorem dX7_readOnce_123 : decode cX7_readOnce 123 = .ok (.aload_n 0, 1) := by decide +kernel
theorem dX7_readOnce_124 : decode cX7_readOnce 124 = .ok (.iconst 0, 1) := by decide +kernel
theorem dX7_readOnce_125 : decode cX7_readOnce 125 = .ok (.bipush 10, 2) := by decide +kernel
theorem dX7_readOnce_127 : decode cX7_readOnce 127 = .ok (.invokevirtual 111, 3) := by decide +kernel
theorem dX7_readOnce_130 : decode cX7_readOnce 130 = .ok (.putfield 149, 3) := by decide +kernel
theorem dX7_readOnce_133 : decode cX7_readOnce 133 = .ok (.goto 38, 3) := by decide +kernel
theorem dX7_readOnce_136 : decode cX7_readOnce 136 = .ok (.aload_n 1, 1) := by decide +kernel
theorem dX7_readOnce_137 : decode cX7_readOnce 137 = .ok (.getfield 152, 3) := by decide +kernel
theorem dX7_readOnce_140 : decode cX7_readOnce 140 = .ok (.invokevirtual 156, 3) := by decide +kernel
theorem dX7_readOnce_143 : decode cX7_readOnce 143 = .ok (.aload_n 0, 1) := by decide +kernel
theorem dX7_readOnce_144 : decode cX7_readOnce 144 = .ok (.aload_n 1, 1) := by decide +kernel
theorem dX7_readOnce_145 : decode cX7_readOnce 145 = .ok (.getfield 152, 3) := by decide +kernel
theorem dX7_readOnce_148 : decode cX7_readOnce 148 = .ok (.iconst 0, 1) := by decide +kernel
theorem dX7_readOnce_149 : decode cX7_readOnce 149 = .ok (.invokevirtual 159, 3) := by decide +kernel
theorem dX7_readOnce_152 : decode cX7_readOnce 152 = .ok (.goto 19, 3) := by decide +kernel
theorem dX7_readOnce_155 : decode cX7_readOnce 155 = .ok (.aload_n 1, 1) := by decide +kernel
theorem dX7_readOnce_156 : decode cX7_readOnce 156 = .ok (.getfield 163, 3) := by decide +kernel
theorem dX7_readOnce_159 : decode cX7_readOnce 159 = .ok (.invokevirtual 156, 3) := by decide +kernel
theorem dX7_readOnce_162 : decode cX7_readOnce 162 = .ok (.aload_n 0, 1) := by decide +kernel
theorem dX7_readOnce_163 : decode cX7_readOnce 163 = .ok (.aload_n 1, 1) := by decide +kernel
theorem dX7_readOnce_164 : decode cX7_readOnce 164 = .ok (.getfield 163, 3) := by decide +kernel
theorem dX7_readOnce_167 : decode cX7_readOnce 167 = .ok (.iconst 0, 1) := by decide +kernel
theorem dX7_readOnce_168 : decode cX7_readOnce 168 = .ok (.invokevirtual 159, 3) := by decide +kernel
theorem dX7_readOnce_171 : decode cX7_readOnce 171 = .ok (.return_, 1) := by decide +kernel
theorem dX7_readRow_0 : decode cX7_readRow 0 = .ok (.iconst 0, 1) := by decide +kernel
theorem dX7_readRow_1 : decode cX7_readRow 1 = .ok (.istore 4, 2) := by decide +kernel
theorem dX7_readRow_3 : decode cX7_readRow 3 = .ok (.iconst 0, 1) := by decide +kernel
theorem dX7_readRow_4 : decode cX7_readRow 4 = .ok (.istore 5, 2) := by decide +kernel
theorem dX7_readRow_6 : decode cX7_readRow 6 = .ok (.iload 5, 2) := by decide +kernel
theorem dX7_readRow_8 : decode cX7_readRow 8 = .ok (.aload_n 1, 1) := by decide +kernel
theorem dX7_readRow_9 : decode cX7_readRow 9 = .ok (.arraylength, 1) := by decide +kernel
theorem dX7_readRow_10 : decode cX7_readRow 10 = .ok (.if_icmp .gt 76, 3) := by decide +kernel
theorem dX7_readRow_13 : decode cX7_readRow 13 = .ok (.aload_n 0, 1) := by decide +kernel
theorem dX7_readRow_14 : decode cX7_readRow 14 = .ok (.getfield 32, 3) := by decide +kernel
theorem dX7_readRow_17 : decode cX7_readRow 17 = .ok (.ifCond .ne 69, 3) := by decide +kernel
theorem dX7_readRow_20 : decode cX7_readRow 20 = .ok (.iload 5, 2) := by decide +kernel
theorem dX7_readRow_22 : decode cX7_readRow 22 = .ok (.ifCond .eq 11, 3) := by decide +kernel
theorem dX7_readRow_25 : decode cX7_readRow 25 = .ok (.aload_n 0, 1) := by decide +kernel
theorem dX7_readRow_26 : decode cX7_readRow 26 = .ok (.getfield 35, 3) := by decide +kernel
theorem dX7_readRow_29 : decode cX7_readRow 29 = .ok (.iconst 3, 1) := by decide +kernel
theorem dX7_readRow_30 : decode cX7_readRow 30 = .ok (.if_icmp .ne 56, 3) := by decide +kernel
theorem dX7_readRow_33 : decode cX7_readRow 33 = .ok (.aload_n 0, 1) := by decide +kernel
theorem dX7_readRow_34 : decode cX7_readRow 34 = .ok (.iload_n 2, 1) := by decide +kernel
theorem dX7_readRow_35 : decode cX7_readRow 35 = .ok (.iload_n 3, 1) := by decide +kernel
theorem dX7_readRow_36 : decode cX7_readRow 36 = .ok (.invokevirtual 166, 3) := by decide +kernel
theorem dX7_readRow_39 : decode cX7_readRow 39 = .ok (.istore 6, 2) := by decide +kernel
theorem dX7_readRow_41 : decode cX7_readRow 41 = .ok (.aload_n 0, 1) := by decide +kernel
theorem dX7_readRow_42 : decode cX7_readRow 42 = .ok (.getfield 32, 3) := by decide +kernel
theorem dX7_readRow_45 : decode cX7_readRow 45 = .ok (.ifCond .ne 15, 3) := by decide +kernel
theorem dX7_readRow_48 : decode cX7_readRow 48 = .ok (.iload 4, 2) := by decide +kernel
theorem dX7_readRow_50 : decode cX7_readRow 50 = .ok (.aload_n 1, 1) := by decide +kernel
theorem dX7_readRow_51 : decode cX7_readRow 51 = .ok (.arraylength, 1) := by decide +kernel
theorem dX7_readRow_52 : decode cX7_readRow 52 = .ok (.if_icmp .lt 8, 3) := by decide +kernel
theorem dX7_readRow_55 : decode cX7_readRow 55 = .ok (.aload_n 0, 1) := by decide +kernel
theorem dX7_readRow_56 : decode cX7_readRow 56 = .ok (.iconst 5, 1) := by decide +kernel
theorem dX7_readRow_57 : decode cX7_readRow 57 = .ok (.invokevirtual 68, 3) := by decide +kernel
theorem dX7_readRow_60 : decode cX7_readRow 60 = .ok (.aload_n 0, 1) := by decide +kernel
theorem dX7_readRow_61 : decode cX7_readRow 61 = .ok (.getfield 32, 3) := by decide +kernel
theorem dX7_readRow_64 : decode cX7_readRow 64 = .ok (.ifCond .ne 12, 3) := by decide +kernel
theorem dX7_readRow_67 : decode cX7_readRow 67 = .ok (.aload_n 1, 1) := by decide +kernel
theorem dX7_readRow_68 : decode cX7_readRow 68 = .ok (.iload 4, 2) := by decide +kernel
theorem dX7_readRow_70 : decode cX7_readRow 70 = .ok (.iload 6, 2) := by decide +kernel
theorem dX7_readRow_72 : decode cX7_readRow 72 = .ok (.iastore, 1) := by decide +kernel
theorem dX7_readRow_73 : decode cX7_readRow 73 = .ok (.iinc 4 1, 3) := by decide +kernel
theorem dX7_readRow_76 : decode cX7_readRow 76 = .ok (.aload_n 0, 1) := by decide +kernel
theorem dX7_readRow_77 : decode cX7_readRow 77 = .ok (.invokevirtual 52, 3) := by decide +kernel
theorem dX7_readRow_80 : decode cX7_readRow 80 = .ok (.iinc 5 1, 3) := by decide +kernel
theorem dX7_readRow_83 : decode cX7_readRow 83 = .ok (.goto (-77), 3) := by decide +kernel
theorem dX7_readRow_86 : decode cX7_readRow 86 = .ok (.iload 4, 2) := by decide +kernel
theorem dX7_readRow_88 : decode cX7_readRow 88 = .ok (.ireturn, 1) := by decide +kernel
theorem dX7_readDone_0 : decode cX7_readDone 0 = .ok (.aload_n 0, 1) := by decide +kernel
theorem dX7_readDone_1 : decode cX7_readDone 1 = .ok (.getfield 35, 3) := by decide +kernel
theorem dX7_readDone_4 : decode cX7_readDone 4 = .ok (.iconst 2, 1) := by decide +kernel
theorem dX7_readDone_5 : decode cX7_readDone 5 = .ok (.if_icmp .ne 10, 3) := by decide +kernel
theorem dX7_readDone_8 : decode cX7_readDone 8 = .ok (.aload_n 0, 1) := by decide +kernel
theorem dX7_readDone_9 : decode cX7_readDone 9 = .ok (.getfield 55, 3) := by decide +kernel
theorem dX7_readDone_12 : decode cX7_readDone 12 = .ok (.goto 4, 3) := by decide +kernel
theorem dX7_readDone_15 : decode cX7_readDone 15 = .ok (.iconst (-1), 1) := by decide +kernel
theorem dX7_readDone_16 : decode cX7_readDone 16 = .ok (.istore_n 3, 1) := by decide +kernel
theorem dX7_readDone_17 : decode cX7_readDone 17 = .ok (.iload_n 3, 1) := by decide +kernel
theorem dX7_readDone_18 : decode cX7_readDone 18 = .ok (.bipush 11, 2) := by decide +kernel
theorem dX7_readDone_20 : decode cX7_readDone 20 = .ok (.if_icmp .lt 9, 3) := by decide +kernel
theorem dX7_readDone_23 : decode cX7_readDone 23 = .ok (.iload_n 3, 1) := by decide +kernel
theorem dX7_readDone_24 : decode cX7_readDone 24 = .ok (.bipush 15, 2) := by decide +kernel
theorem dX7_readDone_26 : decode cX7_readDone 26 = .ok (.if_icmp .le 9, 3) := by decide +kernel
theorem dX7_readDone_29 : decode cX7_readDone 29 = .ok (.aload_n 0, 1) := by decide +kernel
theorem dX7_readDone_30 : decode cX7_readDone 30 = .ok (.iconst 1, 1) := by decide +kernel
theorem dX7_readDone_31 : decode cX7_readDone 31 = .ok (.invokevirtual 68, 3) := by decide +kernel
theorem dX7_readDone_34 : decode cX7_readDone 34 = .ok (.return_, 1) := by decide +kernel
theorem dX7_readDone_35 : decode cX7_readDone 35 = .ok (.aload_n 2, 1) := by decide +kernel
theorem dX7_readDone_36 : decode cX7_readDone 36 = .ok (.getfield 169, 3) := by decide +kernel
theorem dX7_readDone_39 : decode cX7_readDone 39 = .ok (.bipush 30, 2) := by decide +kernel
theorem dX7_readDone_41 : decode cX7_readDone 41 = .ok (.if_icmp .lt 9, 3) := by decide +kernel
theorem dX7_readDone_44 : decode cX7_readDone 44 = .ok (.aload_n 0, 1) := by decide +kernel
theorem dX7_readDone_45 : decode cX7_readDone 45 = .ok (.iconst 5, 1) := by decide +kernel
theorem dX7_readDone_46 : decode cX7_readDone 46 = .ok (.invokevirtual 68, 3) := by decide +kernel
theorem dX7_readDone_49 : decode cX7_readDone 49 = .ok (.return_, 1) := by decide +kernel
theorem dX7_readDone_50 : decode cX7_readDone 50 = .ok (.aload_n 0, 1) := by decide +kernel
theorem dX7_readDone_51 : decode cX7_readDone 51 = .ok (.invokevirtual 52, 3) := by decide +kernel
theorem dX7_readDone_54 : decode cX7_readDone 54 = .ok (.iload_n 3, 1) := by decide +kernel
theorem dX7_readDone_55 : decode cX7_readDone 55 = .ok (.bipush 13, 2) := by decide +kernel
theorem dX7_readDone_57 : decode cX7_readDone 57 = .ok (.if_icmp .gt 11, 3) := by decide +kernel
theorem dX7_readDone_60 : decode cX7_readDone 60 = .ok (.aload_n 0, 1) := by decide +kernel
theorem dX7_readDone_61 : decode cX7_readDone 61 = .ok (.aload_n 1, 1) := by decide +kernel
theorem dX7_readDone_62 : decode cX7_readDone 62 = .ok (.invokevirtual 115, 3) := by decide +kernel
theorem dX7_readDone_65 : decode cX7_readDone 65 = .ok (.goto 4, 3) := by decide +kernel
theorem dX7_readDone_68 : decode cX7_readDone 68 = .ok (.iconst (-1), 1) := by decide +kernel
theorem dX7_readDone_69 : decode cX7_readDone 69 = .ok (.istore 4, 2) := by decide +kernel
theorem dX7_readDone_71 : decode cX7_readDone 71 = .ok (.iconst 0, 1) := by decide +kernel
theorem dX7_readDone_72 : decode cX7_readDone 72 = .ok (.istore 5, 2) := by decide +kernel
theorem dX7_readDone_74 : decode cX7_readDone 74 = .ok (.iload_n 3, 1) := by decide +kernel
theorem dX7_readDone_75 : decode cX7_readDone 75 = .ok (.bipush 11, 2) := by decide +kernel
theorem dX7_readDone_77 : decode cX7_readDone 77 = .ok (.if_icmp .ne 12, 3) := by decide +kernel
theorem dX7_readDone_80 : decode cX7_readDone 80 = .ok (.aload_n 0, 1) := by decide +kernel
theorem dX7_readDone_81 : decode cX7_readDone 81 = .ok (.invokevirtual 172, 3) := by decide +kernel
theorem dX7_readDone_84 : decode cX7_readDone 84 = .ok (.istore 5, 2) := by decide +kernel
theorem dX7_readDone_86 : decode cX7_readDone 86 = .ok (.goto 18, 3) := by decide +kernel
theorem dX7_readDone_89 : decode cX7_readDone 89 = .ok (.iload_n 3, 1) := by decide +kernel
theorem dX7_readDone_90 : decode cX7_readDone 90 = .ok (.bipush 14, 2) := by decide +kernel
theorem dX7_readDone_92 : decode cX7_readDone 92 = .ok (.if_icmp .ne 12, 3) := by decide +kernel
theorem dX7_readDone_95 : decode cX7_readDone 95 = .ok (.aload_n 0, 1) := by decide +kernel
theorem dX7_readDone_96 : decode cX7_readDone 96 = .ok (.iconst 1, 1) := by decide +kernel
theorem dX7_readDone_97 : decode cX7_readDone 97 = .ok (.bipush 9, 2) := by decide +kernel
theorem dX7_readDone_99 : decode cX7_readDone 99 = .ok (.invokevirtual 111, 3) := by decide +kernel
theorem dX7_readDone_102 : decode cX7_readDone 102 = .ok (.istore 5, 2) := by decide +kernel
theorem dX7_readDone_104 : decode cX7_readDone 104 = .ok (.aload_n 0, 1) := by decide +kernel
theorem dX7_readDone_105 : decode cX7_readDone 105 = .ok (.bipush 59, 2) := by decide +kernel
theorem dX7_readDone_107 : decode cX7_readDone 107 = .ok (.invokevirtual 72, 3) := by decide +kernel
theorem dX7_readDone_110 : decode cX7_readDone 110 = .ok (.aload_n 2, 1) := by decide +kernel
theorem dX7_readDone_111 : decode cX7_readDone 111 = .ok (.iload_n 3, 1) := by decide +kernel
theorem dX7_readDone_112 : decode cX7_readDone 112 = .ok (.iload 4, 2) := by decide +kernel
theorem dX7_readDone_114 : decode cX7_readDone 114 = .ok (.iload 5, 2) := by decide +kernel
theorem dX7_readDone_116 : decode cX7_readDone 116 = .ok (.invokevirtual 176, 3) := by decide +kernel
theorem dX7_readDone_119 : decode cX7_readDone 119 = .ok (.return_, 1) := by decide +kernel
theorem dX7_readPegs_0 : decode cX7_readPegs 0 = .ok (.iconst 0, 1) := by decide +kernel
theorem dX7_readPegs_1 : decode cX7_readPegs 1 = .ok (.istore_n 1, 1) := by decide +kernel
theorem dX7_readPegs_2 : decode cX7_readPegs 2 = .ok (.iconst 0, 1) := by decide +kernel
theorem dX7_readPegs_3 : decode cX7_readPegs 3 = .ok (.istore_n 2, 1) := by decide +kernel
theorem dX7_readPegs_4 : decode cX7_readPegs 4 = .ok (.iload_n 2, 1) := by decide +kernel
theorem dX7_readPegs_5 : decode cX7_readPegs 5 = .ok (.iconst 4, 1) := by decide +kernel
theorem dX7_readPegs_6 : decode cX7_readPegs 6 = .ok (.if_icmp .gt 76, 3) := by decide +kernel
theorem dX7_readPegs_9 : decode cX7_readPegs 9 = .ok (.aload_n 0, 1) := by decide +kernel
theorem dX7_readPegs_10 : decode cX7_readPegs 10 = .ok (.getfield 32, 3) := by decide +kernel
theorem dX7_readPegs_13 : decode cX7_readPegs 13 = .ok (.ifCond .ne 69, 3) := by decide +kernel
theorem dX7_readPegs_16 : decode cX7_readPegs 16 = .ok (.iload_n 2, 1) := by decide +kernel
theorem dX7_readPegs_17 : decode cX7_readPegs 17 = .ok (.ifCond .eq 11, 3) := by decide +kernel
theorem dX7_readPegs_20 : decode cX7_readPegs 20 = .ok (.aload_n 0, 1) := by decide +kernel
theorem dX7_readPegs_21 : decode cX7_readPegs 21 = .ok (.getfield 35, 3) := by decide +kernel
theorem dX7_readPegs_24 : decode cX7_readPegs 24 = .ok (.iconst 3, 1) := by decide +kernel
theorem dX7_readPegs_25 : decode cX7_readPegs 25 = .ok (.if_icmp .ne 57, 3) := by decide +kernel
theorem dX7_readPegs_28 : decode cX7_readPegs 28 = .ok (.aload_n 0, 1) := by decide +kernel
theorem dX7_readPegs_29 : decode cX7_readPegs 29 = .ok (.iconst 0, 1) := by decide +kernel
theorem dX7_readPegs_30 : decode cX7_readPegs 30 = .ok (.bipush 7, 2) := by decide +kernel
theorem dX7_readPegs_32 : decode cX7_readPegs 32 = .ok (.invokevirtual 166, 3) := by decide +kernel
theorem dX7_readPegs_35 : decode cX7_readPegs 35 = .ok (.istore_n 3, 1) := by decide +kernel
theorem dX7_readPegs_36 : decode cX7_readPegs 36 = .ok (.aload_n 0, 1) := by decide +kernel
theorem dX7_readPegs_37 : decode cX7_readPegs 37 = .ok (.getfield 32, 3) := by decide +kernel
theorem dX7_readPegs_40 : decode cX7_readPegs 40 = .ok (.ifCond .ne 16, 3) := by decide +kernel
theorem dX7_readPegs_43 : decode cX7_readPegs 43 = .ok (.iload_n 1, 1) := by decide +kernel
theorem dX7_readPegs_44 : decode cX7_readPegs 44 = .ok (.iload_n 3, 1) := by decide +kernel
theorem dX7_readPegs_45 : decode cX7_readPegs 45 = .ok (.ishr, 1) := by decide +kernel
theorem dX7_readPegs_46 : decode cX7_readPegs 46 = .ok (.iconst 1, 1) := by decide +kernel
theorem dX7_readPegs_47 : decode cX7_readPegs 47 = .ok (.iand, 1) := by decide +kernel
theorem dX7_readPegs_48 : decode cX7_readPegs 48 = .ok (.ifCond .eq 8, 3) := by decide +kernel
theorem dX7_readPegs_51 : decode cX7_readPegs 51 = .ok (.aload_n 0, 1) := by decide +kernel
theorem dX7_readPegs_52 : decode cX7_readPegs 52 = .ok (.iconst 3, 1) := by decide +kernel
theorem dX7_readPegs_53 : decode cX7_readPegs 53 = .ok (.invokevirtual 68, 3) := by decide +kernel
theorem dX7_readPegs_56 : decode cX7_readPegs 56 = .ok (.iload_n 2, 1) := by decide +kernel
theorem dX7_readPegs_57 : decode cX7_readPegs 57 = .ok (.iconst 4, 1) := by decide +kernel
theorem dX7_readPegs_58 : decode cX7_readPegs 58 = .ok (.if_icmp .ne 8, 3) := by decide +kernel
theorem dX7_readPegs_61 : decode cX7_readPegs 61 = .ok (.aload_n 0, 1) := by decide +kernel
theorem dX7_readPegs_62 : decode cX7_readPegs 62 = .ok (.iconst 5, 1) := by decide +kernel
theorem dX7_readPegs_63 : decode cX7_readPegs 63 = .ok (.invokevirtual 68, 3) := by decide +kernel
theorem dX7_readPegs_66 : decode cX7_readPegs 66 = .ok (.iload_n 1, 1) := by decide +kernel
theorem dX7_readPegs_67 : decode cX7_readPegs 67 = .ok (.iconst 1, 1) := by decide +kernel
theorem dX7_readPegs_68 : decode cX7_readPegs 68 = .ok (.iload_n 3, 1) := by decide +kernel
theorem dX7_readPegs_69 : decode cX7_readPegs 69 = .ok (.ishl, 1) := by decide +kernel
theorem dX7_readPegs_70 : decode cX7_readPegs 70 = .ok (.ior, 1) := by decide +kernel
theorem dX7_readPegs_71 : decode cX7_readPegs 71 = .ok (.istore_n 1, 1) := by decide +kernel
theorem dX7_readPegs_72 : decode cX7_readPegs 72 = .ok (.aload_n 0, 1) := by decide +kernel
theorem dX7_readPegs_73 : decode cX7_readPegs 73 = .ok (.invokevirtual 52, 3) := by decide +kernel
theorem dX7_readPegs_76 : decode cX7_readPegs 76 = .ok (.iinc 2 1, 3) := by decide +kernel
theorem dX7_readPegs_79 : decode cX7_readPegs 79 = .ok (.goto (-75), 3) := by decide +kernel
theorem dX7_readPegs_82 : decode cX7_readPegs 82 = .ok (.iload_n 1, 1) := by decide +kernel
theorem dX7_readPegs_83 : decode cX7_readPegs 83 = .ok (.ireturn, 1) := by decide +kernel
theorem dX7_readTests_0 : decode cX7_readTests 0 = .ok (.aload_n 0, 1) := by decide +kernel
theorem dX7_readTests_1 : decode cX7_readTests 1 = .ok (.aload_n 1, 1) := by decide +kernel
theorem dX7_readTests_2 : decode cX7_readTests 2 = .ok (.iload_n 2, 1) := by decide +kernel
theorem dX7_readTests_3 : decode cX7_readTests 3 = .ok (.invokevirtual 180, 3) := by decide +kernel
theorem dX7_readTests_6 : decode cX7_readTests 6 = .ok (.iconst 0, 1) := by decide +kernel
theorem dX7_readTests_7 : decode cX7_readTests 7 = .ok (.istore_n 3, 1) := by decide +kernel
theorem dX7_readTests_8 : decode cX7_readTests 8 = .ok (.iload_n 3, 1) := by decide +kernel
theorem dX7_readTests_9 : decode cX7_readTests 9 = .ok (.sipush 1000, 3) := by decide +kernel
theorem dX7_readTests_12 : decode cX7_readTests 12 = .ok (.if_icmp .ge 76, 3) := by decide +kernel
theorem dX7_readTests_15 : decode cX7_readTests 15 = .ok (.aload_n 0, 1) := by decide +kernel
theorem dX7_readTests_16 : decode cX7_readTests 16 = .ok (.getfield 32, 3) := by decide +kernel
theorem dX7_readTests_19 : decode cX7_readTests 19 = .ok (.ifCond .ne 69, 3) := by decide +kernel
theorem dX7_readTests_22 : decode cX7_readTests 22 = .ok (.aload_n 0, 1) := by decide +kernel
theorem dX7_readTests_23 : decode cX7_readTests 23 = .ok (.getfield 35, 3) := by decide +kernel
theorem dX7_readTests_26 : decode cX7_readTests 26 = .ok (.iconst 2, 1) := by decide +kernel
theorem dX7_readTests_27 : decode cX7_readTests 27 = .ok (.if_icmp .ne 61, 3) := by decide +kernel
theorem dX7_readTests_30 : decode cX7_readTests 30 = .ok (.aload_n 0, 1) := by decide +kernel
theorem dX7_readTests_31 : decode cX7_readTests 31 = .ok (.getfield 55, 3) := by decide +kernel
theorem dX7_readTests_34 : decode cX7_readTests 34 = .ok (.bipush 21, 2) := by decide +kernel
theorem dX7_readTests_36 : decode cX7_readTests 36 = .ok (.if_icmp .eq 12, 3) := by decide +kernel
theorem dX7_readTests_39 : decode cX7_readTests 39 = .ok (.aload_n 0, 1) := by decide +kernel
theorem dX7_readTests_40 : decode cX7_readTests 40 = .ok (.getfield 55, 3) := by decide +kernel
theorem dX7_readTests_43 : decode cX7_readTests 43 = .ok (.bipush 22, 2) := by decide +kernel
theorem dX7_readTests_45 : decode cX7_readTests 45 = .ok (.if_icmp .ne 43, 3) := by decide +kernel
theorem dX7_readTests_48 : decode cX7_readTests 48 = .ok (.aload_n 0, 1) := by decide +kernel
theorem dX7_readTests_49 : decode cX7_readTests 49 = .ok (.getfield 55, 3) := by decide +kernel
theorem dX7_readTests_52 : decode cX7_readTests 52 = .ok (.bipush 21, 2) := by decide +kernel
theorem dX7_readTests_54 : decode cX7_readTests 54 = .ok (.if_icmp .ne 8, 3) := by decide +kernel
theorem dX7_readTests_57 : decode cX7_readTests 57 = .ok (.bipush (-5), 2) := by decide +kernel
theorem dX7_readTests_59 : decode cX7_readTests 59 = .ok (.goto 5, 3) := by decide +kernel
theorem dX7_readTests_62 : decode cX7_readTests 62 = .ok (.bipush (-6), 2) := by decide +kernel
theorem dX7_readTests_64 : decode cX7_readTests 64 = .ok (.istore 4, 2) := by decide +kernel
theorem dX7_readTests_66 : decode cX7_readTests 66 = .ok (.aload_n 0, 1) := by decide +kernel
theorem dX7_readTests_67 : decode cX7_readTests 67 = .ok (.invokevirtual 52, 3) := by decide +kernel
theorem dX7_readTests_70 : decode cX7_readTests 70 = .ok (.aload_n 0, 1) := by decide +kernel
theorem dX7_readTests_71 : decode cX7_readTests 71 = .ok (.aload_n 1, 1) := by decide +kernel
theorem dX7_readTests_72 : decode cX7_readTests 72 = .ok (.iload_n 2, 1) := by decide +kernel
theorem dX7_readTests_73 : decode cX7_readTests 73 = .ok (.invokevirtual 180, 3) := by decide +kernel
theorem dX7_readTests_76 : decode cX7_readTests 76 = .ok (.aload_n 1, 1) := by decide +kernel
theorem dX7_readTests_77 : decode cX7_readTests 77 = .ok (.iload 4, 2) := by decide +kernel
theorem dX7_readTests_79 : decode cX7_readTests 79 = .ok (.invokevirtual 183, 3) := by decide +kernel
theorem dX7_readTests_82 : decode cX7_readTests 82 = .ok (.iinc 3 1, 3) := by decide +kernel
theorem dX7_readTests_85 : decode cX7_readTests 85 = .ok (.goto (-77), 3) := by decide +kernel
theorem dX7_readTests_88 : decode cX7_readTests 88 = .ok (.return_, 1) := by decide +kernel
theorem dX7_readTest_0 : decode cX7_readTest 0 = .ok (.aload_n 0, 1) := by decide +kernel
theorem dX7_readTest_1 : decode cX7_readTest 1 = .ok (.aload_n 1, 1) := by decide +kernel
theorem dX7_readTest_2 : decode cX7_readTest 2 = .ok (.iload_n 2, 1) := by decide +kernel
theorem dX7_readTest_3 : decode cX7_readTest 3 = .ok (.invokevirtual 185, 3) := by decide +kernel
theorem dX7_readTest_6 : decode cX7_readTest 6 = .ok (.aload_n 0, 1) := by decide +kernel
theorem dX7_readTest_7 : decode cX7_readTest 7 = .ok (.getfield 32, 3) := by decide +kernel
theorem dX7_readTest_10 : decode cX7_readTest 10 = .ok (.ifCond .ne 53, 3) := by decide +kernel
theorem dX7_readTest_13 : decode cX7_readTest 13 = .ok (.aload_n 0, 1) := by decide +kernel
theorem dX7_readTest_14 : decode cX7_readTest 14 = .ok (.getfield 35, 3) := by decide +kernel
theorem dX7_readTest_17 : decode cX7_readTest 17 = .ok (.bipush 60, 2) := by decide +kernel
theorem dX7_readTest_19 : decode cX7_readTest 19 = .ok (.if_icmp .eq 12, 3) := by decide +kernel
theorem dX7_readTest_22 : decode cX7_readTest 22 = .ok (.aload_n 0, 1) := by decide +kernel
theorem dX7_readTest_23 : decode cX7_readTest 23 = .ok (.getfield 35, 3) := by decide +kernel
theorem dX7_readTest_26 : decode cX7_readTest 26 = .ok (.bipush 61, 2) := by decide +kernel
theorem dX7_readTest_28 : decode cX7_readTest 28 = .ok (.if_icmp .ne 35, 3) := by decide +kernel
theorem dX7_readTest_31 : decode cX7_readTest 31 = .ok (.aload_n 0, 1) := by decide +kernel
theorem dX7_readTest_32 : decode cX7_readTest 32 = .ok (.getfield 35, 3) := by decide +kernel
theorem dX7_readTest_35 : decode cX7_readTest 35 = .ok (.bipush 60, 2) := by decide +kernel
theorem dX7_readTest_37 : decode cX7_readTest 37 = .ok (.if_icmp .ne 8, 3) := by decide +kernel
theorem dX7_readTest_40 : decode cX7_readTest 40 = .ok (.bipush (-7), 2) := by decide +kernel
theorem dX7_readTest_42 : decode cX7_readTest 42 = .ok (.goto 5, 3) := by decide +kernel
theorem dX7_readTest_45 : decode cX7_readTest 45 = .ok (.bipush (-8), 2) := by decide +kernel
theorem dX7_readTest_47 : decode cX7_readTest 47 = .ok (.istore_n 3, 1) := by decide +kernel
theorem dX7_readTest_48 : decode cX7_readTest 48 = .ok (.aload_n 0, 1) := by decide +kernel
theorem dX7_readTest_49 : decode cX7_readTest 49 = .ok (.invokevirtual 52, 3) := by decide +kernel
theorem dX7_readTest_52 : decode cX7_readTest 52 = .ok (.aload_n 0, 1) := by decide +kernel
theorem dX7_readTest_53 : decode cX7_readTest 53 = .ok (.aload_n 1, 1) := by decide +kernel
theorem dX7_readTest_54 : decode cX7_readTest 54 = .ok (.iload_n 2, 1) := by decide +kernel
theorem dX7_readTest_55 : decode cX7_readTest 55 = .ok (.invokevirtual 185, 3) := by decide +kernel
theorem dX7_readTest_58 : decode cX7_readTest 58 = .ok (.aload_n 1, 1) := by decide +kernel
theorem dX7_readTest_59 : decode cX7_readTest 59 = .ok (.iload_n 3, 1) := by decide +kernel
theorem dX7_readTest_60 : decode cX7_readTest 60 = .ok (.invokevirtual 183, 3) := by decide +kernel
theorem dX7_readTest_63 : decode cX7_readTest 63 = .ok (.return_, 1) := by decide +kernel
theorem dX7_readSum_0 : decode cX7_readSum 0 = .ok (.aload_n 0, 1) := by decide +kernel
theorem dX7_readSum_1 : decode cX7_readSum 1 = .ok (.aload_n 1, 1) := by decide +kernel
theorem dX7_readSum_2 : decode cX7_readSum 2 = .ok (.iload_n 2, 1) := by decide +kernel
theorem dX7_readSum_3 : decode cX7_readSum 3 = .ok (.invokevirtual 188, 3) := by decide +kernel
theorem dX7_readSum_6 : decode cX7_readSum 6 = .ok (.iconst 0, 1) := by decide +kernel
theorem dX7_readSum_7 : decode cX7_readSum 7 = .ok (.istore_n 3, 1) := by decide +kernel
theorem dX7_readSum_8 : decode cX7_readSum 8 = .ok (.iload_n 3, 1) := by decide +kernel
theorem dX7_readSum_9 : decode cX7_readSum 9 = .ok (.sipush 1000, 3) := by decide +kernel
theorem dX7_readSum_12 : decode cX7_readSum 12 = .ok (.if_icmp .ge 68, 3) := by decide +kernel
theorem dX7_readSum_15 : decode cX7_readSum 15 = .ok (.aload_n 0, 1) := by decide +kernel
theorem dX7_readSum_16 : decode cX7_readSum 16 = .ok (.getfield 32, 3) := by decide +kernel
theorem dX7_readSum_19 : decode cX7_readSum 19 = .ok (.ifCond .ne 61, 3) := by decide +kernel
theorem dX7_readSum_22 : decode cX7_readSum 22 = .ok (.aload_n 0, 1) := by decide +kernel
theorem dX7_readSum_23 : decode cX7_readSum 23 = .ok (.getfield 35, 3) := by decide +kernel
theorem dX7_readSum_26 : decode cX7_readSum 26 = .ok (.bipush 43, 2) := by decide +kernel
theorem dX7_readSum_28 : decode cX7_readSum 28 = .ok (.if_icmp .eq 12, 3) := by decide +kernel
theorem dX7_readSum_31 : decode cX7_readSum 31 = .ok (.aload_n 0, 1) := by decide +kernel
theorem dX7_readSum_32 : decode cX7_readSum 32 = .ok (.getfield 35, 3) := by decide +kernel
theorem dX7_readSum_35 : decode cX7_readSum 35 = .ok (.bipush 45, 2) := by decide +kernel
theorem dX7_readSum_37 : decode cX7_readSum 37 = .ok (.if_icmp .ne 43, 3) := by decide +kernel
theorem dX7_readSum_40 : decode cX7_readSum 40 = .ok (.aload_n 0, 1) := by decide +kernel
theorem dX7_readSum_41 : decode cX7_readSum 41 = .ok (.getfield 35, 3) := by decide +kernel
theorem dX7_readSum_44 : decode cX7_readSum 44 = .ok (.bipush 43, 2) := by decide +kernel
theorem dX7_readSum_46 : decode cX7_readSum 46 = .ok (.if_icmp .ne 8, 3) := by decide +kernel
theorem dX7_readSum_49 : decode cX7_readSum 49 = .ok (.bipush (-9), 2) := by decide +kernel
theorem dX7_readSum_51 : decode cX7_readSum 51 = .ok (.goto 5, 3) := by decide +kernel
theorem dX7_readSum_54 : decode cX7_readSum 54 = .ok (.bipush (-10), 2) := by decide +kernel
theorem dX7_readSum_56 : decode cX7_readSum 56 = .ok (.istore 4, 2) := by decide +kernel
theorem dX7_readSum_58 : decode cX7_readSum 58 = .ok (.aload_n 0, 1) := by decide +kernel
theorem dX7_readSum_59 : decode cX7_readSum 59 = .ok (.invokevirtual 52, 3) := by decide +kernel
theorem dX7_readSum_62 : decode cX7_readSum 62 = .ok (.aload_n 0, 1) := by decide +kernel
theorem dX7_readSum_63 : decode cX7_readSum 63 = .ok (.aload_n 1, 1) := by decide +kernel
theorem dX7_readSum_64 : decode cX7_readSum 64 = .ok (.iload_n 2, 1) := by decide +kernel
theorem dX7_readSum_65 : decode cX7_readSum 65 = .ok (.invokevirtual 188, 3) := by decide +kernel
theorem dX7_readSum_68 : decode cX7_readSum 68 = .ok (.aload_n 1, 1) := by decide +kernel
theorem dX7_readSum_69 : decode cX7_readSum 69 = .ok (.iload 4, 2) := by decide +kernel
theorem dX7_readSum_71 : decode cX7_readSum 71 = .ok (.invokevirtual 183, 3) := by decide +kernel
theorem dX7_readSum_74 : decode cX7_readSum 74 = .ok (.iinc 3 1, 3) := by decide +kernel
theorem dX7_readSum_77 : decode cX7_readSum 77 = .ok (.goto (-69), 3) := by decide +kernel
theorem dX7_readSum_80 : decode cX7_readSum 80 = .ok (.return_, 1) := by decide +kernel
theorem dX7_readProduct_0 : decode cX7_readProduct 0 = .ok (.aload_n 0, 1) := by decide +kernel
theorem dX7_readProduct_1 : decode cX7_readProduct 1 = .ok (.aload_n 1, 1) := by decide +kernel
theorem dX7_readProduct_2 : decode cX7_readProduct 2 = .ok (.iload_n 2, 1) := by decide +kernel
theorem dX7_readProduct_3 : decode cX7_readProduct 3 = .ok (.invokevirtual 191, 3) := by decide +kernel
theorem dX7_readProduct_6 : decode cX7_readProduct 6 = .ok (.iconst 0, 1) := by decide +kernel
theorem dX7_readProduct_7 : decode cX7_readProduct 7 = .ok (.istore_n 3, 1) := by decide +kernel
theorem dX7_readProduct_8 : decode cX7_readProduct 8 = .ok (.iload_n 3, 1) := by decide +kernel
theorem dX7_readProduct_9 : decode cX7_readProduct 9 = .ok (.sipush 1000, 3) := by decide +kernel
theorem dX7_readProduct_12 : decode cX7_readProduct 12 = .ok (.if_icmp .ge 41, 3) := by decide +kernel
theorem dX7_readProduct_15 : decode cX7_readProduct 15 = .ok (.aload_n 0, 1) := by decide +kernel
theorem dX7_readProduct_16 : decode cX7_readProduct 16 = .ok (.getfield 32, 3) := by decide +kernel
theorem dX7_readProduct_19 : decode cX7_readProduct 19 = .ok (.ifCond .ne 34, 3) := by decide +kernel
theorem dX7_readProduct_22 : decode cX7_readProduct 22 = .ok (.aload_n 0, 1) := by decide +kernel
theorem dX7_readProduct_23 : decode cX7_readProduct 23 = .ok (.getfield 35, 3) := by decide +kernel
theorem dX7_readProduct_26 : decode cX7_readProduct 26 = .ok (.bipush 42, 2) := by decide +kernel
theorem dX7_readProduct_28 : decode cX7_readProduct 28 = .ok (.if_icmp .ne 25, 3) := by decide +kernel
theorem dX7_readProduct_31 : decode cX7_readProduct 31 = .ok (.aload_n 0, 1) := by decide +kernel
theorem dX7_readProduct_32 : decode cX7_readProduct 32 = .ok (.invokevirtual 52, 3) := by decide +kernel
theorem dX7_readProduct_35 : decode cX7_readProduct 35 = .ok (.aload_n 0, 1) := by decide +kernel
theorem dX7_readProduct_36 : decode cX7_readProduct 36 = .ok (.aload_n 1, 1) := by decide +kernel
theorem dX7_readProduct_37 : decode cX7_readProduct 37 = .ok (.iload_n 2, 1) := by decide +kernel
theorem dX7_readProduct_38 : decode cX7_readProduct 38 = .ok (.invokevirtual 191, 3) := by decide +kernel
theorem dX7_readProduct_41 : decode cX7_readProduct 41 = .ok (.aload_n 1, 1) := by decide +kernel
theorem dX7_readProduct_42 : decode cX7_readProduct 42 = .ok (.bipush (-11), 2) := by decide +kernel
theorem dX7_readProduct_44 : decode cX7_readProduct 44 = .ok (.invokevirtual 183, 3) := by decide +kernel
theorem dX7_readProduct_47 : decode cX7_readProduct 47 = .ok (.iinc 3 1, 3) := by decide +kernel
theorem dX7_readProduct_50 : decode cX7_readProduct 50 = .ok (.goto (-42), 3) := by decide +kernel
theorem dX7_readProduct_53 : decode cX7_readProduct 53 = .ok (.return_, 1) := by decide +kernel
theorem dX7_readPart_0 : decode cX7_readPart 0 = .ok (.aload_n 0, 1) := by decide +kernel
theorem dX7_readPart_1 : decode cX7_readPart 1 = .ok (.getfield 35, 3) := by decide +kernel
theorem dX7_readPart_4 : decode cX7_readPart 4 = .ok (.iconst 2, 1) := by decide +kernel
theorem dX7_readPart_5 : decode cX7_readPart 5 = .ok (.if_icmp .ne 16, 3) := by decide +kernel
theorem dX7_readPart_8 : decode cX7_readPart 8 = .ok (.aload_n 0, 1) := by decide +kernel
theorem dX7_readPart_9 : decode cX7_readPart 9 = .ok (.getfield 55, 3) := by decide +kernel
theorem dX7_readPart_12 : decode cX7_readPart 12 = .ok (.bipush 23, 2) := by decide +kernel
theorem dX7_readPart_14 : decode cX7_readPart 14 = .ok (.if_icmp .lt 7, 3) := by decide +kernel
theorem dX7_readPart_17 : decode cX7_readPart 17 = .ok (.iconst 1, 1) := by decide +kernel
theorem dX7_readPart_18 : decode cX7_readPart 18 = .ok (.goto 4, 3) := by decide +kernel
theorem dX7_readPart_21 : decode cX7_readPart 21 = .ok (.iconst 0, 1) := by decide +kernel
theorem dX7_readPart_22 : decode cX7_readPart 22 = .ok (.istore_n 3, 1) := by decide +kernel
theorem dX7_readPart_23 : decode cX7_readPart 23 = .ok (.aload_n 0, 1) := by decide +kernel
theorem dX7_readPart_24 : decode cX7_readPart 24 = .ok (.getfield 35, 3) := by decide +kernel
theorem dX7_readPart_27 : decode cX7_readPart 27 = .ok (.iconst 2, 1) := by decide +kernel
theorem dX7_readPart_28 : decode cX7_readPart 28 = .ok (.if_icmp .ne 16, 3) := by decide +kernel
theorem dX7_readPart_31 : decode cX7_readPart 31 = .ok (.aload_n 0, 1) := by decide +kernel
theorem dX7_readPart_32 : decode cX7_readPart 32 = .ok (.getfield 55, 3) := by decide +kernel
theorem dX7_readPart_35 : decode cX7_readPart 35 = .ok (.bipush 20, 2) := by decide +kernel
theorem dX7_readPart_37 : decode cX7_readPart 37 = .ok (.if_icmp .ne 7, 3) := by decide +kernel
theorem dX7_readPart_40 : decode cX7_readPart 40 = .ok (.iconst 1, 1) := by decide +kernel
theorem dX7_readPart_41 : decode cX7_readPart 41 = .ok (.goto 4, 3) := by decide +kernel
theorem dX7_readPart_44 : decode cX7_readPart 44 = .ok (.iconst 0, 1) := by decide +kernel
theorem dX7_readPart_45 : decode cX7_readPart 45 = .ok (.istore 4, 2) := by decide +kernel
theorem dX7_readPart_47 : decode cX7_readPart 47 = .ok (.iload_n 3, 1) := by decide +kernel
theorem dX7_readPart_48 : decode cX7_readPart 48 = .ok (.ifCond .ne 31, 3) := by decide +kernel
theorem dX7_readPart_51 : decode cX7_readPart 51 = .ok (.iload 4, 2) := by decide +kernel
theorem dX7_readPart_53 : decode cX7_readPart 53 = .ok (.ifCond .ne 26, 3) := by decide +kernel
theorem dX7_readPart_56 : decode cX7_readPart 56 = .ok (.aload_n 0, 1) := by decide +kernel
theorem dX7_readPart_57 : decode cX7_readPart 57 = .ok (.getfield 35, 3) := by decide +kernel
theorem dX7_readPart_60 : decode cX7_readPart 60 = .ok (.iconst 3, 1) := by decide +kernel
theorem dX7_readPart_61 : decode cX7_readPart 61 = .ok (.if_icmp .eq 18, 3) := by decide +kernel
theorem dX7_readPart_64 : decode cX7_readPart 64 = .ok (.aload_n 0, 1) := by decide +kernel
theorem dX7_readPart_65 : decode cX7_readPart 65 = .ok (.getfield 35, 3) := by decide +kernel
theorem dX7_readPart_68 : decode cX7_readPart 68 = .ok (.bipush 40, 2) := by decide +kernel
theorem dX7_readPart_70 : decode cX7_readPart 70 = .ok (.if_icmp .eq 9, 3) := by decide +kernel
theorem dX7_readPart_73 : decode cX7_readPart 73 = .ok (.aload_n 0, 1) := by decide +kernel
theorem dX7_readPart_74 : decode cX7_readPart 74 = .ok (.iconst 1, 1) := by decide +kernel
theorem dX7_readPart_75 : decode cX7_readPart 75 = .ok (.invokevirtual 68, 3) := by decide +kernel
theorem dX7_readPart_78 : decode cX7_readPart 78 = .ok (.return_, 1) := by decide +kernel
theorem dX7_readPart_79 : decode cX7_readPart 79 = .ok (.iload_n 2, 1) := by decide +kernel
theorem dX7_readPart_80 : decode cX7_readPart 80 = .ok (.iconst 5, 1) := by decide +kernel
theorem dX7_readPart_81 : decode cX7_readPart 81 = .ok (.if_icmp .lt 9, 3) := by decide +kernel
theorem dX7_readPart_84 : decode cX7_readPart 84 = .ok (.aload_n 0, 1) := by decide +kernel
theorem dX7_readPart_85 : decode cX7_readPart 85 = .ok (.iconst 5, 1) := by decide +kernel
theorem dX7_readPart_86 : decode cX7_readPart 86 = .ok (.invokevirtual 68, 3) := by decide +kernel
theorem dX7_readPart_89 : decode cX7_readPart 89 = .ok (.return_, 1) := by decide +kernel
theorem dX7_readPart_90 : decode cX7_readPart 90 = .ok (.aload_n 0, 1) := by decide +kernel
theorem dX7_readPart_91 : decode cX7_readPart 91 = .ok (.getfield 35, 3) := by decide +kernel
theorem dX7_readPart_94 : decode cX7_readPart 94 = .ok (.bipush 40, 2) := by decide +kernel
theorem dX7_readPart_96 : decode cX7_readPart 96 = .ok (.if_icmp .ne 24, 3) := by decide +kernel
theorem dX7_readPart_99 : decode cX7_readPart 99 = .ok (.aload_n 0, 1) := by decide +kernel
theorem dX7_readPart_100 : decode cX7_readPart 100 = .ok (.invokevirtual 52, 3) := by decide +kernel
theorem dX7_readPart_103 : decode cX7_readPart 103 = .ok (.aload_n 0, 1) := by decide +kernel
theorem dX7_readPart_104 : decode cX7_readPart 104 = .ok (.aload_n 1, 1) := by decide +kernel
theorem dX7_readPart_105 : decode cX7_readPart 105 = .ok (.iload_n 2, 1) := by decide +kernel
theorem dX7_readPart_106 : decode cX7_readPart 106 = .ok (.iconst 1, 1) := by decide +kernel
theorem dX7_readPart_107 : decode cX7_readPart 107 = .ok (.iadd, 1) := by decide +kernel
theorem dX7_readPart_108 : decode cX7_readPart 108 = .ok (.invokevirtual 159, 3) := by decide +kernel
theorem dX7_readPart_111 : decode cX7_readPart 111 = .ok (.aload_n 0, 1) := by decide +kernel
theorem dX7_readPart_112 : decode cX7_readPart 112 = .ok (.bipush 41, 2) := by decide +kernel
theorem dX7_readPart_114 : decode cX7_readPart 114 = .ok (.invokevirtual 72, 3) := by decide +kernel
theorem dX7_readPart_117 : decode cX7_readPart 117 = .ok (.goto 57, 3) := by decide +kernel
theorem dX7_readPart_120 : decode cX7_readPart 120 = .ok (.iload 4, 2) := by decide +kernel
theorem dX7_readPart_122 : decode cX7_readPart 122 = .ok (.ifCond .eq 24, 3) := by decide +kernel
theorem dX7_readPart_125 : decode cX7_readPart 125 = .ok (.aload_n 0, 1) := by decide +kernel
theorem dX7_readPart_126 : decode cX7_readPart 126 = .ok (.invokevirtual 52, 3) := by decide +kernel
theorem dX7_readPart_129 : decode cX7_readPart 129 = .ok (.aload_n 0, 1) := by decide +kernel
theorem dX7_readPart_130 : decode cX7_readPart 130 = .ok (.aload_n 1, 1) := by decide +kernel
theorem dX7_readPart_131 : decode cX7_readPart 131 = .ok (.iload_n 2, 1) := by decide +kernel
theorem dX7_readPart_132 : decode cX7_readPart 132 = .ok (.iconst 1, 1) := by decide +kernel
theorem dX7_readPart_133 : decode cX7_readPart 133 = .ok (.iadd, 1) := by decide +kernel
theorem dX7_readPart_134 : decode cX7_readPart 134 = .ok (.invokevirtual 191, 3) := by decide +kernel
theorem dX7_readPart_137 : decode cX7_readPart 137 = .ok (.aload_n 1, 1) := by decide +kernel
theorem dX7_readPart_138 : decode cX7_readPart 138 = .ok (.bipush (-4), 2) := by decide +kernel
theorem dX7_readPart_140 : decode cX7_readPart 140 = .ok (.invokevirtual 183, 3) := by decide +kernel
theorem dX7_readPart_143 : decode cX7_readPart 143 = .ok (.goto 31, 3) := by decide +kernel
theorem dX7_readPart_146 : decode cX7_readPart 146 = .ok (.aload_n 1, 1) := by decide +kernel
theorem dX7_readPart_147 : decode cX7_readPart 147 = .ok (.iload_n 3, 1) := by decide +kernel
theorem dX7_readPart_148 : decode cX7_readPart 148 = .ok (.ifCond .eq 15, 3) := by decide +kernel
theorem dX7_readPart_151 : decode cX7_readPart 151 = .ok (.iconst (-1), 1) := by decide +kernel
theorem dX7_readPart_152 : decode cX7_readPart 152 = .ok (.aload_n 0, 1) := by decide +kernel
theorem dX7_readPart_153 : decode cX7_readPart 153 = .ok (.getfield 55, 3) := by decide +kernel
theorem dX7_readPart_156 : decode cX7_readPart 156 = .ok (.bipush 23, 2) := by decide +kernel
theorem dX7_readPart_158 : decode cX7_readPart 158 = .ok (.isub, 1) := by decide +kernel
theorem dX7_readPart_159 : decode cX7_readPart 159 = .ok (.isub, 1) := by decide +kernel
theorem dX7_readPart_160 : decode cX7_readPart 160 = .ok (.goto 7, 3) := by decide +kernel
theorem dX7_readPart_163 : decode cX7_readPart 163 = .ok (.aload_n 0, 1) := by decide +kernel
theorem dX7_readPart_164 : decode cX7_readPart 164 = .ok (.getfield 194, 3) := by decide +kernel
theorem dX7_readPart_167 : decode cX7_readPart 167 = .ok (.invokevirtual 183, 3) := by decide +kernel
theorem dX7_readPart_170 : decode cX7_readPart 170 = .ok (.aload_n 0, 1) := by decide +kernel
theorem dX7_readPart_171 : decode cX7_readPart 171 = .ok (.invokevirtual 52, 3) := by decide +kernel
theorem dX7_readPart_174 : decode cX7_readPart 174 = .ok (.return_, 1) := by decide +kernel
theorem dX7_readNumber_0 : decode cX7_readNumber 0 = .ok (.aload_n 0, 1) := by decide +kernel
theorem dX7_readNumber_1 : decode cX7_readNumber 1 = .ok (.iload_n 1, 1) := by decide +kernel
theorem dX7_readNumber_2 : decode cX7_readNumber 2 = .ok (.iload_n 2, 1) := by decide +kernel
theorem dX7_readNumber_3 : decode cX7_readNumber 3 = .ok (.invokevirtual 166, 3) := by decide +kernel
theorem dX7_readNumber_6 : decode cX7_readNumber 6 = .ok (.istore_n 3, 1) := by decide +kernel
theorem dX7_readNumber_7 : decode cX7_readNumber 7 = .ok (.aload_n 0, 1) := by decide +kernel
theorem dX7_readNumber_8 : decode cX7_readNumber 8 = .ok (.invokevirtual 52, 3) := by decide +kernel
theorem dX7_readNumber_11 : decode cX7_readNumber 11 = .ok (.iload_n 3, 1) := by decide +kernel
theorem dX7_readNumber_12 : decode cX7_readNumber 12 = .ok (.ireturn, 1) := by decide +kernel
theorem dX7_numberHere_0 : decode cX7_numberHere 0 = .ok (.aload_n 0, 1) := by decide +kernel
theorem dX7_numberHere_1 : decode cX7_numberHere 1 = .ok (.getfield 35, 3) := by decide +kernel
theorem dX7_numberHere_4 : decode cX7_numberHere 4 = .ok (.iconst 3, 1) := by decide +kernel
theorem dX7_numberHere_5 : decode cX7_numberHere 5 = .ok (.if_icmp .eq 11, 3) := by decide +kernel
theorem dX7_numberHere_8 : decode cX7_numberHere 8 = .ok (.aload_n 0, 1) := by decide +kernel
theorem dX7_numberHere_9 : decode cX7_numberHere 9 = .ok (.iconst 1, 1) := by decide +kernel
theorem dX7_numberHere_10 : decode cX7_numberHere 10 = .ok (.invokevirtual 68, 3) := by decide +kernel
theorem dX7_numberHere_13 : decode cX7_numberHere 13 = .ok (.goto 24, 3) := by decide +kernel
theorem dX7_numberHere_16 : decode cX7_numberHere 16 = .ok (.aload_n 0, 1) := by decide +kernel
theorem dX7_numberHere_17 : decode cX7_numberHere 17 = .ok (.getfield 194, 3) := by decide +kernel
theorem dX7_numberHere_20 : decode cX7_numberHere 20 = .ok (.iload_n 1, 1) := by decide +kernel
theorem dX7_numberHere_21 : decode cX7_numberHere 21 = .ok (.if_icmp .lt 11, 3) := by decide +kernel
theorem dX7_numberHere_24 : decode cX7_numberHere 24 = .ok (.aload_n 0, 1) := by decide +kernel
theorem dX7_numberHere_25 : decode cX7_numberHere 25 = .ok (.getfield 194, 3) := by decide +kernel
theorem dX7_numberHere_28 : decode cX7_numberHere 28 = .ok (.iload_n 2, 1) := by decide +kernel
theorem dX7_numberHere_29 : decode cX7_numberHere 29 = .ok (.if_icmp .le 8, 3) := by decide +kernel
theorem dX7_numberHere_32 : decode cX7_numberHere 32 = .ok (.aload_n 0, 1) := by decide +kernel
theorem dX7_numberHere_33 : decode cX7_numberHere 33 = .ok (.iconst 4, 1) := by decide +kernel
theorem dX7_numberHere_34 : decode cX7_numberHere 34 = .ok (.invokevirtual 68, 3) := by decide +kernel
theorem dX7_numberHere_37 : decode cX7_numberHere 37 = .ok (.aload_n 0, 1) := by decide +kernel
theorem dX7_numberHere_38 : decode cX7_numberHere 38 = .ok (.getfield 32, 3) := by decide +kernel
theorem dX7_numberHere_41 : decode cX7_numberHere 41 = .ok (.ifCond .ne 10, 3) := by decide +kernel
theorem dX7_numberHere_44 : decode cX7_numberHere 44 = .ok (.aload_n 0, 1) := by decide +kernel
theorem dX7_numberHere_45 : decode cX7_numberHere 45 = .ok (.getfield 194, 3) := by decide +kernel
theorem dX7_numberHere_48 : decode cX7_numberHere 48 = .ok (.goto 4, 3) := by decide +kernel
theorem dX7_numberHere_51 : decode cX7_numberHere 51 = .ok (.iload_n 1, 1) := by decide +kernel
theorem dX7_numberHere_52 : decode cX7_numberHere 52 = .ok (.ireturn, 1) := by decide +kernel
theorem dX7_readNamed_0 : decode cX7_readNamed 0 = .ok (.aload_n 0, 1) := by decide +kernel
theorem dX7_readNamed_1 : decode cX7_readNamed 1 = .ok (.aload_n 1, 1) := by decide +kernel
theorem dX7_readNamed_2 : decode cX7_readNamed 2 = .ok (.invokevirtual 119, 3) := by decide +kernel
theorem dX7_readNamed_5 : decode cX7_readNamed 5 = .ok (.istore_n 2, 1) := by decide +kernel
theorem dX7_readNamed_6 : decode cX7_readNamed 6 = .ok (.aload_n 0, 1) := by decide +kernel
theorem dX7_readNamed_7 : decode cX7_readNamed 7 = .ok (.invokevirtual 52, 3) := by decide +kernel
theorem dX7_readNamed_10 : decode cX7_readNamed 10 = .ok (.iload_n 2, 1) := by decide +kernel
theorem dX7_readNamed_11 : decode cX7_readNamed 11 = .ok (.ireturn, 1) := by decide +kernel
theorem dX7_namedHere_0 : decode cX7_namedHere 0 = .ok (.aload_n 0, 1) := by decide +kernel
theorem dX7_namedHere_1 : decode cX7_namedHere 1 = .ok (.invokevirtual 78, 3) := by decide +kernel
theorem dX7_namedHere_4 : decode cX7_namedHere 4 = .ok (.ifCond .ne 10, 3) := by decide +kernel
theorem dX7_namedHere_7 : decode cX7_namedHere 7 = .ok (.aload_n 0, 1) := by decide +kernel
theorem dX7_namedHere_8 : decode cX7_namedHere 8 = .ok (.iconst 1, 1) := by decide +kernel
theorem dX7_namedHere_9 : decode cX7_namedHere 9 = .ok (.invokevirtual 68, 3) := by decide +kernel
theorem dX7_namedHere_12 : decode cX7_namedHere 12 = .ok (.iconst (-1), 1) := by decide +kernel
theorem dX7_namedHere_13 : decode cX7_namedHere 13 = .ok (.ireturn, 1) := by decide +kernel
theorem dX7_namedHere_14 : decode cX7_namedHere 14 = .ok (.aload_n 1, 1) := by decide +kernel
theorem dX7_namedHere_15 : decode cX7_namedHere 15 = .ok (.aload_n 0, 1) := by decide +kernel
theorem dX7_namedHere_16 : decode cX7_namedHere 16 = .ok (.getfield 82, 3) := by decide +kernel
theorem dX7_namedHere_19 : decode cX7_namedHere 19 = .ok (.invokevirtual 86, 3) := by decide +kernel
theorem dX7_namedHere_22 : decode cX7_namedHere 22 = .ok (.istore_n 2, 1) := by decide +kernel
theorem dX7_namedHere_23 : decode cX7_namedHere 23 = .ok (.iload_n 2, 1) := by decide +kernel
theorem dX7_namedHere_24 : decode cX7_namedHere 24 = .ok (.iconst (-1), 1) := by decide +kernel
theorem dX7_namedHere_25 : decode cX7_namedHere 25 = .ok (.if_icmp .ne 8, 3) := by decide +kernel
theorem dX7_namedHere_28 : decode cX7_namedHere 28 = .ok (.aload_n 0, 1) := by decide +kernel
theorem dX7_namedHere_29 : decode cX7_namedHere 29 = .ok (.iconst 2, 1) := by decide +kernel
theorem dX7_namedHere_30 : decode cX7_namedHere 30 = .ok (.invokevirtual 68, 3) := by decide +kernel
theorem dX7_namedHere_33 : decode cX7_namedHere 33 = .ok (.iload_n 2, 1) := by decide +kernel
theorem dX7_namedHere_34 : decode cX7_namedHere 34 = .ok (.ireturn, 1) := by decide +kernel
theorem dX7_isName_0 : decode cX7_isName 0 = .ok (.aload_n 0, 1) := by decide +kernel
theorem dX7_isName_1 : decode cX7_isName 1 = .ok (.getfield 35, 3) := by decide +kernel
theorem dX7_isName_4 : decode cX7_isName 4 = .ok (.iconst 2, 1) := by decide +kernel
theorem dX7_isName_5 : decode cX7_isName 5 = .ok (.if_icmp .ne 24, 3) := by decide +kernel
theorem dX7_isName_8 : decode cX7_isName 8 = .ok (.aload_n 0, 1) := by decide +kernel
theorem dX7_isName_9 : decode cX7_isName 9 = .ok (.getfield 55, 3) := by decide +kernel
theorem dX7_isName_12 : decode cX7_isName 12 = .ok (.iconst (-1), 1) := by decide +kernel
theorem dX7_isName_13 : decode cX7_isName 13 = .ok (.if_icmp .eq 12, 3) := by decide +kernel
theorem dX7_isName_16 : decode cX7_isName 16 = .ok (.aload_n 0, 1) := by decide +kernel
theorem dX7_isName_17 : decode cX7_isName 17 = .ok (.getfield 55, 3) := by decide +kernel
theorem dX7_isName_20 : decode cX7_isName 20 = .ok (.bipush 23, 2) := by decide +kernel
theorem dX7_isName_22 : decode cX7_isName 22 = .ok (.if_icmp .lt 7, 3) := by decide +kernel
theorem dX7_isName_25 : decode cX7_isName 25 = .ok (.iconst 1, 1) := by decide +kernel
theorem dX7_isName_26 : decode cX7_isName 26 = .ok (.goto 4, 3) := by decide +kernel
theorem dX7_isName_29 : decode cX7_isName 29 = .ok (.iconst 0, 1) := by decide +kernel
theorem dX7_isName_30 : decode cX7_isName 30 = .ok (.ireturn, 1) := by decide +kernel
theorem dX7_expectSign_0 : decode cX7_expectSign 0 = .ok (.aload_n 0, 1) := by decide +kernel
theorem dX7_expectSign_1 : decode cX7_expectSign 1 = .ok (.getfield 35, 3) := by decide +kernel
theorem dX7_expectSign_4 : decode cX7_expectSign 4 = .ok (.iload_n 1, 1) := by decide +kernel
theorem dX7_expectSign_5 : decode cX7_expectSign 5 = .ok (.if_icmp .eq 8, 3) := by decide +kernel
theorem dX7_expectSign_8 : decode cX7_expectSign 8 = .ok (.aload_n 0, 1) := by decide +kernel
theorem dX7_expectSign_9 : decode cX7_expectSign 9 = .ok (.iconst 1, 1) := by decide +kernel
theorem dX7_expectSign_10 : decode cX7_expectSign 10 = .ok (.invokevirtual 68, 3) := by decide +kernel
theorem dX7_expectSign_13 : decode cX7_expectSign 13 = .ok (.aload_n 0, 1) := by decide +kernel
theorem dX7_expectSign_14 : decode cX7_expectSign 14 = .ok (.invokevirtual 52, 3) := by decide +kernel
theorem dX7_expectSign_17 : decode cX7_expectSign 17 = .ok (.return_, 1) := by decide +kernel
theorem dX7_fail_0 : decode cX7_fail 0 = .ok (.aload_n 0, 1) := by decide +kernel
theorem dX7_fail_1 : decode cX7_fail 1 = .ok (.getfield 32, 3) := by decide +kernel
theorem dX7_fail_4 : decode cX7_fail 4 = .ok (.ifCond .ne 16, 3) := by decide +kernel
theorem dX7_fail_7 : decode cX7_fail 7 = .ok (.aload_n 0, 1) := by decide +kernel
theorem dX7_fail_8 : decode cX7_fail 8 = .ok (.iload_n 1, 1) := by decide +kernel
theorem dX7_fail_9 : decode cX7_fail 9 = .ok (.bipush 16, 2) := by decide +kernel
theorem dX7_fail_11 : decode cX7_fail 11 = .ok (.aload_n 0, 1) := by decide +kernel
theorem dX7_fail_12 : decode cX7_fail 12 = .ok (.getfield 197, 3) := by decide +kernel
theorem dX7_fail_15 : decode cX7_fail 15 = .ok (.imul, 1) := by decide +kernel
theorem dX7_fail_16 : decode cX7_fail 16 = .ok (.iadd, 1) := by decide +kernel
theorem dX7_fail_17 : decode cX7_fail 17 = .ok (.putfield 32, 3) := by decide +kernel
theorem dX7_fail_20 : decode cX7_fail 20 = .ok (.return_, 1) := by decide +kernel
theorem dX7_next_0 : decode cX7_next 0 = .ok (.aload_n 0, 1) := by decide +kernel
theorem dX7_next_1 : decode cX7_next 1 = .ok (.getfield 32, 3) := by decide +kernel
theorem dX7_next_4 : decode cX7_next 4 = .ok (.ifCond .eq 4, 3) := by decide +kernel
theorem dX7_next_7 : decode cX7_next 7 = .ok (.return_, 1) := by decide +kernel
theorem dX7_next_8 : decode cX7_next 8 = .ok (.aload_n 0, 1) := by decide +kernel
theorem dX7_next_9 : decode cX7_next 9 = .ok (.aload_n 0, 1) := by decide +kernel
theorem dX7_next_10 : decode cX7_next 10 = .ok (.getfield 49, 3) := by decide +kernel
theorem dX7_next_13 : decode cX7_next 13 = .ok (.putfield 197, 3) := by decide +kernel
theorem dX7_next_16 : decode cX7_next 16 = .ok (.aload_n 0, 1) := by decide +kernel
theorem dX7_next_17 : decode cX7_next 17 = .ok (.getfield 49, 3) := by decide +kernel
theorem dX7_next_20 : decode cX7_next 20 = .ok (.istore_n 1, 1) := by decide +kernel
theorem dX7_next_21 : decode cX7_next 21 = .ok (.iload_n 1, 1) := by decide +kernel
theorem dX7_next_22 : decode cX7_next 22 = .ok (.aload_n 0, 1) := by decide +kernel
theorem dX7_next_23 : decode cX7_next 23 = .ok (.getfield 17, 3) := by decide +kernel
theorem dX7_next_26 : decode cX7_next 26 = .ok (.if_icmp .ge 38, 3) := by decide +kernel
theorem dX7_next_29 : decode cX7_next 29 = .ok (.aload_n 0, 1) := by decide +kernel
theorem dX7_next_30 : decode cX7_next 30 = .ok (.getfield 9, 3) := by decide +kernel
theorem dX7_next_33 : decode cX7_next 33 = .ok (.iload_n 1, 1) := by decide +kernel
theorem dX7_next_34 : decode cX7_next 34 = .ok (.caload, 1) := by decide +kernel
theorem dX7_next_35 : decode cX7_next 35 = .ok (.bipush 10, 2) := by decide +kernel
theorem dX7_next_37 : decode cX7_next 37 = .ok (.if_icmp .eq 14, 3) := by decide +kernel
theorem dX7_next_40 : decode cX7_next 40 = .ok (.aload_n 0, 1) := by decide +kernel
theorem dX7_next_41 : decode cX7_next 41 = .ok (.getfield 9, 3) := by decide +kernel
theorem dX7_next_44 : decode cX7_next 44 = .ok (.iload_n 1, 1) := by decide +kernel
theorem dX7_next_45 : decode cX7_next 45 = .ok (.caload, 1) := by decide +kernel
theorem dX7_next_46 : decode cX7_next 46 = .ok (.bipush 32, 2) := by decide +kernel
theorem dX7_next_48 : decode cX7_next 48 = .ok (.if_icmp .ne 16, 3) := by decide +kernel
theorem dX7_next_51 : decode cX7_next 51 = .ok (.aload_n 0, 1) := by decide +kernel
theorem dX7_next_52 : decode cX7_next 52 = .ok (.iload_n 1, 1) := by decide +kernel
theorem dX7_next_53 : decode cX7_next 53 = .ok (.iconst 1, 1) := by decide +kernel
theorem dX7_next_54 : decode cX7_next 54 = .ok (.iadd, 1) := by decide +kernel
theorem dX7_next_55 : decode cX7_next 55 = .ok (.putfield 197, 3) := by decide +kernel
theorem dX7_next_58 : decode cX7_next 58 = .ok (.iinc 1 1, 3) := by decide +kernel
theorem dX7_next_61 : decode cX7_next 61 = .ok (.goto (-40), 3) := by decide +kernel
theorem dX7_next_64 : decode cX7_next 64 = .ok (.iconst 0, 1) := by decide +kernel
theorem dX7_next_65 : decode cX7_next 65 = .ok (.istore_n 1, 1) := by decide +kernel
theorem dX7_next_66 : decode cX7_next 66 = .ok (.aload_n 0, 1) := by decide +kernel
theorem dX7_next_67 : decode cX7_next 67 = .ok (.lconst 0, 1) := by decide +kernel
theorem dX7_next_68 : decode cX7_next 68 = .ok (.putfield 82, 3) := by decide +kernel
theorem dX7_next_71 : decode cX7_next 71 = .ok (.aload_n 0, 1) := by decide +kernel
theorem dX7_next_72 : decode cX7_next 72 = .ok (.getfield 197, 3) := by decide +kernel
theorem dX7_next_75 : decode cX7_next 75 = .ok (.istore_n 2, 1) := by decide +kernel
theorem dX7_next_76 : decode cX7_next 76 = .ok (.iload_n 2, 1) := by decide +kernel
theorem dX7_next_77 : decode cX7_next 77 = .ok (.aload_n 0, 1) := by decide +kernel
theorem dX7_next_78 : decode cX7_next 78 = .ok (.getfield 17, 3) := by decide +kernel
theorem dX7_next_81 : decode cX7_next 81 = .ok (.if_icmp .ge 49, 3) := by decide +kernel
theorem dX7_next_84 : decode cX7_next 84 = .ok (.aload_n 0, 1) := by decide +kernel
theorem dX7_next_85 : decode cX7_next 85 = .ok (.getfield 9, 3) := by decide +kernel
theorem dX7_next_88 : decode cX7_next 88 = .ok (.iload_n 2, 1) := by decide +kernel
theorem dX7_next_89 : decode cX7_next 89 = .ok (.caload, 1) := by decide +kernel
theorem dX7_next_90 : decode cX7_next 90 = .ok (.invokestatic 200, 3) := by decide +kernel
theorem dX7_next_93 : decode cX7_next 93 = .ok (.ifCond .eq 37, 3) := by decide +kernel
theorem dX7_next_96 : decode cX7_next 96 = .ok (.aload_n 0, 1) := by decide +kernel
theorem dX7_next_97 : decode cX7_next 97 = .ok (.ldc2_w 204, 3) := by decide +kernel
theorem dX7_next_100 : decode cX7_next 100 = .ok (.aload_n 0, 1) := by decide +kernel
theorem dX7_next_101 : decode cX7_next 101 = .ok (.getfield 82, 3) := by decide +kernel
theorem dX7_next_104 : decode cX7_next 104 = .ok (.lmul, 1) := by decide +kernel
theorem dX7_next_105 : decode cX7_next 105 = .ok (.aload_n 0, 1) := by decide +kernel
theorem dX7_next_106 : decode cX7_next 106 = .ok (.getfield 9, 3) := by decide +kernel
theorem dX7_next_109 : decode cX7_next 109 = .ok (.iload_n 2, 1) := by decide +kernel
theorem dX7_next_110 : decode cX7_next 110 = .ok (.caload, 1) := by decide +kernel
theorem dX7_next_111 : decode cX7_next 111 = .ok (.bipush 97, 2) := by decide +kernel
theorem dX7_next_113 : decode cX7_next 113 = .ok (.isub, 1) := by decide +kernel
theorem dX7_next_114 : decode cX7_next 114 = .ok (.iconst 1, 1) := by decide +kernel
theorem dX7_next_115 : decode cX7_next 115 = .ok (.iadd, 1) := by decide +kernel
theorem dX7_next_116 : decode cX7_next 116 = .ok (.i2l, 1) := by decide +kernel
theorem dX7_next_117 : decode cX7_next 117 = .ok (.ladd, 1) := by decide +kernel
theorem dX7_next_118 : decode cX7_next 118 = .ok (.putfield 82, 3) := by decide +kernel
theorem dX7_next_121 : decode cX7_next 121 = .ok (.iinc 1 1, 3) := by decide +kernel
theorem dX7_next_124 : decode cX7_next 124 = .ok (.iinc 2 1, 3) := by decide +kernel
theorem dX7_next_127 : decode cX7_next 127 = .ok (.goto (-51), 3) := by decide +kernel
theorem dX7_next_130 : decode cX7_next 130 = .ok (.iconst 0, 1) := by decide +kernel
theorem dX7_next_131 : decode cX7_next 131 = .ok (.istore_n 2, 1) := by decide +kernel
theorem dX7_next_132 : decode cX7_next 132 = .ok (.aload_n 0, 1) := by decide +kernel
theorem dX7_next_133 : decode cX7_next 133 = .ok (.iconst 0, 1) := by decide +kernel
theorem dX7_next_134 : decode cX7_next 134 = .ok (.putfield 194, 3) := by decide +kernel
theorem dX7_next_137 : decode cX7_next 137 = .ok (.aload_n 0, 1) := by decide +kernel
theorem dX7_next_138 : decode cX7_next 138 = .ok (.getfield 197, 3) := by decide +kernel
theorem dX7_next_141 : decode cX7_next 141 = .ok (.istore_n 3, 1) := by decide +kernel
theorem dX7_next_142 : decode cX7_next 142 = .ok (.iload_n 3, 1) := by decide +kernel
theorem dX7_next_143 : decode cX7_next 143 = .ok (.aload_n 0, 1) := by decide +kernel
theorem dX7_next_144 : decode cX7_next 144 = .ok (.getfield 17, 3) := by decide +kernel
theorem dX7_next_147 : decode cX7_next 147 = .ok (.if_icmp .ge 45, 3) := by decide +kernel
theorem dX7_next_150 : decode cX7_next 150 = .ok (.aload_n 0, 1) := by decide +kernel
theorem dX7_next_151 : decode cX7_next 151 = .ok (.getfield 9, 3) := by decide +kernel
theorem dX7_next_154 : decode cX7_next 154 = .ok (.iload_n 3, 1) := by decide +kernel
theorem dX7_next_155 : decode cX7_next 155 = .ok (.caload, 1) := by decide +kernel
theorem dX7_next_156 : decode cX7_next 156 = .ok (.invokestatic 206, 3) := by decide +kernel
theorem dX7_next_159 : decode cX7_next 159 = .ok (.ifCond .eq 33, 3) := by decide +kernel
theorem dX7_next_162 : decode cX7_next 162 = .ok (.aload_n 0, 1) := by decide +kernel
theorem dX7_next_163 : decode cX7_next 163 = .ok (.bipush 10, 2) := by decide +kernel
theorem dX7_next_165 : decode cX7_next 165 = .ok (.aload_n 0, 1) := by decide +kernel
theorem dX7_next_166 : decode cX7_next 166 = .ok (.getfield 194, 3) := by decide +kernel
theorem dX7_next_169 : decode cX7_next 169 = .ok (.imul, 1) := by decide +kernel
theorem dX7_next_170 : decode cX7_next 170 = .ok (.aload_n 0, 1) := by decide +kernel
theorem dX7_next_171 : decode cX7_next 171 = .ok (.getfield 9, 3) := by decide +kernel
theorem dX7_next_174 : decode cX7_next 174 = .ok (.iload_n 3, 1) := by decide +kernel
theorem dX7_next_175 : decode cX7_next 175 = .ok (.caload, 1) := by decide +kernel
theorem dX7_next_176 : decode cX7_next 176 = .ok (.bipush 48, 2) := by decide +kernel
theorem dX7_next_178 : decode cX7_next 178 = .ok (.isub, 1) := by decide +kernel
theorem dX7_next_179 : decode cX7_next 179 = .ok (.iadd, 1) := by decide +kernel
theorem dX7_next_180 : decode cX7_next 180 = .ok (.putfield 194, 3) := by decide +kernel
theorem dX7_next_183 : decode cX7_next 183 = .ok (.iinc 2 1, 3) := by decide +kernel
theorem dX7_next_186 : decode cX7_next 186 = .ok (.iinc 3 1, 3) := by decide +kernel
theorem dX7_next_189 : decode cX7_next 189 = .ok (.goto (-47), 3) := by decide +kernel
theorem dX7_next_192 : decode cX7_next 192 = .ok (.aload_n 0, 1) := by decide +kernel
theorem dX7_next_193 : decode cX7_next 193 = .ok (.aload_n 0, 1) := by decide +kernel
theorem dX7_next_194 : decode cX7_next 194 = .ok (.getfield 17, 3) := by decide +kernel
theorem dX7_next_197 : decode cX7_next 197 = .ok (.aload_n 0, 1) := by decide +kernel
theorem dX7_next_198 : decode cX7_next 198 = .ok (.getfield 197, 3) := by decide +kernel
theorem dX7_next_201 : decode cX7_next 201 = .ok (.iconst 1, 1) := by decide +kernel
theorem dX7_next_202 : decode cX7_next 202 = .ok (.iload_n 1, 1) := by decide +kernel
theorem dX7_next_203 : decode cX7_next 203 = .ok (.iload_n 2, 1) := by decide +kernel
theorem dX7_next_204 : decode cX7_next 204 = .ok (.invokestatic 209, 3) := by decide +kernel
theorem dX7_next_207 : decode cX7_next 207 = .ok (.invokestatic 209, 3) := by decide +kernel
theorem dX7_next_210 : decode cX7_next 210 = .ok (.iadd, 1) := by decide +kernel
theorem dX7_next_211 : decode cX7_next 211 = .ok (.invokestatic 214, 3) := by decide +kernel
theorem dX7_next_214 : decode cX7_next 214 = .ok (.putfield 49, 3) := by decide +kernel
theorem dX7_next_217 : decode cX7_next 217 = .ok (.aload_n 0, 1) := by decide +kernel
theorem dX7_next_218 : decode cX7_next 218 = .ok (.iload_n 1, 1) := by decide +kernel
theorem dX7_next_219 : decode cX7_next 219 = .ok (.ifCond .le 13, 3) := by decide +kernel
theorem dX7_next_222 : decode cX7_next 222 = .ok (.aload_n 0, 1) := by decide +kernel
theorem dX7_next_223 : decode cX7_next 223 = .ok (.getfield 82, 3) := by decide +kernel
theorem dX7_next_226 : decode cX7_next 226 = .ok (.invokestatic 217, 3) := by decide +kernel
theorem dX7_next_229 : decode cX7_next 229 = .ok (.goto 4, 3) := by decide +kernel
theorem dX7_next_232 : decode cX7_next 232 = .ok (.iconst (-1), 1) := by decide +kernel
theorem dX7_next_233 : decode cX7_next 233 = .ok (.putfield 55, 3) := by decide +kernel
theorem dX7_next_236 : decode cX7_next 236 = .ok (.aload_n 0, 1) := by decide +kernel
theorem dX7_next_237 : decode cX7_next 237 = .ok (.aload_n 0, 1) := by decide +kernel
theorem dX7_next_238 : decode cX7_next 238 = .ok (.iload_n 1, 1) := by decide +kernel
theorem dX7_next_239 : decode cX7_next 239 = .ok (.iload_n 2, 1) := by decide +kernel
theorem dX7_next_240 : decode cX7_next 240 = .ok (.invokevirtual 220, 3) := by decide +kernel
theorem dX7_next_243 : decode cX7_next 243 = .ok (.putfield 35, 3) := by decide +kernel
theorem dX7_next_246 : decode cX7_next 246 = .ok (.return_, 1) := by decide +kernel
theorem dX7_sortOf_0 : decode cX7_sortOf 0 = .ok (.aload_n 0, 1) := by decide +kernel
theorem dX7_sortOf_1 : decode cX7_sortOf 1 = .ok (.getfield 197, 3) := by decide +kernel
theorem dX7_sortOf_4 : decode cX7_sortOf 4 = .ok (.aload_n 0, 1) := by decide +kernel
theorem dX7_sortOf_5 : decode cX7_sortOf 5 = .ok (.getfield 17, 3) := by decide +kernel
theorem dX7_sortOf_8 : decode cX7_sortOf 8 = .ok (.if_icmp .lt 5, 3) := by decide +kernel
theorem dX7_sortOf_11 : decode cX7_sortOf 11 = .ok (.iconst 0, 1) := by decide +kernel
theorem dX7_sortOf_12 : decode cX7_sortOf 12 = .ok (.ireturn, 1) := by decide +kernel
theorem dX7_sortOf_13 : decode cX7_sortOf 13 = .ok (.iload_n 1, 1) := by decide +kernel
theorem dX7_sortOf_14 : decode cX7_sortOf 14 = .ok (.ifCond .le 15, 3) := by decide +kernel
theorem dX7_sortOf_17 : decode cX7_sortOf 17 = .ok (.iload_n 1, 1) := by decide +kernel
theorem dX7_sortOf_18 : decode cX7_sortOf 18 = .ok (.bipush 8, 2) := by decide +kernel
theorem dX7_sortOf_20 : decode cX7_sortOf 20 = .ok (.if_icmp .gt 7, 3) := by decide +kernel
theorem dX7_sortOf_23 : decode cX7_sortOf 23 = .ok (.iconst 2, 1) := by decide +kernel
theorem dX7_sortOf_24 : decode cX7_sortOf 24 = .ok (.goto 4, 3) := by decide +kernel
theorem dX7_sortOf_27 : decode cX7_sortOf 27 = .ok (.iconst 1, 1) := by decide +kernel
theorem dX7_sortOf_28 : decode cX7_sortOf 28 = .ok (.ireturn, 1) := by decide +kernel
theorem dX7_sortOf_29 : decode cX7_sortOf 29 = .ok (.iload_n 2, 1) := by decide +kernel
theorem dX7_sortOf_30 : decode cX7_sortOf 30 = .ok (.ifCond .le 14, 3) := by decide +kernel
theorem dX7_sortOf_33 : decode cX7_sortOf 33 = .ok (.iload_n 2, 1) := by decide +kernel
theorem dX7_sortOf_34 : decode cX7_sortOf 34 = .ok (.iconst 4, 1) := by decide +kernel
theorem dX7_sortOf_35 : decode cX7_sortOf 35 = .ok (.if_icmp .gt 7, 3) := by decide +kernel
theorem dX7_sortOf_38 : decode cX7_sortOf 38 = .ok (.iconst 3, 1) := by decide +kernel
theorem dX7_sortOf_39 : decode cX7_sortOf 39 = .ok (.goto 4, 3) := by decide +kernel
theorem dX7_sortOf_42 : decode cX7_sortOf 42 = .ok (.iconst 1, 1) := by decide +kernel
theorem dX7_sortOf_43 : decode cX7_sortOf 43 = .ok (.ireturn, 1) := by decide +kernel
theorem dX7_sortOf_44 : decode cX7_sortOf 44 = .ok (.ldc 223, 2) := by decide +kernel
theorem dX7_sortOf_46 : decode cX7_sortOf 46 = .ok (.aload_n 0, 1) := by decide +kernel
theorem dX7_sortOf_47 : decode cX7_sortOf 47 = .ok (.getfield 9, 3) := by decide +kernel
theorem dX7_sortOf_50 : decode cX7_sortOf 50 = .ok (.aload_n 0, 1) := by decide +kernel
theorem dX7_sortOf_51 : decode cX7_sortOf 51 = .ok (.getfield 197, 3) := by decide +kernel
theorem dX7_sortOf_54 : decode cX7_sortOf 54 = .ok (.caload, 1) := by decide +kernel
theorem dX7_sortOf_55 : decode cX7_sortOf 55 = .ok (.invokevirtual 225, 3) := by decide +kernel
theorem dX7_sortOf_58 : decode cX7_sortOf 58 = .ok (.ifCond .lt 15, 3) := by decide +kernel
theorem dX7_sortOf_61 : decode cX7_sortOf 61 = .ok (.aload_n 0, 1) := by decide +kernel
theorem dX7_sortOf_62 : decode cX7_sortOf 62 = .ok (.getfield 9, 3) := by decide +kernel
theorem dX7_sortOf_65 : decode cX7_sortOf 65 = .ok (.aload_n 0, 1) := by decide +kernel
theorem dX7_sortOf_66 : decode cX7_sortOf 66 = .ok (.getfield 197, 3) := by decide +kernel
theorem dX7_sortOf_69 : decode cX7_sortOf 69 = .ok (.caload, 1) := by decide +kernel
theorem dX7_sortOf_70 : decode cX7_sortOf 70 = .ok (.goto 4, 3) := by decide +kernel
theorem dX7_sortOf_73 : decode cX7_sortOf 73 = .ok (.iconst 1, 1) := by decide +kernel
theorem dX7_sortOf_74 : decode cX7_sortOf 74 = .ok (.ireturn, 1) := by decide +kernel
theorem dX7_knownWord_0 : decode cX7_knownWord 0 = .ok (.iconst 0, 1) := by decide +kernel
theorem dX7_knownWord_1 : decode cX7_knownWord 1 = .ok (.istore_n 2, 1) := by decide +kernel
theorem dX7_knownWord_2 : decode cX7_knownWord 2 = .ok (.lconst 0, 1) := by decide +kernel
theorem dX7_knownWord_3 : decode cX7_knownWord 3 = .ok (.lstore_n 3, 1) := by decide +kernel
theorem dX7_knownWord_4 : decode cX7_knownWord 4 = .ok (.iconst 0, 1) := by decide +kernel
theorem dX7_knownWord_5 : decode cX7_knownWord 5 = .ok (.istore 5, 2) := by decide +kernel
theorem dX7_knownWord_7 : decode cX7_knownWord 7 = .ok (.iload 5, 2) := by decide +kernel
theorem dX7_knownWord_9 : decode cX7_knownWord 9 = .ok (.ldc 231, 2) := by decide +kernel
theorem dX7_knownWord_11 : decode cX7_knownWord 11 = .ok (.invokevirtual 233, 3) := by decide +kernel
theorem dX7_knownWord_14 : decode cX7_knownWord 14 = .ok (.if_icmp .ge 56, 3) := by decide +kernel
theorem dX7_knownWord_17 : decode cX7_knownWord 17 = .ok (.ldc 231, 2) := by decide +kernel
theorem dX7_knownWord_19 : decode cX7_knownWord 19 = .ok (.iload 5, 2) := by decide +kernel
theorem dX7_knownWord_21 : decode cX7_knownWord 21 = .ok (.invokevirtual 235, 3) := by decide +kernel
theorem dX7_knownWord_24 : decode cX7_knownWord 24 = .ok (.istore 6, 2) := by decide +kernel
theorem dX7_knownWord_26 : decode cX7_knownWord 26 = .ok (.iload 6, 2) := by decide +kernel
theorem dX7_knownWord_28 : decode cX7_knownWord 28 = .ok (.bipush 32, 2) := by decide +kernel
theorem dX7_knownWord_30 : decode cX7_knownWord 30 = .ok (.if_icmp .eq 21, 3) := by decide +kernel
theorem dX7_knownWord_33 : decode cX7_knownWord 33 = .ok (.ldc2_w 204, 3) := by decide +kernel
theorem dX7_knownWord_36 : decode cX7_knownWord 36 = .ok (.lload_n 3, 1) := by decide +kernel
theorem dX7_knownWord_37 : decode cX7_knownWord 37 = .ok (.lmul, 1) := by decide +kernel
theorem dX7_knownWord_38 : decode cX7_knownWord 38 = .ok (.iload 6, 2) := by decide +kernel
theorem dX7_knownWord_40 : decode cX7_knownWord 40 = .ok (.bipush 97, 2) := by decide +kernel
theorem dX7_knownWord_42 : decode cX7_knownWord 42 = .ok (.isub, 1) := by decide +kernel
theorem dX7_knownWord_43 : decode cX7_knownWord 43 = .ok (.iconst 1, 1) := by decide +kernel
theorem dX7_knownWord_44 : decode cX7_knownWord 44 = .ok (.iadd, 1) := by decide +kernel
theorem dX7_knownWord_45 : decode cX7_knownWord 45 = .ok (.i2l, 1) := by decide +kernel
theorem dX7_knownWord_46 : decode cX7_knownWord 46 = .ok (.ladd, 1) := by decide +kernel
theorem dX7_knownWord_47 : decode cX7_knownWord 47 = .ok (.lstore_n 3, 1) := by decide +kernel
theorem dX7_knownWord_48 : decode cX7_knownWord 48 = .ok (.goto 16, 3) := by decide +kernel
theorem dX7_knownWord_51 : decode cX7_knownWord 51 = .ok (.lload_n 3, 1) := by decide +kernel
theorem dX7_knownWord_52 : decode cX7_knownWord 52 = .ok (.lload_n 0, 1) := by decide +kernel
theorem dX7_knownWord_53 : decode cX7_knownWord 53 = .ok (.lcmp, 1) := by decide +kernel
theorem dX7_knownWord_54 : decode cX7_knownWord 54 = .ok (.ifCond .ne 5, 3) := by decide +kernel
theorem dX7_knownWord_57 : decode cX7_knownWord 57 = .ok (.iload_n 2, 1) := by decide +kernel
theorem dX7_knownWord_58 : decode cX7_knownWord 58 = .ok (.ireturn, 1) := by decide +kernel
theorem dX7_knownWord_59 : decode cX7_knownWord 59 = .ok (.lconst 0, 1) := by decide +kernel
theorem dX7_knownWord_60 : decode cX7_knownWord 60 = .ok (.lstore_n 3, 1) := by decide +kernel
theorem dX7_knownWord_61 : decode cX7_knownWord 61 = .ok (.iinc 2 1, 3) := by decide +kernel
theorem dX7_knownWord_64 : decode cX7_knownWord 64 = .ok (.iinc 5 1, 3) := by decide +kernel
theorem dX7_knownWord_67 : decode cX7_knownWord 67 = .ok (.goto (-60), 3) := by decide +kernel
theorem dX7_knownWord_70 : decode cX7_knownWord 70 = .ok (.iconst (-1), 1) := by decide +kernel
theorem dX7_knownWord_71 : decode cX7_knownWord 71 = .ok (.ireturn, 1) := by decide +kernel
theorem dX7_isLetter_0 : decode cX7_isLetter 0 = .ok (.iload_n 0, 1) := by decide +kernel
theorem dX7_isLetter_1 : decode cX7_isLetter 1 = .ok (.bipush 97, 2) := by decide +kernel
theorem dX7_isLetter_3 : decode cX7_isLetter 3 = .ok (.if_icmp .lt 13, 3) := by decide +kernel
theorem dX7_isLetter_6 : decode cX7_isLetter 6 = .ok (.iload_n 0, 1) := by decide +kernel
theorem dX7_isLetter_7 : decode cX7_isLetter 7 = .ok (.bipush 122, 2) := by decide +kernel
theorem dX7_isLetter_9 : decode cX7_isLetter 9 = .ok (.if_icmp .gt 7, 3) := by decide +kernel
theorem dX7_isLetter_12 : decode cX7_isLetter 12 = .ok (.iconst 1, 1) := by decide +kernel
theorem dX7_isLetter_13 : decode cX7_isLetter 13 = .ok (.goto 4, 3) := by decide +kernel
theorem dX7_isLetter_16 : decode cX7_isLetter 16 = .ok (.iconst 0, 1) := by decide +kernel
theorem dX7_isLetter_17 : decode cX7_isLetter 17 = .ok (.ireturn, 1) := by decide +kernel
theorem dX7_isDigit_0 : decode cX7_isDigit 0 = .ok (.iload_n 0, 1) := by decide +kernel
theorem dX7_isDigit_1 : decode cX7_isDigit 1 = .ok (.bipush 48, 2) := by decide +kernel
theorem dX7_isDigit_3 : decode cX7_isDigit 3 = .ok (.if_icmp .lt 13, 3) := by decide +kernel
theorem dX7_isDigit_6 : decode cX7_isDigit 6 = .ok (.iload_n 0, 1) := by decide +kernel
theorem dX7_isDigit_7 : decode cX7_isDigit 7 = .ok (.bipush 57, 2) := by decide +kernel
theorem dX7_isDigit_9 : decode cX7_isDigit 9 = .ok (.if_icmp .gt 7, 3) := by decide +kernel
theorem dX7_isDigit_12 : decode cX7_isDigit 12 = .ok (.iconst 1, 1) := by decide +kernel
theorem dX7_isDigit_13 : decode cX7_isDigit 13 = .ok (.goto 4, 3) := by decide +kernel
theorem dX7_isDigit_16 : decode cX7_isDigit 16 = .ok (.iconst 0, 1) := by decide +kernel
theorem dX7_isDigit_17 : decode cX7_isDigit 17 = .ok (.ireturn, 1) := by decide +kernel
theorem dX8_init_0 : decode cX8_init 0 = .ok (.aload_n 0, 1) := by decide +kernel
theorem dX8_init_1 : decode cX8_init 1 = .ok (.invokespecial 3, 3) := by decide +kernel
theorem dX8_init_4 : decode cX8_init 4 = .ok (.aload_n 0, 1) := by decide +kernel
theorem dX8_init_5 : decode cX8_init 5 = .ok (.sipush 1000, 3) := by decide +kernel
theorem dX8_init_8 : decode cX8_init 8 = .ok (.newarray .int, 2) := by decide +kernel
theorem dX8_init_10 : decode cX8_init 10 = .ok (.putfield 9, 3) := by decide +kernel
theorem dX8_init_13 : decode cX8_init 13 = .ok (.aload_n 0, 1) := by decide +kernel
theorem dX8_init_14 : decode cX8_init 14 = .ok (.bipush 32, 2) := by decide +kernel
theorem dX8_init_16 : decode cX8_init 16 = .ok (.newarray .int, 2) := by decide +kernel
theorem dX8_init_18 : decode cX8_init 18 = .ok (.putfield 15, 3) := by decide +kernel
theorem dX8_init_21 : decode cX8_init 21 = .ok (.return_, 1) := by decide +kernel
theorem dX8_clear_0 : decode cX8_clear 0 = .ok (.aload_n 0, 1) := by decide +kernel
theorem dX8_clear_1 : decode cX8_clear 1 = .ok (.iconst 0, 1) := by decide +kernel
theorem dX8_clear_2 : decode cX8_clear 2 = .ok (.putfield 18, 3) := by decide +kernel
theorem dX8_clear_5 : decode cX8_clear 5 = .ok (.return_, 1) := by decide +kernel
theorem dX8_add_0 : decode cX8_add 0 = .ok (.aload_n 0, 1) := by decide +kernel
theorem dX8_add_1 : decode cX8_add 1 = .ok (.getfield 18, 3) := by decide +kernel
theorem dX8_add_4 : decode cX8_add 4 = .ok (.aload_n 0, 1) := by decide +kernel
theorem dX8_add_5 : decode cX8_add 5 = .ok (.getfield 9, 3) := by decide +kernel
theorem dX8_add_8 : decode cX8_add 8 = .ok (.arraylength, 1) := by decide +kernel
theorem dX8_add_9 : decode cX8_add 9 = .ok (.if_icmp .ge 23, 3) := by decide +kernel
theorem dX8_add_12 : decode cX8_add 12 = .ok (.aload_n 0, 1) := by decide +kernel
theorem dX8_add_13 : decode cX8_add 13 = .ok (.getfield 9, 3) := by decide +kernel
theorem dX8_add_16 : decode cX8_add 16 = .ok (.aload_n 0, 1) := by decide +kernel
theorem dX8_add_17 : decode cX8_add 17 = .ok (.getfield 18, 3) := by decide +kernel
theorem dX8_add_20 : decode cX8_add 20 = .ok (.iload_n 1, 1) := by decide +kernel
theorem dX8_add_21 : decode cX8_add 21 = .ok (.iastore, 1) := by decide +kernel
theorem dX8_add_22 : decode cX8_add 22 = .ok (.aload_n 0, 1) := by decide +kernel
theorem dX8_add_23 : decode cX8_add 23 = .ok (.dup, 1) := by decide +kernel
theorem dX8_add_24 : decode cX8_add 24 = .ok (.getfield 18, 3) := by decide +kernel
theorem dX8_add_27 : decode cX8_add 27 = .ok (.iconst 1, 1) := by decide +kernel
theorem dX8_add_28 : decode cX8_add 28 = .ok (.iadd, 1) := by decide +kernel
theorem dX8_add_29 : decode cX8_add 29 = .ok (.putfield 18, 3) := by decide +kernel
theorem dX8_add_32 : decode cX8_add 32 = .ok (.return_, 1) := by decide +kernel
theorem dX8_value_0 : decode cX8_value 0 = .ok (.iconst 0, 1) := by decide +kernel
theorem dX8_value_1 : decode cX8_value 1 = .ok (.istore 4, 2) := by decide +kernel
theorem dX8_value_3 : decode cX8_value 3 = .ok (.iconst 0, 1) := by decide +kernel
theorem dX8_value_4 : decode cX8_value 4 = .ok (.istore 5, 2) := by decide +kernel
theorem dX8_value_6 : decode cX8_value 6 = .ok (.iload 5, 2) := by decide +kernel
theorem dX8_value_8 : decode cX8_value 8 = .ok (.aload_n 0, 1) := by decide +kernel
theorem dX8_value_9 : decode cX8_value 9 = .ok (.getfield 18, 3) := by decide +kernel
theorem dX8_value_12 : decode cX8_value 12 = .ok (.if_icmp .ge 146, 3) := by decide +kernel
theorem dX8_value_15 : decode cX8_value 15 = .ok (.aload_n 0, 1) := by decide +kernel
theorem dX8_value_16 : decode cX8_value 16 = .ok (.getfield 9, 3) := by decide +kernel
theorem dX8_value_19 : decode cX8_value 19 = .ok (.iload 5, 2) := by decide +kernel
theorem dX8_value_21 : decode cX8_value 21 = .ok (.iaload, 1) := by decide +kernel
theorem dX8_value_22 : decode cX8_value 22 = .ok (.istore 6, 2) := by decide +kernel
theorem dX8_value_24 : decode cX8_value 24 = .ok (.iload 6, 2) := by decide +kernel
theorem dX8_value_26 : decode cX8_value 26 = .ok (.bipush (-4), 2) := by decide +kernel
theorem dX8_value_28 : decode cX8_value 28 = .ok (.if_icmp .le 44, 3) := by decide +kernel
theorem dX8_value_31 : decode cX8_value 31 = .ok (.iload 4, 2) := by decide +kernel
theorem dX8_value_33 : decode cX8_value 33 = .ok (.aload_n 0, 1) := by decide +kernel
theorem dX8_value_34 : decode cX8_value 34 = .ok (.getfield 15, 3) := by decide +kernel
theorem dX8_value_37 : decode cX8_value 37 = .ok (.arraylength, 1) := by decide +kernel
theorem dX8_value_38 : decode cX8_value 38 = .ok (.if_icmp .ge 114, 3) := by decide +kernel
theorem dX8_value_41 : decode cX8_value 41 = .ok (.aload_n 0, 1) := by decide +kernel
theorem dX8_value_42 : decode cX8_value 42 = .ok (.getfield 15, 3) := by decide +kernel
theorem dX8_value_45 : decode cX8_value 45 = .ok (.iload 4, 2) := by decide +kernel
theorem dX8_value_47 : decode cX8_value 47 = .ok (.iload 6, 2) := by decide +kernel
theorem dX8_value_49 : decode cX8_value 49 = .ok (.ifCond .lt 8, 3) := by decide +kernel
theorem dX8_value_52 : decode cX8_value 52 = .ok (.iload 6, 2) := by decide +kernel
theorem dX8_value_54 : decode cX8_value 54 = .ok (.goto 11, 3) := by decide +kernel
theorem dX8_value_57 : decode cX8_value 57 = .ok (.iload 6, 2) := by decide +kernel
theorem dX8_value_59 : decode cX8_value 59 = .ok (.iload_n 1, 1) := by decide +kernel
theorem dX8_value_60 : decode cX8_value 60 = .ok (.iload_n 2, 1) := by decide +kernel
theorem dX8_value_61 : decode cX8_value 61 = .ok (.iload_n 3, 1) := by decide +kernel
theorem dX8_value_62 : decode cX8_value 62 = .ok (.invokestatic 22, 3) := by decide +kernel
theorem dX8_value_65 : decode cX8_value 65 = .ok (.iastore, 1) := by decide +kernel
theorem dX8_value_66 : decode cX8_value 66 = .ok (.iinc 4 1, 3) := by decide +kernel
theorem dX8_value_69 : decode cX8_value 69 = .ok (.goto 83, 3) := by decide +kernel
theorem dX8_value_72 : decode cX8_value 72 = .ok (.iload 6, 2) := by decide +kernel
theorem dX8_value_74 : decode cX8_value 74 = .ok (.bipush (-4), 2) := by decide +kernel
theorem dX8_value_76 : decode cX8_value 76 = .ok (.if_icmp .ne 37, 3) := by decide +kernel
theorem dX8_value_79 : decode cX8_value 79 = .ok (.iload 4, 2) := by decide +kernel
theorem dX8_value_81 : decode cX8_value 81 = .ok (.ifCond .le 71, 3) := by decide +kernel
theorem dX8_value_84 : decode cX8_value 84 = .ok (.aload_n 0, 1) := by decide +kernel
theorem dX8_value_85 : decode cX8_value 85 = .ok (.getfield 15, 3) := by decide +kernel
theorem dX8_value_88 : decode cX8_value 88 = .ok (.iload 4, 2) := by decide +kernel
theorem dX8_value_90 : decode cX8_value 90 = .ok (.iconst 1, 1) := by decide +kernel
theorem dX8_value_91 : decode cX8_value 91 = .ok (.isub, 1) := by decide +kernel
theorem dX8_value_92 : decode cX8_value 92 = .ok (.aload_n 0, 1) := by decide +kernel
theorem dX8_value_93 : decode cX8_value 93 = .ok (.getfield 15, 3) := by decide +kernel
theorem dX8_value_96 : decode cX8_value 96 = .ok (.iload 4, 2) := by decide +kernel
theorem dX8_value_98 : decode cX8_value 98 = .ok (.iconst 1, 1) := by decide +kernel
theorem dX8_value_99 : decode cX8_value 99 = .ok (.isub, 1) := by decide +kernel
theorem dX8_value_100 : decode cX8_value 100 = .ok (.iaload, 1) := by decide +kernel
theorem dX8_value_101 : decode cX8_value 101 = .ok (.ifCond .ne 7, 3) := by decide +kernel
theorem dX8_value_104 : decode cX8_value 104 = .ok (.iconst 1, 1) := by decide +kernel
theorem dX8_value_105 : decode cX8_value 105 = .ok (.goto 4, 3) := by decide +kernel
theorem dX8_value_108 : decode cX8_value 108 = .ok (.iconst 0, 1) := by decide +kernel
theorem dX8_value_109 : decode cX8_value 109 = .ok (.iastore, 1) := by decide +kernel
theorem dX8_value_110 : decode cX8_value 110 = .ok (.goto 42, 3) := by decide +kernel
theorem dX8_value_113 : decode cX8_value 113 = .ok (.iload 4, 2) := by decide +kernel
theorem dX8_value_115 : decode cX8_value 115 = .ok (.iconst 1, 1) := by decide +kernel
theorem dX8_value_116 : decode cX8_value 116 = .ok (.if_icmp .le 36, 3) := by decide +kernel
theorem dX8_value_119 : decode cX8_value 119 = .ok (.iinc 4 (-1), 3) := by decide +kernel
theorem dX8_value_122 : decode cX8_value 122 = .ok (.aload_n 0, 1) := by decide +kernel
theorem dX8_value_123 : decode cX8_value 123 = .ok (.getfield 15, 3) := by decide +kernel
theorem dX8_value_126 : decode cX8_value 126 = .ok (.iload 4, 2) := by decide +kernel
theorem dX8_value_128 : decode cX8_value 128 = .ok (.iconst 1, 1) := by decide +kernel
theorem dX8_value_129 : decode cX8_value 129 = .ok (.isub, 1) := by decide +kernel
theorem dX8_value_130 : decode cX8_value 130 = .ok (.iload 6, 2) := by decide +kernel
theorem dX8_value_132 : decode cX8_value 132 = .ok (.aload_n 0, 1) := by decide +kernel
theorem dX8_value_133 : decode cX8_value 133 = .ok (.getfield 15, 3) := by decide +kernel
theorem dX8_value_136 : decode cX8_value 136 = .ok (.iload 4, 2) := by decide +kernel
theorem dX8_value_138 : decode cX8_value 138 = .ok (.iconst 1, 1) := by decide +kernel
theorem dX8_value_139 : decode cX8_value 139 = .ok (.isub, 1) := by decide +kernel
theorem dX8_value_140 : decode cX8_value 140 = .ok (.iaload, 1) := by decide +kernel
theorem dX8_value_141 : decode cX8_value 141 = .ok (.aload_n 0, 1) := by decide +kernel
theorem dX8_value_142 : decode cX8_value 142 = .ok (.getfield 15, 3) := by decide +kernel
theorem dX8_value_145 : decode cX8_value 145 = .ok (.iload 4, 2) := by decide +kernel
theorem dX8_value_147 : decode cX8_value 147 = .ok (.iaload, 1) := by decide +kernel
theorem dX8_value_148 : decode cX8_value 148 = .ok (.invokestatic 26, 3) := by decide +kernel
theorem dX8_value_151 : decode cX8_value 151 = .ok (.iastore, 1) := by decide +kernel
theorem dX8_value_152 : decode cX8_value 152 = .ok (.iinc 5 1, 3) := by decide +kernel
theorem dX8_value_155 : decode cX8_value 155 = .ok (.goto (-149), 3) := by decide +kernel
theorem dX8_value_158 : decode cX8_value 158 = .ok (.iload 4, 2) := by decide +kernel
theorem dX8_value_160 : decode cX8_value 160 = .ok (.ifCond .le 12, 3) := by decide +kernel
theorem dX8_value_163 : decode cX8_value 163 = .ok (.aload_n 0, 1) := by decide +kernel
theorem dX8_value_164 : decode cX8_value 164 = .ok (.getfield 15, 3) := by decide +kernel
theorem dX8_value_167 : decode cX8_value 167 = .ok (.iconst 0, 1) := by decide +kernel
theorem dX8_value_168 : decode cX8_value 168 = .ok (.iaload, 1) := by decide +kernel
theorem dX8_value_169 : decode cX8_value 169 = .ok (.goto 4, 3) := by decide +kernel
theorem dX8_value_172 : decode cX8_value 172 = .ok (.iconst 0, 1) := by decide +kernel
theorem dX8_value_173 : decode cX8_value 173 = .ok (.ireturn, 1) := by decide +kernel
theorem dX8_fact_0 : decode cX8_fact 0 = .ok (.iload_n 0, 1) := by decide +kernel
theorem dX8_fact_1 : decode cX8_fact 1 = .ok (.iconst (-1), 1) := by decide +kernel
theorem dX8_fact_2 : decode cX8_fact 2 = .ok (.if_icmp .ne 5, 3) := by decide +kernel
theorem dX8_fact_5 : decode cX8_fact 5 = .ok (.iload_n 1, 1) := by decide +kernel
theorem dX8_fact_6 : decode cX8_fact 6 = .ok (.ireturn, 1) := by decide +kernel
theorem dX8_fact_7 : decode cX8_fact 7 = .ok (.iload_n 0, 1) := by decide +kernel
theorem dX8_fact_8 : decode cX8_fact 8 = .ok (.bipush (-2), 2) := by decide +kernel
theorem dX8_fact_10 : decode cX8_fact 10 = .ok (.if_icmp .ne 7, 3) := by decide +kernel
theorem dX8_fact_13 : decode cX8_fact 13 = .ok (.iload_n 2, 1) := by decide +kernel
theorem dX8_fact_14 : decode cX8_fact 14 = .ok (.goto 4, 3) := by decide +kernel
theorem dX8_fact_17 : decode cX8_fact 17 = .ok (.iload_n 3, 1) := by decide +kernel
theorem dX8_fact_18 : decode cX8_fact 18 = .ok (.ireturn, 1) := by decide +kernel
theorem dX8_joined_0 : decode cX8_joined 0 = .ok (.iload_n 0, 1) := by decide +kernel
theorem dX8_joined_1 : decode cX8_joined 1 = .ok (.tableswitch 97 (-10) (-5) #[93, 89, 78, 67, 53, 39], 39) := by decide +kernel
theorem dX8_joined_40 : decode cX8_joined 40 = .ok (.iload_n 1, 1) := by decide +kernel
theorem dX8_joined_41 : decode cX8_joined 41 = .ok (.ifCond .eq 11, 3) := by decide +kernel
theorem dX8_joined_44 : decode cX8_joined 44 = .ok (.iload_n 2, 1) := by decide +kernel
theorem dX8_joined_45 : decode cX8_joined 45 = .ok (.ifCond .eq 7, 3) := by decide +kernel
theorem dX8_joined_48 : decode cX8_joined 48 = .ok (.iconst 1, 1) := by decide +kernel
theorem dX8_joined_49 : decode cX8_joined 49 = .ok (.goto 4, 3) := by decide +kernel
theorem dX8_joined_52 : decode cX8_joined 52 = .ok (.iconst 0, 1) := by decide +kernel
theorem dX8_joined_53 : decode cX8_joined 53 = .ok (.ireturn, 1) := by decide +kernel
theorem dX8_joined_54 : decode cX8_joined 54 = .ok (.iload_n 1, 1) := by decide +kernel
theorem dX8_joined_55 : decode cX8_joined 55 = .ok (.ifCond .ne 7, 3) := by decide +kernel
theorem dX8_joined_58 : decode cX8_joined 58 = .ok (.iload_n 2, 1) := by decide +kernel
theorem dX8_joined_59 : decode cX8_joined 59 = .ok (.ifCond .eq 7, 3) := by decide +kernel
theorem dX8_joined_62 : decode cX8_joined 62 = .ok (.iconst 1, 1) := by decide +kernel
theorem dX8_joined_63 : decode cX8_joined 63 = .ok (.goto 4, 3) := by decide +kernel
theorem dX8_joined_66 : decode cX8_joined 66 = .ok (.iconst 0, 1) := by decide +kernel
theorem dX8_joined_67 : decode cX8_joined 67 = .ok (.ireturn, 1) := by decide +kernel
theorem dX8_joined_68 : decode cX8_joined 68 = .ok (.iload_n 1, 1) := by decide +kernel
theorem dX8_joined_69 : decode cX8_joined 69 = .ok (.iload_n 2, 1) := by decide +kernel
theorem dX8_joined_70 : decode cX8_joined 70 = .ok (.if_icmp .ge 7, 3) := by decide +kernel
theorem dX8_joined_73 : decode cX8_joined 73 = .ok (.iconst 1, 1) := by decide +kernel
theorem dX8_joined_74 : decode cX8_joined 74 = .ok (.goto 4, 3) := by decide +kernel
theorem dX8_joined_77 : decode cX8_joined 77 = .ok (.iconst 0, 1) := by decide +kernel
theorem dX8_joined_78 : decode cX8_joined 78 = .ok (.ireturn, 1) := by decide +kernel
theorem dX8_joined_79 : decode cX8_joined 79 = .ok (.iload_n 1, 1) := by decide +kernel
theorem dX8_joined_80 : decode cX8_joined 80 = .ok (.iload_n 2, 1) := by decide +kernel
theorem dX8_joined_81 : decode cX8_joined 81 = .ok (.if_icmp .ne 7, 3) := by decide +kernel
theorem dX8_joined_84 : decode cX8_joined 84 = .ok (.iconst 1, 1) := by decide +kernel
theorem dX8_joined_85 : decode cX8_joined 85 = .ok (.goto 4, 3) := by decide +kernel
theorem dX8_joined_88 : decode cX8_joined 88 = .ok (.iconst 0, 1) := by decide +kernel
theorem dX8_joined_89 : decode cX8_joined 89 = .ok (.ireturn, 1) := by decide +kernel
theorem dX8_joined_90 : decode cX8_joined 90 = .ok (.iload_n 1, 1) := by decide +kernel
theorem dX8_joined_91 : decode cX8_joined 91 = .ok (.iload_n 2, 1) := by decide +kernel
theorem dX8_joined_92 : decode cX8_joined 92 = .ok (.iadd, 1) := by decide +kernel
theorem dX8_joined_93 : decode cX8_joined 93 = .ok (.ireturn, 1) := by decide +kernel
theorem dX8_joined_94 : decode cX8_joined 94 = .ok (.iload_n 1, 1) := by decide +kernel
theorem dX8_joined_95 : decode cX8_joined 95 = .ok (.iload_n 2, 1) := by decide +kernel
theorem dX8_joined_96 : decode cX8_joined 96 = .ok (.isub, 1) := by decide +kernel
theorem dX8_joined_97 : decode cX8_joined 97 = .ok (.ireturn, 1) := by decide +kernel
theorem dX8_joined_98 : decode cX8_joined 98 = .ok (.iload_n 1, 1) := by decide +kernel
theorem dX8_joined_99 : decode cX8_joined 99 = .ok (.iload_n 2, 1) := by decide +kernel
theorem dX8_joined_100 : decode cX8_joined 100 = .ok (.imul, 1) := by decide +kernel
theorem dX8_joined_101 : decode cX8_joined 101 = .ok (.ireturn, 1) := by decide +kernel
theorem dX9_init_0 : decode cX9_init 0 = .ok (.aload_n 0, 1) := by decide +kernel
theorem dX9_init_1 : decode cX9_init 1 = .ok (.invokespecial 3, 3) := by decide +kernel
theorem dX9_init_4 : decode cX9_init 4 = .ok (.aload_n 0, 1) := by decide +kernel
theorem dX9_init_5 : decode cX9_init 5 = .ok (.bipush 6, 2) := by decide +kernel
theorem dX9_init_7 : decode cX9_init 7 = .ok (.newarray .int, 2) := by decide +kernel
theorem dX9_init_9 : decode cX9_init 9 = .ok (.putfield 9, 3) := by decide +kernel
theorem dX9_init_12 : decode cX9_init 12 = .ok (.aload_n 0, 1) := by decide +kernel
theorem dX9_init_13 : decode cX9_init 13 = .ok (.bipush 6, 2) := by decide +kernel
theorem dX9_init_15 : decode cX9_init 15 = .ok (.newarray .int, 2) := by decide +kernel
theorem dX9_init_17 : decode cX9_init 17 = .ok (.putfield 15, 3) := by decide +kernel
theorem dX9_init_20 : decode cX9_init 20 = .ok (.aload_n 0, 1) := by decide +kernel
theorem dX9_init_21 : decode cX9_init 21 = .ok (.bipush 6, 2) := by decide +kernel
theorem dX9_init_23 : decode cX9_init 23 = .ok (.newarray .int, 2) := by decide +kernel
theorem dX9_init_25 : decode cX9_init 25 = .ok (.putfield 18, 3) := by decide +kernel
theorem dX9_init_28 : decode cX9_init 28 = .ok (.aload_n 0, 1) := by decide +kernel
theorem dX9_init_29 : decode cX9_init 29 = .ok (.bipush 8, 2) := by decide +kernel
theorem dX9_init_31 : decode cX9_init 31 = .ok (.newarray .int, 2) := by decide +kernel
theorem dX9_init_33 : decode cX9_init 33 = .ok (.putfield 21, 3) := by decide +kernel
theorem dX9_init_36 : decode cX9_init 36 = .ok (.return_, 1) := by decide +kernel
theorem dX9_begin_0 : decode cX9_begin 0 = .ok (.aload_n 0, 1) := by decide +kernel
theorem dX9_begin_1 : decode cX9_begin 1 = .ok (.getfield 9, 3) := by decide +kernel
theorem dX9_begin_4 : decode cX9_begin 4 = .ok (.iconst 0, 1) := by decide +kernel
theorem dX9_begin_5 : decode cX9_begin 5 = .ok (.invokestatic 24, 3) := by decide +kernel
theorem dX9_begin_8 : decode cX9_begin 8 = .ok (.aload_n 0, 1) := by decide +kernel
theorem dX9_begin_9 : decode cX9_begin 9 = .ok (.getfield 15, 3) := by decide +kernel
theorem dX9_begin_12 : decode cX9_begin 12 = .ok (.iconst 0, 1) := by decide +kernel
theorem dX9_begin_13 : decode cX9_begin 13 = .ok (.invokestatic 24, 3) := by decide +kernel
theorem dX9_begin_16 : decode cX9_begin 16 = .ok (.aload_n 0, 1) := by decide +kernel
theorem dX9_begin_17 : decode cX9_begin 17 = .ok (.getfield 18, 3) := by decide +kernel
theorem dX9_begin_20 : decode cX9_begin 20 = .ok (.iconst 0, 1) := by decide +kernel
theorem dX9_begin_21 : decode cX9_begin 21 = .ok (.invokestatic 24, 3) := by decide +kernel
theorem dX9_begin_24 : decode cX9_begin 24 = .ok (.aload_n 1, 1) := by decide +kernel
theorem dX9_begin_25 : decode cX9_begin 25 = .ok (.getfield 30, 3) := by decide +kernel
theorem dX9_begin_28 : decode cX9_begin 28 = .ok (.iconst 0, 1) := by decide +kernel
theorem dX9_begin_29 : decode cX9_begin 29 = .ok (.aload_n 0, 1) := by decide +kernel
theorem dX9_begin_30 : decode cX9_begin 30 = .ok (.getfield 21, 3) := by decide +kernel
theorem dX9_begin_33 : decode cX9_begin 33 = .ok (.iconst 0, 1) := by decide +kernel
theorem dX9_begin_34 : decode cX9_begin 34 = .ok (.bipush 8, 2) := by decide +kernel
theorem dX9_begin_36 : decode cX9_begin 36 = .ok (.invokestatic 33, 3) := by decide +kernel
theorem dX9_begin_39 : decode cX9_begin 39 = .ok (.aload_n 0, 1) := by decide +kernel
theorem dX9_begin_40 : decode cX9_begin 40 = .ok (.aload_n 1, 1) := by decide +kernel
theorem dX9_begin_41 : decode cX9_begin 41 = .ok (.getfield 39, 3) := by decide +kernel
theorem dX9_begin_44 : decode cX9_begin 44 = .ok (.putfield 43, 3) := by decide +kernel
theorem dX9_begin_47 : decode cX9_begin 47 = .ok (.aload_n 0, 1) := by decide +kernel
theorem dX9_begin_48 : decode cX9_begin 48 = .ok (.iconst 0, 1) := by decide +kernel
theorem dX9_begin_49 : decode cX9_begin 49 = .ok (.putfield 44, 3) := by decide +kernel
theorem dX9_begin_52 : decode cX9_begin 52 = .ok (.return_, 1) := by decide +kernel
theorem dX9_copyFrom_0 : decode cX9_copyFrom 0 = .ok (.aload_n 1, 1) := by decide +kernel
theorem dX9_copyFrom_1 : decode cX9_copyFrom 1 = .ok (.getfield 9, 3) := by decide +kernel
theorem dX9_copyFrom_4 : decode cX9_copyFrom 4 = .ok (.iconst 0, 1) := by decide +kernel
theorem dX9_copyFrom_5 : decode cX9_copyFrom 5 = .ok (.aload_n 0, 1) := by decide +kernel
theorem dX9_copyFrom_6 : decode cX9_copyFrom 6 = .ok (.getfield 9, 3) := by decide +kernel
theorem dX9_copyFrom_9 : decode cX9_copyFrom 9 = .ok (.iconst 0, 1) := by decide +kernel
theorem dX9_copyFrom_10 : decode cX9_copyFrom 10 = .ok (.bipush 6, 2) := by decide +kernel
theorem dX9_copyFrom_12 : decode cX9_copyFrom 12 = .ok (.invokestatic 33, 3) := by decide +kernel
theorem dX9_copyFrom_15 : decode cX9_copyFrom 15 = .ok (.aload_n 1, 1) := by decide +kernel
theorem dX9_copyFrom_16 : decode cX9_copyFrom 16 = .ok (.getfield 15, 3) := by decide +kernel
theorem dX9_copyFrom_19 : decode cX9_copyFrom 19 = .ok (.iconst 0, 1) := by decide +kernel
theorem dX9_copyFrom_20 : decode cX9_copyFrom 20 = .ok (.aload_n 0, 1) := by decide +kernel
theorem dX9_copyFrom_21 : decode cX9_copyFrom 21 = .ok (.getfield 15, 3) := by decide +kernel
theorem dX9_copyFrom_24 : decode cX9_copyFrom 24 = .ok (.iconst 0, 1) := by decide +kernel
theorem dX9_copyFrom_25 : decode cX9_copyFrom 25 = .ok (.bipush 6, 2) := by decide +kernel
theorem dX9_copyFrom_27 : decode cX9_copyFrom 27 = .ok (.invokestatic 33, 3) := by decide +kernel
theorem dX9_copyFrom_30 : decode cX9_copyFrom 30 = .ok (.aload_n 1, 1) := by decide +kernel
theorem dX9_copyFrom_31 : decode cX9_copyFrom 31 = .ok (.getfield 18, 3) := by decide +kernel
theorem dX9_copyFrom_34 : decode cX9_copyFrom 34 = .ok (.iconst 0, 1) := by decide +kernel
theorem dX9_copyFrom_35 : decode cX9_copyFrom 35 = .ok (.aload_n 0, 1) := by decide +kernel
theorem dX9_copyFrom_36 : decode cX9_copyFrom 36 = .ok (.getfield 18, 3) := by decide +kernel
theorem dX9_copyFrom_39 : decode cX9_copyFrom 39 = .ok (.iconst 0, 1) := by decide +kernel
theorem dX9_copyFrom_40 : decode cX9_copyFrom 40 = .ok (.bipush 6, 2) := by decide +kernel
theorem dX9_copyFrom_42 : decode cX9_copyFrom 42 = .ok (.invokestatic 33, 3) := by decide +kernel
theorem dX9_copyFrom_45 : decode cX9_copyFrom 45 = .ok (.aload_n 1, 1) := by decide +kernel
theorem dX9_copyFrom_46 : decode cX9_copyFrom 46 = .ok (.getfield 21, 3) := by decide +kernel
theorem dX9_copyFrom_49 : decode cX9_copyFrom 49 = .ok (.iconst 0, 1) := by decide +kernel
theorem dX9_copyFrom_50 : decode cX9_copyFrom 50 = .ok (.aload_n 0, 1) := by decide +kernel
theorem dX9_copyFrom_51 : decode cX9_copyFrom 51 = .ok (.getfield 21, 3) := by decide +kernel
theorem dX9_copyFrom_54 : decode cX9_copyFrom 54 = .ok (.iconst 0, 1) := by decide +kernel
theorem dX9_copyFrom_55 : decode cX9_copyFrom 55 = .ok (.bipush 8, 2) := by decide +kernel
theorem dX9_copyFrom_57 : decode cX9_copyFrom 57 = .ok (.invokestatic 33, 3) := by decide +kernel
theorem dX9_copyFrom_60 : decode cX9_copyFrom 60 = .ok (.aload_n 0, 1) := by decide +kernel
theorem dX9_copyFrom_61 : decode cX9_copyFrom 61 = .ok (.aload_n 1, 1) := by decide +kernel
theorem dX9_copyFrom_62 : decode cX9_copyFrom 62 = .ok (.getfield 43, 3) := by decide +kernel
theorem dX9_copyFrom_65 : decode cX9_copyFrom 65 = .ok (.putfield 43, 3) := by decide +kernel
theorem dX9_copyFrom_68 : decode cX9_copyFrom 68 = .ok (.aload_n 0, 1) := by decide +kernel
theorem dX9_copyFrom_69 : decode cX9_copyFrom 69 = .ok (.aload_n 1, 1) := by decide +kernel
theorem dX9_copyFrom_70 : decode cX9_copyFrom 70 = .ok (.getfield 44, 3) := by decide +kernel
theorem dX9_copyFrom_73 : decode cX9_copyFrom 73 = .ok (.putfield 44, 3) := by decide +kernel
theorem dX9_copyFrom_76 : decode cX9_copyFrom 76 = .ok (.return_, 1) := by decide +kernel
theorem dX9_isLaw_0 : decode cX9_isLaw 0 = .ok (.aload_n 0, 1) := by decide +kernel
theorem dX9_isLaw_1 : decode cX9_isLaw 1 = .ok (.getfield 18, 3) := by decide +kernel
theorem dX9_isLaw_4 : decode cX9_isLaw 4 = .ok (.iload_n 2, 1) := by decide +kernel
theorem dX9_isLaw_5 : decode cX9_isLaw 5 = .ok (.iaload, 1) := by decide +kernel
theorem dX9_isLaw_6 : decode cX9_isLaw 6 = .ok (.invokestatic 47, 3) := by decide +kernel
theorem dX9_isLaw_9 : decode cX9_isLaw 9 = .ok (.aload_n 1, 1) := by decide +kernel
theorem dX9_isLaw_10 : decode cX9_isLaw 10 = .ok (.iload_n 2, 1) := by decide +kernel
theorem dX9_isLaw_11 : decode cX9_isLaw 11 = .ok (.invokevirtual 53, 3) := by decide +kernel
theorem dX9_isLaw_14 : decode cX9_isLaw 14 = .ok (.if_icmp .ne 17, 3) := by decide +kernel
theorem dX9_isLaw_17 : decode cX9_isLaw 17 = .ok (.aload_n 0, 1) := by decide +kernel
theorem dX9_isLaw_18 : decode cX9_isLaw 18 = .ok (.getfield 15, 3) := by decide +kernel
theorem dX9_isLaw_21 : decode cX9_isLaw 21 = .ok (.iload_n 2, 1) := by decide +kernel
theorem dX9_isLaw_22 : decode cX9_isLaw 22 = .ok (.iaload, 1) := by decide +kernel
theorem dX9_isLaw_23 : decode cX9_isLaw 23 = .ok (.iconst 3, 1) := by decide +kernel
theorem dX9_isLaw_24 : decode cX9_isLaw 24 = .ok (.if_icmp .ge 7, 3) := by decide +kernel
theorem dX9_isLaw_27 : decode cX9_isLaw 27 = .ok (.iconst 1, 1) := by decide +kernel
theorem dX9_isLaw_28 : decode cX9_isLaw 28 = .ok (.goto 4, 3) := by decide +kernel
theorem dX9_isLaw_31 : decode cX9_isLaw 31 = .ok (.iconst 0, 1) := by decide +kernel
theorem dX9_isLaw_32 : decode cX9_isLaw 32 = .ok (.ireturn, 1) := by decide +kernel
theorem dX9_isTurned_0 : decode cX9_isTurned 0 = .ok (.aload_n 0, 1) := by decide +kernel
theorem dX9_isTurned_1 : decode cX9_isTurned 1 = .ok (.getfield 18, 3) := by decide +kernel
theorem dX9_isTurned_4 : decode cX9_isTurned 4 = .ok (.iload_n 1, 1) := by decide +kernel
theorem dX9_isTurned_5 : decode cX9_isTurned 5 = .ok (.iaload, 1) := by decide +kernel
theorem dX9_isTurned_6 : decode cX9_isTurned 6 = .ok (.invokestatic 47, 3) := by decide +kernel
theorem dX9_isTurned_9 : decode cX9_isTurned 9 = .ok (.iconst 1, 1) := by decide +kernel
theorem dX9_isTurned_10 : decode cX9_isTurned 10 = .ok (.if_icmp .ne 7, 3) := by decide +kernel
theorem dX9_isTurned_13 : decode cX9_isTurned 13 = .ok (.iconst 1, 1) := by decide +kernel
theorem dX9_isTurned_14 : decode cX9_isTurned 14 = .ok (.goto 4, 3) := by decide +kernel
theorem dX9_isTurned_17 : decode cX9_isTurned 17 = .ok (.iconst 0, 1) := by decide +kernel
theorem dX9_isTurned_18 : decode cX9_isTurned 18 = .ok (.ireturn, 1) := by decide +kernel
theorem dX9_lawBits_0 : decode cX9_lawBits 0 = .ok (.iconst 0, 1) := by decide +kernel
theorem dX9_lawBits_1 : decode cX9_lawBits 1 = .ok (.istore_n 2, 1) := by decide +kernel
theorem dX9_lawBits_2 : decode cX9_lawBits 2 = .ok (.iconst 0, 1) := by decide +kernel
theorem dX9_lawBits_3 : decode cX9_lawBits 3 = .ok (.istore_n 3, 1) := by decide +kernel
theorem dX9_lawBits_4 : decode cX9_lawBits 4 = .ok (.iload_n 3, 1) := by decide +kernel
theorem dX9_lawBits_5 : decode cX9_lawBits 5 = .ok (.aload_n 1, 1) := by decide +kernel
theorem dX9_lawBits_6 : decode cX9_lawBits 6 = .ok (.getfield 56, 3) := by decide +kernel
theorem dX9_lawBits_9 : decode cX9_lawBits 9 = .ok (.if_icmp .ge 24, 3) := by decide +kernel
theorem dX9_lawBits_12 : decode cX9_lawBits 12 = .ok (.aload_n 0, 1) := by decide +kernel
theorem dX9_lawBits_13 : decode cX9_lawBits 13 = .ok (.aload_n 1, 1) := by decide +kernel
theorem dX9_lawBits_14 : decode cX9_lawBits 14 = .ok (.iload_n 3, 1) := by decide +kernel
theorem dX9_lawBits_15 : decode cX9_lawBits 15 = .ok (.invokevirtual 59, 3) := by decide +kernel
theorem dX9_lawBits_18 : decode cX9_lawBits 18 = .ok (.ifCond .eq 9, 3) := by decide +kernel
theorem dX9_lawBits_21 : decode cX9_lawBits 21 = .ok (.iload_n 2, 1) := by decide +kernel
theorem dX9_lawBits_22 : decode cX9_lawBits 22 = .ok (.iconst 1, 1) := by decide +kernel
theorem dX9_lawBits_23 : decode cX9_lawBits 23 = .ok (.iload_n 3, 1) := by decide +kernel
theorem dX9_lawBits_24 : decode cX9_lawBits 24 = .ok (.ishl, 1) := by decide +kernel
theorem dX9_lawBits_25 : decode cX9_lawBits 25 = .ok (.ior, 1) := by decide +kernel
theorem dX9_lawBits_26 : decode cX9_lawBits 26 = .ok (.istore_n 2, 1) := by decide +kernel
theorem dX9_lawBits_27 : decode cX9_lawBits 27 = .ok (.iinc 3 1, 3) := by decide +kernel
theorem dX9_lawBits_30 : decode cX9_lawBits 30 = .ok (.goto (-26), 3) := by decide +kernel
theorem dX9_lawBits_33 : decode cX9_lawBits 33 = .ok (.iload_n 2, 1) := by decide +kernel
theorem dX9_lawBits_34 : decode cX9_lawBits 34 = .ok (.ireturn, 1) := by decide +kernel
theorem dX9_turnedBits_0 : decode cX9_turnedBits 0 = .ok (.iconst 0, 1) := by decide +kernel
theorem dX9_turnedBits_1 : decode cX9_turnedBits 1 = .ok (.istore_n 2, 1) := by decide +kernel
theorem dX9_turnedBits_2 : decode cX9_turnedBits 2 = .ok (.iconst 0, 1) := by decide +kernel
theorem dX9_turnedBits_3 : decode cX9_turnedBits 3 = .ok (.istore_n 3, 1) := by decide +kernel
theorem dX9_turnedBits_4 : decode cX9_turnedBits 4 = .ok (.iload_n 3, 1) := by decide +kernel
theorem dX9_turnedBits_5 : decode cX9_turnedBits 5 = .ok (.aload_n 1, 1) := by decide +kernel
theorem dX9_turnedBits_6 : decode cX9_turnedBits 6 = .ok (.getfield 56, 3) := by decide +kernel
theorem dX9_turnedBits_9 : decode cX9_turnedBits 9 = .ok (.if_icmp .ge 23, 3) := by decide +kernel
theorem dX9_turnedBits_12 : decode cX9_turnedBits 12 = .ok (.aload_n 0, 1) := by decide +kernel
theorem dX9_turnedBits_13 : decode cX9_turnedBits 13 = .ok (.iload_n 3, 1) := by decide +kernel
theorem dX9_turnedBits_14 : decode cX9_turnedBits 14 = .ok (.invokevirtual 63, 3) := by decide +kernel
theorem dX9_turnedBits_17 : decode cX9_turnedBits 17 = .ok (.ifCond .eq 9, 3) := by decide +kernel
theorem dX9_turnedBits_20 : decode cX9_turnedBits 20 = .ok (.iload_n 2, 1) := by decide +kernel
theorem dX9_turnedBits_21 : decode cX9_turnedBits 21 = .ok (.iconst 1, 1) := by decide +kernel
theorem dX9_turnedBits_22 : decode cX9_turnedBits 22 = .ok (.iload_n 3, 1) := by decide +kernel
theorem dX9_turnedBits_23 : decode cX9_turnedBits 23 = .ok (.ishl, 1) := by decide +kernel
theorem dX9_turnedBits_24 : decode cX9_turnedBits 24 = .ok (.ior, 1) := by decide +kernel
theorem dX9_turnedBits_25 : decode cX9_turnedBits 25 = .ok (.istore_n 2, 1) := by decide +kernel
theorem dX9_turnedBits_26 : decode cX9_turnedBits 26 = .ok (.iinc 3 1, 3) := by decide +kernel
theorem dX9_turnedBits_29 : decode cX9_turnedBits 29 = .ok (.goto (-25), 3) := by decide +kernel
theorem dX9_turnedBits_32 : decode cX9_turnedBits 32 = .ok (.iload_n 2, 1) := by decide +kernel
theorem dX9_turnedBits_33 : decode cX9_turnedBits 33 = .ok (.ireturn, 1) := by decide +kernel
theorem dX9_worthOfLaws_0 : decode cX9_worthOfLaws 0 = .ok (.aload_n 1, 1) := by decide +kernel
theorem dX9_worthOfLaws_1 : decode cX9_worthOfLaws 1 = .ok (.aload_n 0, 1) := by decide +kernel
theorem dX9_worthOfLaws_2 : decode cX9_worthOfLaws 2 = .ok (.aload_n 1, 1) := by decide +kernel
theorem dX9_worthOfLaws_3 : decode cX9_worthOfLaws 3 = .ok (.invokevirtual 67, 3) := by decide +kernel
theorem dX9_worthOfLaws_6 : decode cX9_worthOfLaws 6 = .ok (.invokevirtual 71, 3) := by decide +kernel
theorem dX9_worthOfLaws_9 : decode cX9_worthOfLaws 9 = .ok (.ireturn, 1) := by decide +kernel
theorem dX9_roomOf_0 : decode cX9_roomOf 0 = .ok (.aload_n 1, 1) := by decide +kernel
theorem dX9_roomOf_1 : decode cX9_roomOf 1 = .ok (.iload_n 2, 1) := by decide +kernel
theorem dX9_roomOf_2 : decode cX9_roomOf 2 = .ok (.aload_n 0, 1) := by decide +kernel
theorem dX9_roomOf_3 : decode cX9_roomOf 3 = .ok (.getfield 18, 3) := by decide +kernel
theorem dX9_roomOf_6 : decode cX9_roomOf 6 = .ok (.iload_n 2, 1) := by decide +kernel
theorem dX9_roomOf_7 : decode cX9_roomOf 7 = .ok (.iaload, 1) := by decide +kernel
theorem dX9_roomOf_8 : decode cX9_roomOf 8 = .ok (.invokestatic 47, 3) := by decide +kernel
theorem dX9_roomOf_11 : decode cX9_roomOf 11 = .ok (.invokestatic 74, 3) := by decide +kernel
theorem dX9_roomOf_14 : decode cX9_roomOf 14 = .ok (.ireturn, 1) := by decide +kernel
theorem dX9_roomLeft_0 : decode cX9_roomLeft 0 = .ok (.aload_n 1, 1) := by decide +kernel
theorem dX9_roomLeft_1 : decode cX9_roomLeft 1 = .ok (.getfield 78, 3) := by decide +kernel
theorem dX9_roomLeft_4 : decode cX9_roomLeft 4 = .ok (.istore_n 2, 1) := by decide +kernel
theorem dX9_roomLeft_5 : decode cX9_roomLeft 5 = .ok (.iconst 0, 1) := by decide +kernel
theorem dX9_roomLeft_6 : decode cX9_roomLeft 6 = .ok (.istore_n 3, 1) := by decide +kernel
theorem dX9_roomLeft_7 : decode cX9_roomLeft 7 = .ok (.iload_n 3, 1) := by decide +kernel
theorem dX9_roomLeft_8 : decode cX9_roomLeft 8 = .ok (.aload_n 1, 1) := by decide +kernel
theorem dX9_roomLeft_9 : decode cX9_roomLeft 9 = .ok (.getfield 56, 3) := by decide +kernel
theorem dX9_roomLeft_12 : decode cX9_roomLeft 12 = .ok (.if_icmp .ge 18, 3) := by decide +kernel
theorem dX9_roomLeft_15 : decode cX9_roomLeft 15 = .ok (.iload_n 2, 1) := by decide +kernel
theorem dX9_roomLeft_16 : decode cX9_roomLeft 16 = .ok (.aload_n 0, 1) := by decide +kernel
theorem dX9_roomLeft_17 : decode cX9_roomLeft 17 = .ok (.aload_n 1, 1) := by decide +kernel
theorem dX9_roomLeft_18 : decode cX9_roomLeft 18 = .ok (.iload_n 3, 1) := by decide +kernel
theorem dX9_roomLeft_19 : decode cX9_roomLeft 19 = .ok (.invokevirtual 81, 3) := by decide +kernel
theorem dX9_roomLeft_22 : decode cX9_roomLeft 22 = .ok (.isub, 1) := by decide +kernel
theorem dX9_roomLeft_23 : decode cX9_roomLeft 23 = .ok (.istore_n 2, 1) := by decide +kernel
theorem dX9_roomLeft_24 : decode cX9_roomLeft 24 = .ok (.iinc 3 1, 3) := by decide +kernel
theorem dX9_roomLeft_27 : decode cX9_roomLeft 27 = .ok (.goto (-20), 3) := by decide +kernel
theorem dX9_roomLeft_30 : decode cX9_roomLeft 30 = .ok (.iload_n 2, 1) := by decide +kernel
theorem dX9_roomLeft_31 : decode cX9_roomLeft 31 = .ok (.ireturn, 1) := by decide +kernel
theorem dX9_heldBy_0 : decode cX9_heldBy 0 = .ok (.iconst 0, 1) := by decide +kernel
theorem dX9_heldBy_1 : decode cX9_heldBy 1 = .ok (.istore_n 2, 1) := by decide +kernel
theorem dX9_heldBy_2 : decode cX9_heldBy 2 = .ok (.iload_n 2, 1) := by decide +kernel
theorem dX9_heldBy_3 : decode cX9_heldBy 3 = .ok (.bipush 6, 2) := by decide +kernel
theorem dX9_heldBy_5 : decode cX9_heldBy 5 = .ok (.if_icmp .ge 24, 3) := by decide +kernel
theorem dX9_heldBy_8 : decode cX9_heldBy 8 = .ok (.aload_n 0, 1) := by decide +kernel
theorem dX9_heldBy_9 : decode cX9_heldBy 9 = .ok (.getfield 18, 3) := by decide +kernel
theorem dX9_heldBy_12 : decode cX9_heldBy 12 = .ok (.iload_n 2, 1) := by decide +kernel
theorem dX9_heldBy_13 : decode cX9_heldBy 13 = .ok (.iaload, 1) := by decide +kernel
theorem dX9_heldBy_14 : decode cX9_heldBy 14 = .ok (.iload_n 1, 1) := by decide +kernel
theorem dX9_heldBy_15 : decode cX9_heldBy 15 = .ok (.ishr, 1) := by decide +kernel
theorem dX9_heldBy_16 : decode cX9_heldBy 16 = .ok (.iconst 1, 1) := by decide +kernel
theorem dX9_heldBy_17 : decode cX9_heldBy 17 = .ok (.iand, 1) := by decide +kernel
theorem dX9_heldBy_18 : decode cX9_heldBy 18 = .ok (.ifCond .eq 5, 3) := by decide +kernel
theorem dX9_heldBy_21 : decode cX9_heldBy 21 = .ok (.iload_n 2, 1) := by decide +kernel
theorem dX9_heldBy_22 : decode cX9_heldBy 22 = .ok (.ireturn, 1) := by decide +kernel
theorem dX9_heldBy_23 : decode cX9_heldBy 23 = .ok (.iinc 2 1, 3) := by decide +kernel
theorem dX9_heldBy_26 : decode cX9_heldBy 26 = .ok (.goto (-24), 3) := by decide +kernel
theorem dX9_heldBy_29 : decode cX9_heldBy 29 = .ok (.iconst (-1), 1) := by decide +kernel
theorem dX9_heldBy_30 : decode cX9_heldBy 30 = .ok (.ireturn, 1) := by decide +kernel
theorem dX9_freePegs_0 : decode cX9_freePegs 0 = .ok (.aload_n 0, 1) := by decide +kernel
theorem dX9_freePegs_1 : decode cX9_freePegs 1 = .ok (.invokevirtual 85, 3) := by decide +kernel
theorem dX9_freePegs_4 : decode cX9_freePegs 4 = .ok (.istore_n 1, 1) := by decide +kernel
theorem dX9_freePegs_5 : decode cX9_freePegs 5 = .ok (.iconst 0, 1) := by decide +kernel
theorem dX9_freePegs_6 : decode cX9_freePegs 6 = .ok (.istore_n 2, 1) := by decide +kernel
theorem dX9_freePegs_7 : decode cX9_freePegs 7 = .ok (.iload_n 2, 1) := by decide +kernel
theorem dX9_freePegs_8 : decode cX9_freePegs 8 = .ok (.bipush 6, 2) := by decide +kernel
theorem dX9_freePegs_10 : decode cX9_freePegs 10 = .ok (.if_icmp .ge 20, 3) := by decide +kernel
theorem dX9_freePegs_13 : decode cX9_freePegs 13 = .ok (.iload_n 1, 1) := by decide +kernel
theorem dX9_freePegs_14 : decode cX9_freePegs 14 = .ok (.aload_n 0, 1) := by decide +kernel
theorem dX9_freePegs_15 : decode cX9_freePegs 15 = .ok (.getfield 18, 3) := by decide +kernel
theorem dX9_freePegs_18 : decode cX9_freePegs 18 = .ok (.iload_n 2, 1) := by decide +kernel
theorem dX9_freePegs_19 : decode cX9_freePegs 19 = .ok (.iaload, 1) := by decide +kernel
theorem dX9_freePegs_20 : decode cX9_freePegs 20 = .ok (.iconst (-1), 1) := by decide +kernel
theorem dX9_freePegs_21 : decode cX9_freePegs 21 = .ok (.ixor, 1) := by decide +kernel
theorem dX9_freePegs_22 : decode cX9_freePegs 22 = .ok (.iand, 1) := by decide +kernel
theorem dX9_freePegs_23 : decode cX9_freePegs 23 = .ok (.istore_n 1, 1) := by decide +kernel
theorem dX9_freePegs_24 : decode cX9_freePegs 24 = .ok (.iinc 2 1, 3) := by decide +kernel
theorem dX9_freePegs_27 : decode cX9_freePegs 27 = .ok (.goto (-20), 3) := by decide +kernel
theorem dX9_freePegs_30 : decode cX9_freePegs 30 = .ok (.iload_n 1, 1) := by decide +kernel
theorem dX9_freePegs_31 : decode cX9_freePegs 31 = .ok (.ireturn, 1) := by decide +kernel
theorem dX9_unsplitPegs_0 : decode cX9_unsplitPegs 0 = .ok (.iconst 0, 1) := by decide +kernel
theorem dX9_unsplitPegs_1 : decode cX9_unsplitPegs 1 = .ok (.istore_n 1, 1) := by decide +kernel
theorem dX9_unsplitPegs_2 : decode cX9_unsplitPegs 2 = .ok (.iconst 0, 1) := by decide +kernel
theorem dX9_unsplitPegs_3 : decode cX9_unsplitPegs 3 = .ok (.istore_n 2, 1) := by decide +kernel
theorem dX9_unsplitPegs_4 : decode cX9_unsplitPegs 4 = .ok (.iload_n 2, 1) := by decide +kernel
theorem dX9_unsplitPegs_5 : decode cX9_unsplitPegs 5 = .ok (.aload_n 0, 1) := by decide +kernel
theorem dX9_unsplitPegs_6 : decode cX9_unsplitPegs 6 = .ok (.getfield 43, 3) := by decide +kernel
theorem dX9_unsplitPegs_9 : decode cX9_unsplitPegs 9 = .ok (.if_icmp .ge 24, 3) := by decide +kernel
theorem dX9_unsplitPegs_12 : decode cX9_unsplitPegs 12 = .ok (.aload_n 0, 1) := by decide +kernel
theorem dX9_unsplitPegs_13 : decode cX9_unsplitPegs 13 = .ok (.getfield 21, 3) := by decide +kernel
theorem dX9_unsplitPegs_16 : decode cX9_unsplitPegs 16 = .ok (.iload_n 2, 1) := by decide +kernel
theorem dX9_unsplitPegs_17 : decode cX9_unsplitPegs 17 = .ok (.iaload, 1) := by decide +kernel
theorem dX9_unsplitPegs_18 : decode cX9_unsplitPegs 18 = .ok (.ifCond .le 9, 3) := by decide +kernel
theorem dX9_unsplitPegs_21 : decode cX9_unsplitPegs 21 = .ok (.iload_n 1, 1) := by decide +kernel
theorem dX9_unsplitPegs_22 : decode cX9_unsplitPegs 22 = .ok (.iconst 1, 1) := by decide +kernel
theorem dX9_unsplitPegs_23 : decode cX9_unsplitPegs 23 = .ok (.iload_n 2, 1) := by decide +kernel
theorem dX9_unsplitPegs_24 : decode cX9_unsplitPegs 24 = .ok (.ishl, 1) := by decide +kernel
theorem dX9_unsplitPegs_25 : decode cX9_unsplitPegs 25 = .ok (.ior, 1) := by decide +kernel
theorem dX9_unsplitPegs_26 : decode cX9_unsplitPegs 26 = .ok (.istore_n 1, 1) := by decide +kernel
theorem dX9_unsplitPegs_27 : decode cX9_unsplitPegs 27 = .ok (.iinc 2 1, 3) := by decide +kernel
theorem dX9_unsplitPegs_30 : decode cX9_unsplitPegs 30 = .ok (.goto (-26), 3) := by decide +kernel
theorem dX9_unsplitPegs_33 : decode cX9_unsplitPegs 33 = .ok (.iload_n 1, 1) := by decide +kernel
theorem dX9_unsplitPegs_34 : decode cX9_unsplitPegs 34 = .ok (.ireturn, 1) := by decide +kernel
theorem dX9_firstFree_0 : decode cX9_firstFree 0 = .ok (.aload_n 0, 1) := by decide +kernel
theorem dX9_firstFree_1 : decode cX9_firstFree 1 = .ok (.invokevirtual 89, 3) := by decide +kernel
theorem dX9_firstFree_4 : decode cX9_firstFree 4 = .ok (.istore_n 2, 1) := by decide +kernel
theorem dX9_firstFree_5 : decode cX9_firstFree 5 = .ok (.iconst 0, 1) := by decide +kernel
theorem dX9_firstFree_6 : decode cX9_firstFree 6 = .ok (.istore_n 3, 1) := by decide +kernel
theorem dX9_firstFree_7 : decode cX9_firstFree 7 = .ok (.iconst 0, 1) := by decide +kernel
theorem dX9_firstFree_8 : decode cX9_firstFree 8 = .ok (.istore 4, 2) := by decide +kernel
theorem dX9_firstFree_10 : decode cX9_firstFree 10 = .ok (.iload 4, 2) := by decide +kernel
theorem dX9_firstFree_12 : decode cX9_firstFree 12 = .ok (.iload_n 1, 1) := by decide +kernel
theorem dX9_firstFree_13 : decode cX9_firstFree 13 = .ok (.if_icmp .ge 22, 3) := by decide +kernel
theorem dX9_firstFree_16 : decode cX9_firstFree 16 = .ok (.iload_n 3, 1) := by decide +kernel
theorem dX9_firstFree_17 : decode cX9_firstFree 17 = .ok (.iload_n 2, 1) := by decide +kernel
theorem dX9_firstFree_18 : decode cX9_firstFree 18 = .ok (.invokestatic 92, 3) := by decide +kernel
theorem dX9_firstFree_21 : decode cX9_firstFree 21 = .ok (.ior, 1) := by decide +kernel
theorem dX9_firstFree_22 : decode cX9_firstFree 22 = .ok (.istore_n 3, 1) := by decide +kernel
theorem dX9_firstFree_23 : decode cX9_firstFree 23 = .ok (.iload_n 2, 1) := by decide +kernel
theorem dX9_firstFree_24 : decode cX9_firstFree 24 = .ok (.iload_n 2, 1) := by decide +kernel
theorem dX9_firstFree_25 : decode cX9_firstFree 25 = .ok (.iconst 1, 1) := by decide +kernel
theorem dX9_firstFree_26 : decode cX9_firstFree 26 = .ok (.isub, 1) := by decide +kernel
theorem dX9_firstFree_27 : decode cX9_firstFree 27 = .ok (.iand, 1) := by decide +kernel
theorem dX9_firstFree_28 : decode cX9_firstFree 28 = .ok (.istore_n 2, 1) := by decide +kernel
theorem dX9_firstFree_29 : decode cX9_firstFree 29 = .ok (.iinc 4 1, 3) := by decide +kernel
theorem dX9_firstFree_32 : decode cX9_firstFree 32 = .ok (.goto (-22), 3) := by decide +kernel
theorem dX9_firstFree_35 : decode cX9_firstFree 35 = .ok (.iload_n 3, 1) := by decide +kernel
theorem dX9_firstFree_36 : decode cX9_firstFree 36 = .ok (.invokestatic 47, 3) := by decide +kernel
theorem dX9_firstFree_39 : decode cX9_firstFree 39 = .ok (.iload_n 1, 1) := by decide +kernel
theorem dX9_firstFree_40 : decode cX9_firstFree 40 = .ok (.if_icmp .ne 7, 3) := by decide +kernel
theorem dX9_firstFree_43 : decode cX9_firstFree 43 = .ok (.iload_n 3, 1) := by decide +kernel
theorem dX9_firstFree_44 : decode cX9_firstFree 44 = .ok (.goto 4, 3) := by decide +kernel
theorem dX9_firstFree_47 : decode cX9_firstFree 47 = .ok (.iconst 0, 1) := by decide +kernel
theorem dX9_firstFree_48 : decode cX9_firstFree 48 = .ok (.ireturn, 1) := by decide +kernel
theorem dX9_gripsOf_0 : decode cX9_gripsOf 0 = .ok (.aload_n 0, 1) := by decide +kernel
theorem dX9_gripsOf_1 : decode cX9_gripsOf 1 = .ok (.iload_n 1, 1) := by decide +kernel
theorem dX9_gripsOf_2 : decode cX9_gripsOf 2 = .ok (.iconst 0, 1) := by decide +kernel
theorem dX9_gripsOf_3 : decode cX9_gripsOf 3 = .ok (.invokevirtual 95, 3) := by decide +kernel
theorem dX9_gripsOf_6 : decode cX9_gripsOf 6 = .ok (.ireturn, 1) := by decide +kernel
theorem dX9_gripsLess_0 : decode cX9_gripsLess 0 = .ok (.iconst 0, 1) := by decide +kernel
theorem dX9_gripsLess_1 : decode cX9_gripsLess 1 = .ok (.istore_n 3, 1) := by decide +kernel
theorem dX9_gripsLess_2 : decode cX9_gripsLess 2 = .ok (.iconst 0, 1) := by decide +kernel
theorem dX9_gripsLess_3 : decode cX9_gripsLess 3 = .ok (.istore 4, 2) := by decide +kernel
theorem dX9_gripsLess_5 : decode cX9_gripsLess 5 = .ok (.iload 4, 2) := by decide +kernel
theorem dX9_gripsLess_7 : decode cX9_gripsLess 7 = .ok (.aload_n 0, 1) := by decide +kernel
theorem dX9_gripsLess_8 : decode cX9_gripsLess 8 = .ok (.getfield 43, 3) := by decide +kernel
theorem dX9_gripsLess_11 : decode cX9_gripsLess 11 = .ok (.if_icmp .ge 34, 3) := by decide +kernel
theorem dX9_gripsLess_14 : decode cX9_gripsLess 14 = .ok (.iload_n 1, 1) := by decide +kernel
theorem dX9_gripsLess_15 : decode cX9_gripsLess 15 = .ok (.iload 4, 2) := by decide +kernel
theorem dX9_gripsLess_17 : decode cX9_gripsLess 17 = .ok (.ishr, 1) := by decide +kernel
theorem dX9_gripsLess_18 : decode cX9_gripsLess 18 = .ok (.iconst 1, 1) := by decide +kernel
theorem dX9_gripsLess_19 : decode cX9_gripsLess 19 = .ok (.iand, 1) := by decide +kernel
theorem dX9_gripsLess_20 : decode cX9_gripsLess 20 = .ok (.ifCond .eq 19, 3) := by decide +kernel
theorem dX9_gripsLess_23 : decode cX9_gripsLess 23 = .ok (.iload_n 3, 1) := by decide +kernel
theorem dX9_gripsLess_24 : decode cX9_gripsLess 24 = .ok (.iconst 0, 1) := by decide +kernel
theorem dX9_gripsLess_25 : decode cX9_gripsLess 25 = .ok (.aload_n 0, 1) := by decide +kernel
theorem dX9_gripsLess_26 : decode cX9_gripsLess 26 = .ok (.getfield 21, 3) := by decide +kernel
theorem dX9_gripsLess_29 : decode cX9_gripsLess 29 = .ok (.iload 4, 2) := by decide +kernel
theorem dX9_gripsLess_31 : decode cX9_gripsLess 31 = .ok (.iaload, 1) := by decide +kernel
theorem dX9_gripsLess_32 : decode cX9_gripsLess 32 = .ok (.iload_n 2, 1) := by decide +kernel
theorem dX9_gripsLess_33 : decode cX9_gripsLess 33 = .ok (.isub, 1) := by decide +kernel
theorem dX9_gripsLess_34 : decode cX9_gripsLess 34 = .ok (.invokestatic 99, 3) := by decide +kernel
theorem dX9_gripsLess_37 : decode cX9_gripsLess 37 = .ok (.iadd, 1) := by decide +kernel
theorem dX9_gripsLess_38 : decode cX9_gripsLess 38 = .ok (.istore_n 3, 1) := by decide +kernel
theorem dX9_gripsLess_39 : decode cX9_gripsLess 39 = .ok (.iinc 4 1, 3) := by decide +kernel
theorem dX9_gripsLess_42 : decode cX9_gripsLess 42 = .ok (.goto (-37), 3) := by decide +kernel
theorem dX9_gripsLess_45 : decode cX9_gripsLess 45 = .ok (.iload_n 3, 1) := by decide +kernel
theorem dX9_gripsLess_46 : decode cX9_gripsLess 46 = .ok (.ireturn, 1) := by decide +kernel
theorem dX9_hangUp_0 : decode cX9_hangUp 0 = .ok (.aload_n 1, 1) := by decide +kernel
theorem dX9_hangUp_1 : decode cX9_hangUp 1 = .ok (.iload_n 2, 1) := by decide +kernel
theorem dX9_hangUp_2 : decode cX9_hangUp 2 = .ok (.invokevirtual 104, 3) := by decide +kernel
theorem dX9_hangUp_5 : decode cX9_hangUp 5 = .ok (.ifCond .eq 23, 3) := by decide +kernel
theorem dX9_hangUp_8 : decode cX9_hangUp 8 = .ok (.aload_n 0, 1) := by decide +kernel
theorem dX9_hangUp_9 : decode cX9_hangUp 9 = .ok (.getfield 18, 3) := by decide +kernel
theorem dX9_hangUp_12 : decode cX9_hangUp 12 = .ok (.iload_n 2, 1) := by decide +kernel
theorem dX9_hangUp_13 : decode cX9_hangUp 13 = .ok (.iaload, 1) := by decide +kernel
theorem dX9_hangUp_14 : decode cX9_hangUp 14 = .ok (.ifCond .ne 14, 3) := by decide +kernel
theorem dX9_hangUp_17 : decode cX9_hangUp 17 = .ok (.iload_n 3, 1) := by decide +kernel
theorem dX9_hangUp_18 : decode cX9_hangUp 18 = .ok (.aload_n 0, 1) := by decide +kernel
theorem dX9_hangUp_19 : decode cX9_hangUp 19 = .ok (.invokevirtual 89, 3) := by decide +kernel
theorem dX9_hangUp_22 : decode cX9_hangUp 22 = .ok (.iconst (-1), 1) := by decide +kernel
theorem dX9_hangUp_23 : decode cX9_hangUp 23 = .ok (.ixor, 1) := by decide +kernel
theorem dX9_hangUp_24 : decode cX9_hangUp 24 = .ok (.iand, 1) := by decide +kernel
theorem dX9_hangUp_25 : decode cX9_hangUp 25 = .ok (.ifCond .eq 5, 3) := by decide +kernel
theorem dX9_hangUp_28 : decode cX9_hangUp 28 = .ok (.iconst 0, 1) := by decide +kernel
theorem dX9_hangUp_29 : decode cX9_hangUp 29 = .ok (.ireturn, 1) := by decide +kernel
theorem dX9_hangUp_30 : decode cX9_hangUp 30 = .ok (.iload_n 3, 1) := by decide +kernel
theorem dX9_hangUp_31 : decode cX9_hangUp 31 = .ok (.invokestatic 47, 3) := by decide +kernel
theorem dX9_hangUp_34 : decode cX9_hangUp 34 = .ok (.istore 4, 2) := by decide +kernel
theorem dX9_hangUp_36 : decode cX9_hangUp 36 = .ok (.iload 4, 2) := by decide +kernel
theorem dX9_hangUp_38 : decode cX9_hangUp 38 = .ok (.iconst 1, 1) := by decide +kernel
theorem dX9_hangUp_39 : decode cX9_hangUp 39 = .ok (.if_icmp .eq 13, 3) := by decide +kernel
theorem dX9_hangUp_42 : decode cX9_hangUp 42 = .ok (.iload 4, 2) := by decide +kernel
theorem dX9_hangUp_44 : decode cX9_hangUp 44 = .ok (.aload_n 1, 1) := by decide +kernel
theorem dX9_hangUp_45 : decode cX9_hangUp 45 = .ok (.iload_n 2, 1) := by decide +kernel
theorem dX9_hangUp_46 : decode cX9_hangUp 46 = .ok (.invokevirtual 53, 3) := by decide +kernel
theorem dX9_hangUp_49 : decode cX9_hangUp 49 = .ok (.if_icmp .ne 18, 3) := by decide +kernel
theorem dX9_hangUp_52 : decode cX9_hangUp 52 = .ok (.aload_n 1, 1) := by decide +kernel
theorem dX9_hangUp_53 : decode cX9_hangUp 53 = .ok (.iload_n 2, 1) := by decide +kernel
theorem dX9_hangUp_54 : decode cX9_hangUp 54 = .ok (.iload 4, 2) := by decide +kernel
theorem dX9_hangUp_56 : decode cX9_hangUp 56 = .ok (.invokestatic 74, 3) := by decide +kernel
theorem dX9_hangUp_59 : decode cX9_hangUp 59 = .ok (.aload_n 0, 1) := by decide +kernel
theorem dX9_hangUp_60 : decode cX9_hangUp 60 = .ok (.aload_n 1, 1) := by decide +kernel
theorem dX9_hangUp_61 : decode cX9_hangUp 61 = .ok (.invokevirtual 107, 3) := by decide +kernel
theorem dX9_hangUp_64 : decode cX9_hangUp 64 = .ok (.if_icmp .le 5, 3) := by decide +kernel
theorem dX9_hangUp_67 : decode cX9_hangUp 67 = .ok (.iconst 0, 1) := by decide +kernel
theorem dX9_hangUp_68 : decode cX9_hangUp 68 = .ok (.ireturn, 1) := by decide +kernel
theorem dX9_hangUp_69 : decode cX9_hangUp 69 = .ok (.aload_n 0, 1) := by decide +kernel
theorem dX9_hangUp_70 : decode cX9_hangUp 70 = .ok (.getfield 18, 3) := by decide +kernel
theorem dX9_hangUp_73 : decode cX9_hangUp 73 = .ok (.iload_n 2, 1) := by decide +kernel
theorem dX9_hangUp_74 : decode cX9_hangUp 74 = .ok (.iload_n 3, 1) := by decide +kernel
theorem dX9_hangUp_75 : decode cX9_hangUp 75 = .ok (.iastore, 1) := by decide +kernel
theorem dX9_hangUp_76 : decode cX9_hangUp 76 = .ok (.iconst 1, 1) := by decide +kernel
theorem dX9_hangUp_77 : decode cX9_hangUp 77 = .ok (.ireturn, 1) := by decide +kernel
theorem dX9_takeIn_0 : decode cX9_takeIn 0 = .ok (.aload_n 1, 1) := by decide +kernel
theorem dX9_takeIn_1 : decode cX9_takeIn 1 = .ok (.iload_n 2, 1) := by decide +kernel
theorem dX9_takeIn_2 : decode cX9_takeIn 2 = .ok (.invokevirtual 104, 3) := by decide +kernel
theorem dX9_takeIn_5 : decode cX9_takeIn 5 = .ok (.ifCond .eq 12, 3) := by decide +kernel
theorem dX9_takeIn_8 : decode cX9_takeIn 8 = .ok (.aload_n 0, 1) := by decide +kernel
theorem dX9_takeIn_9 : decode cX9_takeIn 9 = .ok (.getfield 18, 3) := by decide +kernel
theorem dX9_takeIn_12 : decode cX9_takeIn 12 = .ok (.iload_n 2, 1) := by decide +kernel
theorem dX9_takeIn_13 : decode cX9_takeIn 13 = .ok (.iaload, 1) := by decide +kernel
theorem dX9_takeIn_14 : decode cX9_takeIn 14 = .ok (.ifCond .ne 5, 3) := by decide +kernel
theorem dX9_takeIn_17 : decode cX9_takeIn 17 = .ok (.iconst 0, 1) := by decide +kernel
theorem dX9_takeIn_18 : decode cX9_takeIn 18 = .ok (.ireturn, 1) := by decide +kernel
theorem dX9_takeIn_19 : decode cX9_takeIn 19 = .ok (.aload_n 0, 1) := by decide +kernel
theorem dX9_takeIn_20 : decode cX9_takeIn 20 = .ok (.getfield 18, 3) := by decide +kernel
theorem dX9_takeIn_23 : decode cX9_takeIn 23 = .ok (.iload_n 2, 1) := by decide +kernel
theorem dX9_takeIn_24 : decode cX9_takeIn 24 = .ok (.iconst 0, 1) := by decide +kernel
theorem dX9_takeIn_25 : decode cX9_takeIn 25 = .ok (.iastore, 1) := by decide +kernel
theorem dX9_takeIn_26 : decode cX9_takeIn 26 = .ok (.iconst 1, 1) := by decide +kernel
theorem dX9_takeIn_27 : decode cX9_takeIn 27 = .ok (.ireturn, 1) := by decide +kernel
theorem dX9_washOut_0 : decode cX9_washOut 0 = .ok (.aload_n 1, 1) := by decide +kernel
theorem dX9_washOut_1 : decode cX9_washOut 1 = .ok (.iload_n 2, 1) := by decide +kernel
theorem dX9_washOut_2 : decode cX9_washOut 2 = .ok (.invokevirtual 104, 3) := by decide +kernel
theorem dX9_washOut_5 : decode cX9_washOut 5 = .ok (.ifCond .eq 12, 3) := by decide +kernel
theorem dX9_washOut_8 : decode cX9_washOut 8 = .ok (.aload_n 0, 1) := by decide +kernel
theorem dX9_washOut_9 : decode cX9_washOut 9 = .ok (.getfield 18, 3) := by decide +kernel
theorem dX9_washOut_12 : decode cX9_washOut 12 = .ok (.iload_n 2, 1) := by decide +kernel
theorem dX9_washOut_13 : decode cX9_washOut 13 = .ok (.iaload, 1) := by decide +kernel
theorem dX9_washOut_14 : decode cX9_washOut 14 = .ok (.ifCond .eq 5, 3) := by decide +kernel
theorem dX9_washOut_17 : decode cX9_washOut 17 = .ok (.iconst (-1), 1) := by decide +kernel
theorem dX9_washOut_18 : decode cX9_washOut 18 = .ok (.ireturn, 1) := by decide +kernel
theorem dX9_washOut_19 : decode cX9_washOut 19 = .ok (.aload_n 0, 1) := by decide +kernel
theorem dX9_washOut_20 : decode cX9_washOut 20 = .ok (.getfield 15, 3) := by decide +kernel
theorem dX9_washOut_23 : decode cX9_washOut 23 = .ok (.iload_n 2, 1) := by decide +kernel
theorem dX9_washOut_24 : decode cX9_washOut 24 = .ok (.iaload, 1) := by decide +kernel
theorem dX9_washOut_25 : decode cX9_washOut 25 = .ok (.istore_n 3, 1) := by decide +kernel
theorem dX9_washOut_26 : decode cX9_washOut 26 = .ok (.aload_n 0, 1) := by decide +kernel
theorem dX9_washOut_27 : decode cX9_washOut 27 = .ok (.getfield 15, 3) := by decide +kernel
theorem dX9_washOut_30 : decode cX9_washOut 30 = .ok (.iload_n 2, 1) := by decide +kernel
theorem dX9_washOut_31 : decode cX9_washOut 31 = .ok (.iconst 0, 1) := by decide +kernel
theorem dX9_washOut_32 : decode cX9_washOut 32 = .ok (.iastore, 1) := by decide +kernel
theorem dX9_washOut_33 : decode cX9_washOut 33 = .ok (.aload_n 0, 1) := by decide +kernel
theorem dX9_washOut_34 : decode cX9_washOut 34 = .ok (.getfield 9, 3) := by decide +kernel
theorem dX9_washOut_37 : decode cX9_washOut 37 = .ok (.iload_n 2, 1) := by decide +kernel
theorem dX9_washOut_38 : decode cX9_washOut 38 = .ok (.bipush 9, 2) := by decide +kernel
theorem dX9_washOut_40 : decode cX9_washOut 40 = .ok (.iastore, 1) := by decide +kernel
theorem dX9_washOut_41 : decode cX9_washOut 41 = .ok (.iload_n 3, 1) := by decide +kernel
theorem dX9_washOut_42 : decode cX9_washOut 42 = .ok (.ireturn, 1) := by decide +kernel
theorem dX9_addPeg_0 : decode cX9_addPeg 0 = .ok (.iload_n 1, 1) := by decide +kernel
theorem dX9_addPeg_1 : decode cX9_addPeg 1 = .ok (.iconst 1, 1) := by decide +kernel
theorem dX9_addPeg_2 : decode cX9_addPeg 2 = .ok (.if_icmp .lt 18, 3) := by decide +kernel
theorem dX9_addPeg_5 : decode cX9_addPeg 5 = .ok (.iload_n 1, 1) := by decide +kernel
theorem dX9_addPeg_6 : decode cX9_addPeg 6 = .ok (.bipush 9, 2) := by decide +kernel
theorem dX9_addPeg_8 : decode cX9_addPeg 8 = .ok (.if_icmp .gt 12, 3) := by decide +kernel
theorem dX9_addPeg_11 : decode cX9_addPeg 11 = .ok (.aload_n 0, 1) := by decide +kernel
theorem dX9_addPeg_12 : decode cX9_addPeg 12 = .ok (.getfield 43, 3) := by decide +kernel
theorem dX9_addPeg_15 : decode cX9_addPeg 15 = .ok (.bipush 8, 2) := by decide +kernel
theorem dX9_addPeg_17 : decode cX9_addPeg 17 = .ok (.if_icmp .lt 5, 3) := by decide +kernel
theorem dX9_addPeg_20 : decode cX9_addPeg 20 = .ok (.iconst (-1), 1) := by decide +kernel
theorem dX9_addPeg_21 : decode cX9_addPeg 21 = .ok (.ireturn, 1) := by decide +kernel
theorem dX9_addPeg_22 : decode cX9_addPeg 22 = .ok (.aload_n 0, 1) := by decide +kernel
theorem dX9_addPeg_23 : decode cX9_addPeg 23 = .ok (.getfield 21, 3) := by decide +kernel
theorem dX9_addPeg_26 : decode cX9_addPeg 26 = .ok (.aload_n 0, 1) := by decide +kernel
theorem dX9_addPeg_27 : decode cX9_addPeg 27 = .ok (.getfield 43, 3) := by decide +kernel
theorem dX9_addPeg_30 : decode cX9_addPeg 30 = .ok (.iload_n 1, 1) := by decide +kernel
theorem dX9_addPeg_31 : decode cX9_addPeg 31 = .ok (.iastore, 1) := by decide +kernel
theorem dX9_addPeg_32 : decode cX9_addPeg 32 = .ok (.aload_n 0, 1) := by decide +kernel
theorem dX9_addPeg_33 : decode cX9_addPeg 33 = .ok (.dup, 1) := by decide +kernel
theorem dX9_addPeg_34 : decode cX9_addPeg 34 = .ok (.getfield 43, 3) := by decide +kernel
theorem dX9_addPeg_37 : decode cX9_addPeg 37 = .ok (.iconst 1, 1) := by decide +kernel
theorem dX9_addPeg_38 : decode cX9_addPeg 38 = .ok (.iadd, 1) := by decide +kernel
theorem dX9_addPeg_39 : decode cX9_addPeg 39 = .ok (.putfield 43, 3) := by decide +kernel
theorem dX9_addPeg_42 : decode cX9_addPeg 42 = .ok (.aload_n 0, 1) := by decide +kernel
theorem dX9_addPeg_43 : decode cX9_addPeg 43 = .ok (.getfield 43, 3) := by decide +kernel
theorem dX9_addPeg_46 : decode cX9_addPeg 46 = .ok (.iconst 1, 1) := by decide +kernel
theorem dX9_addPeg_47 : decode cX9_addPeg 47 = .ok (.isub, 1) := by decide +kernel
theorem dX9_addPeg_48 : decode cX9_addPeg 48 = .ok (.ireturn, 1) := by decide +kernel
theorem dX9_passHour_0 : decode cX9_passHour 0 = .ok (.aload_n 1, 1) := by decide +kernel
theorem dX9_passHour_1 : decode cX9_passHour 1 = .ok (.aload_n 0, 1) := by decide +kernel
theorem dX9_passHour_2 : decode cX9_passHour 2 = .ok (.getfield 44, 3) := by decide +kernel
theorem dX9_passHour_5 : decode cX9_passHour 5 = .ok (.invokevirtual 110, 3) := by decide +kernel
theorem dX9_passHour_8 : decode cX9_passHour 8 = .ok (.iload_n 2, 1) := by decide +kernel
theorem dX9_passHour_9 : decode cX9_passHour 9 = .ok (.iadd, 1) := by decide +kernel
theorem dX9_passHour_10 : decode cX9_passHour 10 = .ok (.istore_n 3, 1) := by decide +kernel
theorem dX9_passHour_11 : decode cX9_passHour 11 = .ok (.iconst 0, 1) := by decide +kernel
theorem dX9_passHour_12 : decode cX9_passHour 12 = .ok (.istore 4, 2) := by decide +kernel
theorem dX9_passHour_14 : decode cX9_passHour 14 = .ok (.iconst 0, 1) := by decide +kernel
theorem dX9_passHour_15 : decode cX9_passHour 15 = .ok (.istore 5, 2) := by decide +kernel
theorem dX9_passHour_17 : decode cX9_passHour 17 = .ok (.iload 5, 2) := by decide +kernel
theorem dX9_passHour_19 : decode cX9_passHour 19 = .ok (.aload_n 1, 1) := by decide +kernel
theorem dX9_passHour_20 : decode cX9_passHour 20 = .ok (.getfield 56, 3) := by decide +kernel
theorem dX9_passHour_23 : decode cX9_passHour 23 = .ok (.if_icmp .ge 33, 3) := by decide +kernel
theorem dX9_passHour_26 : decode cX9_passHour 26 = .ok (.aload_n 0, 1) := by decide +kernel
theorem dX9_passHour_27 : decode cX9_passHour 27 = .ok (.getfield 18, 3) := by decide +kernel
theorem dX9_passHour_30 : decode cX9_passHour 30 = .ok (.iload 5, 2) := by decide +kernel
theorem dX9_passHour_32 : decode cX9_passHour 32 = .ok (.iaload, 1) := by decide +kernel
theorem dX9_passHour_33 : decode cX9_passHour 33 = .ok (.ifCond .eq 17, 3) := by decide +kernel
theorem dX9_passHour_36 : decode cX9_passHour 36 = .ok (.aload_n 0, 1) := by decide +kernel
theorem dX9_passHour_37 : decode cX9_passHour 37 = .ok (.aload_n 1, 1) := by decide +kernel
theorem dX9_passHour_38 : decode cX9_passHour 38 = .ok (.iload 5, 2) := by decide +kernel
theorem dX9_passHour_40 : decode cX9_passHour 40 = .ok (.iload_n 3, 1) := by decide +kernel
theorem dX9_passHour_41 : decode cX9_passHour 41 = .ok (.invokevirtual 113, 3) := by decide +kernel
theorem dX9_passHour_44 : decode cX9_passHour 44 = .ok (.ifCond .eq 6, 3) := by decide +kernel
theorem dX9_passHour_47 : decode cX9_passHour 47 = .ok (.iinc 4 1, 3) := by decide +kernel
theorem dX9_passHour_50 : decode cX9_passHour 50 = .ok (.iinc 5 1, 3) := by decide +kernel
theorem dX9_passHour_53 : decode cX9_passHour 53 = .ok (.goto (-36), 3) := by decide +kernel
theorem dX9_passHour_56 : decode cX9_passHour 56 = .ok (.iconst 0, 1) := by decide +kernel
theorem dX9_passHour_57 : decode cX9_passHour 57 = .ok (.istore 5, 2) := by decide +kernel
theorem dX9_passHour_59 : decode cX9_passHour 59 = .ok (.iload 5, 2) := by decide +kernel
theorem dX9_passHour_61 : decode cX9_passHour 61 = .ok (.aload_n 1, 1) := by decide +kernel
theorem dX9_passHour_62 : decode cX9_passHour 62 = .ok (.getfield 56, 3) := by decide +kernel
theorem dX9_passHour_65 : decode cX9_passHour 65 = .ok (.if_icmp .ge 40, 3) := by decide +kernel
theorem dX9_passHour_68 : decode cX9_passHour 68 = .ok (.aload_n 0, 1) := by decide +kernel
theorem dX9_passHour_69 : decode cX9_passHour 69 = .ok (.getfield 18, 3) := by decide +kernel
theorem dX9_passHour_72 : decode cX9_passHour 72 = .ok (.iload 5, 2) := by decide +kernel
theorem dX9_passHour_74 : decode cX9_passHour 74 = .ok (.iaload, 1) := by decide +kernel
theorem dX9_passHour_75 : decode cX9_passHour 75 = .ok (.ifCond .eq 24, 3) := by decide +kernel
theorem dX9_passHour_78 : decode cX9_passHour 78 = .ok (.aload_n 0, 1) := by decide +kernel
theorem dX9_passHour_79 : decode cX9_passHour 79 = .ok (.getfield 9, 3) := by decide +kernel
theorem dX9_passHour_82 : decode cX9_passHour 82 = .ok (.iload 5, 2) := by decide +kernel
theorem dX9_passHour_84 : decode cX9_passHour 84 = .ok (.aload_n 1, 1) := by decide +kernel
theorem dX9_passHour_85 : decode cX9_passHour 85 = .ok (.iload 5, 2) := by decide +kernel
theorem dX9_passHour_87 : decode cX9_passHour 87 = .ok (.aload_n 0, 1) := by decide +kernel
theorem dX9_passHour_88 : decode cX9_passHour 88 = .ok (.getfield 9, 3) := by decide +kernel
theorem dX9_passHour_91 : decode cX9_passHour 91 = .ok (.iload 5, 2) := by decide +kernel
theorem dX9_passHour_93 : decode cX9_passHour 93 = .ok (.iaload, 1) := by decide +kernel
theorem dX9_passHour_94 : decode cX9_passHour 94 = .ok (.iload_n 3, 1) := by decide +kernel
theorem dX9_passHour_95 : decode cX9_passHour 95 = .ok (.invokevirtual 117, 3) := by decide +kernel
theorem dX9_passHour_98 : decode cX9_passHour 98 = .ok (.iastore, 1) := by decide +kernel
theorem dX9_passHour_99 : decode cX9_passHour 99 = .ok (.iinc 5 1, 3) := by decide +kernel
theorem dX9_passHour_102 : decode cX9_passHour 102 = .ok (.goto (-43), 3) := by decide +kernel
theorem dX9_passHour_105 : decode cX9_passHour 105 = .ok (.aload_n 0, 1) := by decide +kernel
theorem dX9_passHour_106 : decode cX9_passHour 106 = .ok (.dup, 1) := by decide +kernel
theorem dX9_passHour_107 : decode cX9_passHour 107 = .ok (.getfield 44, 3) := by decide +kernel
theorem dX9_passHour_110 : decode cX9_passHour 110 = .ok (.iconst 1, 1) := by decide +kernel
theorem dX9_passHour_111 : decode cX9_passHour 111 = .ok (.iadd, 1) := by decide +kernel
theorem dX9_passHour_112 : decode cX9_passHour 112 = .ok (.putfield 44, 3) := by decide +kernel
theorem dX9_passHour_115 : decode cX9_passHour 115 = .ok (.iload 4, 2) := by decide +kernel
theorem dX9_passHour_117 : decode cX9_passHour 117 = .ok (.ireturn, 1) := by decide +kernel
theorem dX9_passAlone_0 : decode cX9_passAlone 0 = .ok (.aload_n 1, 1) := by decide +kernel
theorem dX9_passAlone_1 : decode cX9_passAlone 1 = .ok (.aload_n 0, 1) := by decide +kernel
theorem dX9_passAlone_2 : decode cX9_passAlone 2 = .ok (.getfield 44, 3) := by decide +kernel
theorem dX9_passAlone_5 : decode cX9_passAlone 5 = .ok (.iload_n 3, 1) := by decide +kernel
theorem dX9_passAlone_6 : decode cX9_passAlone 6 = .ok (.iadd, 1) := by decide +kernel
theorem dX9_passAlone_7 : decode cX9_passAlone 7 = .ok (.invokevirtual 110, 3) := by decide +kernel
theorem dX9_passAlone_10 : decode cX9_passAlone 10 = .ok (.istore 4, 2) := by decide +kernel
theorem dX9_passAlone_12 : decode cX9_passAlone 12 = .ok (.aload_n 0, 1) := by decide +kernel
theorem dX9_passAlone_13 : decode cX9_passAlone 13 = .ok (.aload_n 1, 1) := by decide +kernel
theorem dX9_passAlone_14 : decode cX9_passAlone 14 = .ok (.iload_n 2, 1) := by decide +kernel
theorem dX9_passAlone_15 : decode cX9_passAlone 15 = .ok (.iload 4, 2) := by decide +kernel
theorem dX9_passAlone_17 : decode cX9_passAlone 17 = .ok (.invokevirtual 113, 3) := by decide +kernel
theorem dX9_passAlone_20 : decode cX9_passAlone 20 = .ok (.ifCond .eq 5, 3) := by decide +kernel
theorem dX9_passAlone_23 : decode cX9_passAlone 23 = .ok (.iconst 1, 1) := by decide +kernel
theorem dX9_passAlone_24 : decode cX9_passAlone 24 = .ok (.ireturn, 1) := by decide +kernel
theorem dX9_passAlone_25 : decode cX9_passAlone 25 = .ok (.aload_n 0, 1) := by decide +kernel
theorem dX9_passAlone_26 : decode cX9_passAlone 26 = .ok (.getfield 9, 3) := by decide +kernel
theorem dX9_passAlone_29 : decode cX9_passAlone 29 = .ok (.iload_n 2, 1) := by decide +kernel
theorem dX9_passAlone_30 : decode cX9_passAlone 30 = .ok (.aload_n 1, 1) := by decide +kernel
theorem dX9_passAlone_31 : decode cX9_passAlone 31 = .ok (.iload_n 2, 1) := by decide +kernel
theorem dX9_passAlone_32 : decode cX9_passAlone 32 = .ok (.aload_n 0, 1) := by decide +kernel
theorem dX9_passAlone_33 : decode cX9_passAlone 33 = .ok (.getfield 9, 3) := by decide +kernel
theorem dX9_passAlone_36 : decode cX9_passAlone 36 = .ok (.iload_n 2, 1) := by decide +kernel
theorem dX9_passAlone_37 : decode cX9_passAlone 37 = .ok (.iaload, 1) := by decide +kernel
theorem dX9_passAlone_38 : decode cX9_passAlone 38 = .ok (.iload 4, 2) := by decide +kernel
theorem dX9_passAlone_40 : decode cX9_passAlone 40 = .ok (.invokevirtual 117, 3) := by decide +kernel
theorem dX9_passAlone_43 : decode cX9_passAlone 43 = .ok (.iastore, 1) := by decide +kernel
theorem dX9_passAlone_44 : decode cX9_passAlone 44 = .ok (.iconst 0, 1) := by decide +kernel
theorem dX9_passAlone_45 : decode cX9_passAlone 45 = .ok (.ireturn, 1) := by decide +kernel
theorem dX9_fallsBy_0 : decode cX9_fallsBy 0 = .ok (.aload_n 1, 1) := by decide +kernel
theorem dX9_fallsBy_1 : decode cX9_fallsBy 1 = .ok (.iload_n 2, 1) := by decide +kernel
theorem dX9_fallsBy_2 : decode cX9_fallsBy 2 = .ok (.aload_n 0, 1) := by decide +kernel
theorem dX9_fallsBy_3 : decode cX9_fallsBy 3 = .ok (.getfield 9, 3) := by decide +kernel
theorem dX9_fallsBy_6 : decode cX9_fallsBy 6 = .ok (.iload_n 2, 1) := by decide +kernel
theorem dX9_fallsBy_7 : decode cX9_fallsBy 7 = .ok (.iaload, 1) := by decide +kernel
theorem dX9_fallsBy_8 : decode cX9_fallsBy 8 = .ok (.iload_n 3, 1) := by decide +kernel
theorem dX9_fallsBy_9 : decode cX9_fallsBy 9 = .ok (.invokevirtual 121, 3) := by decide +kernel
theorem dX9_fallsBy_12 : decode cX9_fallsBy 12 = .ok (.istore 4, 2) := by decide +kernel
theorem dX9_fallsBy_14 : decode cX9_fallsBy 14 = .ok (.aload_n 0, 1) := by decide +kernel
theorem dX9_fallsBy_15 : decode cX9_fallsBy 15 = .ok (.aload_n 0, 1) := by decide +kernel
theorem dX9_fallsBy_16 : decode cX9_fallsBy 16 = .ok (.getfield 18, 3) := by decide +kernel
theorem dX9_fallsBy_19 : decode cX9_fallsBy 19 = .ok (.iload_n 2, 1) := by decide +kernel
theorem dX9_fallsBy_20 : decode cX9_fallsBy 20 = .ok (.iaload, 1) := by decide +kernel
theorem dX9_fallsBy_21 : decode cX9_fallsBy 21 = .ok (.invokevirtual 124, 3) := by decide +kernel
theorem dX9_fallsBy_24 : decode cX9_fallsBy 24 = .ok (.istore 5, 2) := by decide +kernel
theorem dX9_fallsBy_26 : decode cX9_fallsBy 26 = .ok (.iconst 2, 1) := by decide +kernel
theorem dX9_fallsBy_27 : decode cX9_fallsBy 27 = .ok (.iload 4, 2) := by decide +kernel
theorem dX9_fallsBy_29 : decode cX9_fallsBy 29 = .ok (.imul, 1) := by decide +kernel
theorem dX9_fallsBy_30 : decode cX9_fallsBy 30 = .ok (.iload 5, 2) := by decide +kernel
theorem dX9_fallsBy_32 : decode cX9_fallsBy 32 = .ok (.if_icmp .le 41, 3) := by decide +kernel
theorem dX9_fallsBy_35 : decode cX9_fallsBy 35 = .ok (.aload_n 0, 1) := by decide +kernel
theorem dX9_fallsBy_36 : decode cX9_fallsBy 36 = .ok (.aload_n 0, 1) := by decide +kernel
theorem dX9_fallsBy_37 : decode cX9_fallsBy 37 = .ok (.getfield 18, 3) := by decide +kernel
theorem dX9_fallsBy_40 : decode cX9_fallsBy 40 = .ok (.iload_n 2, 1) := by decide +kernel
theorem dX9_fallsBy_41 : decode cX9_fallsBy 41 = .ok (.iaload, 1) := by decide +kernel
theorem dX9_fallsBy_42 : decode cX9_fallsBy 42 = .ok (.invokevirtual 127, 3) := by decide +kernel
theorem dX9_fallsBy_45 : decode cX9_fallsBy 45 = .ok (.aload_n 0, 1) := by decide +kernel
theorem dX9_fallsBy_46 : decode cX9_fallsBy 46 = .ok (.getfield 18, 3) := by decide +kernel
theorem dX9_fallsBy_49 : decode cX9_fallsBy 49 = .ok (.iload_n 2, 1) := by decide +kernel
theorem dX9_fallsBy_50 : decode cX9_fallsBy 50 = .ok (.iload 4, 2) := by decide +kernel
theorem dX9_fallsBy_52 : decode cX9_fallsBy 52 = .ok (.iload 5, 2) := by decide +kernel
theorem dX9_fallsBy_54 : decode cX9_fallsBy 54 = .ok (.if_icmp .le 7, 3) := by decide +kernel
theorem dX9_fallsBy_57 : decode cX9_fallsBy 57 = .ok (.iconst 0, 1) := by decide +kernel
theorem dX9_fallsBy_58 : decode cX9_fallsBy 58 = .ok (.goto 14, 3) := by decide +kernel
theorem dX9_fallsBy_61 : decode cX9_fallsBy 61 = .ok (.aload_n 0, 1) := by decide +kernel
theorem dX9_fallsBy_62 : decode cX9_fallsBy 62 = .ok (.getfield 18, 3) := by decide +kernel
theorem dX9_fallsBy_65 : decode cX9_fallsBy 65 = .ok (.iload_n 2, 1) := by decide +kernel
theorem dX9_fallsBy_66 : decode cX9_fallsBy 66 = .ok (.iaload, 1) := by decide +kernel
theorem dX9_fallsBy_67 : decode cX9_fallsBy 67 = .ok (.aload_n 0, 1) := by decide +kernel
theorem dX9_fallsBy_68 : decode cX9_fallsBy 68 = .ok (.invokevirtual 85, 3) := by decide +kernel
theorem dX9_fallsBy_71 : decode cX9_fallsBy 71 = .ok (.iand, 1) := by decide +kernel
theorem dX9_fallsBy_72 : decode cX9_fallsBy 72 = .ok (.iastore, 1) := by decide +kernel
theorem dX9_fallsBy_73 : decode cX9_fallsBy 73 = .ok (.aload_n 0, 1) := by decide +kernel
theorem dX9_fallsBy_74 : decode cX9_fallsBy 74 = .ok (.getfield 18, 3) := by decide +kernel
theorem dX9_fallsBy_77 : decode cX9_fallsBy 77 = .ok (.iload_n 2, 1) := by decide +kernel
theorem dX9_fallsBy_78 : decode cX9_fallsBy 78 = .ok (.iaload, 1) := by decide +kernel
theorem dX9_fallsBy_79 : decode cX9_fallsBy 79 = .ok (.ifCond .eq 5, 3) := by decide +kernel
theorem dX9_fallsBy_82 : decode cX9_fallsBy 82 = .ok (.iconst 0, 1) := by decide +kernel
theorem dX9_fallsBy_83 : decode cX9_fallsBy 83 = .ok (.ireturn, 1) := by decide +kernel
theorem dX9_fallsBy_84 : decode cX9_fallsBy 84 = .ok (.aload_n 0, 1) := by decide +kernel
theorem dX9_fallsBy_85 : decode cX9_fallsBy 85 = .ok (.getfield 9, 3) := by decide +kernel
theorem dX9_fallsBy_88 : decode cX9_fallsBy 88 = .ok (.iload_n 2, 1) := by decide +kernel
theorem dX9_fallsBy_89 : decode cX9_fallsBy 89 = .ok (.bipush 9, 2) := by decide +kernel
theorem dX9_fallsBy_91 : decode cX9_fallsBy 91 = .ok (.iastore, 1) := by decide +kernel
theorem dX9_fallsBy_92 : decode cX9_fallsBy 92 = .ok (.aload_n 0, 1) := by decide +kernel
theorem dX9_fallsBy_93 : decode cX9_fallsBy 93 = .ok (.getfield 15, 3) := by decide +kernel
theorem dX9_fallsBy_96 : decode cX9_fallsBy 96 = .ok (.iload_n 2, 1) := by decide +kernel
theorem dX9_fallsBy_97 : decode cX9_fallsBy 97 = .ok (.bipush 9, 2) := by decide +kernel
theorem dX9_fallsBy_99 : decode cX9_fallsBy 99 = .ok (.aload_n 0, 1) := by decide +kernel
theorem dX9_fallsBy_100 : decode cX9_fallsBy 100 = .ok (.getfield 15, 3) := by decide +kernel
theorem dX9_fallsBy_103 : decode cX9_fallsBy 103 = .ok (.iload_n 2, 1) := by decide +kernel
theorem dX9_fallsBy_104 : decode cX9_fallsBy 104 = .ok (.iaload, 1) := by decide +kernel
theorem dX9_fallsBy_105 : decode cX9_fallsBy 105 = .ok (.iconst 1, 1) := by decide +kernel
theorem dX9_fallsBy_106 : decode cX9_fallsBy 106 = .ok (.iadd, 1) := by decide +kernel
theorem dX9_fallsBy_107 : decode cX9_fallsBy 107 = .ok (.invokestatic 131, 3) := by decide +kernel
theorem dX9_fallsBy_110 : decode cX9_fallsBy 110 = .ok (.iastore, 1) := by decide +kernel
theorem dX9_fallsBy_111 : decode cX9_fallsBy 111 = .ok (.iconst 1, 1) := by decide +kernel
theorem dX9_fallsBy_112 : decode cX9_fallsBy 112 = .ok (.ireturn, 1) := by decide +kernel
theorem dX9_weaken_0 : decode cX9_weaken 0 = .ok (.iconst 0, 1) := by decide +kernel
theorem dX9_weaken_1 : decode cX9_weaken 1 = .ok (.istore_n 2, 1) := by decide +kernel
theorem dX9_weaken_2 : decode cX9_weaken 2 = .ok (.iload_n 2, 1) := by decide +kernel
theorem dX9_weaken_3 : decode cX9_weaken 3 = .ok (.aload_n 0, 1) := by decide +kernel
theorem dX9_weaken_4 : decode cX9_weaken 4 = .ok (.getfield 43, 3) := by decide +kernel
theorem dX9_weaken_7 : decode cX9_weaken 7 = .ok (.if_icmp .ge 36, 3) := by decide +kernel
theorem dX9_weaken_10 : decode cX9_weaken 10 = .ok (.iload_n 1, 1) := by decide +kernel
theorem dX9_weaken_11 : decode cX9_weaken 11 = .ok (.iload_n 2, 1) := by decide +kernel
theorem dX9_weaken_12 : decode cX9_weaken 12 = .ok (.ishr, 1) := by decide +kernel
theorem dX9_weaken_13 : decode cX9_weaken 13 = .ok (.iconst 1, 1) := by decide +kernel
theorem dX9_weaken_14 : decode cX9_weaken 14 = .ok (.iand, 1) := by decide +kernel
theorem dX9_weaken_15 : decode cX9_weaken 15 = .ok (.ifCond .eq 22, 3) := by decide +kernel
theorem dX9_weaken_18 : decode cX9_weaken 18 = .ok (.aload_n 0, 1) := by decide +kernel
theorem dX9_weaken_19 : decode cX9_weaken 19 = .ok (.getfield 21, 3) := by decide +kernel
theorem dX9_weaken_22 : decode cX9_weaken 22 = .ok (.iload_n 2, 1) := by decide +kernel
theorem dX9_weaken_23 : decode cX9_weaken 23 = .ok (.iaload, 1) := by decide +kernel
theorem dX9_weaken_24 : decode cX9_weaken 24 = .ok (.ifCond .le 13, 3) := by decide +kernel
theorem dX9_weaken_27 : decode cX9_weaken 27 = .ok (.aload_n 0, 1) := by decide +kernel
theorem dX9_weaken_28 : decode cX9_weaken 28 = .ok (.getfield 21, 3) := by decide +kernel
theorem dX9_weaken_31 : decode cX9_weaken 31 = .ok (.iload_n 2, 1) := by decide +kernel
theorem dX9_weaken_32 : decode cX9_weaken 32 = .ok (.dup2, 1) := by decide +kernel
theorem dX9_weaken_33 : decode cX9_weaken 33 = .ok (.iaload, 1) := by decide +kernel
theorem dX9_weaken_34 : decode cX9_weaken 34 = .ok (.iconst 1, 1) := by decide +kernel
theorem dX9_weaken_35 : decode cX9_weaken 35 = .ok (.isub, 1) := by decide +kernel
theorem dX9_weaken_36 : decode cX9_weaken 36 = .ok (.iastore, 1) := by decide +kernel
theorem dX9_weaken_37 : decode cX9_weaken 37 = .ok (.iinc 2 1, 3) := by decide +kernel
theorem dX9_weaken_40 : decode cX9_weaken 40 = .ok (.goto (-38), 3) := by decide +kernel
theorem dX9_weaken_43 : decode cX9_weaken 43 = .ok (.return_, 1) := by decide +kernel
theorem dX9_roomBy_0 : decode cX9_roomBy 0 = .ok (.iload_n 2, 1) := by decide +kernel
theorem dX9_roomBy_1 : decode cX9_roomBy 1 = .ok (.ifCond .ne 5, 3) := by decide +kernel
theorem dX9_roomBy_4 : decode cX9_roomBy 4 = .ok (.iconst 0, 1) := by decide +kernel
theorem dX9_roomBy_5 : decode cX9_roomBy 5 = .ok (.ireturn, 1) := by decide +kernel
theorem dX9_roomBy_6 : decode cX9_roomBy 6 = .ok (.iload_n 2, 1) := by decide +kernel
theorem dX9_roomBy_7 : decode cX9_roomBy 7 = .ok (.iconst 1, 1) := by decide +kernel
theorem dX9_roomBy_8 : decode cX9_roomBy 8 = .ok (.if_icmp .ne 16, 3) := by decide +kernel
theorem dX9_roomBy_11 : decode cX9_roomBy 11 = .ok (.aload_n 0, 1) := by decide +kernel
theorem dX9_roomBy_12 : decode cX9_roomBy 12 = .ok (.getfield 134, 3) := by decide +kernel
theorem dX9_roomBy_15 : decode cX9_roomBy 15 = .ok (.iload_n 1, 1) := by decide +kernel
theorem dX9_roomBy_16 : decode cX9_roomBy 16 = .ok (.iaload, 1) := by decide +kernel
theorem dX9_roomBy_17 : decode cX9_roomBy 17 = .ok (.iconst 2, 1) := by decide +kernel
theorem dX9_roomBy_18 : decode cX9_roomBy 18 = .ok (.idiv, 1) := by decide +kernel
theorem dX9_roomBy_19 : decode cX9_roomBy 19 = .ok (.iconst 1, 1) := by decide +kernel
theorem dX9_roomBy_20 : decode cX9_roomBy 20 = .ok (.iadd, 1) := by decide +kernel
theorem dX9_roomBy_21 : decode cX9_roomBy 21 = .ok (.goto 9, 3) := by decide +kernel
theorem dX9_roomBy_24 : decode cX9_roomBy 24 = .ok (.aload_n 0, 1) := by decide +kernel
theorem dX9_roomBy_25 : decode cX9_roomBy 25 = .ok (.getfield 134, 3) := by decide +kernel
theorem dX9_roomBy_28 : decode cX9_roomBy 28 = .ok (.iload_n 1, 1) := by decide +kernel
theorem dX9_roomBy_29 : decode cX9_roomBy 29 = .ok (.iaload, 1) := by decide +kernel
theorem dX9_roomBy_30 : decode cX9_roomBy 30 = .ok (.ireturn, 1) := by decide +kernel
theorem dX10_init_0 : decode cX10_init 0 = .ok (.aload_n 0, 1) := by decide +kernel
theorem dX10_init_1 : decode cX10_init 1 = .ok (.invokespecial 1, 3) := by decide +kernel
theorem dX10_init_4 : decode cX10_init 4 = .ok (.aload_n 0, 1) := by decide +kernel
theorem dX10_init_5 : decode cX10_init 5 = .ok (.new 7, 3) := by decide +kernel
theorem dX10_init_8 : decode cX10_init 8 = .ok (.dup, 1) := by decide +kernel
theorem dX10_init_9 : decode cX10_init 9 = .ok (.invokespecial 9, 3) := by decide +kernel
theorem dX10_init_12 : decode cX10_init 12 = .ok (.putfield 10, 3) := by decide +kernel
theorem dX10_init_15 : decode cX10_init 15 = .ok (.aload_n 0, 1) := by decide +kernel
theorem dX10_init_16 : decode cX10_init 16 = .ok (.new 16, 3) := by decide +kernel
theorem dX10_init_19 : decode cX10_init 19 = .ok (.dup, 1) := by decide +kernel
theorem dX10_init_20 : decode cX10_init 20 = .ok (.invokespecial 18, 3) := by decide +kernel
theorem dX10_init_23 : decode cX10_init 23 = .ok (.putfield 19, 3) := by decide +kernel
theorem dX10_init_26 : decode cX10_init 26 = .ok (.aload_n 0, 1) := by decide +kernel
theorem dX10_init_27 : decode cX10_init 27 = .ok (.new 16, 3) := by decide +kernel
theorem dX10_init_30 : decode cX10_init 30 = .ok (.dup, 1) := by decide +kernel
theorem dX10_init_31 : decode cX10_init 31 = .ok (.invokespecial 18, 3) := by decide +kernel
theorem dX10_init_34 : decode cX10_init 34 = .ok (.putfield 23, 3) := by decide +kernel
theorem dX10_init_37 : decode cX10_init 37 = .ok (.aload_n 0, 1) := by decide +kernel
theorem dX10_init_38 : decode cX10_init 38 = .ok (.new 26, 3) := by decide +kernel
theorem dX10_init_41 : decode cX10_init 41 = .ok (.dup, 1) := by decide +kernel
theorem dX10_init_42 : decode cX10_init 42 = .ok (.invokespecial 28, 3) := by decide +kernel
theorem dX10_init_45 : decode cX10_init 45 = .ok (.putfield 29, 3) := by decide +kernel
theorem dX10_init_48 : decode cX10_init 48 = .ok (.aload_n 0, 1) := by decide +kernel
theorem dX10_init_49 : decode cX10_init 49 = .ok (.new 33, 3) := by decide +kernel
theorem dX10_init_52 : decode cX10_init 52 = .ok (.dup, 1) := by decide +kernel
theorem dX10_init_53 : decode cX10_init 53 = .ok (.invokespecial 35, 3) := by decide +kernel
theorem dX10_init_56 : decode cX10_init 56 = .ok (.putfield 36, 3) := by decide +kernel
theorem dX10_init_59 : decode cX10_init 59 = .ok (.aload_n 0, 1) := by decide +kernel
theorem dX10_init_60 : decode cX10_init 60 = .ok (.new 40, 3) := by decide +kernel
theorem dX10_init_63 : decode cX10_init 63 = .ok (.dup, 1) := by decide +kernel
theorem dX10_init_64 : decode cX10_init 64 = .ok (.invokespecial 42, 3) := by decide +kernel
theorem dX10_init_67 : decode cX10_init 67 = .ok (.putfield 43, 3) := by decide +kernel
theorem dX10_init_70 : decode cX10_init 70 = .ok (.aload_n 0, 1) := by decide +kernel
theorem dX10_init_71 : decode cX10_init 71 = .ok (.new 47, 3) := by decide +kernel
theorem dX10_init_74 : decode cX10_init 74 = .ok (.dup, 1) := by decide +kernel
theorem dX10_init_75 : decode cX10_init 75 = .ok (.invokespecial 49, 3) := by decide +kernel
theorem dX10_init_78 : decode cX10_init 78 = .ok (.putfield 50, 3) := by decide +kernel
theorem dX10_init_81 : decode cX10_init 81 = .ok (.aload_n 0, 1) := by decide +kernel
theorem dX10_init_82 : decode cX10_init 82 = .ok (.new 54, 3) := by decide +kernel
theorem dX10_init_85 : decode cX10_init 85 = .ok (.dup, 1) := by decide +kernel
theorem dX10_init_86 : decode cX10_init 86 = .ok (.invokespecial 56, 3) := by decide +kernel
theorem dX10_init_89 : decode cX10_init 89 = .ok (.putfield 57, 3) := by decide +kernel
theorem dX10_init_92 : decode cX10_init 92 = .ok (.aload_n 0, 1) := by decide +kernel
theorem dX10_init_93 : decode cX10_init 93 = .ok (.new 61, 3) := by decide +kernel
theorem dX10_init_96 : decode cX10_init 96 = .ok (.dup, 1) := by decide +kernel
theorem dX10_init_97 : decode cX10_init 97 = .ok (.invokespecial 63, 3) := by decide +kernel
theorem dX10_init_100 : decode cX10_init 100 = .ok (.putfield 64, 3) := by decide +kernel
theorem dX10_init_103 : decode cX10_init 103 = .ok (.aload_n 0, 1) := by decide +kernel
theorem dX10_init_104 : decode cX10_init 104 = .ok (.new 61, 3) := by decide +kernel
theorem dX10_init_107 : decode cX10_init 107 = .ok (.dup, 1) := by decide +kernel
theorem dX10_init_108 : decode cX10_init 108 = .ok (.invokespecial 63, 3) := by decide +kernel
theorem dX10_init_111 : decode cX10_init 111 = .ok (.putfield 68, 3) := by decide +kernel
theorem dX10_init_114 : decode cX10_init 114 = .ok (.aload_n 0, 1) := by decide +kernel
theorem dX10_init_115 : decode cX10_init 115 = .ok (.new 71, 3) := by decide +kernel
theorem dX10_init_118 : decode cX10_init 118 = .ok (.dup, 1) := by decide +kernel
theorem dX10_init_119 : decode cX10_init 119 = .ok (.invokespecial 73, 3) := by decide +kernel
theorem dX10_init_122 : decode cX10_init 122 = .ok (.putfield 74, 3) := by decide +kernel
theorem dX10_init_125 : decode cX10_init 125 = .ok (.aload_n 0, 1) := by decide +kernel
theorem dX10_init_126 : decode cX10_init 126 = .ok (.new 71, 3) := by decide +kernel
theorem dX10_init_129 : decode cX10_init 129 = .ok (.dup, 1) := by decide +kernel
theorem dX10_init_130 : decode cX10_init 130 = .ok (.invokespecial 73, 3) := by decide +kernel
theorem dX10_init_133 : decode cX10_init 133 = .ok (.putfield 78, 3) := by decide +kernel
theorem dX10_init_136 : decode cX10_init 136 = .ok (.aload_n 0, 1) := by decide +kernel
theorem dX10_init_137 : decode cX10_init 137 = .ok (.lconst 0, 1) := by decide +kernel
theorem dX10_init_138 : decode cX10_init 138 = .ok (.putfield 81, 3) := by decide +kernel
theorem dX10_init_141 : decode cX10_init 141 = .ok (.return_, 1) := by decide +kernel
theorem dX10_feed_0 : decode cX10_feed 0 = .ok (.aload_n 0, 1) := by decide +kernel
theorem dX10_feed_1 : decode cX10_feed 1 = .ok (.getfield 10, 3) := by decide +kernel
theorem dX10_feed_4 : decode cX10_feed 4 = .ok (.lload_n 1, 1) := by decide +kernel
theorem dX10_feed_5 : decode cX10_feed 5 = .ok (.invokevirtual 85, 3) := by decide +kernel
theorem dX10_feed_8 : decode cX10_feed 8 = .ok (.aload_n 0, 1) := by decide +kernel
theorem dX10_feed_9 : decode cX10_feed 9 = .ok (.getfield 10, 3) := by decide +kernel
theorem dX10_feed_12 : decode cX10_feed 12 = .ok (.lload_n 3, 1) := by decide +kernel
theorem dX10_feed_13 : decode cX10_feed 13 = .ok (.invokevirtual 85, 3) := by decide +kernel
theorem dX10_feed_16 : decode cX10_feed 16 = .ok (.aload_n 0, 1) := by decide +kernel
theorem dX10_feed_17 : decode cX10_feed 17 = .ok (.getfield 10, 3) := by decide +kernel
theorem dX10_feed_20 : decode cX10_feed 20 = .ok (.lload 5, 2) := by decide +kernel
theorem dX10_feed_22 : decode cX10_feed 22 = .ok (.invokevirtual 85, 3) := by decide +kernel
theorem dX10_feed_25 : decode cX10_feed 25 = .ok (.aload_n 0, 1) := by decide +kernel
theorem dX10_feed_26 : decode cX10_feed 26 = .ok (.getfield 10, 3) := by decide +kernel
theorem dX10_feed_29 : decode cX10_feed 29 = .ok (.getfield 89, 3) := by decide +kernel
theorem dX10_feed_32 : decode cX10_feed 32 = .ok (.ireturn, 1) := by decide +kernel
theorem dX10_line_0 : decode cX10_line 0 = .ok (.aload_n 0, 1) := by decide +kernel
theorem dX10_line_1 : decode cX10_line 1 = .ok (.getfield 10, 3) := by decide +kernel
theorem dX10_line_4 : decode cX10_line 4 = .ok (.aload_n 0, 1) := by decide +kernel
theorem dX10_line_5 : decode cX10_line 5 = .ok (.getfield 68, 3) := by decide +kernel
theorem dX10_line_8 : decode cX10_line 8 = .ok (.invokevirtual 93, 3) := by decide +kernel
theorem dX10_line_11 : decode cX10_line 11 = .ok (.istore_n 1, 1) := by decide +kernel
theorem dX10_line_12 : decode cX10_line 12 = .ok (.iload_n 1, 1) := by decide +kernel
theorem dX10_line_13 : decode cX10_line 13 = .ok (.ifCond .eq 5, 3) := by decide +kernel
theorem dX10_line_16 : decode cX10_line 16 = .ok (.iload_n 1, 1) := by decide +kernel
theorem dX10_line_17 : decode cX10_line 17 = .ok (.ireturn, 1) := by decide +kernel
theorem dX10_line_18 : decode cX10_line 18 = .ok (.aload_n 0, 1) := by decide +kernel
theorem dX10_line_19 : decode cX10_line 19 = .ok (.getfield 68, 3) := by decide +kernel
theorem dX10_line_22 : decode cX10_line 22 = .ok (.astore_n 2, 1) := by decide +kernel
theorem dX10_line_23 : decode cX10_line 23 = .ok (.aload_n 0, 1) := by decide +kernel
theorem dX10_line_24 : decode cX10_line 24 = .ok (.aload_n 0, 1) := by decide +kernel
theorem dX10_line_25 : decode cX10_line 25 = .ok (.getfield 64, 3) := by decide +kernel
theorem dX10_line_28 : decode cX10_line 28 = .ok (.putfield 68, 3) := by decide +kernel
theorem dX10_line_31 : decode cX10_line 31 = .ok (.aload_n 0, 1) := by decide +kernel
theorem dX10_line_32 : decode cX10_line 32 = .ok (.aload_n 2, 1) := by decide +kernel
theorem dX10_line_33 : decode cX10_line 33 = .ok (.putfield 64, 3) := by decide +kernel
theorem dX10_line_36 : decode cX10_line 36 = .ok (.aload_n 0, 1) := by decide +kernel
theorem dX10_line_37 : decode cX10_line 37 = .ok (.getfield 19, 3) := by decide +kernel
theorem dX10_line_40 : decode cX10_line 40 = .ok (.aload_n 0, 1) := by decide +kernel
theorem dX10_line_41 : decode cX10_line 41 = .ok (.getfield 64, 3) := by decide +kernel
theorem dX10_line_44 : decode cX10_line 44 = .ok (.invokevirtual 97, 3) := by decide +kernel
theorem dX10_line_47 : decode cX10_line 47 = .ok (.aload_n 0, 1) := by decide +kernel
theorem dX10_line_48 : decode cX10_line 48 = .ok (.getfield 74, 3) := by decide +kernel
theorem dX10_line_51 : decode cX10_line 51 = .ok (.invokevirtual 101, 3) := by decide +kernel
theorem dX10_line_54 : decode cX10_line 54 = .ok (.aload_n 0, 1) := by decide +kernel
theorem dX10_line_55 : decode cX10_line 55 = .ok (.getfield 29, 3) := by decide +kernel
theorem dX10_line_58 : decode cX10_line 58 = .ok (.invokevirtual 104, 3) := by decide +kernel
theorem dX10_line_61 : decode cX10_line 61 = .ok (.aload_n 0, 1) := by decide +kernel
theorem dX10_line_62 : decode cX10_line 62 = .ok (.getfield 36, 3) := by decide +kernel
theorem dX10_line_65 : decode cX10_line 65 = .ok (.invokevirtual 105, 3) := by decide +kernel
theorem dX10_line_68 : decode cX10_line 68 = .ok (.iconst 0, 1) := by decide +kernel
theorem dX10_line_69 : decode cX10_line 69 = .ok (.ireturn, 1) := by decide +kernel
theorem dX10_day_0 : decode cX10_day 0 = .ok (.aload_n 0, 1) := by decide +kernel
theorem dX10_day_1 : decode cX10_day 1 = .ok (.getfield 10, 3) := by decide +kernel
theorem dX10_day_4 : decode cX10_day 4 = .ok (.aload_n 0, 1) := by decide +kernel
theorem dX10_day_5 : decode cX10_day 5 = .ok (.getfield 64, 3) := by decide +kernel
theorem dX10_day_8 : decode cX10_day 8 = .ok (.aload_n 0, 1) := by decide +kernel
theorem dX10_day_9 : decode cX10_day 9 = .ok (.getfield 78, 3) := by decide +kernel
theorem dX10_day_12 : decode cX10_day 12 = .ok (.invokevirtual 106, 3) := by decide +kernel
theorem dX10_day_15 : decode cX10_day 15 = .ok (.istore_n 1, 1) := by decide +kernel
theorem dX10_day_16 : decode cX10_day 16 = .ok (.iload_n 1, 1) := by decide +kernel
theorem dX10_day_17 : decode cX10_day 17 = .ok (.ifCond .eq 5, 3) := by decide +kernel
theorem dX10_day_20 : decode cX10_day 20 = .ok (.iload_n 1, 1) := by decide +kernel
theorem dX10_day_21 : decode cX10_day 21 = .ok (.ireturn, 1) := by decide +kernel
theorem dX10_day_22 : decode cX10_day 22 = .ok (.aload_n 0, 1) := by decide +kernel
theorem dX10_day_23 : decode cX10_day 23 = .ok (.getfield 78, 3) := by decide +kernel
theorem dX10_day_26 : decode cX10_day 26 = .ok (.astore_n 2, 1) := by decide +kernel
theorem dX10_day_27 : decode cX10_day 27 = .ok (.aload_n 0, 1) := by decide +kernel
theorem dX10_day_28 : decode cX10_day 28 = .ok (.aload_n 0, 1) := by decide +kernel
theorem dX10_day_29 : decode cX10_day 29 = .ok (.getfield 74, 3) := by decide +kernel
theorem dX10_day_32 : decode cX10_day 32 = .ok (.putfield 78, 3) := by decide +kernel
theorem dX10_day_35 : decode cX10_day 35 = .ok (.aload_n 0, 1) := by decide +kernel
theorem dX10_day_36 : decode cX10_day 36 = .ok (.aload_n 2, 1) := by decide +kernel
theorem dX10_day_37 : decode cX10_day 37 = .ok (.putfield 74, 3) := by decide +kernel
theorem dX10_day_40 : decode cX10_day 40 = .ok (.iconst 0, 1) := by decide +kernel
theorem dX10_day_41 : decode cX10_day 41 = .ok (.ireturn, 1) := by decide +kernel
theorem dX10_cloth_0 : decode cX10_cloth 0 = .ok (.aload_n 0, 1) := by decide +kernel
theorem dX10_cloth_1 : decode cX10_cloth 1 = .ok (.getfield 64, 3) := by decide +kernel
theorem dX10_cloth_4 : decode cX10_cloth 4 = .ok (.iload_n 1, 1) := by decide +kernel
theorem dX10_cloth_5 : decode cX10_cloth 5 = .ok (.invokevirtual 110, 3) := by decide +kernel
theorem dX10_cloth_8 : decode cX10_cloth 8 = .ok (.ifCond .ne 5, 3) := by decide +kernel
theorem dX10_cloth_11 : decode cX10_cloth 11 = .ok (.iconst (-1), 1) := by decide +kernel
theorem dX10_cloth_12 : decode cX10_cloth 12 = .ok (.ireturn, 1) := by decide +kernel
theorem dX10_cloth_13 : decode cX10_cloth 13 = .ok (.iload_n 2, 1) := by decide +kernel
theorem dX10_cloth_14 : decode cX10_cloth 14 = .ok (.tableswitch 169 0 7 #[46, 56, 66, 76, 86, 107, 124, 137], 46) := by decide +kernel
theorem dX10_cloth_60 : decode cX10_cloth 60 = .ok (.aload_n 0, 1) := by decide +kernel
theorem dX10_cloth_61 : decode cX10_cloth 61 = .ok (.getfield 64, 3) := by decide +kernel
theorem dX10_cloth_64 : decode cX10_cloth 64 = .ok (.getfield 114, 3) := by decide +kernel
theorem dX10_cloth_67 : decode cX10_cloth 67 = .ok (.iload_n 1, 1) := by decide +kernel
theorem dX10_cloth_68 : decode cX10_cloth 68 = .ok (.iaload, 1) := by decide +kernel
theorem dX10_cloth_69 : decode cX10_cloth 69 = .ok (.ireturn, 1) := by decide +kernel
theorem dX10_cloth_70 : decode cX10_cloth 70 = .ok (.aload_n 0, 1) := by decide +kernel
theorem dX10_cloth_71 : decode cX10_cloth 71 = .ok (.getfield 19, 3) := by decide +kernel
theorem dX10_cloth_74 : decode cX10_cloth 74 = .ok (.getfield 118, 3) := by decide +kernel
theorem dX10_cloth_77 : decode cX10_cloth 77 = .ok (.iload_n 1, 1) := by decide +kernel
theorem dX10_cloth_78 : decode cX10_cloth 78 = .ok (.iaload, 1) := by decide +kernel
theorem dX10_cloth_79 : decode cX10_cloth 79 = .ok (.ireturn, 1) := by decide +kernel
theorem dX10_cloth_80 : decode cX10_cloth 80 = .ok (.aload_n 0, 1) := by decide +kernel
theorem dX10_cloth_81 : decode cX10_cloth 81 = .ok (.getfield 19, 3) := by decide +kernel
theorem dX10_cloth_84 : decode cX10_cloth 84 = .ok (.getfield 121, 3) := by decide +kernel
theorem dX10_cloth_87 : decode cX10_cloth 87 = .ok (.iload_n 1, 1) := by decide +kernel
theorem dX10_cloth_88 : decode cX10_cloth 88 = .ok (.iaload, 1) := by decide +kernel
theorem dX10_cloth_89 : decode cX10_cloth 89 = .ok (.ireturn, 1) := by decide +kernel
theorem dX10_cloth_90 : decode cX10_cloth 90 = .ok (.aload_n 0, 1) := by decide +kernel
theorem dX10_cloth_91 : decode cX10_cloth 91 = .ok (.getfield 19, 3) := by decide +kernel
theorem dX10_cloth_94 : decode cX10_cloth 94 = .ok (.getfield 124, 3) := by decide +kernel
theorem dX10_cloth_97 : decode cX10_cloth 97 = .ok (.iload_n 1, 1) := by decide +kernel
theorem dX10_cloth_98 : decode cX10_cloth 98 = .ok (.iaload, 1) := by decide +kernel
theorem dX10_cloth_99 : decode cX10_cloth 99 = .ok (.ireturn, 1) := by decide +kernel
theorem dX10_cloth_100 : decode cX10_cloth 100 = .ok (.aload_n 0, 1) := by decide +kernel
theorem dX10_cloth_101 : decode cX10_cloth 101 = .ok (.getfield 19, 3) := by decide +kernel
theorem dX10_cloth_104 : decode cX10_cloth 104 = .ok (.aload_n 0, 1) := by decide +kernel
theorem dX10_cloth_105 : decode cX10_cloth 105 = .ok (.getfield 64, 3) := by decide +kernel
theorem dX10_cloth_108 : decode cX10_cloth 108 = .ok (.iload_n 1, 1) := by decide +kernel
theorem dX10_cloth_109 : decode cX10_cloth 109 = .ok (.invokevirtual 127, 3) := by decide +kernel
theorem dX10_cloth_112 : decode cX10_cloth 112 = .ok (.ifCond .eq 7, 3) := by decide +kernel
theorem dX10_cloth_115 : decode cX10_cloth 115 = .ok (.iconst 1, 1) := by decide +kernel
theorem dX10_cloth_116 : decode cX10_cloth 116 = .ok (.goto 4, 3) := by decide +kernel
theorem dX10_cloth_119 : decode cX10_cloth 119 = .ok (.iconst 0, 1) := by decide +kernel
theorem dX10_cloth_120 : decode cX10_cloth 120 = .ok (.ireturn, 1) := by decide +kernel
theorem dX10_cloth_121 : decode cX10_cloth 121 = .ok (.aload_n 0, 1) := by decide +kernel
theorem dX10_cloth_122 : decode cX10_cloth 122 = .ok (.getfield 19, 3) := by decide +kernel
theorem dX10_cloth_125 : decode cX10_cloth 125 = .ok (.iload_n 1, 1) := by decide +kernel
theorem dX10_cloth_126 : decode cX10_cloth 126 = .ok (.invokevirtual 131, 3) := by decide +kernel
theorem dX10_cloth_129 : decode cX10_cloth 129 = .ok (.ifCond .eq 7, 3) := by decide +kernel
theorem dX10_cloth_132 : decode cX10_cloth 132 = .ok (.iconst 1, 1) := by decide +kernel
theorem dX10_cloth_133 : decode cX10_cloth 133 = .ok (.goto 4, 3) := by decide +kernel
theorem dX10_cloth_136 : decode cX10_cloth 136 = .ok (.iconst 0, 1) := by decide +kernel
theorem dX10_cloth_137 : decode cX10_cloth 137 = .ok (.ireturn, 1) := by decide +kernel
theorem dX10_cloth_138 : decode cX10_cloth 138 = .ok (.aload_n 0, 1) := by decide +kernel
theorem dX10_cloth_139 : decode cX10_cloth 139 = .ok (.getfield 19, 3) := by decide +kernel
theorem dX10_cloth_142 : decode cX10_cloth 142 = .ok (.aload_n 0, 1) := by decide +kernel
theorem dX10_cloth_143 : decode cX10_cloth 143 = .ok (.getfield 64, 3) := by decide +kernel
theorem dX10_cloth_146 : decode cX10_cloth 146 = .ok (.iload_n 1, 1) := by decide +kernel
theorem dX10_cloth_147 : decode cX10_cloth 147 = .ok (.invokevirtual 134, 3) := by decide +kernel
theorem dX10_cloth_150 : decode cX10_cloth 150 = .ok (.ireturn, 1) := by decide +kernel
theorem dX10_cloth_151 : decode cX10_cloth 151 = .ok (.aload_n 0, 1) := by decide +kernel
theorem dX10_cloth_152 : decode cX10_cloth 152 = .ok (.getfield 64, 3) := by decide +kernel
theorem dX10_cloth_155 : decode cX10_cloth 155 = .ok (.iload_n 1, 1) := by decide +kernel
theorem dX10_cloth_156 : decode cX10_cloth 156 = .ok (.aload_n 0, 1) := by decide +kernel
theorem dX10_cloth_157 : decode cX10_cloth 157 = .ok (.getfield 19, 3) := by decide +kernel
theorem dX10_cloth_160 : decode cX10_cloth 160 = .ok (.getfield 118, 3) := by decide +kernel
theorem dX10_cloth_163 : decode cX10_cloth 163 = .ok (.iload_n 1, 1) := by decide +kernel
theorem dX10_cloth_164 : decode cX10_cloth 164 = .ok (.iaload, 1) := by decide +kernel
theorem dX10_cloth_165 : decode cX10_cloth 165 = .ok (.aload_n 0, 1) := by decide +kernel
theorem dX10_cloth_166 : decode cX10_cloth 166 = .ok (.getfield 64, 3) := by decide +kernel
theorem dX10_cloth_169 : decode cX10_cloth 169 = .ok (.aload_n 0, 1) := by decide +kernel
theorem dX10_cloth_170 : decode cX10_cloth 170 = .ok (.getfield 19, 3) := by decide +kernel
theorem dX10_cloth_173 : decode cX10_cloth 173 = .ok (.getfield 138, 3) := by decide +kernel
theorem dX10_cloth_176 : decode cX10_cloth 176 = .ok (.invokevirtual 141, 3) := by decide +kernel
theorem dX10_cloth_179 : decode cX10_cloth 179 = .ok (.invokevirtual 145, 3) := by decide +kernel
theorem dX10_cloth_182 : decode cX10_cloth 182 = .ok (.ireturn, 1) := by decide +kernel
theorem dX10_cloth_183 : decode cX10_cloth 183 = .ok (.iconst (-1), 1) := by decide +kernel
theorem dX10_cloth_184 : decode cX10_cloth 184 = .ok (.ireturn, 1) := by decide +kernel
theorem dX10_peg_0 : decode cX10_peg 0 = .ok (.iload_n 1, 1) := by decide +kernel
theorem dX10_peg_1 : decode cX10_peg 1 = .ok (.ifCond .lt 14, 3) := by decide +kernel
theorem dX10_peg_4 : decode cX10_peg 4 = .ok (.iload_n 1, 1) := by decide +kernel
theorem dX10_peg_5 : decode cX10_peg 5 = .ok (.aload_n 0, 1) := by decide +kernel
theorem dX10_peg_6 : decode cX10_peg 6 = .ok (.getfield 19, 3) := by decide +kernel
theorem dX10_peg_9 : decode cX10_peg 9 = .ok (.getfield 149, 3) := by decide +kernel
theorem dX10_peg_12 : decode cX10_peg 12 = .ok (.if_icmp .lt 6, 3) := by decide +kernel
theorem dX10_peg_15 : decode cX10_peg 15 = .ok (.bipush (-2), 2) := by decide +kernel
theorem dX10_peg_17 : decode cX10_peg 17 = .ok (.ireturn, 1) := by decide +kernel
theorem dX10_peg_18 : decode cX10_peg 18 = .ok (.iload_n 2, 1) := by decide +kernel
theorem dX10_peg_19 : decode cX10_peg 19 = .ok (.ifCond .ne 13, 3) := by decide +kernel
theorem dX10_peg_22 : decode cX10_peg 22 = .ok (.aload_n 0, 1) := by decide +kernel
theorem dX10_peg_23 : decode cX10_peg 23 = .ok (.getfield 19, 3) := by decide +kernel
theorem dX10_peg_26 : decode cX10_peg 26 = .ok (.getfield 152, 3) := by decide +kernel
theorem dX10_peg_29 : decode cX10_peg 29 = .ok (.iload_n 1, 1) := by decide +kernel
theorem dX10_peg_30 : decode cX10_peg 30 = .ok (.iaload, 1) := by decide +kernel
theorem dX10_peg_31 : decode cX10_peg 31 = .ok (.ireturn, 1) := by decide +kernel
theorem dX10_peg_32 : decode cX10_peg 32 = .ok (.iload_n 2, 1) := by decide +kernel
theorem dX10_peg_33 : decode cX10_peg 33 = .ok (.iconst 1, 1) := by decide +kernel
theorem dX10_peg_34 : decode cX10_peg 34 = .ok (.if_icmp .ne 14, 3) := by decide +kernel
theorem dX10_peg_37 : decode cX10_peg 37 = .ok (.aload_n 0, 1) := by decide +kernel
theorem dX10_peg_38 : decode cX10_peg 38 = .ok (.getfield 19, 3) := by decide +kernel
theorem dX10_peg_41 : decode cX10_peg 41 = .ok (.iload_n 1, 1) := by decide +kernel
theorem dX10_peg_42 : decode cX10_peg 42 = .ok (.invokevirtual 155, 3) := by decide +kernel
theorem dX10_peg_45 : decode cX10_peg 45 = .ok (.goto 5, 3) := by decide +kernel
theorem dX10_peg_48 : decode cX10_peg 48 = .ok (.bipush (-2), 2) := by decide +kernel
theorem dX10_peg_50 : decode cX10_peg 50 = .ok (.ireturn, 1) := by decide +kernel
theorem dX10_free_0 : decode cX10_free 0 = .ok (.aload_n 0, 1) := by decide +kernel
theorem dX10_free_1 : decode cX10_free 1 = .ok (.getfield 19, 3) := by decide +kernel
theorem dX10_free_4 : decode cX10_free 4 = .ok (.invokevirtual 158, 3) := by decide +kernel
theorem dX10_free_7 : decode cX10_free 7 = .ok (.ireturn, 1) := by decide +kernel
theorem dX10_laws_0 : decode cX10_laws 0 = .ok (.aload_n 0, 1) := by decide +kernel
theorem dX10_laws_1 : decode cX10_laws 1 = .ok (.getfield 19, 3) := by decide +kernel
theorem dX10_laws_4 : decode cX10_laws 4 = .ok (.aload_n 0, 1) := by decide +kernel
theorem dX10_laws_5 : decode cX10_laws 5 = .ok (.getfield 64, 3) := by decide +kernel
theorem dX10_laws_8 : decode cX10_laws 8 = .ok (.invokevirtual 162, 3) := by decide +kernel
theorem dX10_laws_11 : decode cX10_laws 11 = .ok (.ireturn, 1) := by decide +kernel
theorem dX10_hang_0 : decode cX10_hang 0 = .ok (.aload_n 0, 1) := by decide +kernel
theorem dX10_hang_1 : decode cX10_hang 1 = .ok (.getfield 36, 3) := by decide +kernel
theorem dX10_hang_4 : decode cX10_hang 4 = .ok (.aload_n 0, 1) := by decide +kernel
theorem dX10_hang_5 : decode cX10_hang 5 = .ok (.getfield 19, 3) := by decide +kernel
theorem dX10_hang_8 : decode cX10_hang 8 = .ok (.invokevirtual 165, 3) := by decide +kernel
theorem dX10_hang_11 : decode cX10_hang 11 = .ok (.aload_n 0, 1) := by decide +kernel
theorem dX10_hang_12 : decode cX10_hang 12 = .ok (.getfield 19, 3) := by decide +kernel
theorem dX10_hang_15 : decode cX10_hang 15 = .ok (.aload_n 0, 1) := by decide +kernel
theorem dX10_hang_16 : decode cX10_hang 16 = .ok (.getfield 64, 3) := by decide +kernel
theorem dX10_hang_19 : decode cX10_hang 19 = .ok (.iload_n 1, 1) := by decide +kernel
theorem dX10_hang_20 : decode cX10_hang 20 = .ok (.iload_n 2, 1) := by decide +kernel
theorem dX10_hang_21 : decode cX10_hang 21 = .ok (.invokevirtual 169, 3) := by decide +kernel
theorem dX10_hang_24 : decode cX10_hang 24 = .ok (.ifCond .ne 5, 3) := by decide +kernel
theorem dX10_hang_27 : decode cX10_hang 27 = .ok (.iconst (-1), 1) := by decide +kernel
theorem dX10_hang_28 : decode cX10_hang 28 = .ok (.ireturn, 1) := by decide +kernel
theorem dX10_hang_29 : decode cX10_hang 29 = .ok (.aload_n 0, 1) := by decide +kernel
theorem dX10_hang_30 : decode cX10_hang 30 = .ok (.getfield 36, 3) := by decide +kernel
theorem dX10_hang_33 : decode cX10_hang 33 = .ok (.invokevirtual 173, 3) := by decide +kernel
theorem dX10_hang_36 : decode cX10_hang 36 = .ok (.aload_n 0, 1) := by decide +kernel
theorem dX10_hang_37 : decode cX10_hang 37 = .ok (.getfield 19, 3) := by decide +kernel
theorem dX10_hang_40 : decode cX10_hang 40 = .ok (.aload_n 0, 1) := by decide +kernel
theorem dX10_hang_41 : decode cX10_hang 41 = .ok (.getfield 64, 3) := by decide +kernel
theorem dX10_hang_44 : decode cX10_hang 44 = .ok (.invokevirtual 176, 3) := by decide +kernel
theorem dX10_hang_47 : decode cX10_hang 47 = .ok (.ireturn, 1) := by decide +kernel
theorem dX10_take_0 : decode cX10_take 0 = .ok (.aload_n 0, 1) := by decide +kernel
theorem dX10_take_1 : decode cX10_take 1 = .ok (.getfield 36, 3) := by decide +kernel
theorem dX10_take_4 : decode cX10_take 4 = .ok (.aload_n 0, 1) := by decide +kernel
theorem dX10_take_5 : decode cX10_take 5 = .ok (.getfield 19, 3) := by decide +kernel
theorem dX10_take_8 : decode cX10_take 8 = .ok (.invokevirtual 165, 3) := by decide +kernel
theorem dX10_take_11 : decode cX10_take 11 = .ok (.aload_n 0, 1) := by decide +kernel
theorem dX10_take_12 : decode cX10_take 12 = .ok (.getfield 19, 3) := by decide +kernel
theorem dX10_take_15 : decode cX10_take 15 = .ok (.aload_n 0, 1) := by decide +kernel
theorem dX10_take_16 : decode cX10_take 16 = .ok (.getfield 64, 3) := by decide +kernel
theorem dX10_take_19 : decode cX10_take 19 = .ok (.iload_n 1, 1) := by decide +kernel
theorem dX10_take_20 : decode cX10_take 20 = .ok (.invokevirtual 179, 3) := by decide +kernel
theorem dX10_take_23 : decode cX10_take 23 = .ok (.ifCond .ne 5, 3) := by decide +kernel
theorem dX10_take_26 : decode cX10_take 26 = .ok (.iconst 0, 1) := by decide +kernel
theorem dX10_take_27 : decode cX10_take 27 = .ok (.ireturn, 1) := by decide +kernel
theorem dX10_take_28 : decode cX10_take 28 = .ok (.aload_n 0, 1) := by decide +kernel
theorem dX10_take_29 : decode cX10_take 29 = .ok (.getfield 36, 3) := by decide +kernel
theorem dX10_take_32 : decode cX10_take 32 = .ok (.invokevirtual 173, 3) := by decide +kernel
theorem dX10_take_35 : decode cX10_take 35 = .ok (.iconst 1, 1) := by decide +kernel
theorem dX10_take_36 : decode cX10_take 36 = .ok (.ireturn, 1) := by decide +kernel
theorem dX10_wash_0 : decode cX10_wash 0 = .ok (.aload_n 0, 1) := by decide +kernel
theorem dX10_wash_1 : decode cX10_wash 1 = .ok (.getfield 36, 3) := by decide +kernel
theorem dX10_wash_4 : decode cX10_wash 4 = .ok (.aload_n 0, 1) := by decide +kernel
theorem dX10_wash_5 : decode cX10_wash 5 = .ok (.getfield 19, 3) := by decide +kernel
theorem dX10_wash_8 : decode cX10_wash 8 = .ok (.invokevirtual 165, 3) := by decide +kernel
theorem dX10_wash_11 : decode cX10_wash 11 = .ok (.aload_n 0, 1) := by decide +kernel
theorem dX10_wash_12 : decode cX10_wash 12 = .ok (.getfield 19, 3) := by decide +kernel
theorem dX10_wash_15 : decode cX10_wash 15 = .ok (.aload_n 0, 1) := by decide +kernel
theorem dX10_wash_16 : decode cX10_wash 16 = .ok (.getfield 64, 3) := by decide +kernel
theorem dX10_wash_19 : decode cX10_wash 19 = .ok (.iload_n 1, 1) := by decide +kernel
theorem dX10_wash_20 : decode cX10_wash 20 = .ok (.invokevirtual 182, 3) := by decide +kernel
theorem dX10_wash_23 : decode cX10_wash 23 = .ok (.istore_n 2, 1) := by decide +kernel
theorem dX10_wash_24 : decode cX10_wash 24 = .ok (.iload_n 2, 1) := by decide +kernel
theorem dX10_wash_25 : decode cX10_wash 25 = .ok (.iconst (-1), 1) := by decide +kernel
theorem dX10_wash_26 : decode cX10_wash 26 = .ok (.if_icmp .eq 10, 3) := by decide +kernel
theorem dX10_wash_29 : decode cX10_wash 29 = .ok (.aload_n 0, 1) := by decide +kernel
theorem dX10_wash_30 : decode cX10_wash 30 = .ok (.getfield 36, 3) := by decide +kernel
theorem dX10_wash_33 : decode cX10_wash 33 = .ok (.invokevirtual 173, 3) := by decide +kernel
theorem dX10_wash_36 : decode cX10_wash 36 = .ok (.iload_n 2, 1) := by decide +kernel
theorem dX10_wash_37 : decode cX10_wash 37 = .ok (.ireturn, 1) := by decide +kernel
theorem dX10_buy_0 : decode cX10_buy 0 = .ok (.aload_n 0, 1) := by decide +kernel
theorem dX10_buy_1 : decode cX10_buy 1 = .ok (.getfield 36, 3) := by decide +kernel
theorem dX10_buy_4 : decode cX10_buy 4 = .ok (.aload_n 0, 1) := by decide +kernel
theorem dX10_buy_5 : decode cX10_buy 5 = .ok (.getfield 19, 3) := by decide +kernel
theorem dX10_buy_8 : decode cX10_buy 8 = .ok (.invokevirtual 165, 3) := by decide +kernel
theorem dX10_buy_11 : decode cX10_buy 11 = .ok (.aload_n 0, 1) := by decide +kernel
theorem dX10_buy_12 : decode cX10_buy 12 = .ok (.getfield 19, 3) := by decide +kernel
theorem dX10_buy_15 : decode cX10_buy 15 = .ok (.iload_n 1, 1) := by decide +kernel
theorem dX10_buy_16 : decode cX10_buy 16 = .ok (.invokevirtual 185, 3) := by decide +kernel
theorem dX10_buy_19 : decode cX10_buy 19 = .ok (.istore_n 2, 1) := by decide +kernel
theorem dX10_buy_20 : decode cX10_buy 20 = .ok (.iload_n 2, 1) := by decide +kernel
theorem dX10_buy_21 : decode cX10_buy 21 = .ok (.iconst (-1), 1) := by decide +kernel
theorem dX10_buy_22 : decode cX10_buy 22 = .ok (.if_icmp .eq 10, 3) := by decide +kernel
theorem dX10_buy_25 : decode cX10_buy 25 = .ok (.aload_n 0, 1) := by decide +kernel
theorem dX10_buy_26 : decode cX10_buy 26 = .ok (.getfield 36, 3) := by decide +kernel
theorem dX10_buy_29 : decode cX10_buy 29 = .ok (.invokevirtual 173, 3) := by decide +kernel
theorem dX10_buy_32 : decode cX10_buy 32 = .ok (.iload_n 2, 1) := by decide +kernel
theorem dX10_buy_33 : decode cX10_buy 33 = .ok (.ireturn, 1) := by decide +kernel
theorem dX10_hour_0 : decode cX10_hour 0 = .ok (.aload_n 0, 1) := by decide +kernel
theorem dX10_hour_1 : decode cX10_hour 1 = .ok (.getfield 36, 3) := by decide +kernel
theorem dX10_hour_4 : decode cX10_hour 4 = .ok (.aload_n 0, 1) := by decide +kernel
theorem dX10_hour_5 : decode cX10_hour 5 = .ok (.getfield 19, 3) := by decide +kernel
theorem dX10_hour_8 : decode cX10_hour 8 = .ok (.invokevirtual 165, 3) := by decide +kernel
theorem dX10_hour_11 : decode cX10_hour 11 = .ok (.aload_n 0, 1) := by decide +kernel
theorem dX10_hour_12 : decode cX10_hour 12 = .ok (.getfield 36, 3) := by decide +kernel
theorem dX10_hour_15 : decode cX10_hour 15 = .ok (.invokevirtual 173, 3) := by decide +kernel
theorem dX10_hour_18 : decode cX10_hour 18 = .ok (.aload_n 0, 1) := by decide +kernel
theorem dX10_hour_19 : decode cX10_hour 19 = .ok (.getfield 19, 3) := by decide +kernel
theorem dX10_hour_22 : decode cX10_hour 22 = .ok (.aload_n 0, 1) := by decide +kernel
theorem dX10_hour_23 : decode cX10_hour 23 = .ok (.getfield 64, 3) := by decide +kernel
theorem dX10_hour_26 : decode cX10_hour 26 = .ok (.iconst 0, 1) := by decide +kernel
theorem dX10_hour_27 : decode cX10_hour 27 = .ok (.invokevirtual 188, 3) := by decide +kernel
theorem dX10_hour_30 : decode cX10_hour 30 = .ok (.ireturn, 1) := by decide +kernel
theorem dX10_undo_0 : decode cX10_undo 0 = .ok (.aload_n 0, 1) := by decide +kernel
theorem dX10_undo_1 : decode cX10_undo 1 = .ok (.getfield 36, 3) := by decide +kernel
theorem dX10_undo_4 : decode cX10_undo 4 = .ok (.aload_n 0, 1) := by decide +kernel
theorem dX10_undo_5 : decode cX10_undo 5 = .ok (.getfield 19, 3) := by decide +kernel
theorem dX10_undo_8 : decode cX10_undo 8 = .ok (.invokevirtual 191, 3) := by decide +kernel
theorem dX10_undo_11 : decode cX10_undo 11 = .ok (.ireturn, 1) := by decide +kernel
theorem dX10_judged_0 : decode cX10_judged 0 = .ok (.iload_n 1, 1) := by decide +kernel
theorem dX10_judged_1 : decode cX10_judged 1 = .ok (.ifCond .lt 8, 3) := by decide +kernel
theorem dX10_judged_4 : decode cX10_judged 4 = .ok (.iload_n 1, 1) := by decide +kernel
theorem dX10_judged_5 : decode cX10_judged 5 = .ok (.iconst 2, 1) := by decide +kernel
theorem dX10_judged_6 : decode cX10_judged 6 = .ok (.if_icmp .le 6, 3) := by decide +kernel
theorem dX10_judged_9 : decode cX10_judged 9 = .ok (.bipush (-2), 2) := by decide +kernel
theorem dX10_judged_11 : decode cX10_judged 11 = .ok (.ireturn, 1) := by decide +kernel
theorem dX10_judged_12 : decode cX10_judged 12 = .ok (.aload_n 0, 1) := by decide +kernel
theorem dX10_judged_13 : decode cX10_judged 13 = .ok (.getfield 74, 3) := by decide +kernel
theorem dX10_judged_16 : decode cX10_judged 16 = .ok (.aload_n 0, 1) := by decide +kernel
theorem dX10_judged_17 : decode cX10_judged 17 = .ok (.getfield 64, 3) := by decide +kernel
theorem dX10_judged_20 : decode cX10_judged 20 = .ok (.aload_n 0, 1) := by decide +kernel
theorem dX10_judged_21 : decode cX10_judged 21 = .ok (.getfield 23, 3) := by decide +kernel
theorem dX10_judged_24 : decode cX10_judged 24 = .ok (.invokevirtual 195, 3) := by decide +kernel
theorem dX10_judged_27 : decode cX10_judged 27 = .ok (.iload_n 1, 1) := by decide +kernel
theorem dX10_judged_28 : decode cX10_judged 28 = .ok (.ifCond .ne 11, 3) := by decide +kernel
theorem dX10_judged_31 : decode cX10_judged 31 = .ok (.aload_n 0, 1) := by decide +kernel
theorem dX10_judged_32 : decode cX10_judged 32 = .ok (.getfield 74, 3) := by decide +kernel
theorem dX10_judged_35 : decode cX10_judged 35 = .ok (.getfield 199, 3) := by decide +kernel
theorem dX10_judged_38 : decode cX10_judged 38 = .ok (.ireturn, 1) := by decide +kernel
theorem dX10_judged_39 : decode cX10_judged 39 = .ok (.iload_n 1, 1) := by decide +kernel
theorem dX10_judged_40 : decode cX10_judged 40 = .ok (.iconst 1, 1) := by decide +kernel
theorem dX10_judged_41 : decode cX10_judged 41 = .ok (.if_icmp .ne 13, 3) := by decide +kernel
theorem dX10_judged_44 : decode cX10_judged 44 = .ok (.aload_n 0, 1) := by decide +kernel
theorem dX10_judged_45 : decode cX10_judged 45 = .ok (.getfield 74, 3) := by decide +kernel
theorem dX10_judged_48 : decode cX10_judged 48 = .ok (.getfield 202, 3) := by decide +kernel
theorem dX10_judged_51 : decode cX10_judged 51 = .ok (.goto 14, 3) := by decide +kernel
theorem dX10_judged_54 : decode cX10_judged 54 = .ok (.aload_n 0, 1) := by decide +kernel
theorem dX10_judged_55 : decode cX10_judged 55 = .ok (.getfield 23, 3) := by decide +kernel
theorem dX10_judged_58 : decode cX10_judged 58 = .ok (.aload_n 0, 1) := by decide +kernel
theorem dX10_judged_59 : decode cX10_judged 59 = .ok (.getfield 64, 3) := by decide +kernel
theorem dX10_judged_62 : decode cX10_judged 62 = .ok (.invokevirtual 205, 3) := by decide +kernel
theorem dX10_judged_65 : decode cX10_judged 65 = .ok (.ireturn, 1) := by decide +kernel
theorem dX10_holds_0 : decode cX10_holds 0 = .ok (.aload_n 0, 1) := by decide +kernel
theorem dX10_holds_1 : decode cX10_holds 1 = .ok (.getfield 64, 3) := by decide +kernel
theorem dX10_holds_4 : decode cX10_holds 4 = .ok (.iload_n 1, 1) := by decide +kernel
theorem dX10_holds_5 : decode cX10_holds 5 = .ok (.invokevirtual 110, 3) := by decide +kernel
theorem dX10_holds_8 : decode cX10_holds 8 = .ok (.ifCond .eq 15, 3) := by decide +kernel
theorem dX10_holds_11 : decode cX10_holds 11 = .ok (.aload_n 0, 1) := by decide +kernel
theorem dX10_holds_12 : decode cX10_holds 12 = .ok (.getfield 19, 3) := by decide +kernel
theorem dX10_holds_15 : decode cX10_holds 15 = .ok (.getfield 124, 3) := by decide +kernel
theorem dX10_holds_18 : decode cX10_holds 18 = .ok (.iload_n 1, 1) := by decide +kernel
theorem dX10_holds_19 : decode cX10_holds 19 = .ok (.iaload, 1) := by decide +kernel
theorem dX10_holds_20 : decode cX10_holds 20 = .ok (.ifCond .ne 5, 3) := by decide +kernel
theorem dX10_holds_23 : decode cX10_holds 23 = .ok (.iconst (-1), 1) := by decide +kernel
theorem dX10_holds_24 : decode cX10_holds 24 = .ok (.ireturn, 1) := by decide +kernel
theorem dX10_holds_25 : decode cX10_holds 25 = .ok (.aload_n 0, 1) := by decide +kernel
theorem dX10_holds_26 : decode cX10_holds 26 = .ok (.getfield 23, 3) := by decide +kernel
theorem dX10_holds_29 : decode cX10_holds 29 = .ok (.aload_n 0, 1) := by decide +kernel
theorem dX10_holds_30 : decode cX10_holds 30 = .ok (.getfield 19, 3) := by decide +kernel
theorem dX10_holds_33 : decode cX10_holds 33 = .ok (.invokevirtual 208, 3) := by decide +kernel
theorem dX10_holds_36 : decode cX10_holds 36 = .ok (.iconst 1, 1) := by decide +kernel
theorem dX10_holds_37 : decode cX10_holds 37 = .ok (.istore_n 2, 1) := by decide +kernel
theorem dX10_holds_38 : decode cX10_holds 38 = .ok (.iload_n 2, 1) := by decide +kernel
theorem dX10_holds_39 : decode cX10_holds 39 = .ok (.bipush 40, 2) := by decide +kernel
theorem dX10_holds_41 : decode cX10_holds 41 = .ok (.if_icmp .gt 29, 3) := by decide +kernel
theorem dX10_holds_44 : decode cX10_holds 44 = .ok (.aload_n 0, 1) := by decide +kernel
theorem dX10_holds_45 : decode cX10_holds 45 = .ok (.getfield 23, 3) := by decide +kernel
theorem dX10_holds_48 : decode cX10_holds 48 = .ok (.aload_n 0, 1) := by decide +kernel
theorem dX10_holds_49 : decode cX10_holds 49 = .ok (.getfield 64, 3) := by decide +kernel
theorem dX10_holds_52 : decode cX10_holds 52 = .ok (.iload_n 1, 1) := by decide +kernel
theorem dX10_holds_53 : decode cX10_holds 53 = .ok (.iload_n 2, 1) := by decide +kernel
theorem dX10_holds_54 : decode cX10_holds 54 = .ok (.iconst 1, 1) := by decide +kernel
theorem dX10_holds_55 : decode cX10_holds 55 = .ok (.isub, 1) := by decide +kernel
theorem dX10_holds_56 : decode cX10_holds 56 = .ok (.invokevirtual 211, 3) := by decide +kernel
theorem dX10_holds_59 : decode cX10_holds 59 = .ok (.ifCond .eq 5, 3) := by decide +kernel
theorem dX10_holds_62 : decode cX10_holds 62 = .ok (.iload_n 2, 1) := by decide +kernel
theorem dX10_holds_63 : decode cX10_holds 63 = .ok (.ireturn, 1) := by decide +kernel
theorem dX10_holds_64 : decode cX10_holds 64 = .ok (.iinc 2 1, 3) := by decide +kernel
theorem dX10_holds_67 : decode cX10_holds 67 = .ok (.goto (-29), 3) := by decide +kernel
theorem dX10_holds_70 : decode cX10_holds 70 = .ok (.iconst (-1), 1) := by decide +kernel
theorem dX10_holds_71 : decode cX10_holds 71 = .ok (.ireturn, 1) := by decide +kernel
theorem dX10_clashes_0 : decode cX10_clashes 0 = .ok (.aload_n 0, 1) := by decide +kernel
theorem dX10_clashes_1 : decode cX10_clashes 1 = .ok (.getfield 64, 3) := by decide +kernel
theorem dX10_clashes_4 : decode cX10_clashes 4 = .ok (.aload_n 0, 1) := by decide +kernel
theorem dX10_clashes_5 : decode cX10_clashes 5 = .ok (.getfield 19, 3) := by decide +kernel
theorem dX10_clashes_8 : decode cX10_clashes 8 = .ok (.aload_n 0, 1) := by decide +kernel
theorem dX10_clashes_9 : decode cX10_clashes 9 = .ok (.getfield 64, 3) := by decide +kernel
theorem dX10_clashes_12 : decode cX10_clashes 12 = .ok (.invokevirtual 162, 3) := by decide +kernel
theorem dX10_clashes_15 : decode cX10_clashes 15 = .ok (.invokevirtual 214, 3) := by decide +kernel
theorem dX10_clashes_18 : decode cX10_clashes 18 = .ok (.ireturn, 1) := by decide +kernel
theorem dX10_mend_0 : decode cX10_mend 0 = .ok (.iload_n 1, 1) := by decide +kernel
theorem dX10_mend_1 : decode cX10_mend 1 = .ok (.ifCond .eq 10, 3) := by decide +kernel
theorem dX10_mend_4 : decode cX10_mend 4 = .ok (.iload_n 1, 1) := by decide +kernel
theorem dX10_mend_5 : decode cX10_mend 5 = .ok (.iconst 1, 1) := by decide +kernel
theorem dX10_mend_6 : decode cX10_mend 6 = .ok (.if_icmp .eq 5, 3) := by decide +kernel
theorem dX10_mend_9 : decode cX10_mend 9 = .ok (.iconst (-1), 1) := by decide +kernel
theorem dX10_mend_10 : decode cX10_mend 10 = .ok (.ireturn, 1) := by decide +kernel
theorem dX10_mend_11 : decode cX10_mend 11 = .ok (.aload_n 0, 1) := by decide +kernel
theorem dX10_mend_12 : decode cX10_mend 12 = .ok (.getfield 19, 3) := by decide +kernel
theorem dX10_mend_15 : decode cX10_mend 15 = .ok (.aload_n 0, 1) := by decide +kernel
theorem dX10_mend_16 : decode cX10_mend 16 = .ok (.getfield 64, 3) := by decide +kernel
theorem dX10_mend_19 : decode cX10_mend 19 = .ok (.invokevirtual 162, 3) := by decide +kernel
theorem dX10_mend_22 : decode cX10_mend 22 = .ok (.istore_n 2, 1) := by decide +kernel
theorem dX10_mend_23 : decode cX10_mend 23 = .ok (.iload_n 2, 1) := by decide +kernel
theorem dX10_mend_24 : decode cX10_mend 24 = .ok (.istore_n 3, 1) := by decide +kernel
theorem dX10_mend_25 : decode cX10_mend 25 = .ok (.aload_n 0, 1) := by decide +kernel
theorem dX10_mend_26 : decode cX10_mend 26 = .ok (.getfield 64, 3) := by decide +kernel
theorem dX10_mend_29 : decode cX10_mend 29 = .ok (.iload_n 2, 1) := by decide +kernel
theorem dX10_mend_30 : decode cX10_mend 30 = .ok (.invokevirtual 217, 3) := by decide +kernel
theorem dX10_mend_33 : decode cX10_mend 33 = .ok (.istore 4, 2) := by decide +kernel
theorem dX10_mend_35 : decode cX10_mend 35 = .ok (.iload_n 2, 1) := by decide +kernel
theorem dX10_mend_36 : decode cX10_mend 36 = .ok (.istore 5, 2) := by decide +kernel
theorem dX10_mend_38 : decode cX10_mend 38 = .ok (.iload 5, 2) := by decide +kernel
theorem dX10_mend_40 : decode cX10_mend 40 = .ok (.ifCond .lt 59, 3) := by decide +kernel
theorem dX10_mend_43 : decode cX10_mend 43 = .ok (.aload_n 0, 1) := by decide +kernel
theorem dX10_mend_44 : decode cX10_mend 44 = .ok (.getfield 64, 3) := by decide +kernel
theorem dX10_mend_47 : decode cX10_mend 47 = .ok (.iload 5, 2) := by decide +kernel
theorem dX10_mend_49 : decode cX10_mend 49 = .ok (.invokevirtual 217, 3) := by decide +kernel
theorem dX10_mend_52 : decode cX10_mend 52 = .ok (.istore 6, 2) := by decide +kernel
theorem dX10_mend_54 : decode cX10_mend 54 = .ok (.iload 5, 2) := by decide +kernel
theorem dX10_mend_56 : decode cX10_mend 56 = .ok (.iload_n 2, 1) := by decide +kernel
theorem dX10_mend_57 : decode cX10_mend 57 = .ok (.iconst (-1), 1) := by decide +kernel
theorem dX10_mend_58 : decode cX10_mend 58 = .ok (.ixor, 1) := by decide +kernel
theorem dX10_mend_59 : decode cX10_mend 59 = .ok (.iand, 1) := by decide +kernel
theorem dX10_mend_60 : decode cX10_mend 60 = .ok (.ifCond .ne 33, 3) := by decide +kernel
theorem dX10_mend_63 : decode cX10_mend 63 = .ok (.iload 6, 2) := by decide +kernel
theorem dX10_mend_65 : decode cX10_mend 65 = .ok (.iload 4, 2) := by decide +kernel
theorem dX10_mend_67 : decode cX10_mend 67 = .ok (.if_icmp .gt 26, 3) := by decide +kernel
theorem dX10_mend_70 : decode cX10_mend 70 = .ok (.aload_n 0, 1) := by decide +kernel
theorem dX10_mend_71 : decode cX10_mend 71 = .ok (.getfield 64, 3) := by decide +kernel
theorem dX10_mend_74 : decode cX10_mend 74 = .ok (.iload_n 2, 1) := by decide +kernel
theorem dX10_mend_75 : decode cX10_mend 75 = .ok (.iload 5, 2) := by decide +kernel
theorem dX10_mend_77 : decode cX10_mend 77 = .ok (.iconst (-1), 1) := by decide +kernel
theorem dX10_mend_78 : decode cX10_mend 78 = .ok (.ixor, 1) := by decide +kernel
theorem dX10_mend_79 : decode cX10_mend 79 = .ok (.iand, 1) := by decide +kernel
theorem dX10_mend_80 : decode cX10_mend 80 = .ok (.invokevirtual 214, 3) := by decide +kernel
theorem dX10_mend_83 : decode cX10_mend 83 = .ok (.ifCond .ne 10, 3) := by decide +kernel
theorem dX10_mend_86 : decode cX10_mend 86 = .ok (.iload 5, 2) := by decide +kernel
theorem dX10_mend_88 : decode cX10_mend 88 = .ok (.istore_n 3, 1) := by decide +kernel
theorem dX10_mend_89 : decode cX10_mend 89 = .ok (.iload 6, 2) := by decide +kernel
theorem dX10_mend_91 : decode cX10_mend 91 = .ok (.istore 4, 2) := by decide +kernel
theorem dX10_mend_93 : decode cX10_mend 93 = .ok (.iinc 5 (-1), 3) := by decide +kernel
theorem dX10_mend_96 : decode cX10_mend 96 = .ok (.goto (-58), 3) := by decide +kernel
theorem dX10_mend_99 : decode cX10_mend 99 = .ok (.iload_n 1, 1) := by decide +kernel
theorem dX10_mend_100 : decode cX10_mend 100 = .ok (.ifCond .ne 8, 3) := by decide +kernel
theorem dX10_mend_103 : decode cX10_mend 103 = .ok (.iload 4, 2) := by decide +kernel
theorem dX10_mend_105 : decode cX10_mend 105 = .ok (.goto 4, 3) := by decide +kernel
theorem dX10_mend_108 : decode cX10_mend 108 = .ok (.iload_n 3, 1) := by decide +kernel
theorem dX10_mend_109 : decode cX10_mend 109 = .ok (.ireturn, 1) := by decide +kernel
theorem dX10_fill_0 : decode cX10_fill 0 = .ok (.iload_n 1, 1) := by decide +kernel
theorem dX10_fill_1 : decode cX10_fill 1 = .ok (.iconst 1, 1) := by decide +kernel
theorem dX10_fill_2 : decode cX10_fill 2 = .ok (.if_icmp .lt 25, 3) := by decide +kernel
theorem dX10_fill_5 : decode cX10_fill 5 = .ok (.iload_n 1, 1) := by decide +kernel
theorem dX10_fill_6 : decode cX10_fill 6 = .ok (.bipush 6, 2) := by decide +kernel
theorem dX10_fill_8 : decode cX10_fill 8 = .ok (.if_icmp .gt 19, 3) := by decide +kernel
theorem dX10_fill_11 : decode cX10_fill 11 = .ok (.iload_n 2, 1) := by decide +kernel
theorem dX10_fill_12 : decode cX10_fill 12 = .ok (.iconst (-1), 1) := by decide +kernel
theorem dX10_fill_13 : decode cX10_fill 13 = .ok (.if_icmp .eq 17, 3) := by decide +kernel
theorem dX10_fill_16 : decode cX10_fill 16 = .ok (.aload_n 0, 1) := by decide +kernel
theorem dX10_fill_17 : decode cX10_fill 17 = .ok (.getfield 64, 3) := by decide +kernel
theorem dX10_fill_20 : decode cX10_fill 20 = .ok (.iload_n 2, 1) := by decide +kernel
theorem dX10_fill_21 : decode cX10_fill 21 = .ok (.invokevirtual 110, 3) := by decide +kernel
theorem dX10_fill_24 : decode cX10_fill 24 = .ok (.ifCond .ne 6, 3) := by decide +kernel
theorem dX10_fill_27 : decode cX10_fill 27 = .ok (.bipush (-2), 2) := by decide +kernel
theorem dX10_fill_29 : decode cX10_fill 29 = .ok (.ireturn, 1) := by decide +kernel
theorem dX10_fill_30 : decode cX10_fill 30 = .ok (.aload_n 0, 1) := by decide +kernel
theorem dX10_fill_31 : decode cX10_fill 31 = .ok (.getfield 43, 3) := by decide +kernel
theorem dX10_fill_34 : decode cX10_fill 34 = .ok (.aload_n 0, 1) := by decide +kernel
theorem dX10_fill_35 : decode cX10_fill 35 = .ok (.getfield 64, 3) := by decide +kernel
theorem dX10_fill_38 : decode cX10_fill 38 = .ok (.aload_n 0, 1) := by decide +kernel
theorem dX10_fill_39 : decode cX10_fill 39 = .ok (.getfield 19, 3) := by decide +kernel
theorem dX10_fill_42 : decode cX10_fill 42 = .ok (.iload_n 1, 1) := by decide +kernel
theorem dX10_fill_43 : decode cX10_fill 43 = .ok (.invokevirtual 220, 3) := by decide +kernel
theorem dX10_fill_46 : decode cX10_fill 46 = .ok (.iload_n 2, 1) := by decide +kernel
theorem dX10_fill_47 : decode cX10_fill 47 = .ok (.iconst (-1), 1) := by decide +kernel
theorem dX10_fill_48 : decode cX10_fill 48 = .ok (.if_icmp .ne 13, 3) := by decide +kernel
theorem dX10_fill_51 : decode cX10_fill 51 = .ok (.aload_n 0, 1) := by decide +kernel
theorem dX10_fill_52 : decode cX10_fill 52 = .ok (.getfield 43, 3) := by decide +kernel
theorem dX10_fill_55 : decode cX10_fill 55 = .ok (.getfield 223, 3) := by decide +kernel
theorem dX10_fill_58 : decode cX10_fill 58 = .ok (.goto 12, 3) := by decide +kernel
theorem dX10_fill_61 : decode cX10_fill 61 = .ok (.aload_n 0, 1) := by decide +kernel
theorem dX10_fill_62 : decode cX10_fill 62 = .ok (.getfield 43, 3) := by decide +kernel
theorem dX10_fill_65 : decode cX10_fill 65 = .ok (.getfield 226, 3) := by decide +kernel
theorem dX10_fill_68 : decode cX10_fill 68 = .ok (.iload_n 2, 1) := by decide +kernel
theorem dX10_fill_69 : decode cX10_fill 69 = .ok (.iaload, 1) := by decide +kernel
theorem dX10_fill_70 : decode cX10_fill 70 = .ok (.ireturn, 1) := by decide +kernel
theorem dX10_odds_0 : decode cX10_odds 0 = .ok (.aload_n 0, 1) := by decide +kernel
theorem dX10_odds_1 : decode cX10_odds 1 = .ok (.getfield 64, 3) := by decide +kernel
theorem dX10_odds_4 : decode cX10_odds 4 = .ok (.iload_n 1, 1) := by decide +kernel
theorem dX10_odds_5 : decode cX10_odds 5 = .ok (.invokevirtual 110, 3) := by decide +kernel
theorem dX10_odds_8 : decode cX10_odds 8 = .ok (.ifCond .eq 26, 3) := by decide +kernel
theorem dX10_odds_11 : decode cX10_odds 11 = .ok (.aload_n 0, 1) := by decide +kernel
theorem dX10_odds_12 : decode cX10_odds 12 = .ok (.getfield 19, 3) := by decide +kernel
theorem dX10_odds_15 : decode cX10_odds 15 = .ok (.getfield 124, 3) := by decide +kernel
theorem dX10_odds_18 : decode cX10_odds 18 = .ok (.iload_n 1, 1) := by decide +kernel
theorem dX10_odds_19 : decode cX10_odds 19 = .ok (.iaload, 1) := by decide +kernel
theorem dX10_odds_20 : decode cX10_odds 20 = .ok (.ifCond .eq 14, 3) := by decide +kernel
theorem dX10_odds_23 : decode cX10_odds 23 = .ok (.iload_n 2, 1) := by decide +kernel
theorem dX10_odds_24 : decode cX10_odds 24 = .ok (.iconst 1, 1) := by decide +kernel
theorem dX10_odds_25 : decode cX10_odds 25 = .ok (.if_icmp .lt 9, 3) := by decide +kernel
theorem dX10_odds_28 : decode cX10_odds 28 = .ok (.iload_n 2, 1) := by decide +kernel
theorem dX10_odds_29 : decode cX10_odds 29 = .ok (.bipush 8, 2) := by decide +kernel
theorem dX10_odds_31 : decode cX10_odds 31 = .ok (.if_icmp .le 5, 3) := by decide +kernel
theorem dX10_odds_34 : decode cX10_odds 34 = .ok (.iconst (-1), 1) := by decide +kernel
theorem dX10_odds_35 : decode cX10_odds 35 = .ok (.ireturn, 1) := by decide +kernel
theorem dX10_odds_36 : decode cX10_odds 36 = .ok (.aload_n 0, 1) := by decide +kernel
theorem dX10_odds_37 : decode cX10_odds 37 = .ok (.getfield 50, 3) := by decide +kernel
theorem dX10_odds_40 : decode cX10_odds 40 = .ok (.aload_n 0, 1) := by decide +kernel
theorem dX10_odds_41 : decode cX10_odds 41 = .ok (.getfield 64, 3) := by decide +kernel
theorem dX10_odds_44 : decode cX10_odds 44 = .ok (.aload_n 0, 1) := by decide +kernel
theorem dX10_odds_45 : decode cX10_odds 45 = .ok (.getfield 19, 3) := by decide +kernel
theorem dX10_odds_48 : decode cX10_odds 48 = .ok (.iload_n 1, 1) := by decide +kernel
theorem dX10_odds_49 : decode cX10_odds 49 = .ok (.iload_n 2, 1) := by decide +kernel
theorem dX10_odds_50 : decode cX10_odds 50 = .ok (.invokevirtual 229, 3) := by decide +kernel
theorem dX10_odds_53 : decode cX10_odds 53 = .ok (.ireturn, 1) := by decide +kernel
theorem dX10_dry_0 : decode cX10_dry 0 = .ok (.aload_n 0, 1) := by decide +kernel
theorem dX10_dry_1 : decode cX10_dry 1 = .ok (.getfield 57, 3) := by decide +kernel
theorem dX10_dry_4 : decode cX10_dry 4 = .ok (.aload_n 0, 1) := by decide +kernel
theorem dX10_dry_5 : decode cX10_dry 5 = .ok (.getfield 64, 3) := by decide +kernel
theorem dX10_dry_8 : decode cX10_dry 8 = .ok (.aload_n 0, 1) := by decide +kernel
theorem dX10_dry_9 : decode cX10_dry 9 = .ok (.getfield 19, 3) := by decide +kernel
theorem dX10_dry_12 : decode cX10_dry 12 = .ok (.invokevirtual 233, 3) := by decide +kernel
theorem dX10_dry_15 : decode cX10_dry 15 = .ok (.aload_n 0, 1) := by decide +kernel
theorem dX10_dry_16 : decode cX10_dry 16 = .ok (.getfield 57, 3) := by decide +kernel
theorem dX10_dry_19 : decode cX10_dry 19 = .ok (.getfield 235, 3) := by decide +kernel
theorem dX10_dry_22 : decode cX10_dry 22 = .ok (.iconst (-1), 1) := by decide +kernel
theorem dX10_dry_23 : decode cX10_dry 23 = .ok (.if_icmp .ne 5, 3) := by decide +kernel
theorem dX10_dry_26 : decode cX10_dry 26 = .ok (.iconst (-1), 1) := by decide +kernel
theorem dX10_dry_27 : decode cX10_dry 27 = .ok (.ireturn, 1) := by decide +kernel
theorem dX10_dry_28 : decode cX10_dry 28 = .ok (.iload_n 1, 1) := by decide +kernel
theorem dX10_dry_29 : decode cX10_dry 29 = .ok (.ifCond .ne 11, 3) := by decide +kernel
theorem dX10_dry_32 : decode cX10_dry 32 = .ok (.aload_n 0, 1) := by decide +kernel
theorem dX10_dry_33 : decode cX10_dry 33 = .ok (.getfield 57, 3) := by decide +kernel
theorem dX10_dry_36 : decode cX10_dry 36 = .ok (.getfield 235, 3) := by decide +kernel
theorem dX10_dry_39 : decode cX10_dry 39 = .ok (.ireturn, 1) := by decide +kernel
theorem dX10_dry_40 : decode cX10_dry 40 = .ok (.iload_n 1, 1) := by decide +kernel
theorem dX10_dry_41 : decode cX10_dry 41 = .ok (.iconst 1, 1) := by decide +kernel
theorem dX10_dry_42 : decode cX10_dry 42 = .ok (.if_icmp .lt 28, 3) := by decide +kernel
theorem dX10_dry_45 : decode cX10_dry 45 = .ok (.iload_n 1, 1) := by decide +kernel
theorem dX10_dry_46 : decode cX10_dry 46 = .ok (.aload_n 0, 1) := by decide +kernel
theorem dX10_dry_47 : decode cX10_dry 47 = .ok (.getfield 57, 3) := by decide +kernel
theorem dX10_dry_50 : decode cX10_dry 50 = .ok (.getfield 238, 3) := by decide +kernel
theorem dX10_dry_53 : decode cX10_dry 53 = .ok (.if_icmp .gt 17, 3) := by decide +kernel
theorem dX10_dry_56 : decode cX10_dry 56 = .ok (.aload_n 0, 1) := by decide +kernel
theorem dX10_dry_57 : decode cX10_dry 57 = .ok (.getfield 57, 3) := by decide +kernel
theorem dX10_dry_60 : decode cX10_dry 60 = .ok (.getfield 241, 3) := by decide +kernel
theorem dX10_dry_63 : decode cX10_dry 63 = .ok (.iload_n 1, 1) := by decide +kernel
theorem dX10_dry_64 : decode cX10_dry 64 = .ok (.iconst 1, 1) := by decide +kernel
theorem dX10_dry_65 : decode cX10_dry 65 = .ok (.isub, 1) := by decide +kernel
theorem dX10_dry_66 : decode cX10_dry 66 = .ok (.iaload, 1) := by decide +kernel
theorem dX10_dry_67 : decode cX10_dry 67 = .ok (.goto 4, 3) := by decide +kernel
theorem dX10_dry_70 : decode cX10_dry 70 = .ok (.iconst (-1), 1) := by decide +kernel
theorem dX10_dry_71 : decode cX10_dry 71 = .ok (.ireturn, 1) := by decide +kernel
theorem dX10_feel_0 : decode cX10_feel 0 = .ok (.aload_n 0, 1) := by decide +kernel
theorem dX10_feel_1 : decode cX10_feel 1 = .ok (.getfield 64, 3) := by decide +kernel
theorem dX10_feel_4 : decode cX10_feel 4 = .ok (.iload_n 1, 1) := by decide +kernel
theorem dX10_feel_5 : decode cX10_feel 5 = .ok (.invokevirtual 110, 3) := by decide +kernel
theorem dX10_feel_8 : decode cX10_feel 8 = .ok (.ifCond .eq 23, 3) := by decide +kernel
theorem dX10_feel_11 : decode cX10_feel 11 = .ok (.iload_n 2, 1) := by decide +kernel
theorem dX10_feel_12 : decode cX10_feel 12 = .ok (.ifCond .lt 19, 3) := by decide +kernel
theorem dX10_feel_15 : decode cX10_feel 15 = .ok (.iload_n 2, 1) := by decide +kernel
theorem dX10_feel_16 : decode cX10_feel 16 = .ok (.bipush 12, 2) := by decide +kernel
theorem dX10_feel_18 : decode cX10_feel 18 = .ok (.if_icmp .gt 13, 3) := by decide +kernel
theorem dX10_feel_21 : decode cX10_feel 21 = .ok (.iload_n 3, 1) := by decide +kernel
theorem dX10_feel_22 : decode cX10_feel 22 = .ok (.ifCond .lt 9, 3) := by decide +kernel
theorem dX10_feel_25 : decode cX10_feel 25 = .ok (.iload_n 3, 1) := by decide +kernel
theorem dX10_feel_26 : decode cX10_feel 26 = .ok (.bipush 9, 2) := by decide +kernel
theorem dX10_feel_28 : decode cX10_feel 28 = .ok (.if_icmp .le 5, 3) := by decide +kernel
theorem dX10_feel_31 : decode cX10_feel 31 = .ok (.iconst 0, 1) := by decide +kernel
theorem dX10_feel_32 : decode cX10_feel 32 = .ok (.ireturn, 1) := by decide +kernel
theorem dX10_feel_33 : decode cX10_feel 33 = .ok (.aload_n 0, 1) := by decide +kernel
theorem dX10_feel_34 : decode cX10_feel 34 = .ok (.getfield 29, 3) := by decide +kernel
theorem dX10_feel_37 : decode cX10_feel 37 = .ok (.iload_n 1, 1) := by decide +kernel
theorem dX10_feel_38 : decode cX10_feel 38 = .ok (.iload_n 2, 1) := by decide +kernel
theorem dX10_feel_39 : decode cX10_feel 39 = .ok (.iload_n 3, 1) := by decide +kernel
theorem dX10_feel_40 : decode cX10_feel 40 = .ok (.invokevirtual 244, 3) := by decide +kernel
theorem dX10_feel_43 : decode cX10_feel 43 = .ok (.ireturn, 1) := by decide +kernel
theorem dX10_starts_0 : decode cX10_starts 0 = .ok (.aload_n 0, 1) := by decide +kernel
theorem dX10_starts_1 : decode cX10_starts 1 = .ok (.getfield 29, 3) := by decide +kernel
theorem dX10_starts_4 : decode cX10_starts 4 = .ok (.aload_n 0, 1) := by decide +kernel
theorem dX10_starts_5 : decode cX10_starts 5 = .ok (.getfield 64, 3) := by decide +kernel
theorem dX10_starts_8 : decode cX10_starts 8 = .ok (.invokevirtual 248, 3) := by decide +kernel
theorem dX10_starts_11 : decode cX10_starts 11 = .ok (.ireturn, 1) := by decide +kernel
theorem dX10_ask_0 : decode cX10_ask 0 = .ok (.aload_n 0, 1) := by decide +kernel
theorem dX10_ask_1 : decode cX10_ask 1 = .ok (.getfield 64, 3) := by decide +kernel
theorem dX10_ask_4 : decode cX10_ask 4 = .ok (.iload_n 1, 1) := by decide +kernel
theorem dX10_ask_5 : decode cX10_ask 5 = .ok (.invokevirtual 110, 3) := by decide +kernel
theorem dX10_ask_8 : decode cX10_ask 8 = .ok (.ifCond .eq 18, 3) := by decide +kernel
theorem dX10_ask_11 : decode cX10_ask 11 = .ok (.aload_n 0, 1) := by decide +kernel
theorem dX10_ask_12 : decode cX10_ask 12 = .ok (.getfield 29, 3) := by decide +kernel
theorem dX10_ask_15 : decode cX10_ask 15 = .ok (.aload_n 0, 1) := by decide +kernel
theorem dX10_ask_16 : decode cX10_ask 16 = .ok (.getfield 64, 3) := by decide +kernel
theorem dX10_ask_19 : decode cX10_ask 19 = .ok (.iload_n 1, 1) := by decide +kernel
theorem dX10_ask_20 : decode cX10_ask 20 = .ok (.invokevirtual 251, 3) := by decide +kernel
theorem dX10_ask_23 : decode cX10_ask 23 = .ok (.goto 4, 3) := by decide +kernel
theorem dX10_ask_26 : decode cX10_ask 26 = .ok (.iconst (-1), 1) := by decide +kernel
theorem dX10_ask_27 : decode cX10_ask 27 = .ok (.ireturn, 1) := by decide +kernel
theorem dX10_change_0 : decode cX10_change 0 = .ok (.iload_n 1, 1) := by decide +kernel
theorem dX10_change_1 : decode cX10_change 1 = .ok (.iconst 1, 1) := by decide +kernel
theorem dX10_change_2 : decode cX10_change 2 = .ok (.if_icmp .lt 9, 3) := by decide +kernel
theorem dX10_change_5 : decode cX10_change 5 = .ok (.iload_n 1, 1) := by decide +kernel
theorem dX10_change_6 : decode cX10_change 6 = .ok (.bipush 20, 2) := by decide +kernel
theorem dX10_change_8 : decode cX10_change 8 = .ok (.if_icmp .le 5, 3) := by decide +kernel
theorem dX10_change_11 : decode cX10_change 11 = .ok (.iconst (-1), 1) := by decide +kernel
theorem dX10_change_12 : decode cX10_change 12 = .ok (.ireturn, 1) := by decide +kernel
theorem dX10_change_13 : decode cX10_change 13 = .ok (.iconst (-1), 1) := by decide +kernel
theorem dX10_change_14 : decode cX10_change 14 = .ok (.istore_n 2, 1) := by decide +kernel
theorem dX10_change_15 : decode cX10_change 15 = .ok (.aload_n 0, 1) := by decide +kernel
theorem dX10_change_16 : decode cX10_change 16 = .ok (.iload_n 1, 1) := by decide +kernel
theorem dX10_change_17 : decode cX10_change 17 = .ok (.iconst (-1), 1) := by decide +kernel
theorem dX10_change_18 : decode cX10_change 18 = .ok (.invokevirtual 254, 3) := by decide +kernel
theorem dX10_change_21 : decode cX10_change 21 = .ok (.istore_n 3, 1) := by decide +kernel
theorem dX10_change_22 : decode cX10_change 22 = .ok (.iconst 0, 1) := by decide +kernel
theorem dX10_change_23 : decode cX10_change 23 = .ok (.istore 4, 2) := by decide +kernel
theorem dX10_change_25 : decode cX10_change 25 = .ok (.iload 4, 2) := by decide +kernel
theorem dX10_change_27 : decode cX10_change 27 = .ok (.aload_n 0, 1) := by decide +kernel
theorem dX10_change_28 : decode cX10_change 28 = .ok (.getfield 19, 3) := by decide +kernel
theorem dX10_change_31 : decode cX10_change 31 = .ok (.getfield 149, 3) := by decide +kernel
theorem dX10_change_34 : decode cX10_change 34 = .ok (.if_icmp .ge 30, 3) := by decide +kernel
theorem dX10_change_37 : decode cX10_change 37 = .ok (.aload_n 0, 1) := by decide +kernel
theorem dX10_change_38 : decode cX10_change 38 = .ok (.iload_n 1, 1) := by decide +kernel
theorem dX10_change_39 : decode cX10_change 39 = .ok (.iload 4, 2) := by decide +kernel
theorem dX10_change_41 : decode cX10_change 41 = .ok (.invokevirtual 254, 3) := by decide +kernel
theorem dX10_change_44 : decode cX10_change 44 = .ok (.istore 5, 2) := by decide +kernel
theorem dX10_change_46 : decode cX10_change 46 = .ok (.iload 5, 2) := by decide +kernel
theorem dX10_change_48 : decode cX10_change 48 = .ok (.iload_n 3, 1) := by decide +kernel
theorem dX10_change_49 : decode cX10_change 49 = .ok (.if_icmp .le 9, 3) := by decide +kernel
theorem dX10_change_52 : decode cX10_change 52 = .ok (.iload 4, 2) := by decide +kernel
theorem dX10_change_54 : decode cX10_change 54 = .ok (.istore_n 2, 1) := by decide +kernel
theorem dX10_change_55 : decode cX10_change 55 = .ok (.iload 5, 2) := by decide +kernel
theorem dX10_change_57 : decode cX10_change 57 = .ok (.istore_n 3, 1) := by decide +kernel
theorem dX10_change_58 : decode cX10_change 58 = .ok (.iinc 4 1, 3) := by decide +kernel
theorem dX10_change_61 : decode cX10_change 61 = .ok (.goto (-36), 3) := by decide +kernel
theorem dX10_change_64 : decode cX10_change 64 = .ok (.iload_n 2, 1) := by decide +kernel
theorem dX10_change_65 : decode cX10_change 65 = .ok (.ireturn, 1) := by decide +kernel
theorem dX10_rests_0 : decode cX10_rests 0 = .ok (.iload_n 1, 1) := by decide +kernel
theorem dX10_rests_1 : decode cX10_rests 1 = .ok (.invokestatic 258, 3) := by decide +kernel
theorem dX10_rests_4 : decode cX10_rests 4 = .ok (.ifCond .eq 23, 3) := by decide +kernel
theorem dX10_rests_7 : decode cX10_rests 7 = .ok (.iload_n 2, 1) := by decide +kernel
theorem dX10_rests_8 : decode cX10_rests 8 = .ok (.invokestatic 258, 3) := by decide +kernel
theorem dX10_rests_11 : decode cX10_rests 11 = .ok (.ifCond .eq 16, 3) := by decide +kernel
theorem dX10_rests_14 : decode cX10_rests 14 = .ok (.iload_n 3, 1) := by decide +kernel
theorem dX10_rests_15 : decode cX10_rests 15 = .ok (.invokestatic 258, 3) := by decide +kernel
theorem dX10_rests_18 : decode cX10_rests 18 = .ok (.ifCond .eq 9, 3) := by decide +kernel
theorem dX10_rests_21 : decode cX10_rests 21 = .ok (.iload 4, 2) := by decide +kernel
theorem dX10_rests_23 : decode cX10_rests 23 = .ok (.iconst (-1), 1) := by decide +kernel
theorem dX10_rests_24 : decode cX10_rests 24 = .ok (.if_icmp .ge 14, 3) := by decide +kernel
theorem dX10_rests_27 : decode cX10_rests 27 = .ok (.new 261, 3) := by decide +kernel
theorem dX10_rests_30 : decode cX10_rests 30 = .ok (.dup, 1) := by decide +kernel
theorem dX10_rests_31 : decode cX10_rests 31 = .ok (.ldc_w 263, 3) := by decide +kernel
theorem dX10_rests_34 : decode cX10_rests 34 = .ok (.invokespecial 265, 3) := by decide +kernel
theorem dX10_rests_37 : decode cX10_rests 37 = .ok (.athrow, 1) := by decide +kernel
theorem dX10_rests_38 : decode cX10_rests 38 = .ok (.iconst 0, 1) := by decide +kernel
theorem dX10_rests_39 : decode cX10_rests 39 = .ok (.istore 5, 2) := by decide +kernel
theorem dX10_rests_41 : decode cX10_rests 41 = .ok (.iconst 0, 1) := by decide +kernel
theorem dX10_rests_42 : decode cX10_rests 42 = .ok (.istore 6, 2) := by decide +kernel
theorem dX10_rests_44 : decode cX10_rests 44 = .ok (.iload 6, 2) := by decide +kernel
theorem dX10_rests_46 : decode cX10_rests 46 = .ok (.bipush 9, 2) := by decide +kernel
theorem dX10_rests_48 : decode cX10_rests 48 = .ok (.if_icmp .ge 33, 3) := by decide +kernel
theorem dX10_rests_51 : decode cX10_rests 51 = .ok (.iload_n 1, 1) := by decide +kernel
theorem dX10_rests_52 : decode cX10_rests 52 = .ok (.iload_n 2, 1) := by decide +kernel
theorem dX10_rests_53 : decode cX10_rests 53 = .ok (.iload_n 3, 1) := by decide +kernel
theorem dX10_rests_54 : decode cX10_rests 54 = .ok (.iload 6, 2) := by decide +kernel
theorem dX10_rests_56 : decode cX10_rests 56 = .ok (.invokestatic 268, 3) := by decide +kernel
theorem dX10_rests_59 : decode cX10_rests 59 = .ok (.ifCond .eq 16, 3) := by decide +kernel
theorem dX10_rests_62 : decode cX10_rests 62 = .ok (.iload 5, 2) := by decide +kernel
theorem dX10_rests_64 : decode cX10_rests 64 = .ok (.iload 4, 2) := by decide +kernel
theorem dX10_rests_66 : decode cX10_rests 66 = .ok (.if_icmp .ne 6, 3) := by decide +kernel
theorem dX10_rests_69 : decode cX10_rests 69 = .ok (.iload 6, 2) := by decide +kernel
theorem dX10_rests_71 : decode cX10_rests 71 = .ok (.ireturn, 1) := by decide +kernel
theorem dX10_rests_72 : decode cX10_rests 72 = .ok (.iinc 5 1, 3) := by decide +kernel
theorem dX10_rests_75 : decode cX10_rests 75 = .ok (.iinc 6 1, 3) := by decide +kernel
theorem dX10_rests_78 : decode cX10_rests 78 = .ok (.goto (-34), 3) := by decide +kernel
theorem dX10_rests_81 : decode cX10_rests 81 = .ok (.iload 4, 2) := by decide +kernel
theorem dX10_rests_83 : decode cX10_rests 83 = .ok (.iconst (-1), 1) := by decide +kernel
theorem dX10_rests_84 : decode cX10_rests 84 = .ok (.if_icmp .eq 14, 3) := by decide +kernel
theorem dX10_rests_87 : decode cX10_rests 87 = .ok (.new 261, 3) := by decide +kernel
theorem dX10_rests_90 : decode cX10_rests 90 = .ok (.dup, 1) := by decide +kernel
theorem dX10_rests_91 : decode cX10_rests 91 = .ok (.ldc_w 272, 3) := by decide +kernel
theorem dX10_rests_94 : decode cX10_rests 94 = .ok (.invokespecial 265, 3) := by decide +kernel
theorem dX10_rests_97 : decode cX10_rests 97 = .ok (.athrow, 1) := by decide +kernel
theorem dX10_rests_98 : decode cX10_rests 98 = .ok (.iload 5, 2) := by decide +kernel
theorem dX10_rests_100 : decode cX10_rests 100 = .ok (.ireturn, 1) := by decide +kernel
theorem dX10_decades_0 : decode cX10_decades 0 = .ok (.iload_n 1, 1) := by decide +kernel
theorem dX10_decades_1 : decode cX10_decades 1 = .ok (.ifCond .lt 30, 3) := by decide +kernel
theorem dX10_decades_4 : decode cX10_decades 4 = .ok (.iload_n 1, 1) := by decide +kernel
theorem dX10_decades_5 : decode cX10_decades 5 = .ok (.sipush 9999, 3) := by decide +kernel
theorem dX10_decades_8 : decode cX10_decades 8 = .ok (.if_icmp .gt 23, 3) := by decide +kernel
theorem dX10_decades_11 : decode cX10_decades 11 = .ok (.iload_n 2, 1) := by decide +kernel
theorem dX10_decades_12 : decode cX10_decades 12 = .ok (.iconst 1, 1) := by decide +kernel
theorem dX10_decades_13 : decode cX10_decades 13 = .ok (.if_icmp .lt 18, 3) := by decide +kernel
theorem dX10_decades_16 : decode cX10_decades 16 = .ok (.iload_n 2, 1) := by decide +kernel
theorem dX10_decades_17 : decode cX10_decades 17 = .ok (.bipush 60, 2) := by decide +kernel
theorem dX10_decades_19 : decode cX10_decades 19 = .ok (.if_icmp .gt 12, 3) := by decide +kernel
theorem dX10_decades_22 : decode cX10_decades 22 = .ok (.iload_n 3, 1) := by decide +kernel
theorem dX10_decades_23 : decode cX10_decades 23 = .ok (.ifCond .lt 8, 3) := by decide +kernel
theorem dX10_decades_26 : decode cX10_decades 26 = .ok (.iload_n 3, 1) := by decide +kernel
theorem dX10_decades_27 : decode cX10_decades 27 = .ok (.iconst 2, 1) := by decide +kernel
theorem dX10_decades_28 : decode cX10_decades 28 = .ok (.if_icmp .le 5, 3) := by decide +kernel
theorem dX10_decades_31 : decode cX10_decades 31 = .ok (.iconst (-1), 1) := by decide +kernel
theorem dX10_decades_32 : decode cX10_decades 32 = .ok (.ireturn, 1) := by decide +kernel
theorem dX10_decades_33 : decode cX10_decades 33 = .ok (.aload_n 0, 1) := by decide +kernel
theorem dX10_decades_34 : decode cX10_decades 34 = .ok (.iload_n 1, 1) := by decide +kernel
theorem dX10_decades_35 : decode cX10_decades 35 = .ok (.i2l, 1) := by decide +kernel
theorem dX10_decades_36 : decode cX10_decades 36 = .ok (.putfield 81, 3) := by decide +kernel
theorem dX10_decades_39 : decode cX10_decades 39 = .ok (.aload_n 0, 1) := by decide +kernel
theorem dX10_decades_40 : decode cX10_decades 40 = .ok (.getfield 23, 3) := by decide +kernel
theorem dX10_decades_43 : decode cX10_decades 43 = .ok (.aload_n 0, 1) := by decide +kernel
theorem dX10_decades_44 : decode cX10_decades 44 = .ok (.getfield 19, 3) := by decide +kernel
theorem dX10_decades_47 : decode cX10_decades 47 = .ok (.invokevirtual 208, 3) := by decide +kernel
theorem dX10_decades_50 : decode cX10_decades 50 = .ok (.iconst 0, 1) := by decide +kernel
theorem dX10_decades_51 : decode cX10_decades 51 = .ok (.istore 4, 2) := by decide +kernel
theorem dX10_decades_53 : decode cX10_decades 53 = .ok (.iconst 0, 1) := by decide +kernel
theorem dX10_decades_54 : decode cX10_decades 54 = .ok (.istore 5, 2) := by decide +kernel
theorem dX10_decades_56 : decode cX10_decades 56 = .ok (.iconst 0, 1) := by decide +kernel
theorem dX10_decades_57 : decode cX10_decades 57 = .ok (.istore 6, 2) := by decide +kernel
theorem dX10_decades_59 : decode cX10_decades 59 = .ok (.iload 6, 2) := by decide +kernel
theorem dX10_decades_61 : decode cX10_decades 61 = .ok (.iload_n 2, 1) := by decide +kernel
theorem dX10_decades_62 : decode cX10_decades 62 = .ok (.if_icmp .ge 69, 3) := by decide +kernel
theorem dX10_decades_65 : decode cX10_decades 65 = .ok (.aload_n 0, 1) := by decide +kernel
theorem dX10_decades_66 : decode cX10_decades 66 = .ok (.invokevirtual 274, 3) := by decide +kernel
theorem dX10_decades_69 : decode cX10_decades 69 = .ok (.iload 5, 2) := by decide +kernel
theorem dX10_decades_71 : decode cX10_decades 71 = .ok (.aload_n 0, 1) := by decide +kernel
theorem dX10_decades_72 : decode cX10_decades 72 = .ok (.getfield 23, 3) := by decide +kernel
theorem dX10_decades_75 : decode cX10_decades 75 = .ok (.aload_n 0, 1) := by decide +kernel
theorem dX10_decades_76 : decode cX10_decades 76 = .ok (.getfield 64, 3) := by decide +kernel
theorem dX10_decades_79 : decode cX10_decades 79 = .ok (.aload_n 0, 1) := by decide +kernel
theorem dX10_decades_80 : decode cX10_decades 80 = .ok (.bipush 10, 2) := by decide +kernel
theorem dX10_decades_82 : decode cX10_decades 82 = .ok (.invokevirtual 277, 3) := by decide +kernel
theorem dX10_decades_85 : decode cX10_decades 85 = .ok (.aload_n 0, 1) := by decide +kernel
theorem dX10_decades_86 : decode cX10_decades 86 = .ok (.getfield 64, 3) := by decide +kernel
theorem dX10_decades_89 : decode cX10_decades 89 = .ok (.getfield 280, 3) := by decide +kernel
theorem dX10_decades_92 : decode cX10_decades 92 = .ok (.if_icmp .ge 7, 3) := by decide +kernel
theorem dX10_decades_95 : decode cX10_decades 95 = .ok (.iconst 3, 1) := by decide +kernel
theorem dX10_decades_96 : decode cX10_decades 96 = .ok (.goto 4, 3) := by decide +kernel
theorem dX10_decades_99 : decode cX10_decades 99 = .ok (.iconst 0, 1) := by decide +kernel
theorem dX10_decades_100 : decode cX10_decades 100 = .ok (.invokevirtual 188, 3) := by decide +kernel
theorem dX10_decades_103 : decode cX10_decades 103 = .ok (.iadd, 1) := by decide +kernel
theorem dX10_decades_104 : decode cX10_decades 104 = .ok (.istore 5, 2) := by decide +kernel
theorem dX10_decades_106 : decode cX10_decades 106 = .ok (.iload 4, 2) := by decide +kernel
theorem dX10_decades_108 : decode cX10_decades 108 = .ok (.aload_n 0, 1) := by decide +kernel
theorem dX10_decades_109 : decode cX10_decades 109 = .ok (.getfield 23, 3) := by decide +kernel
theorem dX10_decades_112 : decode cX10_decades 112 = .ok (.aload_n 0, 1) := by decide +kernel
theorem dX10_decades_113 : decode cX10_decades 113 = .ok (.getfield 64, 3) := by decide +kernel
theorem dX10_decades_116 : decode cX10_decades 116 = .ok (.invokevirtual 162, 3) := by decide +kernel
theorem dX10_decades_119 : decode cX10_decades 119 = .ok (.invokestatic 283, 3) := by decide +kernel
theorem dX10_decades_122 : decode cX10_decades 122 = .ok (.iadd, 1) := by decide +kernel
theorem dX10_decades_123 : decode cX10_decades 123 = .ok (.istore 4, 2) := by decide +kernel
theorem dX10_decades_125 : decode cX10_decades 125 = .ok (.iinc 6 1, 3) := by decide +kernel
theorem dX10_decades_128 : decode cX10_decades 128 = .ok (.goto (-69), 3) := by decide +kernel
theorem dX10_decades_131 : decode cX10_decades 131 = .ok (.iload_n 3, 1) := by decide +kernel
theorem dX10_decades_132 : decode cX10_decades 132 = .ok (.ifCond .ne 6, 3) := by decide +kernel
theorem dX10_decades_135 : decode cX10_decades 135 = .ok (.iload 4, 2) := by decide +kernel
theorem dX10_decades_137 : decode cX10_decades 137 = .ok (.ireturn, 1) := by decide +kernel
theorem dX10_decades_138 : decode cX10_decades 138 = .ok (.iload_n 3, 1) := by decide +kernel
theorem dX10_decades_139 : decode cX10_decades 139 = .ok (.iconst 1, 1) := by decide +kernel
theorem dX10_decades_140 : decode cX10_decades 140 = .ok (.if_icmp .ne 8, 3) := by decide +kernel
theorem dX10_decades_143 : decode cX10_decades 143 = .ok (.iload 5, 2) := by decide +kernel
theorem dX10_decades_145 : decode cX10_decades 145 = .ok (.goto 21, 3) := by decide +kernel
theorem dX10_decades_148 : decode cX10_decades 148 = .ok (.aload_n 0, 1) := by decide +kernel
theorem dX10_decades_149 : decode cX10_decades 149 = .ok (.getfield 23, 3) := by decide +kernel
theorem dX10_decades_152 : decode cX10_decades 152 = .ok (.iconst 1, 1) := by decide +kernel
theorem dX10_decades_153 : decode cX10_decades 153 = .ok (.aload_n 0, 1) := by decide +kernel
theorem dX10_decades_154 : decode cX10_decades 154 = .ok (.getfield 23, 3) := by decide +kernel
theorem dX10_decades_157 : decode cX10_decades 157 = .ok (.getfield 149, 3) := by decide +kernel
theorem dX10_decades_160 : decode cX10_decades 160 = .ok (.ishl, 1) := by decide +kernel
theorem dX10_decades_161 : decode cX10_decades 161 = .ok (.iconst 1, 1) := by decide +kernel
theorem dX10_decades_162 : decode cX10_decades 162 = .ok (.isub, 1) := by decide +kernel
theorem dX10_decades_163 : decode cX10_decades 163 = .ok (.invokevirtual 288, 3) := by decide +kernel
theorem dX10_decades_166 : decode cX10_decades 166 = .ok (.ireturn, 1) := by decide +kernel
theorem dX10_mark_0 : decode cX10_mark 0 = .ok (.iload_n 1, 1) := by decide +kernel
theorem dX10_mark_1 : decode cX10_mark 1 = .ok (.ifCond .lt 8, 3) := by decide +kernel
theorem dX10_mark_4 : decode cX10_mark 4 = .ok (.iload_n 1, 1) := by decide +kernel
theorem dX10_mark_5 : decode cX10_mark 5 = .ok (.iconst 4, 1) := by decide +kernel
theorem dX10_mark_6 : decode cX10_mark 6 = .ok (.if_icmp .lt 5, 3) := by decide +kernel
theorem dX10_mark_9 : decode cX10_mark 9 = .ok (.iconst 0, 1) := by decide +kernel
theorem dX10_mark_10 : decode cX10_mark 10 = .ok (.ireturn, 1) := by decide +kernel
theorem dX10_mark_11 : decode cX10_mark 11 = .ok (.iload_n 2, 1) := by decide +kernel
theorem dX10_mark_12 : decode cX10_mark 12 = .ok (.ifCond .eq 20, 3) := by decide +kernel
theorem dX10_mark_15 : decode cX10_mark 15 = .ok (.aload_n 0, 1) := by decide +kernel
theorem dX10_mark_16 : decode cX10_mark 16 = .ok (.getfield 36, 3) := by decide +kernel
theorem dX10_mark_19 : decode cX10_mark 19 = .ok (.iload_n 1, 1) := by decide +kernel
theorem dX10_mark_20 : decode cX10_mark 20 = .ok (.aload_n 0, 1) := by decide +kernel
theorem dX10_mark_21 : decode cX10_mark 21 = .ok (.getfield 19, 3) := by decide +kernel
theorem dX10_mark_24 : decode cX10_mark 24 = .ok (.aload_n 0, 1) := by decide +kernel
theorem dX10_mark_25 : decode cX10_mark 25 = .ok (.getfield 29, 3) := by decide +kernel
theorem dX10_mark_28 : decode cX10_mark 28 = .ok (.invokevirtual 291, 3) := by decide +kernel
theorem dX10_mark_31 : decode cX10_mark 31 = .ok (.ireturn, 1) := by decide +kernel
theorem dX10_mark_32 : decode cX10_mark 32 = .ok (.aload_n 0, 1) := by decide +kernel
theorem dX10_mark_33 : decode cX10_mark 33 = .ok (.getfield 36, 3) := by decide +kernel
theorem dX10_mark_36 : decode cX10_mark 36 = .ok (.iload_n 1, 1) := by decide +kernel
theorem dX10_mark_37 : decode cX10_mark 37 = .ok (.aload_n 0, 1) := by decide +kernel
theorem dX10_mark_38 : decode cX10_mark 38 = .ok (.getfield 19, 3) := by decide +kernel
theorem dX10_mark_41 : decode cX10_mark 41 = .ok (.aload_n 0, 1) := by decide +kernel
theorem dX10_mark_42 : decode cX10_mark 42 = .ok (.getfield 29, 3) := by decide +kernel
theorem dX10_mark_45 : decode cX10_mark 45 = .ok (.invokevirtual 295, 3) := by decide +kernel
theorem dX10_mark_48 : decode cX10_mark 48 = .ok (.iconst 1, 1) := by decide +kernel
theorem dX10_mark_49 : decode cX10_mark 49 = .ok (.ireturn, 1) := by decide +kernel
theorem dX10_count_0 : decode cX10_count 0 = .ok (.iload_n 1, 1) := by decide +kernel
theorem dX10_count_1 : decode cX10_count 1 = .ok (.tableswitch 190 0 12 #[67, 75, 83, 91, 103, 111, 126, 138, 150, 158, 166, 174, 182], 67) := by decide +kernel
theorem dX10_count_68 : decode cX10_count 68 = .ok (.aload_n 0, 1) := by decide +kernel
theorem dX10_count_69 : decode cX10_count 69 = .ok (.getfield 64, 3) := by decide +kernel
theorem dX10_count_72 : decode cX10_count 72 = .ok (.getfield 299, 3) := by decide +kernel
theorem dX10_count_75 : decode cX10_count 75 = .ok (.ireturn, 1) := by decide +kernel
theorem dX10_count_76 : decode cX10_count 76 = .ok (.aload_n 0, 1) := by decide +kernel
theorem dX10_count_77 : decode cX10_count 77 = .ok (.getfield 19, 3) := by decide +kernel
theorem dX10_count_80 : decode cX10_count 80 = .ok (.getfield 149, 3) := by decide +kernel
theorem dX10_count_83 : decode cX10_count 83 = .ok (.ireturn, 1) := by decide +kernel
theorem dX10_count_84 : decode cX10_count 84 = .ok (.aload_n 0, 1) := by decide +kernel
theorem dX10_count_85 : decode cX10_count 85 = .ok (.getfield 64, 3) := by decide +kernel
theorem dX10_count_88 : decode cX10_count 88 = .ok (.getfield 302, 3) := by decide +kernel
theorem dX10_count_91 : decode cX10_count 91 = .ok (.ireturn, 1) := by decide +kernel
theorem dX10_count_92 : decode cX10_count 92 = .ok (.aload_n 0, 1) := by decide +kernel
theorem dX10_count_93 : decode cX10_count 93 = .ok (.getfield 19, 3) := by decide +kernel
theorem dX10_count_96 : decode cX10_count 96 = .ok (.aload_n 0, 1) := by decide +kernel
theorem dX10_count_97 : decode cX10_count 97 = .ok (.getfield 64, 3) := by decide +kernel
theorem dX10_count_100 : decode cX10_count 100 = .ok (.invokevirtual 176, 3) := by decide +kernel
theorem dX10_count_103 : decode cX10_count 103 = .ok (.ireturn, 1) := by decide +kernel
theorem dX10_count_104 : decode cX10_count 104 = .ok (.aload_n 0, 1) := by decide +kernel
theorem dX10_count_105 : decode cX10_count 105 = .ok (.getfield 19, 3) := by decide +kernel
theorem dX10_count_108 : decode cX10_count 108 = .ok (.getfield 138, 3) := by decide +kernel
theorem dX10_count_111 : decode cX10_count 111 = .ok (.ireturn, 1) := by decide +kernel
theorem dX10_count_112 : decode cX10_count 112 = .ok (.aload_n 0, 1) := by decide +kernel
theorem dX10_count_113 : decode cX10_count 113 = .ok (.getfield 64, 3) := by decide +kernel
theorem dX10_count_116 : decode cX10_count 116 = .ok (.aload_n 0, 1) := by decide +kernel
theorem dX10_count_117 : decode cX10_count 117 = .ok (.getfield 19, 3) := by decide +kernel
theorem dX10_count_120 : decode cX10_count 120 = .ok (.getfield 138, 3) := by decide +kernel
theorem dX10_count_123 : decode cX10_count 123 = .ok (.invokevirtual 141, 3) := by decide +kernel
theorem dX10_count_126 : decode cX10_count 126 = .ok (.ireturn, 1) := by decide +kernel
theorem dX10_count_127 : decode cX10_count 127 = .ok (.aload_n 0, 1) := by decide +kernel
theorem dX10_count_128 : decode cX10_count 128 = .ok (.getfield 19, 3) := by decide +kernel
theorem dX10_count_131 : decode cX10_count 131 = .ok (.aload_n 0, 1) := by decide +kernel
theorem dX10_count_132 : decode cX10_count 132 = .ok (.getfield 64, 3) := by decide +kernel
theorem dX10_count_135 : decode cX10_count 135 = .ok (.invokevirtual 205, 3) := by decide +kernel
theorem dX10_count_138 : decode cX10_count 138 = .ok (.ireturn, 1) := by decide +kernel
theorem dX10_count_139 : decode cX10_count 139 = .ok (.aload_n 0, 1) := by decide +kernel
theorem dX10_count_140 : decode cX10_count 140 = .ok (.getfield 19, 3) := by decide +kernel
theorem dX10_count_143 : decode cX10_count 143 = .ok (.aload_n 0, 1) := by decide +kernel
theorem dX10_count_144 : decode cX10_count 144 = .ok (.getfield 64, 3) := by decide +kernel
theorem dX10_count_147 : decode cX10_count 147 = .ok (.invokevirtual 305, 3) := by decide +kernel
theorem dX10_count_150 : decode cX10_count 150 = .ok (.ireturn, 1) := by decide +kernel
theorem dX10_count_151 : decode cX10_count 151 = .ok (.aload_n 0, 1) := by decide +kernel
theorem dX10_count_152 : decode cX10_count 152 = .ok (.getfield 64, 3) := by decide +kernel
theorem dX10_count_155 : decode cX10_count 155 = .ok (.getfield 308, 3) := by decide +kernel
theorem dX10_count_158 : decode cX10_count 158 = .ok (.ireturn, 1) := by decide +kernel
theorem dX10_count_159 : decode cX10_count 159 = .ok (.aload_n 0, 1) := by decide +kernel
theorem dX10_count_160 : decode cX10_count 160 = .ok (.getfield 74, 3) := by decide +kernel
theorem dX10_count_163 : decode cX10_count 163 = .ok (.getfield 311, 3) := by decide +kernel
theorem dX10_count_166 : decode cX10_count 166 = .ok (.ireturn, 1) := by decide +kernel
theorem dX10_count_167 : decode cX10_count 167 = .ok (.aload_n 0, 1) := by decide +kernel
theorem dX10_count_168 : decode cX10_count 168 = .ok (.getfield 29, 3) := by decide +kernel
theorem dX10_count_171 : decode cX10_count 171 = .ok (.getfield 314, 3) := by decide +kernel
theorem dX10_count_174 : decode cX10_count 174 = .ok (.ireturn, 1) := by decide +kernel
theorem dX10_count_175 : decode cX10_count 175 = .ok (.aload_n 0, 1) := by decide +kernel
theorem dX10_count_176 : decode cX10_count 176 = .ok (.getfield 36, 3) := by decide +kernel
theorem dX10_count_179 : decode cX10_count 179 = .ok (.getfield 315, 3) := by decide +kernel
theorem dX10_count_182 : decode cX10_count 182 = .ok (.ireturn, 1) := by decide +kernel
theorem dX10_count_183 : decode cX10_count 183 = .ok (.aload_n 0, 1) := by decide +kernel
theorem dX10_count_184 : decode cX10_count 184 = .ok (.getfield 10, 3) := by decide +kernel
theorem dX10_count_187 : decode cX10_count 187 = .ok (.getfield 89, 3) := by decide +kernel
theorem dX10_count_190 : decode cX10_count 190 = .ok (.ireturn, 1) := by decide +kernel
theorem dX10_count_191 : decode cX10_count 191 = .ok (.iconst (-1), 1) := by decide +kernel
theorem dX10_count_192 : decode cX10_count 192 = .ok (.ireturn, 1) := by decide +kernel
theorem dX10_worthBehind_0 : decode cX10_worthBehind 0 = .ok (.aload_n 0, 1) := by decide +kernel
theorem dX10_worthBehind_1 : decode cX10_worthBehind 1 = .ok (.getfield 23, 3) := by decide +kernel
theorem dX10_worthBehind_4 : decode cX10_worthBehind 4 = .ok (.aload_n 0, 1) := by decide +kernel
theorem dX10_worthBehind_5 : decode cX10_worthBehind 5 = .ok (.getfield 19, 3) := by decide +kernel
theorem dX10_worthBehind_8 : decode cX10_worthBehind 8 = .ok (.invokevirtual 208, 3) := by decide +kernel
theorem dX10_worthBehind_11 : decode cX10_worthBehind 11 = .ok (.iload_n 2, 1) := by decide +kernel
theorem dX10_worthBehind_12 : decode cX10_worthBehind 12 = .ok (.iconst (-1), 1) := by decide +kernel
theorem dX10_worthBehind_13 : decode cX10_worthBehind 13 = .ok (.if_icmp .eq 14, 3) := by decide +kernel
theorem dX10_worthBehind_16 : decode cX10_worthBehind 16 = .ok (.aload_n 0, 1) := by decide +kernel
theorem dX10_worthBehind_17 : decode cX10_worthBehind 17 = .ok (.getfield 23, 3) := by decide +kernel
theorem dX10_worthBehind_20 : decode cX10_worthBehind 20 = .ok (.getfield 152, 3) := by decide +kernel
theorem dX10_worthBehind_23 : decode cX10_worthBehind 23 = .ok (.iload_n 2, 1) := by decide +kernel
theorem dX10_worthBehind_24 : decode cX10_worthBehind 24 = .ok (.bipush 9, 2) := by decide +kernel
theorem dX10_worthBehind_26 : decode cX10_worthBehind 26 = .ok (.iastore, 1) := by decide +kernel
theorem dX10_worthBehind_27 : decode cX10_worthBehind 27 = .ok (.iconst 0, 1) := by decide +kernel
theorem dX10_worthBehind_28 : decode cX10_worthBehind 28 = .ok (.istore_n 3, 1) := by decide +kernel
theorem dX10_worthBehind_29 : decode cX10_worthBehind 29 = .ok (.iload_n 3, 1) := by decide +kernel
theorem dX10_worthBehind_30 : decode cX10_worthBehind 30 = .ok (.iload_n 1, 1) := by decide +kernel
theorem dX10_worthBehind_31 : decode cX10_worthBehind 31 = .ok (.if_icmp .ge 22, 3) := by decide +kernel
theorem dX10_worthBehind_34 : decode cX10_worthBehind 34 = .ok (.aload_n 0, 1) := by decide +kernel
theorem dX10_worthBehind_35 : decode cX10_worthBehind 35 = .ok (.getfield 23, 3) := by decide +kernel
theorem dX10_worthBehind_38 : decode cX10_worthBehind 38 = .ok (.aload_n 0, 1) := by decide +kernel
theorem dX10_worthBehind_39 : decode cX10_worthBehind 39 = .ok (.getfield 64, 3) := by decide +kernel
theorem dX10_worthBehind_42 : decode cX10_worthBehind 42 = .ok (.iconst 0, 1) := by decide +kernel
theorem dX10_worthBehind_43 : decode cX10_worthBehind 43 = .ok (.invokevirtual 188, 3) := by decide +kernel
theorem dX10_worthBehind_46 : decode cX10_worthBehind 46 = .ok (.pop, 1) := by decide +kernel
theorem dX10_worthBehind_47 : decode cX10_worthBehind 47 = .ok (.iinc 3 1, 3) := by decide +kernel
theorem dX10_worthBehind_50 : decode cX10_worthBehind 50 = .ok (.goto (-21), 3) := by decide +kernel
theorem dX10_worthBehind_53 : decode cX10_worthBehind 53 = .ok (.aload_n 0, 1) := by decide +kernel
theorem dX10_worthBehind_54 : decode cX10_worthBehind 54 = .ok (.getfield 23, 3) := by decide +kernel
theorem dX10_worthBehind_57 : decode cX10_worthBehind 57 = .ok (.aload_n 0, 1) := by decide +kernel
theorem dX10_worthBehind_58 : decode cX10_worthBehind 58 = .ok (.getfield 64, 3) := by decide +kernel
theorem dX10_worthBehind_61 : decode cX10_worthBehind 61 = .ok (.invokevirtual 205, 3) := by decide +kernel
theorem dX10_worthBehind_64 : decode cX10_worthBehind 64 = .ok (.ireturn, 1) := by decide +kernel
theorem dX10_handleByDraws_0 : decode cX10_handleByDraws 0 = .ok (.aload_n 0, 1) := by decide +kernel
theorem dX10_handleByDraws_1 : decode cX10_handleByDraws 1 = .ok (.getfield 64, 3) := by decide +kernel
theorem dX10_handleByDraws_4 : decode cX10_handleByDraws 4 = .ok (.getfield 299, 3) := by decide +kernel
theorem dX10_handleByDraws_7 : decode cX10_handleByDraws 7 = .ok (.ifCond .ne 4, 3) := by decide +kernel
theorem dX10_handleByDraws_10 : decode cX10_handleByDraws 10 = .ok (.return_, 1) := by decide +kernel
theorem dX10_handleByDraws_11 : decode cX10_handleByDraws 11 = .ok (.aload_n 0, 1) := by decide +kernel
theorem dX10_handleByDraws_12 : decode cX10_handleByDraws 12 = .ok (.aload_n 0, 1) := by decide +kernel
theorem dX10_handleByDraws_13 : decode cX10_handleByDraws 13 = .ok (.getfield 64, 3) := by decide +kernel
theorem dX10_handleByDraws_16 : decode cX10_handleByDraws 16 = .ok (.getfield 299, 3) := by decide +kernel
theorem dX10_handleByDraws_19 : decode cX10_handleByDraws 19 = .ok (.invokevirtual 277, 3) := by decide +kernel
theorem dX10_handleByDraws_22 : decode cX10_handleByDraws 22 = .ok (.istore_n 1, 1) := by decide +kernel
theorem dX10_handleByDraws_23 : decode cX10_handleByDraws 23 = .ok (.aload_n 0, 1) := by decide +kernel
theorem dX10_handleByDraws_24 : decode cX10_handleByDraws 24 = .ok (.getfield 23, 3) := by decide +kernel
theorem dX10_handleByDraws_27 : decode cX10_handleByDraws 27 = .ok (.getfield 124, 3) := by decide +kernel
theorem dX10_handleByDraws_30 : decode cX10_handleByDraws 30 = .ok (.iload_n 1, 1) := by decide +kernel
theorem dX10_handleByDraws_31 : decode cX10_handleByDraws 31 = .ok (.iaload, 1) := by decide +kernel
theorem dX10_handleByDraws_32 : decode cX10_handleByDraws 32 = .ok (.ifCond .ne 34, 3) := by decide +kernel
theorem dX10_handleByDraws_35 : decode cX10_handleByDraws 35 = .ok (.aload_n 0, 1) := by decide +kernel
theorem dX10_handleByDraws_36 : decode cX10_handleByDraws 36 = .ok (.getfield 23, 3) := by decide +kernel
theorem dX10_handleByDraws_39 : decode cX10_handleByDraws 39 = .ok (.aload_n 0, 1) := by decide +kernel
theorem dX10_handleByDraws_40 : decode cX10_handleByDraws 40 = .ok (.getfield 64, 3) := by decide +kernel
theorem dX10_handleByDraws_43 : decode cX10_handleByDraws 43 = .ok (.iload_n 1, 1) := by decide +kernel
theorem dX10_handleByDraws_44 : decode cX10_handleByDraws 44 = .ok (.aload_n 0, 1) := by decide +kernel
theorem dX10_handleByDraws_45 : decode cX10_handleByDraws 45 = .ok (.getfield 23, 3) := by decide +kernel
theorem dX10_handleByDraws_48 : decode cX10_handleByDraws 48 = .ok (.aload_n 0, 1) := by decide +kernel
theorem dX10_handleByDraws_49 : decode cX10_handleByDraws 49 = .ok (.getfield 64, 3) := by decide +kernel
theorem dX10_handleByDraws_52 : decode cX10_handleByDraws 52 = .ok (.iload_n 1, 1) := by decide +kernel
theorem dX10_handleByDraws_53 : decode cX10_handleByDraws 53 = .ok (.invokevirtual 316, 3) := by decide +kernel
theorem dX10_handleByDraws_56 : decode cX10_handleByDraws 56 = .ok (.invokevirtual 319, 3) := by decide +kernel
theorem dX10_handleByDraws_59 : decode cX10_handleByDraws 59 = .ok (.invokevirtual 169, 3) := by decide +kernel
theorem dX10_handleByDraws_62 : decode cX10_handleByDraws 62 = .ok (.pop, 1) := by decide +kernel
theorem dX10_handleByDraws_63 : decode cX10_handleByDraws 63 = .ok (.goto 24, 3) := by decide +kernel
theorem dX10_handleByDraws_66 : decode cX10_handleByDraws 66 = .ok (.aload_n 0, 1) := by decide +kernel
theorem dX10_handleByDraws_67 : decode cX10_handleByDraws 67 = .ok (.iconst 4, 1) := by decide +kernel
theorem dX10_handleByDraws_68 : decode cX10_handleByDraws 68 = .ok (.invokevirtual 277, 3) := by decide +kernel
theorem dX10_handleByDraws_71 : decode cX10_handleByDraws 71 = .ok (.ifCond .ne 16, 3) := by decide +kernel
theorem dX10_handleByDraws_74 : decode cX10_handleByDraws 74 = .ok (.aload_n 0, 1) := by decide +kernel
theorem dX10_handleByDraws_75 : decode cX10_handleByDraws 75 = .ok (.getfield 23, 3) := by decide +kernel
theorem dX10_handleByDraws_78 : decode cX10_handleByDraws 78 = .ok (.aload_n 0, 1) := by decide +kernel
theorem dX10_handleByDraws_79 : decode cX10_handleByDraws 79 = .ok (.getfield 64, 3) := by decide +kernel
theorem dX10_handleByDraws_82 : decode cX10_handleByDraws 82 = .ok (.iload_n 1, 1) := by decide +kernel
theorem dX10_handleByDraws_83 : decode cX10_handleByDraws 83 = .ok (.invokevirtual 179, 3) := by decide +kernel
theorem dX10_handleByDraws_86 : decode cX10_handleByDraws 86 = .ok (.pop, 1) := by decide +kernel
theorem dX10_handleByDraws_87 : decode cX10_handleByDraws 87 = .ok (.return_, 1) := by decide +kernel
theorem dX10_draw_0 : decode cX10_draw 0 = .ok (.aload_n 0, 1) := by decide +kernel
theorem dX10_draw_1 : decode cX10_draw 1 = .ok (.aload_n 0, 1) := by decide +kernel
theorem dX10_draw_2 : decode cX10_draw 2 = .ok (.getfield 81, 3) := by decide +kernel
theorem dX10_draw_5 : decode cX10_draw 5 = .ok (.ldc2_w 322, 3) := by decide +kernel
theorem dX10_draw_8 : decode cX10_draw 8 = .ok (.lmul, 1) := by decide +kernel
theorem dX10_draw_9 : decode cX10_draw 9 = .ok (.ldc2_w 324, 3) := by decide +kernel
theorem dX10_draw_12 : decode cX10_draw 12 = .ok (.ladd, 1) := by decide +kernel
theorem dX10_draw_13 : decode cX10_draw 13 = .ok (.ldc2_w 326, 3) := by decide +kernel
theorem dX10_draw_16 : decode cX10_draw 16 = .ok (.lrem, 1) := by decide +kernel
theorem dX10_draw_17 : decode cX10_draw 17 = .ok (.putfield 81, 3) := by decide +kernel
theorem dX10_draw_20 : decode cX10_draw 20 = .ok (.iload_n 1, 1) := by decide +kernel
theorem dX10_draw_21 : decode cX10_draw 21 = .ok (.iconst 1, 1) := by decide +kernel
theorem dX10_draw_22 : decode cX10_draw 22 = .ok (.if_icmp .ge 7, 3) := by decide +kernel
theorem dX10_draw_25 : decode cX10_draw 25 = .ok (.iconst 0, 1) := by decide +kernel
theorem dX10_draw_26 : decode cX10_draw 26 = .ok (.goto 15, 3) := by decide +kernel
theorem dX10_draw_29 : decode cX10_draw 29 = .ok (.aload_n 0, 1) := by decide +kernel
theorem dX10_draw_30 : decode cX10_draw 30 = .ok (.getfield 81, 3) := by decide +kernel
theorem dX10_draw_33 : decode cX10_draw 33 = .ok (.ldc2_w 328, 3) := by decide +kernel
theorem dX10_draw_36 : decode cX10_draw 36 = .ok (.ldiv, 1) := by decide +kernel
theorem dX10_draw_37 : decode cX10_draw 37 = .ok (.iload_n 1, 1) := by decide +kernel
theorem dX10_draw_38 : decode cX10_draw 38 = .ok (.i2l, 1) := by decide +kernel
theorem dX10_draw_39 : decode cX10_draw 39 = .ok (.lrem, 1) := by decide +kernel
theorem dX10_draw_40 : decode cX10_draw 40 = .ok (.l2i, 1) := by decide +kernel
theorem dX10_draw_41 : decode cX10_draw 41 = .ok (.ireturn, 1) := by decide +kernel
theorem dX10_isWorth_0 : decode cX10_isWorth 0 = .ok (.iload_n 0, 1) := by decide +kernel
theorem dX10_isWorth_1 : decode cX10_isWorth 1 = .ok (.ifCond .lt 13, 3) := by decide +kernel
theorem dX10_isWorth_4 : decode cX10_isWorth 4 = .ok (.iload_n 0, 1) := by decide +kernel
theorem dX10_isWorth_5 : decode cX10_isWorth 5 = .ok (.bipush 9, 2) := by decide +kernel
theorem dX10_isWorth_7 : decode cX10_isWorth 7 = .ok (.if_icmp .gt 7, 3) := by decide +kernel
theorem dX10_isWorth_10 : decode cX10_isWorth 10 = .ok (.iconst 1, 1) := by decide +kernel
theorem dX10_isWorth_11 : decode cX10_isWorth 11 = .ok (.goto 4, 3) := by decide +kernel
theorem dX10_isWorth_14 : decode cX10_isWorth 14 = .ok (.iconst 0, 1) := by decide +kernel
theorem dX10_isWorth_15 : decode cX10_isWorth 15 = .ok (.ireturn, 1) := by decide +kernel
theorem dX10_isRest_0 : decode cX10_isRest 0 = .ok (.iload_n 3, 1) := by decide +kernel
theorem dX10_isRest_1 : decode cX10_isRest 1 = .ok (.iconst 3, 1) := by decide +kernel
theorem dX10_isRest_2 : decode cX10_isRest 2 = .ok (.idiv, 1) := by decide +kernel
theorem dX10_isRest_3 : decode cX10_isRest 3 = .ok (.istore 4, 2) := by decide +kernel
theorem dX10_isRest_5 : decode cX10_isRest 5 = .ok (.iload_n 3, 1) := by decide +kernel
theorem dX10_isRest_6 : decode cX10_isRest 6 = .ok (.iconst 3, 1) := by decide +kernel
theorem dX10_isRest_7 : decode cX10_isRest 7 = .ok (.irem, 1) := by decide +kernel
theorem dX10_isRest_8 : decode cX10_isRest 8 = .ok (.istore 5, 2) := by decide +kernel
theorem dX10_isRest_10 : decode cX10_isRest 10 = .ok (.iload_n 0, 1) := by decide +kernel
theorem dX10_isRest_11 : decode cX10_isRest 11 = .ok (.iload_n 1, 1) := by decide +kernel
theorem dX10_isRest_12 : decode cX10_isRest 12 = .ok (.iload_n 2, 1) := by decide +kernel
theorem dX10_isRest_13 : decode cX10_isRest 13 = .ok (.iload 4, 2) := by decide +kernel
theorem dX10_isRest_15 : decode cX10_isRest 15 = .ok (.iload 5, 2) := by decide +kernel
theorem dX10_isRest_17 : decode cX10_isRest 17 = .ok (.invokestatic 330, 3) := by decide +kernel
theorem dX10_isRest_20 : decode cX10_isRest 20 = .ok (.istore 6, 2) := by decide +kernel
theorem dX10_isRest_22 : decode cX10_isRest 22 = .ok (.iconst 0, 1) := by decide +kernel
theorem dX10_isRest_23 : decode cX10_isRest 23 = .ok (.istore 7, 2) := by decide +kernel
theorem dX10_isRest_25 : decode cX10_isRest 25 = .ok (.iload 7, 2) := by decide +kernel
theorem dX10_isRest_27 : decode cX10_isRest 27 = .ok (.iconst 3, 1) := by decide +kernel
theorem dX10_isRest_28 : decode cX10_isRest 28 = .ok (.if_icmp .ge 41, 3) := by decide +kernel
theorem dX10_isRest_31 : decode cX10_isRest 31 = .ok (.iload_n 0, 1) := by decide +kernel
theorem dX10_isRest_32 : decode cX10_isRest 32 = .ok (.iload_n 1, 1) := by decide +kernel
theorem dX10_isRest_33 : decode cX10_isRest 33 = .ok (.iload_n 2, 1) := by decide +kernel
theorem dX10_isRest_34 : decode cX10_isRest 34 = .ok (.iload 7, 2) := by decide +kernel
theorem dX10_isRest_36 : decode cX10_isRest 36 = .ok (.iload 5, 2) := by decide +kernel
theorem dX10_isRest_38 : decode cX10_isRest 38 = .ok (.invokestatic 330, 3) := by decide +kernel
theorem dX10_isRest_41 : decode cX10_isRest 41 = .ok (.iload 6, 2) := by decide +kernel
theorem dX10_isRest_43 : decode cX10_isRest 43 = .ok (.if_icmp .lt 18, 3) := by decide +kernel
theorem dX10_isRest_46 : decode cX10_isRest 46 = .ok (.iload_n 0, 1) := by decide +kernel
theorem dX10_isRest_47 : decode cX10_isRest 47 = .ok (.iload_n 1, 1) := by decide +kernel
theorem dX10_isRest_48 : decode cX10_isRest 48 = .ok (.iload_n 2, 1) := by decide +kernel
theorem dX10_isRest_49 : decode cX10_isRest 49 = .ok (.iload 4, 2) := by decide +kernel
theorem dX10_isRest_51 : decode cX10_isRest 51 = .ok (.iload 7, 2) := by decide +kernel
theorem dX10_isRest_53 : decode cX10_isRest 53 = .ok (.invokestatic 330, 3) := by decide +kernel
theorem dX10_isRest_56 : decode cX10_isRest 56 = .ok (.iload 6, 2) := by decide +kernel
theorem dX10_isRest_58 : decode cX10_isRest 58 = .ok (.if_icmp .le 5, 3) := by decide +kernel
theorem dX10_isRest_61 : decode cX10_isRest 61 = .ok (.iconst 0, 1) := by decide +kernel
theorem dX10_isRest_62 : decode cX10_isRest 62 = .ok (.ireturn, 1) := by decide +kernel
theorem dX10_isRest_63 : decode cX10_isRest 63 = .ok (.iinc 7 1, 3) := by decide +kernel
theorem dX10_isRest_66 : decode cX10_isRest 66 = .ok (.goto (-41), 3) := by decide +kernel
theorem dX10_isRest_69 : decode cX10_isRest 69 = .ok (.iconst 1, 1) := by decide +kernel
theorem dX10_isRest_70 : decode cX10_isRest 70 = .ok (.ireturn, 1) := by decide +kernel
theorem dX10_loot_0 : decode cX10_loot 0 = .ok (.iload_n 3, 1) := by decide +kernel
theorem dX10_loot_1 : decode cX10_loot 1 = .ok (.iload 4, 2) := by decide +kernel
theorem dX10_loot_3 : decode cX10_loot 3 = .ok (.if_icmp .ne 5, 3) := by decide +kernel
theorem dX10_loot_6 : decode cX10_loot 6 = .ok (.iconst 0, 1) := by decide +kernel
theorem dX10_loot_7 : decode cX10_loot 7 = .ok (.ireturn, 1) := by decide +kernel
theorem dX10_loot_8 : decode cX10_loot 8 = .ok (.iload 4, 2) := by decide +kernel
theorem dX10_loot_10 : decode cX10_loot 10 = .ok (.ifCond .ne 5, 3) := by decide +kernel
theorem dX10_loot_13 : decode cX10_loot 13 = .ok (.iload_n 0, 1) := by decide +kernel
theorem dX10_loot_14 : decode cX10_loot 14 = .ok (.ireturn, 1) := by decide +kernel
theorem dX10_loot_15 : decode cX10_loot 15 = .ok (.iload 4, 2) := by decide +kernel
theorem dX10_loot_17 : decode cX10_loot 17 = .ok (.iconst 1, 1) := by decide +kernel
theorem dX10_loot_18 : decode cX10_loot 18 = .ok (.if_icmp .ne 7, 3) := by decide +kernel
theorem dX10_loot_21 : decode cX10_loot 21 = .ok (.iload_n 1, 1) := by decide +kernel
theorem dX10_loot_22 : decode cX10_loot 22 = .ok (.goto 4, 3) := by decide +kernel
theorem dX10_loot_25 : decode cX10_loot 25 = .ok (.iload_n 2, 1) := by decide +kernel
theorem dX10_loot_26 : decode cX10_loot 26 = .ok (.ireturn, 1) := by decide +kernel
