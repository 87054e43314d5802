theorem dX5_weighChains_8 : decode cX5_weighChains 8 = .ok (.aload_n 0, 1) := by decide +kernel
theorem dX5_weighChains_9 : decode cX5_weighChains 9 = .ok (.iconst 0, 1) := by decide +kernel
theorem dX5_weighChains_10 : decode cX5_weighChains 10 = .ok (.lconst 0, 1) := by decide +kernel
theorem dX5_weighChains_11 : decode cX5_weighChains 11 = .ok (.invokevirtual 125, 3) := by decide +kernel
theorem dX5_weighChains_14 : decode cX5_weighChains 14 = .ok (.iconst 0, 1) := by decide +kernel
theorem dX5_weighChains_15 : decode cX5_weighChains 15 = .ok (.istore_n 2, 1) := by decide +kernel
theorem dX5_weighChains_16 : decode cX5_weighChains 16 = .ok (.iload_n 2, 1) := by decide +kernel
theorem dX5_weighChains_17 : decode cX5_weighChains 17 = .ok (.aload_n 0, 1) := by decide +kernel
theorem dX5_weighChains_18 : decode cX5_weighChains 18 = .ok (.getfield 77, 3) := by decide +kernel
theorem dX5_weighChains_21 : decode cX5_weighChains 21 = .ok (.if_icmp .ge 53, 3) := by decide +kernel
theorem dX5_weighChains_24 : decode cX5_weighChains 24 = .ok (.iconst 1, 1) := by decide +kernel
theorem dX5_weighChains_25 : decode cX5_weighChains 25 = .ok (.iload_n 2, 1) := by decide +kernel
theorem dX5_weighChains_26 : decode cX5_weighChains 26 = .ok (.ishl, 1) := by decide +kernel
theorem dX5_weighChains_27 : decode cX5_weighChains 27 = .ok (.istore_n 3, 1) := by decide +kernel
theorem dX5_weighChains_28 : decode cX5_weighChains 28 = .ok (.aload_n 0, 1) := by decide +kernel
theorem dX5_weighChains_29 : decode cX5_weighChains 29 = .ok (.iload_n 2, 1) := by decide +kernel
theorem dX5_weighChains_30 : decode cX5_weighChains 30 = .ok (.iload_n 1, 1) := by decide +kernel
theorem dX5_weighChains_31 : decode cX5_weighChains 31 = .ok (.invokevirtual 129, 3) := by decide +kernel
theorem dX5_weighChains_34 : decode cX5_weighChains 34 = .ok (.lstore 4, 2) := by decide +kernel
theorem dX5_weighChains_36 : decode cX5_weighChains 36 = .ok (.iconst 0, 1) := by decide +kernel
theorem dX5_weighChains_37 : decode cX5_weighChains 37 = .ok (.istore 6, 2) := by decide +kernel
theorem dX5_weighChains_39 : decode cX5_weighChains 39 = .ok (.iload 6, 2) := by decide +kernel
theorem dX5_weighChains_41 : decode cX5_weighChains 41 = .ok (.iload_n 3, 1) := by decide +kernel
theorem dX5_weighChains_42 : decode cX5_weighChains 42 = .ok (.if_icmp .ge 26, 3) := by decide +kernel
theorem dX5_weighChains_45 : decode cX5_weighChains 45 = .ok (.aload_n 0, 1) := by decide +kernel
theorem dX5_weighChains_46 : decode cX5_weighChains 46 = .ok (.iload 6, 2) := by decide +kernel
theorem dX5_weighChains_48 : decode cX5_weighChains 48 = .ok (.iload_n 3, 1) := by decide +kernel
theorem dX5_weighChains_49 : decode cX5_weighChains 49 = .ok (.iadd, 1) := by decide +kernel
theorem dX5_weighChains_50 : decode cX5_weighChains 50 = .ok (.aload_n 0, 1) := by decide +kernel
theorem dX5_weighChains_51 : decode cX5_weighChains 51 = .ok (.iload 6, 2) := by decide +kernel
theorem dX5_weighChains_53 : decode cX5_weighChains 53 = .ok (.iload_n 2, 1) := by decide +kernel
theorem dX5_weighChains_54 : decode cX5_weighChains 54 = .ok (.lload 4, 2) := by decide +kernel
theorem dX5_weighChains_56 : decode cX5_weighChains 56 = .ok (.invokevirtual 133, 3) := by decide +kernel
theorem dX5_weighChains_59 : decode cX5_weighChains 59 = .ok (.invokevirtual 125, 3) := by decide +kernel
theorem dX5_weighChains_62 : decode cX5_weighChains 62 = .ok (.iinc 6 1, 3) := by decide +kernel
theorem dX5_weighChains_65 : decode cX5_weighChains 65 = .ok (.goto (-26), 3) := by decide +kernel
theorem dX5_weighChains_68 : decode cX5_weighChains 68 = .ok (.iinc 2 1, 3) := by decide +kernel
theorem dX5_weighChains_71 : decode cX5_weighChains 71 = .ok (.goto (-55), 3) := by decide +kernel
theorem dX5_weighChains_74 : decode cX5_weighChains 74 = .ok (.return_, 1) := by decide +kernel
theorem dX5_costBehind_0 : decode cX5_costBehind 0 = .ok (.aload_n 0, 1) := by decide +kernel
theorem dX5_costBehind_1 : decode cX5_costBehind 1 = .ok (.getfield 21, 3) := by decide +kernel
theorem dX5_costBehind_4 : decode cX5_costBehind 4 = .ok (.iload_n 1, 1) := by decide +kernel
theorem dX5_costBehind_5 : decode cX5_costBehind 5 = .ok (.laload, 1) := by decide +kernel
theorem dX5_costBehind_6 : decode cX5_costBehind 6 = .ok (.ldc2_w 117, 3) := by decide +kernel
theorem dX5_costBehind_9 : decode cX5_costBehind 9 = .ok (.lcmp, 1) := by decide +kernel
theorem dX5_costBehind_10 : decode cX5_costBehind 10 = .ok (.ifCond .lt 7, 3) := by decide +kernel
theorem dX5_costBehind_13 : decode cX5_costBehind 13 = .ok (.ldc2_w 117, 3) := by decide +kernel
theorem dX5_costBehind_16 : decode cX5_costBehind 16 = .ok (.lreturn, 1) := by decide +kernel
theorem dX5_costBehind_17 : decode cX5_costBehind 17 = .ok (.aload_n 0, 1) := by decide +kernel
theorem dX5_costBehind_18 : decode cX5_costBehind 18 = .ok (.getfield 48, 3) := by decide +kernel
theorem dX5_costBehind_21 : decode cX5_costBehind 21 = .ok (.aload_n 0, 1) := by decide +kernel
theorem dX5_costBehind_22 : decode cX5_costBehind 22 = .ok (.getfield 27, 3) := by decide +kernel
theorem dX5_costBehind_25 : decode cX5_costBehind 25 = .ok (.iload_n 1, 1) := by decide +kernel
theorem dX5_costBehind_26 : decode cX5_costBehind 26 = .ok (.iaload, 1) := by decide +kernel
theorem dX5_costBehind_27 : decode cX5_costBehind 27 = .ok (.aload_n 0, 1) := by decide +kernel
theorem dX5_costBehind_28 : decode cX5_costBehind 28 = .ok (.getfield 30, 3) := by decide +kernel
theorem dX5_costBehind_31 : decode cX5_costBehind 31 = .ok (.iload_n 1, 1) := by decide +kernel
theorem dX5_costBehind_32 : decode cX5_costBehind 32 = .ok (.iaload, 1) := by decide +kernel
theorem dX5_costBehind_33 : decode cX5_costBehind 33 = .ok (.aload_n 0, 1) := by decide +kernel
theorem dX5_costBehind_34 : decode cX5_costBehind 34 = .ok (.getfield 33, 3) := by decide +kernel
theorem dX5_costBehind_37 : decode cX5_costBehind 37 = .ok (.iload_n 1, 1) := by decide +kernel
theorem dX5_costBehind_38 : decode cX5_costBehind 38 = .ok (.iaload, 1) := by decide +kernel
theorem dX5_costBehind_39 : decode cX5_costBehind 39 = .ok (.invokevirtual 137, 3) := by decide +kernel
theorem dX5_costBehind_42 : decode cX5_costBehind 42 = .ok (.aload_n 0, 1) := by decide +kernel
theorem dX5_costBehind_43 : decode cX5_costBehind 43 = .ok (.getfield 48, 3) := by decide +kernel
theorem dX5_costBehind_46 : decode cX5_costBehind 46 = .ok (.aload_n 0, 1) := by decide +kernel
theorem dX5_costBehind_47 : decode cX5_costBehind 47 = .ok (.getfield 13, 3) := by decide +kernel
theorem dX5_costBehind_50 : decode cX5_costBehind 50 = .ok (.iload_n 2, 1) := by decide +kernel
theorem dX5_costBehind_51 : decode cX5_costBehind 51 = .ok (.iaload, 1) := by decide +kernel
theorem dX5_costBehind_52 : decode cX5_costBehind 52 = .ok (.invokevirtual 108, 3) := by decide +kernel
theorem dX5_costBehind_55 : decode cX5_costBehind 55 = .ok (.istore 5, 2) := by decide +kernel
theorem dX5_costBehind_57 : decode cX5_costBehind 57 = .ok (.iload 5, 2) := by decide +kernel
theorem dX5_costBehind_59 : decode cX5_costBehind 59 = .ok (.iconst (-1), 1) := by decide +kernel
theorem dX5_costBehind_60 : decode cX5_costBehind 60 = .ok (.if_icmp .ne 9, 3) := by decide +kernel
theorem dX5_costBehind_63 : decode cX5_costBehind 63 = .ok (.ldc2_w 117, 3) := by decide +kernel
theorem dX5_costBehind_66 : decode cX5_costBehind 66 = .ok (.goto 19, 3) := by decide +kernel
theorem dX5_costBehind_69 : decode cX5_costBehind 69 = .ok (.aload_n 0, 1) := by decide +kernel
theorem dX5_costBehind_70 : decode cX5_costBehind 70 = .ok (.getfield 21, 3) := by decide +kernel
theorem dX5_costBehind_73 : decode cX5_costBehind 73 = .ok (.iload_n 1, 1) := by decide +kernel
theorem dX5_costBehind_74 : decode cX5_costBehind 74 = .ok (.laload, 1) := by decide +kernel
theorem dX5_costBehind_75 : decode cX5_costBehind 75 = .ok (.lload_n 3, 1) := by decide +kernel
theorem dX5_costBehind_76 : decode cX5_costBehind 76 = .ok (.ladd, 1) := by decide +kernel
theorem dX5_costBehind_77 : decode cX5_costBehind 77 = .ok (.iload 5, 2) := by decide +kernel
theorem dX5_costBehind_79 : decode cX5_costBehind 79 = .ok (.i2l, 1) := by decide +kernel
theorem dX5_costBehind_80 : decode cX5_costBehind 80 = .ok (.ldc2_w 85, 3) := by decide +kernel
theorem dX5_costBehind_83 : decode cX5_costBehind 83 = .ok (.lmul, 1) := by decide +kernel
theorem dX5_costBehind_84 : decode cX5_costBehind 84 = .ok (.ladd, 1) := by decide +kernel
theorem dX5_costBehind_85 : decode cX5_costBehind 85 = .ok (.lreturn, 1) := by decide +kernel
theorem dX5_keep_0 : decode cX5_keep 0 = .ok (.aload_n 0, 1) := by decide +kernel
theorem dX5_keep_1 : decode cX5_keep 1 = .ok (.getfield 21, 3) := by decide +kernel
theorem dX5_keep_4 : decode cX5_keep 4 = .ok (.iload_n 1, 1) := by decide +kernel
theorem dX5_keep_5 : decode cX5_keep 5 = .ok (.lload_n 2, 1) := by decide +kernel
theorem dX5_keep_6 : decode cX5_keep 6 = .ok (.lastore, 1) := by decide +kernel
theorem dX5_keep_7 : decode cX5_keep 7 = .ok (.aload_n 0, 1) := by decide +kernel
theorem dX5_keep_8 : decode cX5_keep 8 = .ok (.getfield 27, 3) := by decide +kernel
theorem dX5_keep_11 : decode cX5_keep 11 = .ok (.iload_n 1, 1) := by decide +kernel
theorem dX5_keep_12 : decode cX5_keep 12 = .ok (.aload_n 0, 1) := by decide +kernel
theorem dX5_keep_13 : decode cX5_keep 13 = .ok (.getfield 48, 3) := by decide +kernel
theorem dX5_keep_16 : decode cX5_keep 16 = .ok (.invokevirtual 141, 3) := by decide +kernel
theorem dX5_keep_19 : decode cX5_keep 19 = .ok (.iastore, 1) := by decide +kernel
theorem dX5_keep_20 : decode cX5_keep 20 = .ok (.aload_n 0, 1) := by decide +kernel
theorem dX5_keep_21 : decode cX5_keep 21 = .ok (.getfield 30, 3) := by decide +kernel
theorem dX5_keep_24 : decode cX5_keep 24 = .ok (.iload_n 1, 1) := by decide +kernel
theorem dX5_keep_25 : decode cX5_keep 25 = .ok (.aload_n 0, 1) := by decide +kernel
theorem dX5_keep_26 : decode cX5_keep 26 = .ok (.getfield 48, 3) := by decide +kernel
theorem dX5_keep_29 : decode cX5_keep 29 = .ok (.invokevirtual 143, 3) := by decide +kernel
theorem dX5_keep_32 : decode cX5_keep 32 = .ok (.iastore, 1) := by decide +kernel
theorem dX5_keep_33 : decode cX5_keep 33 = .ok (.aload_n 0, 1) := by decide +kernel
theorem dX5_keep_34 : decode cX5_keep 34 = .ok (.getfield 33, 3) := by decide +kernel
theorem dX5_keep_37 : decode cX5_keep 37 = .ok (.iload_n 1, 1) := by decide +kernel
theorem dX5_keep_38 : decode cX5_keep 38 = .ok (.aload_n 0, 1) := by decide +kernel
theorem dX5_keep_39 : decode cX5_keep 39 = .ok (.getfield 48, 3) := by decide +kernel
theorem dX5_keep_42 : decode cX5_keep 42 = .ok (.invokevirtual 145, 3) := by decide +kernel
theorem dX5_keep_45 : decode cX5_keep 45 = .ok (.iastore, 1) := by decide +kernel
theorem dX5_keep_46 : decode cX5_keep 46 = .ok (.return_, 1) := by decide +kernel
theorem dX5_weighUnflown_0 : decode cX5_weighUnflown 0 = .ok (.aload_n 0, 1) := by decide +kernel
theorem dX5_weighUnflown_1 : decode cX5_weighUnflown 1 = .ok (.getfield 21, 3) := by decide +kernel
theorem dX5_weighUnflown_4 : decode cX5_weighUnflown 4 = .ok (.iconst 0, 1) := by decide +kernel
theorem dX5_weighUnflown_5 : decode cX5_weighUnflown 5 = .ok (.lconst 0, 1) := by decide +kernel
theorem dX5_weighUnflown_6 : decode cX5_weighUnflown 6 = .ok (.lastore, 1) := by decide +kernel
theorem dX5_weighUnflown_7 : decode cX5_weighUnflown 7 = .ok (.iconst 0, 1) := by decide +kernel
theorem dX5_weighUnflown_8 : decode cX5_weighUnflown 8 = .ok (.istore_n 1, 1) := by decide +kernel
theorem dX5_weighUnflown_9 : decode cX5_weighUnflown 9 = .ok (.iload_n 1, 1) := by decide +kernel
theorem dX5_weighUnflown_10 : decode cX5_weighUnflown 10 = .ok (.aload_n 0, 1) := by decide +kernel
theorem dX5_weighUnflown_11 : decode cX5_weighUnflown 11 = .ok (.getfield 77, 3) := by decide +kernel
theorem dX5_weighUnflown_14 : decode cX5_weighUnflown 14 = .ok (.if_icmp .ge 58, 3) := by decide +kernel
theorem dX5_weighUnflown_17 : decode cX5_weighUnflown 17 = .ok (.iconst 1, 1) := by decide +kernel
theorem dX5_weighUnflown_18 : decode cX5_weighUnflown 18 = .ok (.iload_n 1, 1) := by decide +kernel
theorem dX5_weighUnflown_19 : decode cX5_weighUnflown 19 = .ok (.ishl, 1) := by decide +kernel
theorem dX5_weighUnflown_20 : decode cX5_weighUnflown 20 = .ok (.istore_n 2, 1) := by decide +kernel
theorem dX5_weighUnflown_21 : decode cX5_weighUnflown 21 = .ok (.ldc2_w 91, 3) := by decide +kernel
theorem dX5_weighUnflown_24 : decode cX5_weighUnflown 24 = .ok (.aload_n 0, 1) := by decide +kernel
theorem dX5_weighUnflown_25 : decode cX5_weighUnflown 25 = .ok (.iload_n 1, 1) := by decide +kernel
theorem dX5_weighUnflown_26 : decode cX5_weighUnflown 26 = .ok (.bipush 9, 2) := by decide +kernel
theorem dX5_weighUnflown_28 : decode cX5_weighUnflown 28 = .ok (.invokevirtual 129, 3) := by decide +kernel
theorem dX5_weighUnflown_31 : decode cX5_weighUnflown 31 = .ok (.ladd, 1) := by decide +kernel
theorem dX5_weighUnflown_32 : decode cX5_weighUnflown 32 = .ok (.lstore_n 3, 1) := by decide +kernel
theorem dX5_weighUnflown_33 : decode cX5_weighUnflown 33 = .ok (.iconst 0, 1) := by decide +kernel
theorem dX5_weighUnflown_34 : decode cX5_weighUnflown 34 = .ok (.istore 5, 2) := by decide +kernel
theorem dX5_weighUnflown_36 : decode cX5_weighUnflown 36 = .ok (.iload 5, 2) := by decide +kernel
theorem dX5_weighUnflown_38 : decode cX5_weighUnflown 38 = .ok (.iload_n 2, 1) := by decide +kernel
theorem dX5_weighUnflown_39 : decode cX5_weighUnflown 39 = .ok (.if_icmp .ge 27, 3) := by decide +kernel
theorem dX5_weighUnflown_42 : decode cX5_weighUnflown 42 = .ok (.aload_n 0, 1) := by decide +kernel
theorem dX5_weighUnflown_43 : decode cX5_weighUnflown 43 = .ok (.getfield 21, 3) := by decide +kernel
theorem dX5_weighUnflown_46 : decode cX5_weighUnflown 46 = .ok (.iload 5, 2) := by decide +kernel
theorem dX5_weighUnflown_48 : decode cX5_weighUnflown 48 = .ok (.iload_n 2, 1) := by decide +kernel
theorem dX5_weighUnflown_49 : decode cX5_weighUnflown 49 = .ok (.iadd, 1) := by decide +kernel
theorem dX5_weighUnflown_50 : decode cX5_weighUnflown 50 = .ok (.aload_n 0, 1) := by decide +kernel
theorem dX5_weighUnflown_51 : decode cX5_weighUnflown 51 = .ok (.getfield 21, 3) := by decide +kernel
theorem dX5_weighUnflown_54 : decode cX5_weighUnflown 54 = .ok (.iload 5, 2) := by decide +kernel
theorem dX5_weighUnflown_56 : decode cX5_weighUnflown 56 = .ok (.laload, 1) := by decide +kernel
theorem dX5_weighUnflown_57 : decode cX5_weighUnflown 57 = .ok (.lload_n 3, 1) := by decide +kernel
theorem dX5_weighUnflown_58 : decode cX5_weighUnflown 58 = .ok (.ladd, 1) := by decide +kernel
theorem dX5_weighUnflown_59 : decode cX5_weighUnflown 59 = .ok (.lastore, 1) := by decide +kernel
theorem dX5_weighUnflown_60 : decode cX5_weighUnflown 60 = .ok (.iinc 5 1, 3) := by decide +kernel
theorem dX5_weighUnflown_63 : decode cX5_weighUnflown 63 = .ok (.goto (-27), 3) := by decide +kernel
theorem dX5_weighUnflown_66 : decode cX5_weighUnflown 66 = .ok (.iinc 1 1, 3) := by decide +kernel
theorem dX5_weighUnflown_69 : decode cX5_weighUnflown 69 = .ok (.goto (-60), 3) := by decide +kernel
theorem dX5_weighUnflown_72 : decode cX5_weighUnflown 72 = .ok (.return_, 1) := by decide +kernel
theorem dX5_ownCost_0 : decode cX5_ownCost 0 = .ok (.aload_n 0, 1) := by decide +kernel
theorem dX5_ownCost_1 : decode cX5_ownCost 1 = .ok (.getfield 44, 3) := by decide +kernel
theorem dX5_ownCost_4 : decode cX5_ownCost 4 = .ok (.aload_n 0, 1) := by decide +kernel
theorem dX5_ownCost_5 : decode cX5_ownCost 5 = .ok (.getfield 13, 3) := by decide +kernel
theorem dX5_ownCost_8 : decode cX5_ownCost 8 = .ok (.iload_n 1, 1) := by decide +kernel
theorem dX5_ownCost_9 : decode cX5_ownCost 9 = .ok (.iaload, 1) := by decide +kernel
theorem dX5_ownCost_10 : decode cX5_ownCost 10 = .ok (.invokevirtual 103, 3) := by decide +kernel
theorem dX5_ownCost_13 : decode cX5_ownCost 13 = .ok (.istore_n 3, 1) := by decide +kernel
theorem dX5_ownCost_14 : decode cX5_ownCost 14 = .ok (.iload_n 3, 1) := by decide +kernel
theorem dX5_ownCost_15 : decode cX5_ownCost 15 = .ok (.iconst (-1), 1) := by decide +kernel
theorem dX5_ownCost_16 : decode cX5_ownCost 16 = .ok (.if_icmp .eq 15, 3) := by decide +kernel
theorem dX5_ownCost_19 : decode cX5_ownCost 19 = .ok (.iload_n 3, 1) := by decide +kernel
theorem dX5_ownCost_20 : decode cX5_ownCost 20 = .ok (.iload_n 2, 1) := by decide +kernel
theorem dX5_ownCost_21 : decode cX5_ownCost 21 = .ok (.if_icmp .eq 10, 3) := by decide +kernel
theorem dX5_ownCost_24 : decode cX5_ownCost 24 = .ok (.aload_n 0, 1) := by decide +kernel
theorem dX5_ownCost_25 : decode cX5_ownCost 25 = .ok (.getfield 54, 3) := by decide +kernel
theorem dX5_ownCost_28 : decode cX5_ownCost 28 = .ok (.goto 4, 3) := by decide +kernel
theorem dX5_ownCost_31 : decode cX5_ownCost 31 = .ok (.lconst 0, 1) := by decide +kernel
theorem dX5_ownCost_32 : decode cX5_ownCost 32 = .ok (.lstore 4, 2) := by decide +kernel
theorem dX5_ownCost_34 : decode cX5_ownCost 34 = .ok (.lload 4, 2) := by decide +kernel
theorem dX5_ownCost_36 : decode cX5_ownCost 36 = .ok (.iload_n 2, 1) := by decide +kernel
theorem dX5_ownCost_37 : decode cX5_ownCost 37 = .ok (.i2l, 1) := by decide +kernel
theorem dX5_ownCost_38 : decode cX5_ownCost 38 = .ok (.aload_n 0, 1) := by decide +kernel
theorem dX5_ownCost_39 : decode cX5_ownCost 39 = .ok (.getfield 17, 3) := by decide +kernel
theorem dX5_ownCost_42 : decode cX5_ownCost 42 = .ok (.iload_n 1, 1) := by decide +kernel
theorem dX5_ownCost_43 : decode cX5_ownCost 43 = .ok (.laload, 1) := by decide +kernel
theorem dX5_ownCost_44 : decode cX5_ownCost 44 = .ok (.lmul, 1) := by decide +kernel
theorem dX5_ownCost_45 : decode cX5_ownCost 45 = .ok (.ladd, 1) := by decide +kernel
theorem dX5_ownCost_46 : decode cX5_ownCost 46 = .ok (.lreturn, 1) := by decide +kernel
theorem dX5_enter_0 : decode cX5_enter 0 = .ok (.lload_n 1, 1) := by decide +kernel
theorem dX5_enter_1 : decode cX5_enter 1 = .ok (.lstore_n 3, 1) := by decide +kernel
theorem dX5_enter_2 : decode cX5_enter 2 = .ok (.aload_n 0, 1) := by decide +kernel
theorem dX5_enter_3 : decode cX5_enter 3 = .ok (.getfield 77, 3) := by decide +kernel
theorem dX5_enter_6 : decode cX5_enter 6 = .ok (.iconst 1, 1) := by decide +kernel
theorem dX5_enter_7 : decode cX5_enter 7 = .ok (.isub, 1) := by decide +kernel
theorem dX5_enter_8 : decode cX5_enter 8 = .ok (.istore 5, 2) := by decide +kernel
theorem dX5_enter_10 : decode cX5_enter 10 = .ok (.iload 5, 2) := by decide +kernel
theorem dX5_enter_12 : decode cX5_enter 12 = .ok (.ifCond .lt 50, 3) := by decide +kernel
theorem dX5_enter_15 : decode cX5_enter 15 = .ok (.lload_n 3, 1) := by decide +kernel
theorem dX5_enter_16 : decode cX5_enter 16 = .ok (.ldc2_w 115, 3) := by decide +kernel
theorem dX5_enter_19 : decode cX5_enter 19 = .ok (.lrem, 1) := by decide +kernel
theorem dX5_enter_20 : decode cX5_enter 20 = .ok (.l2i, 1) := by decide +kernel
theorem dX5_enter_21 : decode cX5_enter 21 = .ok (.istore 6, 2) := by decide +kernel
theorem dX5_enter_23 : decode cX5_enter 23 = .ok (.lload_n 3, 1) := by decide +kernel
theorem dX5_enter_24 : decode cX5_enter 24 = .ok (.ldc2_w 115, 3) := by decide +kernel
theorem dX5_enter_27 : decode cX5_enter 27 = .ok (.ldiv, 1) := by decide +kernel
theorem dX5_enter_28 : decode cX5_enter 28 = .ok (.lstore_n 3, 1) := by decide +kernel
theorem dX5_enter_29 : decode cX5_enter 29 = .ok (.aload_n 0, 1) := by decide +kernel
theorem dX5_enter_30 : decode cX5_enter 30 = .ok (.getfield 44, 3) := by decide +kernel
theorem dX5_enter_33 : decode cX5_enter 33 = .ok (.aload_n 0, 1) := by decide +kernel
theorem dX5_enter_34 : decode cX5_enter 34 = .ok (.getfield 13, 3) := by decide +kernel
theorem dX5_enter_37 : decode cX5_enter 37 = .ok (.iload 5, 2) := by decide +kernel
theorem dX5_enter_39 : decode cX5_enter 39 = .ok (.iaload, 1) := by decide +kernel
theorem dX5_enter_40 : decode cX5_enter 40 = .ok (.iload 6, 2) := by decide +kernel
theorem dX5_enter_42 : decode cX5_enter 42 = .ok (.bipush 9, 2) := by decide +kernel
theorem dX5_enter_44 : decode cX5_enter 44 = .ok (.if_icmp .ne 7, 3) := by decide +kernel
theorem dX5_enter_47 : decode cX5_enter 47 = .ok (.iconst (-1), 1) := by decide +kernel
theorem dX5_enter_48 : decode cX5_enter 48 = .ok (.goto 5, 3) := by decide +kernel
theorem dX5_enter_51 : decode cX5_enter 51 = .ok (.iload 6, 2) := by decide +kernel
theorem dX5_enter_53 : decode cX5_enter 53 = .ok (.invokevirtual 147, 3) := by decide +kernel
theorem dX5_enter_56 : decode cX5_enter 56 = .ok (.iinc 5 (-1), 3) := by decide +kernel
theorem dX5_enter_59 : decode cX5_enter 59 = .ok (.goto (-49), 3) := by decide +kernel
theorem dX5_enter_62 : decode cX5_enter 62 = .ok (.return_, 1) := by decide +kernel
theorem dX6_init_0 : decode cX6_init 0 = .ok (.aload_n 0, 1) := by decide +kernel
theorem dX6_init_1 : decode cX6_init 1 = .ok (.invokespecial 5, 3) := by decide +kernel
theorem dX6_init_4 : decode cX6_init 4 = .ok (.aload_n 0, 1) := by decide +kernel
theorem dX6_init_5 : decode cX6_init 5 = .ok (.bipush 20, 2) := by decide +kernel
theorem dX6_init_7 : decode cX6_init 7 = .ok (.newarray .int, 2) := by decide +kernel
theorem dX6_init_9 : decode cX6_init 9 = .ok (.putfield 11, 3) := by decide +kernel
theorem dX6_init_12 : decode cX6_init 12 = .ok (.aload_n 0, 1) := by decide +kernel
theorem dX6_init_13 : decode cX6_init 13 = .ok (.aload_n 1, 1) := by decide +kernel
theorem dX6_init_14 : decode cX6_init 14 = .ok (.putfield 17, 3) := by decide +kernel
theorem dX6_init_17 : decode cX6_init 17 = .ok (.aload_n 0, 1) := by decide +kernel
theorem dX6_init_18 : decode cX6_init 18 = .ok (.aload_n 2, 1) := by decide +kernel
theorem dX6_init_19 : decode cX6_init 19 = .ok (.putfield 21, 3) := by decide +kernel
theorem dX6_init_22 : decode cX6_init 22 = .ok (.aload_n 0, 1) := by decide +kernel
theorem dX6_init_23 : decode cX6_init 23 = .ok (.aload_n 3, 1) := by decide +kernel
theorem dX6_init_24 : decode cX6_init 24 = .ok (.putfield 25, 3) := by decide +kernel
theorem dX6_init_27 : decode cX6_init 27 = .ok (.iconst 0, 1) := by decide +kernel
theorem dX6_init_28 : decode cX6_init 28 = .ok (.istore 4, 2) := by decide +kernel
theorem dX6_init_30 : decode cX6_init 30 = .ok (.iload 4, 2) := by decide +kernel
theorem dX6_init_32 : decode cX6_init 32 = .ok (.bipush 20, 2) := by decide +kernel
theorem dX6_init_34 : decode cX6_init 34 = .ok (.if_icmp .ge 17, 3) := by decide +kernel
theorem dX6_init_37 : decode cX6_init 37 = .ok (.aload_n 0, 1) := by decide +kernel
theorem dX6_init_38 : decode cX6_init 38 = .ok (.getfield 11, 3) := by decide +kernel
theorem dX6_init_41 : decode cX6_init 41 = .ok (.iload 4, 2) := by decide +kernel
theorem dX6_init_43 : decode cX6_init 43 = .ok (.iconst (-1), 1) := by decide +kernel
theorem dX6_init_44 : decode cX6_init 44 = .ok (.iastore, 1) := by decide +kernel
theorem dX6_init_45 : decode cX6_init 45 = .ok (.iinc 4 1, 3) := by decide +kernel
theorem dX6_init_48 : decode cX6_init 48 = .ok (.goto (-18), 3) := by decide +kernel
theorem dX6_init_51 : decode cX6_init 51 = .ok (.return_, 1) := by decide +kernel
theorem dX6_assign_0 : decode cX6_assign 0 = .ok (.aload_n 0, 1) := by decide +kernel
theorem dX6_assign_1 : decode cX6_assign 1 = .ok (.getfield 21, 3) := by decide +kernel
theorem dX6_assign_4 : decode cX6_assign 4 = .ok (.iload_n 1, 1) := by decide +kernel
theorem dX6_assign_5 : decode cX6_assign 5 = .ok (.invokevirtual 29, 3) := by decide +kernel
theorem dX6_assign_8 : decode cX6_assign 8 = .ok (.ifCond .eq 10, 3) := by decide +kernel
theorem dX6_assign_11 : decode cX6_assign 11 = .ok (.aload_n 0, 1) := by decide +kernel
theorem dX6_assign_12 : decode cX6_assign 12 = .ok (.getfield 11, 3) := by decide +kernel
theorem dX6_assign_15 : decode cX6_assign 15 = .ok (.iload_n 1, 1) := by decide +kernel
theorem dX6_assign_16 : decode cX6_assign 16 = .ok (.iload_n 2, 1) := by decide +kernel
theorem dX6_assign_17 : decode cX6_assign 17 = .ok (.iastore, 1) := by decide +kernel
theorem dX6_assign_18 : decode cX6_assign 18 = .ok (.return_, 1) := by decide +kernel
theorem dX6_planeOf_0 : decode cX6_planeOf 0 = .ok (.aload_n 0, 1) := by decide +kernel
theorem dX6_planeOf_1 : decode cX6_planeOf 1 = .ok (.getfield 21, 3) := by decide +kernel
theorem dX6_planeOf_4 : decode cX6_planeOf 4 = .ok (.iload_n 1, 1) := by decide +kernel
theorem dX6_planeOf_5 : decode cX6_planeOf 5 = .ok (.invokevirtual 29, 3) := by decide +kernel
theorem dX6_planeOf_8 : decode cX6_planeOf 8 = .ok (.ifCond .eq 12, 3) := by decide +kernel
theorem dX6_planeOf_11 : decode cX6_planeOf 11 = .ok (.aload_n 0, 1) := by decide +kernel
theorem dX6_planeOf_12 : decode cX6_planeOf 12 = .ok (.getfield 11, 3) := by decide +kernel
theorem dX6_planeOf_15 : decode cX6_planeOf 15 = .ok (.iload_n 1, 1) := by decide +kernel
theorem dX6_planeOf_16 : decode cX6_planeOf 16 = .ok (.iaload, 1) := by decide +kernel
theorem dX6_planeOf_17 : decode cX6_planeOf 17 = .ok (.goto 4, 3) := by decide +kernel
theorem dX6_planeOf_20 : decode cX6_planeOf 20 = .ok (.iconst (-1), 1) := by decide +kernel
theorem dX6_planeOf_21 : decode cX6_planeOf 21 = .ok (.ireturn, 1) := by decide +kernel
theorem dX6_flown_0 : decode cX6_flown 0 = .ok (.iconst 0, 1) := by decide +kernel
theorem dX6_flown_1 : decode cX6_flown 1 = .ok (.istore_n 1, 1) := by decide +kernel
theorem dX6_flown_2 : decode cX6_flown 2 = .ok (.iconst 0, 1) := by decide +kernel
theorem dX6_flown_3 : decode cX6_flown 3 = .ok (.istore_n 2, 1) := by decide +kernel
theorem dX6_flown_4 : decode cX6_flown 4 = .ok (.iload_n 2, 1) := by decide +kernel
theorem dX6_flown_5 : decode cX6_flown 5 = .ok (.aload_n 0, 1) := by decide +kernel
theorem dX6_flown_6 : decode cX6_flown 6 = .ok (.getfield 21, 3) := by decide +kernel
theorem dX6_flown_9 : decode cX6_flown 9 = .ok (.invokevirtual 33, 3) := by decide +kernel
theorem dX6_flown_12 : decode cX6_flown 12 = .ok (.if_icmp .ge 26, 3) := by decide +kernel
theorem dX6_flown_15 : decode cX6_flown 15 = .ok (.iload_n 1, 1) := by decide +kernel
theorem dX6_flown_16 : decode cX6_flown 16 = .ok (.aload_n 0, 1) := by decide +kernel
theorem dX6_flown_17 : decode cX6_flown 17 = .ok (.iload_n 2, 1) := by decide +kernel
theorem dX6_flown_18 : decode cX6_flown 18 = .ok (.invokevirtual 37, 3) := by decide +kernel
theorem dX6_flown_21 : decode cX6_flown 21 = .ok (.iconst (-1), 1) := by decide +kernel
theorem dX6_flown_22 : decode cX6_flown 22 = .ok (.if_icmp .ne 7, 3) := by decide +kernel
theorem dX6_flown_25 : decode cX6_flown 25 = .ok (.iconst 0, 1) := by decide +kernel
theorem dX6_flown_26 : decode cX6_flown 26 = .ok (.goto 4, 3) := by decide +kernel
theorem dX6_flown_29 : decode cX6_flown 29 = .ok (.iconst 1, 1) := by decide +kernel
theorem dX6_flown_30 : decode cX6_flown 30 = .ok (.iadd, 1) := by decide +kernel
theorem dX6_flown_31 : decode cX6_flown 31 = .ok (.istore_n 1, 1) := by decide +kernel
theorem dX6_flown_32 : decode cX6_flown 32 = .ok (.iinc 2 1, 3) := by decide +kernel
theorem dX6_flown_35 : decode cX6_flown 35 = .ok (.goto (-31), 3) := by decide +kernel
theorem dX6_flown_38 : decode cX6_flown 38 = .ok (.iload_n 1, 1) := by decide +kernel
theorem dX6_flown_39 : decode cX6_flown 39 = .ok (.ireturn, 1) := by decide +kernel
theorem dX6_emptyMinutes_0 : decode cX6_emptyMinutes 0 = .ok (.iconst 0, 1) := by decide +kernel
theorem dX6_emptyMinutes_1 : decode cX6_emptyMinutes 1 = .ok (.istore_n 1, 1) := by decide +kernel
theorem dX6_emptyMinutes_2 : decode cX6_emptyMinutes 2 = .ok (.iconst 0, 1) := by decide +kernel
theorem dX6_emptyMinutes_3 : decode cX6_emptyMinutes 3 = .ok (.istore_n 2, 1) := by decide +kernel
theorem dX6_emptyMinutes_4 : decode cX6_emptyMinutes 4 = .ok (.iload_n 2, 1) := by decide +kernel
theorem dX6_emptyMinutes_5 : decode cX6_emptyMinutes 5 = .ok (.aload_n 0, 1) := by decide +kernel
theorem dX6_emptyMinutes_6 : decode cX6_emptyMinutes 6 = .ok (.getfield 21, 3) := by decide +kernel
theorem dX6_emptyMinutes_9 : decode cX6_emptyMinutes 9 = .ok (.invokevirtual 33, 3) := by decide +kernel
theorem dX6_emptyMinutes_12 : decode cX6_emptyMinutes 12 = .ok (.if_icmp .ge 17, 3) := by decide +kernel
theorem dX6_emptyMinutes_15 : decode cX6_emptyMinutes 15 = .ok (.iload_n 1, 1) := by decide +kernel
theorem dX6_emptyMinutes_16 : decode cX6_emptyMinutes 16 = .ok (.aload_n 0, 1) := by decide +kernel
theorem dX6_emptyMinutes_17 : decode cX6_emptyMinutes 17 = .ok (.iload_n 2, 1) := by decide +kernel
theorem dX6_emptyMinutes_18 : decode cX6_emptyMinutes 18 = .ok (.invokevirtual 41, 3) := by decide +kernel
theorem dX6_emptyMinutes_21 : decode cX6_emptyMinutes 21 = .ok (.iadd, 1) := by decide +kernel
theorem dX6_emptyMinutes_22 : decode cX6_emptyMinutes 22 = .ok (.istore_n 1, 1) := by decide +kernel
theorem dX6_emptyMinutes_23 : decode cX6_emptyMinutes 23 = .ok (.iinc 2 1, 3) := by decide +kernel
theorem dX6_emptyMinutes_26 : decode cX6_emptyMinutes 26 = .ok (.goto (-22), 3) := by decide +kernel
theorem dX6_emptyMinutes_29 : decode cX6_emptyMinutes 29 = .ok (.iload_n 1, 1) := by decide +kernel
theorem dX6_emptyMinutes_30 : decode cX6_emptyMinutes 30 = .ok (.ireturn, 1) := by decide +kernel
theorem dX6_minutesOf_0 : decode cX6_minutesOf 0 = .ok (.aload_n 0, 1) := by decide +kernel
theorem dX6_minutesOf_1 : decode cX6_minutesOf 1 = .ok (.getfield 25, 3) := by decide +kernel
theorem dX6_minutesOf_4 : decode cX6_minutesOf 4 = .ok (.aload_n 0, 1) := by decide +kernel
theorem dX6_minutesOf_5 : decode cX6_minutesOf 5 = .ok (.getfield 21, 3) := by decide +kernel
theorem dX6_minutesOf_8 : decode cX6_minutesOf 8 = .ok (.iload_n 1, 1) := by decide +kernel
theorem dX6_minutesOf_9 : decode cX6_minutesOf 9 = .ok (.invokevirtual 44, 3) := by decide +kernel
theorem dX6_minutesOf_12 : decode cX6_minutesOf 12 = .ok (.aload_n 0, 1) := by decide +kernel
theorem dX6_minutesOf_13 : decode cX6_minutesOf 13 = .ok (.getfield 21, 3) := by decide +kernel
theorem dX6_minutesOf_16 : decode cX6_minutesOf 16 = .ok (.iload_n 1, 1) := by decide +kernel
theorem dX6_minutesOf_17 : decode cX6_minutesOf 17 = .ok (.invokevirtual 47, 3) := by decide +kernel
theorem dX6_minutesOf_20 : decode cX6_minutesOf 20 = .ok (.invokevirtual 50, 3) := by decide +kernel
theorem dX6_minutesOf_23 : decode cX6_minutesOf 23 = .ok (.ireturn, 1) := by decide +kernel
theorem dX6_placeAhead_0 : decode cX6_placeAhead 0 = .ok (.aload_n 0, 1) := by decide +kernel
theorem dX6_placeAhead_1 : decode cX6_placeAhead 1 = .ok (.iload_n 1, 1) := by decide +kernel
theorem dX6_placeAhead_2 : decode cX6_placeAhead 2 = .ok (.invokevirtual 37, 3) := by decide +kernel
theorem dX6_placeAhead_5 : decode cX6_placeAhead 5 = .ok (.istore_n 2, 1) := by decide +kernel
theorem dX6_placeAhead_6 : decode cX6_placeAhead 6 = .ok (.aload_n 0, 1) := by decide +kernel
theorem dX6_placeAhead_7 : decode cX6_placeAhead 7 = .ok (.getfield 17, 3) := by decide +kernel
theorem dX6_placeAhead_10 : decode cX6_placeAhead 10 = .ok (.iload_n 2, 1) := by decide +kernel
theorem dX6_placeAhead_11 : decode cX6_placeAhead 11 = .ok (.invokevirtual 56, 3) := by decide +kernel
theorem dX6_placeAhead_14 : decode cX6_placeAhead 14 = .ok (.istore_n 3, 1) := by decide +kernel
theorem dX6_placeAhead_15 : decode cX6_placeAhead 15 = .ok (.iconst 0, 1) := by decide +kernel
theorem dX6_placeAhead_16 : decode cX6_placeAhead 16 = .ok (.istore 4, 2) := by decide +kernel
theorem dX6_placeAhead_18 : decode cX6_placeAhead 18 = .ok (.iload 4, 2) := by decide +kernel
theorem dX6_placeAhead_20 : decode cX6_placeAhead 20 = .ok (.aload_n 0, 1) := by decide +kernel
theorem dX6_placeAhead_21 : decode cX6_placeAhead 21 = .ok (.getfield 21, 3) := by decide +kernel
theorem dX6_placeAhead_24 : decode cX6_placeAhead 24 = .ok (.invokevirtual 33, 3) := by decide +kernel
theorem dX6_placeAhead_27 : decode cX6_placeAhead 27 = .ok (.if_icmp .ge 49, 3) := by decide +kernel
theorem dX6_placeAhead_30 : decode cX6_placeAhead 30 = .ok (.aload_n 0, 1) := by decide +kernel
theorem dX6_placeAhead_31 : decode cX6_placeAhead 31 = .ok (.getfield 21, 3) := by decide +kernel
theorem dX6_placeAhead_34 : decode cX6_placeAhead 34 = .ok (.iload 4, 2) := by decide +kernel
theorem dX6_placeAhead_36 : decode cX6_placeAhead 36 = .ok (.invokevirtual 61, 3) := by decide +kernel
theorem dX6_placeAhead_39 : decode cX6_placeAhead 39 = .ok (.istore 5, 2) := by decide +kernel
theorem dX6_placeAhead_41 : decode cX6_placeAhead 41 = .ok (.iload 5, 2) := by decide +kernel
theorem dX6_placeAhead_43 : decode cX6_placeAhead 43 = .ok (.iload_n 1, 1) := by decide +kernel
theorem dX6_placeAhead_44 : decode cX6_placeAhead 44 = .ok (.if_icmp .ne 6, 3) := by decide +kernel
theorem dX6_placeAhead_47 : decode cX6_placeAhead 47 = .ok (.goto 29, 3) := by decide +kernel
theorem dX6_placeAhead_50 : decode cX6_placeAhead 50 = .ok (.aload_n 0, 1) := by decide +kernel
theorem dX6_placeAhead_51 : decode cX6_placeAhead 51 = .ok (.iload 5, 2) := by decide +kernel
theorem dX6_placeAhead_53 : decode cX6_placeAhead 53 = .ok (.invokevirtual 37, 3) := by decide +kernel
theorem dX6_placeAhead_56 : decode cX6_placeAhead 56 = .ok (.iload_n 2, 1) := by decide +kernel
theorem dX6_placeAhead_57 : decode cX6_placeAhead 57 = .ok (.if_icmp .ne 13, 3) := by decide +kernel
theorem dX6_placeAhead_60 : decode cX6_placeAhead 60 = .ok (.aload_n 0, 1) := by decide +kernel
theorem dX6_placeAhead_61 : decode cX6_placeAhead 61 = .ok (.getfield 21, 3) := by decide +kernel
theorem dX6_placeAhead_64 : decode cX6_placeAhead 64 = .ok (.iload 5, 2) := by decide +kernel
theorem dX6_placeAhead_66 : decode cX6_placeAhead 66 = .ok (.invokevirtual 47, 3) := by decide +kernel
theorem dX6_placeAhead_69 : decode cX6_placeAhead 69 = .ok (.istore_n 3, 1) := by decide +kernel
theorem dX6_placeAhead_70 : decode cX6_placeAhead 70 = .ok (.iinc 4 1, 3) := by decide +kernel
theorem dX6_placeAhead_73 : decode cX6_placeAhead 73 = .ok (.goto (-55), 3) := by decide +kernel
theorem dX6_placeAhead_76 : decode cX6_placeAhead 76 = .ok (.iload_n 2, 1) := by decide +kernel
theorem dX6_placeAhead_77 : decode cX6_placeAhead 77 = .ok (.iconst (-1), 1) := by decide +kernel
theorem dX6_placeAhead_78 : decode cX6_placeAhead 78 = .ok (.if_icmp .ne 7, 3) := by decide +kernel
theorem dX6_placeAhead_81 : decode cX6_placeAhead 81 = .ok (.iconst (-1), 1) := by decide +kernel
theorem dX6_placeAhead_82 : decode cX6_placeAhead 82 = .ok (.goto 4, 3) := by decide +kernel
theorem dX6_placeAhead_85 : decode cX6_placeAhead 85 = .ok (.iload_n 3, 1) := by decide +kernel
theorem dX6_placeAhead_86 : decode cX6_placeAhead 86 = .ok (.ireturn, 1) := by decide +kernel
theorem dX6_hasLeg_0 : decode cX6_hasLeg 0 = .ok (.aload_n 0, 1) := by decide +kernel
theorem dX6_hasLeg_1 : decode cX6_hasLeg 1 = .ok (.iload_n 1, 1) := by decide +kernel
theorem dX6_hasLeg_2 : decode cX6_hasLeg 2 = .ok (.invokevirtual 37, 3) := by decide +kernel
theorem dX6_hasLeg_5 : decode cX6_hasLeg 5 = .ok (.iconst (-1), 1) := by decide +kernel
theorem dX6_hasLeg_6 : decode cX6_hasLeg 6 = .ok (.if_icmp .eq 23, 3) := by decide +kernel
theorem dX6_hasLeg_9 : decode cX6_hasLeg 9 = .ok (.aload_n 0, 1) := by decide +kernel
theorem dX6_hasLeg_10 : decode cX6_hasLeg 10 = .ok (.iload_n 1, 1) := by decide +kernel
theorem dX6_hasLeg_11 : decode cX6_hasLeg 11 = .ok (.invokevirtual 64, 3) := by decide +kernel
theorem dX6_hasLeg_14 : decode cX6_hasLeg 14 = .ok (.aload_n 0, 1) := by decide +kernel
theorem dX6_hasLeg_15 : decode cX6_hasLeg 15 = .ok (.getfield 21, 3) := by decide +kernel
theorem dX6_hasLeg_18 : decode cX6_hasLeg 18 = .ok (.iload_n 1, 1) := by decide +kernel
theorem dX6_hasLeg_19 : decode cX6_hasLeg 19 = .ok (.invokevirtual 44, 3) := by decide +kernel
theorem dX6_hasLeg_22 : decode cX6_hasLeg 22 = .ok (.if_icmp .eq 7, 3) := by decide +kernel
theorem dX6_hasLeg_25 : decode cX6_hasLeg 25 = .ok (.iconst 1, 1) := by decide +kernel
theorem dX6_hasLeg_26 : decode cX6_hasLeg 26 = .ok (.goto 4, 3) := by decide +kernel
theorem dX6_hasLeg_29 : decode cX6_hasLeg 29 = .ok (.iconst 0, 1) := by decide +kernel
theorem dX6_hasLeg_30 : decode cX6_hasLeg 30 = .ok (.ireturn, 1) := by decide +kernel
theorem dX6_legMinutes_0 : decode cX6_legMinutes 0 = .ok (.aload_n 0, 1) := by decide +kernel
theorem dX6_legMinutes_1 : decode cX6_legMinutes 1 = .ok (.iload_n 1, 1) := by decide +kernel
theorem dX6_legMinutes_2 : decode cX6_legMinutes 2 = .ok (.invokevirtual 67, 3) := by decide +kernel
theorem dX6_legMinutes_5 : decode cX6_legMinutes 5 = .ok (.ifCond .eq 26, 3) := by decide +kernel
theorem dX6_legMinutes_8 : decode cX6_legMinutes 8 = .ok (.aload_n 0, 1) := by decide +kernel
theorem dX6_legMinutes_9 : decode cX6_legMinutes 9 = .ok (.getfield 25, 3) := by decide +kernel
theorem dX6_legMinutes_12 : decode cX6_legMinutes 12 = .ok (.aload_n 0, 1) := by decide +kernel
theorem dX6_legMinutes_13 : decode cX6_legMinutes 13 = .ok (.iload_n 1, 1) := by decide +kernel
theorem dX6_legMinutes_14 : decode cX6_legMinutes 14 = .ok (.invokevirtual 64, 3) := by decide +kernel
theorem dX6_legMinutes_17 : decode cX6_legMinutes 17 = .ok (.aload_n 0, 1) := by decide +kernel
theorem dX6_legMinutes_18 : decode cX6_legMinutes 18 = .ok (.getfield 21, 3) := by decide +kernel
theorem dX6_legMinutes_21 : decode cX6_legMinutes 21 = .ok (.iload_n 1, 1) := by decide +kernel
theorem dX6_legMinutes_22 : decode cX6_legMinutes 22 = .ok (.invokevirtual 44, 3) := by decide +kernel
theorem dX6_legMinutes_25 : decode cX6_legMinutes 25 = .ok (.invokevirtual 50, 3) := by decide +kernel
theorem dX6_legMinutes_28 : decode cX6_legMinutes 28 = .ok (.goto 4, 3) := by decide +kernel
theorem dX6_legMinutes_31 : decode cX6_legMinutes 31 = .ok (.iconst 0, 1) := by decide +kernel
theorem dX6_legMinutes_32 : decode cX6_legMinutes 32 = .ok (.ireturn, 1) := by decide +kernel
theorem dX6_flightAt_0 : decode cX6_flightAt 0 = .ok (.iconst 0, 1) := by decide +kernel
theorem dX6_flightAt_1 : decode cX6_flightAt 1 = .ok (.istore_n 3, 1) := by decide +kernel
theorem dX6_flightAt_2 : decode cX6_flightAt 2 = .ok (.iconst 0, 1) := by decide +kernel
theorem dX6_flightAt_3 : decode cX6_flightAt 3 = .ok (.istore 4, 2) := by decide +kernel
theorem dX6_flightAt_5 : decode cX6_flightAt 5 = .ok (.iload 4, 2) := by decide +kernel
theorem dX6_flightAt_7 : decode cX6_flightAt 7 = .ok (.aload_n 0, 1) := by decide +kernel
theorem dX6_flightAt_8 : decode cX6_flightAt 8 = .ok (.getfield 21, 3) := by decide +kernel
theorem dX6_flightAt_11 : decode cX6_flightAt 11 = .ok (.invokevirtual 33, 3) := by decide +kernel
theorem dX6_flightAt_14 : decode cX6_flightAt 14 = .ok (.if_icmp .ge 69, 3) := by decide +kernel
theorem dX6_flightAt_17 : decode cX6_flightAt 17 = .ok (.aload_n 0, 1) := by decide +kernel
theorem dX6_flightAt_18 : decode cX6_flightAt 18 = .ok (.getfield 21, 3) := by decide +kernel
theorem dX6_flightAt_21 : decode cX6_flightAt 21 = .ok (.iload 4, 2) := by decide +kernel
theorem dX6_flightAt_23 : decode cX6_flightAt 23 = .ok (.invokevirtual 61, 3) := by decide +kernel
theorem dX6_flightAt_26 : decode cX6_flightAt 26 = .ok (.istore 5, 2) := by decide +kernel
theorem dX6_flightAt_28 : decode cX6_flightAt 28 = .ok (.aload_n 0, 1) := by decide +kernel
theorem dX6_flightAt_29 : decode cX6_flightAt 29 = .ok (.getfield 17, 3) := by decide +kernel
theorem dX6_flightAt_32 : decode cX6_flightAt 32 = .ok (.iload_n 1, 1) := by decide +kernel
theorem dX6_flightAt_33 : decode cX6_flightAt 33 = .ok (.invokevirtual 70, 3) := by decide +kernel
theorem dX6_flightAt_36 : decode cX6_flightAt 36 = .ok (.ifCond .eq 41, 3) := by decide +kernel
theorem dX6_flightAt_39 : decode cX6_flightAt 39 = .ok (.aload_n 0, 1) := by decide +kernel
theorem dX6_flightAt_40 : decode cX6_flightAt 40 = .ok (.iload 5, 2) := by decide +kernel
theorem dX6_flightAt_42 : decode cX6_flightAt 42 = .ok (.invokevirtual 37, 3) := by decide +kernel
theorem dX6_flightAt_45 : decode cX6_flightAt 45 = .ok (.iload_n 1, 1) := by decide +kernel
theorem dX6_flightAt_46 : decode cX6_flightAt 46 = .ok (.if_icmp .ne 31, 3) := by decide +kernel
theorem dX6_flightAt_49 : decode cX6_flightAt 49 = .ok (.iload_n 3, 1) := by decide +kernel
theorem dX6_flightAt_50 : decode cX6_flightAt 50 = .ok (.aload_n 0, 1) := by decide +kernel
theorem dX6_flightAt_51 : decode cX6_flightAt 51 = .ok (.iload 5, 2) := by decide +kernel
theorem dX6_flightAt_53 : decode cX6_flightAt 53 = .ok (.invokevirtual 67, 3) := by decide +kernel
theorem dX6_flightAt_56 : decode cX6_flightAt 56 = .ok (.ifCond .eq 7, 3) := by decide +kernel
theorem dX6_flightAt_59 : decode cX6_flightAt 59 = .ok (.iconst 1, 1) := by decide +kernel
theorem dX6_flightAt_60 : decode cX6_flightAt 60 = .ok (.goto 4, 3) := by decide +kernel
theorem dX6_flightAt_63 : decode cX6_flightAt 63 = .ok (.iconst 0, 1) := by decide +kernel
theorem dX6_flightAt_64 : decode cX6_flightAt 64 = .ok (.iadd, 1) := by decide +kernel
theorem dX6_flightAt_65 : decode cX6_flightAt 65 = .ok (.istore_n 3, 1) := by decide +kernel
theorem dX6_flightAt_66 : decode cX6_flightAt 66 = .ok (.iload_n 3, 1) := by decide +kernel
theorem dX6_flightAt_67 : decode cX6_flightAt 67 = .ok (.iload_n 2, 1) := by decide +kernel
theorem dX6_flightAt_68 : decode cX6_flightAt 68 = .ok (.if_icmp .ne 6, 3) := by decide +kernel
theorem dX6_flightAt_71 : decode cX6_flightAt 71 = .ok (.iload 5, 2) := by decide +kernel
theorem dX6_flightAt_73 : decode cX6_flightAt 73 = .ok (.ireturn, 1) := by decide +kernel
theorem dX6_flightAt_74 : decode cX6_flightAt 74 = .ok (.iinc 3 1, 3) := by decide +kernel
theorem dX6_flightAt_77 : decode cX6_flightAt 77 = .ok (.iinc 4 1, 3) := by decide +kernel
theorem dX6_flightAt_80 : decode cX6_flightAt 80 = .ok (.goto (-75), 3) := by decide +kernel
theorem dX6_flightAt_83 : decode cX6_flightAt 83 = .ok (.iconst (-1), 1) := by decide +kernel
theorem dX6_flightAt_84 : decode cX6_flightAt 84 = .ok (.ireturn, 1) := by decide +kernel
theorem dX6_legAt_0 : decode cX6_legAt 0 = .ok (.iload_n 2, 1) := by decide +kernel
theorem dX6_legAt_1 : decode cX6_legAt 1 = .ok (.iconst 0, 1) := by decide +kernel
theorem dX6_legAt_2 : decode cX6_legAt 2 = .ok (.bipush 15, 2) := by decide +kernel
theorem dX6_legAt_4 : decode cX6_legAt 4 = .ok (.invokestatic 71, 3) := by decide +kernel
theorem dX6_legAt_7 : decode cX6_legAt 7 = .ok (.ifCond .eq 14, 3) := by decide +kernel
theorem dX6_legAt_10 : decode cX6_legAt 10 = .ok (.aload_n 0, 1) := by decide +kernel
theorem dX6_legAt_11 : decode cX6_legAt 11 = .ok (.iload_n 1, 1) := by decide +kernel
theorem dX6_legAt_12 : decode cX6_legAt 12 = .ok (.iload_n 2, 1) := by decide +kernel
theorem dX6_legAt_13 : decode cX6_legAt 13 = .ok (.iconst 1, 1) := by decide +kernel
theorem dX6_legAt_14 : decode cX6_legAt 14 = .ok (.iadd, 1) := by decide +kernel
theorem dX6_legAt_15 : decode cX6_legAt 15 = .ok (.invokevirtual 75, 3) := by decide +kernel
theorem dX6_legAt_18 : decode cX6_legAt 18 = .ok (.goto 4, 3) := by decide +kernel
theorem dX6_legAt_21 : decode cX6_legAt 21 = .ok (.iconst (-1), 1) := by decide +kernel
theorem dX6_legAt_22 : decode cX6_legAt 22 = .ok (.istore_n 3, 1) := by decide +kernel
theorem dX6_legAt_23 : decode cX6_legAt 23 = .ok (.aload_n 0, 1) := by decide +kernel
theorem dX6_legAt_24 : decode cX6_legAt 24 = .ok (.iload_n 3, 1) := by decide +kernel
theorem dX6_legAt_25 : decode cX6_legAt 25 = .ok (.invokevirtual 67, 3) := by decide +kernel
theorem dX6_legAt_28 : decode cX6_legAt 28 = .ok (.ifCond .eq 7, 3) := by decide +kernel
theorem dX6_legAt_31 : decode cX6_legAt 31 = .ok (.iload_n 3, 1) := by decide +kernel
theorem dX6_legAt_32 : decode cX6_legAt 32 = .ok (.goto 4, 3) := by decide +kernel
theorem dX6_legAt_35 : decode cX6_legAt 35 = .ok (.iconst (-1), 1) := by decide +kernel
theorem dX6_legAt_36 : decode cX6_legAt 36 = .ok (.ireturn, 1) := by decide +kernel
theorem dX7_init_0 : decode cX7_init 0 = .ok (.aload_n 0, 1) := by decide +kernel
theorem dX7_init_1 : decode cX7_init 1 = .ok (.invokespecial 3, 3) := by decide +kernel
theorem dX7_init_4 : decode cX7_init 4 = .ok (.aload_n 0, 1) := by decide +kernel
theorem dX7_init_5 : decode cX7_init 5 = .ok (.bipush 20, 2) := by decide +kernel
theorem dX7_init_7 : decode cX7_init 7 = .ok (.newarray .int, 2) := by decide +kernel
theorem dX7_init_9 : decode cX7_init 9 = .ok (.putfield 11, 3) := by decide +kernel
theorem dX7_init_12 : decode cX7_init 12 = .ok (.aload_n 0, 1) := by decide +kernel
theorem dX7_init_13 : decode cX7_init 13 = .ok (.bipush 20, 2) := by decide +kernel
theorem dX7_init_15 : decode cX7_init 15 = .ok (.newarray .int, 2) := by decide +kernel
theorem dX7_init_17 : decode cX7_init 17 = .ok (.putfield 15, 3) := by decide +kernel
theorem dX7_init_20 : decode cX7_init 20 = .ok (.aload_n 0, 1) := by decide +kernel
theorem dX7_init_21 : decode cX7_init 21 = .ok (.bipush 20, 2) := by decide +kernel
theorem dX7_init_23 : decode cX7_init 23 = .ok (.newarray .int, 2) := by decide +kernel
theorem dX7_init_25 : decode cX7_init 25 = .ok (.putfield 18, 3) := by decide +kernel
theorem dX7_init_28 : decode cX7_init 28 = .ok (.return_, 1) := by decide +kernel
theorem dX7_add_0 : decode cX7_add 0 = .ok (.aload_n 0, 1) := by decide +kernel
theorem dX7_add_1 : decode cX7_add 1 = .ok (.getfield 21, 3) := by decide +kernel
theorem dX7_add_4 : decode cX7_add 4 = .ok (.bipush 20, 2) := by decide +kernel
theorem dX7_add_6 : decode cX7_add 6 = .ok (.if_icmp .lt 5, 3) := by decide +kernel
theorem dX7_add_9 : decode cX7_add 9 = .ok (.iconst (-1), 1) := by decide +kernel
theorem dX7_add_10 : decode cX7_add 10 = .ok (.ireturn, 1) := by decide +kernel
theorem dX7_add_11 : decode cX7_add 11 = .ok (.aload_n 0, 1) := by decide +kernel
theorem dX7_add_12 : decode cX7_add 12 = .ok (.getfield 11, 3) := by decide +kernel
theorem dX7_add_15 : decode cX7_add 15 = .ok (.aload_n 0, 1) := by decide +kernel
theorem dX7_add_16 : decode cX7_add 16 = .ok (.getfield 21, 3) := by decide +kernel
theorem dX7_add_19 : decode cX7_add 19 = .ok (.iload_n 1, 1) := by decide +kernel
theorem dX7_add_20 : decode cX7_add 20 = .ok (.iastore, 1) := by decide +kernel
theorem dX7_add_21 : decode cX7_add 21 = .ok (.aload_n 0, 1) := by decide +kernel
theorem dX7_add_22 : decode cX7_add 22 = .ok (.getfield 15, 3) := by decide +kernel
theorem dX7_add_25 : decode cX7_add 25 = .ok (.aload_n 0, 1) := by decide +kernel
theorem dX7_add_26 : decode cX7_add 26 = .ok (.getfield 21, 3) := by decide +kernel
theorem dX7_add_29 : decode cX7_add 29 = .ok (.iload_n 2, 1) := by decide +kernel
theorem dX7_add_30 : decode cX7_add 30 = .ok (.iastore, 1) := by decide +kernel
theorem dX7_add_31 : decode cX7_add 31 = .ok (.aload_n 0, 1) := by decide +kernel
theorem dX7_add_32 : decode cX7_add 32 = .ok (.getfield 18, 3) := by decide +kernel
theorem dX7_add_35 : decode cX7_add 35 = .ok (.aload_n 0, 1) := by decide +kernel
theorem dX7_add_36 : decode cX7_add 36 = .ok (.getfield 21, 3) := by decide +kernel
theorem dX7_add_39 : decode cX7_add 39 = .ok (.iload_n 3, 1) := by decide +kernel
theorem dX7_add_40 : decode cX7_add 40 = .ok (.iastore, 1) := by decide +kernel
theorem dX7_add_41 : decode cX7_add 41 = .ok (.aload_n 0, 1) := by decide +kernel
theorem dX7_add_42 : decode cX7_add 42 = .ok (.dup, 1) := by decide +kernel
theorem dX7_add_43 : decode cX7_add 43 = .ok (.getfield 21, 3) := by decide +kernel
theorem dX7_add_46 : decode cX7_add 46 = .ok (.iconst 1, 1) := by decide +kernel
theorem dX7_add_47 : decode cX7_add 47 = .ok (.iadd, 1) := by decide +kernel
theorem dX7_add_48 : decode cX7_add 48 = .ok (.putfield 21, 3) := by decide +kernel
theorem dX7_add_51 : decode cX7_add 51 = .ok (.aload_n 0, 1) := by decide +kernel
theorem dX7_add_52 : decode cX7_add 52 = .ok (.getfield 21, 3) := by decide +kernel
theorem dX7_add_55 : decode cX7_add 55 = .ok (.iconst 1, 1) := by decide +kernel
theorem dX7_add_56 : decode cX7_add 56 = .ok (.isub, 1) := by decide +kernel
theorem dX7_add_57 : decode cX7_add 57 = .ok (.ireturn, 1) := by decide +kernel
theorem dX7_size_0 : decode cX7_size 0 = .ok (.aload_n 0, 1) := by decide +kernel
theorem dX7_size_1 : decode cX7_size 1 = .ok (.getfield 21, 3) := by decide +kernel
theorem dX7_size_4 : decode cX7_size 4 = .ok (.ireturn, 1) := by decide +kernel
theorem dX7_shuts_0 : decode cX7_shuts 0 = .ok (.iconst 0, 1) := by decide +kernel
theorem dX7_shuts_1 : decode cX7_shuts 1 = .ok (.istore_n 3, 1) := by decide +kernel
theorem dX7_shuts_2 : decode cX7_shuts 2 = .ok (.iload_n 3, 1) := by decide +kernel
theorem dX7_shuts_3 : decode cX7_shuts 3 = .ok (.aload_n 0, 1) := by decide +kernel
theorem dX7_shuts_4 : decode cX7_shuts 4 = .ok (.getfield 21, 3) := by decide +kernel
theorem dX7_shuts_7 : decode cX7_shuts 7 = .ok (.if_icmp .ge 41, 3) := by decide +kernel
theorem dX7_shuts_10 : decode cX7_shuts 10 = .ok (.aload_n 0, 1) := by decide +kernel
theorem dX7_shuts_11 : decode cX7_shuts 11 = .ok (.getfield 11, 3) := by decide +kernel
theorem dX7_shuts_14 : decode cX7_shuts 14 = .ok (.iload_n 3, 1) := by decide +kernel
theorem dX7_shuts_15 : decode cX7_shuts 15 = .ok (.iaload, 1) := by decide +kernel
theorem dX7_shuts_16 : decode cX7_shuts 16 = .ok (.iload_n 1, 1) := by decide +kernel
theorem dX7_shuts_17 : decode cX7_shuts 17 = .ok (.if_icmp .ne 25, 3) := by decide +kernel
theorem dX7_shuts_20 : decode cX7_shuts 20 = .ok (.iload_n 2, 1) := by decide +kernel
theorem dX7_shuts_21 : decode cX7_shuts 21 = .ok (.aload_n 0, 1) := by decide +kernel
theorem dX7_shuts_22 : decode cX7_shuts 22 = .ok (.getfield 15, 3) := by decide +kernel
theorem dX7_shuts_25 : decode cX7_shuts 25 = .ok (.iload_n 3, 1) := by decide +kernel
theorem dX7_shuts_26 : decode cX7_shuts 26 = .ok (.iaload, 1) := by decide +kernel
theorem dX7_shuts_27 : decode cX7_shuts 27 = .ok (.if_icmp .lt 15, 3) := by decide +kernel
theorem dX7_shuts_30 : decode cX7_shuts 30 = .ok (.iload_n 2, 1) := by decide +kernel
theorem dX7_shuts_31 : decode cX7_shuts 31 = .ok (.aload_n 0, 1) := by decide +kernel
theorem dX7_shuts_32 : decode cX7_shuts 32 = .ok (.getfield 18, 3) := by decide +kernel
theorem dX7_shuts_35 : decode cX7_shuts 35 = .ok (.iload_n 3, 1) := by decide +kernel
theorem dX7_shuts_36 : decode cX7_shuts 36 = .ok (.iaload, 1) := by decide +kernel
theorem dX7_shuts_37 : decode cX7_shuts 37 = .ok (.if_icmp .ge 5, 3) := by decide +kernel
theorem dX7_shuts_40 : decode cX7_shuts 40 = .ok (.iconst 1, 1) := by decide +kernel
theorem dX7_shuts_41 : decode cX7_shuts 41 = .ok (.ireturn, 1) := by decide +kernel
theorem dX7_shuts_42 : decode cX7_shuts 42 = .ok (.iinc 3 1, 3) := by decide +kernel
theorem dX7_shuts_45 : decode cX7_shuts 45 = .ok (.goto (-43), 3) := by decide +kernel
theorem dX7_shuts_48 : decode cX7_shuts 48 = .ok (.iconst 0, 1) := by decide +kernel
theorem dX7_shuts_49 : decode cX7_shuts 49 = .ok (.ireturn, 1) := by decide +kernel
theorem dX8_init_0 : decode cX8_init 0 = .ok (.aload_n 0, 1) := by decide +kernel
theorem dX8_init_1 : decode cX8_init 1 = .ok (.invokespecial 1, 3) := by decide +kernel
theorem dX8_init_4 : decode cX8_init 4 = .ok (.aload_n 0, 1) := by decide +kernel
theorem dX8_init_5 : decode cX8_init 5 = .ok (.bipush 40, 2) := by decide +kernel
theorem dX8_init_7 : decode cX8_init 7 = .ok (.newarray .int, 2) := by decide +kernel
theorem dX8_init_9 : decode cX8_init 9 = .ok (.putfield 9, 3) := by decide +kernel
theorem dX8_init_12 : decode cX8_init 12 = .ok (.return_, 1) := by decide +kernel
theorem dX8_length_0 : decode cX8_length 0 = .ok (.aload_n 0, 1) := by decide +kernel
theorem dX8_length_1 : decode cX8_length 1 = .ok (.getfield 13, 3) := by decide +kernel
theorem dX8_length_4 : decode cX8_length 4 = .ok (.ireturn, 1) := by decide +kernel
theorem dX8_hasRoom_0 : decode cX8_hasRoom 0 = .ok (.aload_n 0, 1) := by decide +kernel
theorem dX8_hasRoom_1 : decode cX8_hasRoom 1 = .ok (.getfield 13, 3) := by decide +kernel
theorem dX8_hasRoom_4 : decode cX8_hasRoom 4 = .ok (.bipush 20, 2) := by decide +kernel
theorem dX8_hasRoom_6 : decode cX8_hasRoom 6 = .ok (.iadd, 1) := by decide +kernel
theorem dX8_hasRoom_7 : decode cX8_hasRoom 7 = .ok (.bipush 40, 2) := by decide +kernel
theorem dX8_hasRoom_9 : decode cX8_hasRoom 9 = .ok (.if_icmp .gt 7, 3) := by decide +kernel
theorem dX8_hasRoom_12 : decode cX8_hasRoom 12 = .ok (.iconst 1, 1) := by decide +kernel
theorem dX8_hasRoom_13 : decode cX8_hasRoom 13 = .ok (.goto 4, 3) := by decide +kernel
theorem dX8_hasRoom_16 : decode cX8_hasRoom 16 = .ok (.iconst 0, 1) := by decide +kernel
theorem dX8_hasRoom_17 : decode cX8_hasRoom 17 = .ok (.ireturn, 1) := by decide +kernel
theorem dX8_write_0 : decode cX8_write 0 = .ok (.bipush 24, 2) := by decide +kernel
theorem dX8_write_2 : decode cX8_write 2 = .ok (.istore_n 2, 1) := by decide +kernel
theorem dX8_write_3 : decode cX8_write 3 = .ok (.iload_n 2, 1) := by decide +kernel
theorem dX8_write_4 : decode cX8_write 4 = .ok (.ifCond .lt 44, 3) := by decide +kernel
theorem dX8_write_7 : decode cX8_write 7 = .ok (.aload_n 0, 1) := by decide +kernel
theorem dX8_write_8 : decode cX8_write 8 = .ok (.getfield 13, 3) := by decide +kernel
theorem dX8_write_11 : decode cX8_write 11 = .ok (.bipush 40, 2) := by decide +kernel
theorem dX8_write_13 : decode cX8_write 13 = .ok (.if_icmp .ge 29, 3) := by decide +kernel
theorem dX8_write_16 : decode cX8_write 16 = .ok (.aload_n 0, 1) := by decide +kernel
theorem dX8_write_17 : decode cX8_write 17 = .ok (.getfield 9, 3) := by decide +kernel
theorem dX8_write_20 : decode cX8_write 20 = .ok (.aload_n 0, 1) := by decide +kernel
theorem dX8_write_21 : decode cX8_write 21 = .ok (.getfield 13, 3) := by decide +kernel
theorem dX8_write_24 : decode cX8_write 24 = .ok (.iload_n 1, 1) := by decide +kernel
theorem dX8_write_25 : decode cX8_write 25 = .ok (.iload_n 2, 1) := by decide +kernel
theorem dX8_write_26 : decode cX8_write 26 = .ok (.iushr, 1) := by decide +kernel
theorem dX8_write_27 : decode cX8_write 27 = .ok (.sipush 255, 3) := by decide +kernel
theorem dX8_write_30 : decode cX8_write 30 = .ok (.iand, 1) := by decide +kernel
theorem dX8_write_31 : decode cX8_write 31 = .ok (.iastore, 1) := by decide +kernel
theorem dX8_write_32 : decode cX8_write 32 = .ok (.aload_n 0, 1) := by decide +kernel
theorem dX8_write_33 : decode cX8_write 33 = .ok (.dup, 1) := by decide +kernel
theorem dX8_write_34 : decode cX8_write 34 = .ok (.getfield 13, 3) := by decide +kernel
theorem dX8_write_37 : decode cX8_write 37 = .ok (.iconst 1, 1) := by decide +kernel
theorem dX8_write_38 : decode cX8_write 38 = .ok (.iadd, 1) := by decide +kernel
theorem dX8_write_39 : decode cX8_write 39 = .ok (.putfield 13, 3) := by decide +kernel
theorem dX8_write_42 : decode cX8_write 42 = .ok (.iinc 2 (-8), 3) := by decide +kernel
theorem dX8_write_45 : decode cX8_write 45 = .ok (.goto (-42), 3) := by decide +kernel
theorem dX8_write_48 : decode cX8_write 48 = .ok (.return_, 1) := by decide +kernel
theorem dX8_at_0 : decode cX8_at 0 = .ok (.iload_n 1, 1) := by decide +kernel
theorem dX8_at_1 : decode cX8_at 1 = .ok (.ifCond .lt 25, 3) := by decide +kernel
theorem dX8_at_4 : decode cX8_at 4 = .ok (.iload_n 1, 1) := by decide +kernel
theorem dX8_at_5 : decode cX8_at 5 = .ok (.iload_n 2, 1) := by decide +kernel
theorem dX8_at_6 : decode cX8_at 6 = .ok (.if_icmp .ge 20, 3) := by decide +kernel
theorem dX8_at_9 : decode cX8_at 9 = .ok (.iload_n 1, 1) := by decide +kernel
theorem dX8_at_10 : decode cX8_at 10 = .ok (.aload_n 0, 1) := by decide +kernel
theorem dX8_at_11 : decode cX8_at 11 = .ok (.getfield 13, 3) := by decide +kernel
theorem dX8_at_14 : decode cX8_at 14 = .ok (.if_icmp .ge 12, 3) := by decide +kernel
theorem dX8_at_17 : decode cX8_at 17 = .ok (.aload_n 0, 1) := by decide +kernel
theorem dX8_at_18 : decode cX8_at 18 = .ok (.getfield 9, 3) := by decide +kernel
theorem dX8_at_21 : decode cX8_at 21 = .ok (.iload_n 1, 1) := by decide +kernel
theorem dX8_at_22 : decode cX8_at 22 = .ok (.iaload, 1) := by decide +kernel
theorem dX8_at_23 : decode cX8_at 23 = .ok (.goto 4, 3) := by decide +kernel
theorem dX8_at_26 : decode cX8_at 26 = .ok (.iconst (-1), 1) := by decide +kernel
theorem dX8_at_27 : decode cX8_at 27 = .ok (.ireturn, 1) := by decide +kernel
theorem dX8_wipe_0 : decode cX8_wipe 0 = .ok (.aload_n 0, 1) := by decide +kernel
theorem dX8_wipe_1 : decode cX8_wipe 1 = .ok (.iconst 0, 1) := by decide +kernel
theorem dX8_wipe_2 : decode cX8_wipe 2 = .ok (.putfield 13, 3) := by decide +kernel
theorem dX8_wipe_5 : decode cX8_wipe 5 = .ok (.return_, 1) := by decide +kernel
theorem dX9_init_0 : decode cX9_init 0 = .ok (.aload_n 0, 1) := by decide +kernel
theorem dX9_init_1 : decode cX9_init 1 = .ok (.invokespecial 3, 3) := by decide +kernel
theorem dX9_init_4 : decode cX9_init 4 = .ok (.aload_n 0, 1) := by decide +kernel
theorem dX9_init_5 : decode cX9_init 5 = .ok (.bipush 64, 2) := by decide +kernel
theorem dX9_init_7 : decode cX9_init 7 = .ok (.newarray .int, 2) := by decide +kernel
theorem dX9_init_9 : decode cX9_init 9 = .ok (.putfield 9, 3) := by decide +kernel
theorem dX9_init_12 : decode cX9_init 12 = .ok (.return_, 1) := by decide +kernel
theorem dX9_minutes_0 : decode cX9_minutes 0 = .ok (.iload_n 1, 1) := by decide +kernel
theorem dX9_minutes_1 : decode cX9_minutes 1 = .ok (.invokestatic 15, 3) := by decide +kernel
theorem dX9_minutes_4 : decode cX9_minutes 4 = .ok (.ifCond .eq 24, 3) := by decide +kernel
theorem dX9_minutes_7 : decode cX9_minutes 7 = .ok (.iload_n 2, 1) := by decide +kernel
theorem dX9_minutes_8 : decode cX9_minutes 8 = .ok (.invokestatic 15, 3) := by decide +kernel
theorem dX9_minutes_11 : decode cX9_minutes 11 = .ok (.ifCond .eq 17, 3) := by decide +kernel
theorem dX9_minutes_14 : decode cX9_minutes 14 = .ok (.aload_n 0, 1) := by decide +kernel
theorem dX9_minutes_15 : decode cX9_minutes 15 = .ok (.getfield 9, 3) := by decide +kernel
theorem dX9_minutes_18 : decode cX9_minutes 18 = .ok (.iload_n 1, 1) := by decide +kernel
theorem dX9_minutes_19 : decode cX9_minutes 19 = .ok (.bipush 8, 2) := by decide +kernel
theorem dX9_minutes_21 : decode cX9_minutes 21 = .ok (.imul, 1) := by decide +kernel
theorem dX9_minutes_22 : decode cX9_minutes 22 = .ok (.iload_n 2, 1) := by decide +kernel
theorem dX9_minutes_23 : decode cX9_minutes 23 = .ok (.iadd, 1) := by decide +kernel
theorem dX9_minutes_24 : decode cX9_minutes 24 = .ok (.iaload, 1) := by decide +kernel
theorem dX9_minutes_25 : decode cX9_minutes 25 = .ok (.goto 4, 3) := by decide +kernel
theorem dX9_minutes_28 : decode cX9_minutes 28 = .ok (.iconst 0, 1) := by decide +kernel
theorem dX9_minutes_29 : decode cX9_minutes 29 = .ok (.ireturn, 1) := by decide +kernel
theorem dX9_put_0 : decode cX9_put 0 = .ok (.iload_n 1, 1) := by decide +kernel
theorem dX9_put_1 : decode cX9_put 1 = .ok (.invokestatic 15, 3) := by decide +kernel
theorem dX9_put_4 : decode cX9_put 4 = .ok (.ifCond .eq 34, 3) := by decide +kernel
theorem dX9_put_7 : decode cX9_put 7 = .ok (.iload_n 2, 1) := by decide +kernel
theorem dX9_put_8 : decode cX9_put 8 = .ok (.invokestatic 15, 3) := by decide +kernel
theorem dX9_put_11 : decode cX9_put 11 = .ok (.ifCond .eq 27, 3) := by decide +kernel
theorem dX9_put_14 : decode cX9_put 14 = .ok (.aload_n 0, 1) := by decide +kernel
theorem dX9_put_15 : decode cX9_put 15 = .ok (.getfield 9, 3) := by decide +kernel
theorem dX9_put_18 : decode cX9_put 18 = .ok (.iload_n 1, 1) := by decide +kernel
theorem dX9_put_19 : decode cX9_put 19 = .ok (.bipush 8, 2) := by decide +kernel
theorem dX9_put_21 : decode cX9_put 21 = .ok (.imul, 1) := by decide +kernel
theorem dX9_put_22 : decode cX9_put 22 = .ok (.iload_n 2, 1) := by decide +kernel
theorem dX9_put_23 : decode cX9_put 23 = .ok (.iadd, 1) := by decide +kernel
theorem dX9_put_24 : decode cX9_put 24 = .ok (.iload_n 3, 1) := by decide +kernel
theorem dX9_put_25 : decode cX9_put 25 = .ok (.iastore, 1) := by decide +kernel
theorem dX9_put_26 : decode cX9_put 26 = .ok (.aload_n 0, 1) := by decide +kernel
theorem dX9_put_27 : decode cX9_put 27 = .ok (.getfield 9, 3) := by decide +kernel
theorem dX9_put_30 : decode cX9_put 30 = .ok (.iload_n 2, 1) := by decide +kernel
theorem dX9_put_31 : decode cX9_put 31 = .ok (.bipush 8, 2) := by decide +kernel
theorem dX9_put_33 : decode cX9_put 33 = .ok (.imul, 1) := by decide +kernel
theorem dX9_put_34 : decode cX9_put 34 = .ok (.iload_n 1, 1) := by decide +kernel
theorem dX9_put_35 : decode cX9_put 35 = .ok (.iadd, 1) := by decide +kernel
theorem dX9_put_36 : decode cX9_put 36 = .ok (.iload_n 3, 1) := by decide +kernel
theorem dX9_put_37 : decode cX9_put 37 = .ok (.iastore, 1) := by decide +kernel
theorem dX9_put_38 : decode cX9_put 38 = .ok (.return_, 1) := by decide +kernel
theorem dX10_init_0 : decode cX10_init 0 = .ok (.aload_n 0, 1) := by decide +kernel
theorem dX10_init_1 : decode cX10_init 1 = .ok (.invokespecial 3, 3) := by decide +kernel
theorem dX10_init_4 : decode cX10_init 4 = .ok (.aload_n 0, 1) := by decide +kernel
theorem dX10_init_5 : decode cX10_init 5 = .ok (.new 9, 3) := by decide +kernel
theorem dX10_init_8 : decode cX10_init 8 = .ok (.dup, 1) := by decide +kernel
theorem dX10_init_9 : decode cX10_init 9 = .ok (.invokespecial 11, 3) := by decide +kernel
theorem dX10_init_12 : decode cX10_init 12 = .ok (.putfield 12, 3) := by decide +kernel
theorem dX10_init_15 : decode cX10_init 15 = .ok (.aload_n 0, 1) := by decide +kernel
theorem dX10_init_16 : decode cX10_init 16 = .ok (.new 16, 3) := by decide +kernel
theorem dX10_init_19 : decode cX10_init 19 = .ok (.dup, 1) := by decide +kernel
theorem dX10_init_20 : decode cX10_init 20 = .ok (.invokespecial 18, 3) := by decide +kernel
theorem dX10_init_23 : decode cX10_init 23 = .ok (.putfield 19, 3) := by decide +kernel
theorem dX10_init_26 : decode cX10_init 26 = .ok (.aload_n 0, 1) := by decide +kernel
theorem dX10_init_27 : decode cX10_init 27 = .ok (.new 23, 3) := by decide +kernel
theorem dX10_init_30 : decode cX10_init 30 = .ok (.dup, 1) := by decide +kernel
theorem dX10_init_31 : decode cX10_init 31 = .ok (.invokespecial 25, 3) := by decide +kernel
theorem dX10_init_34 : decode cX10_init 34 = .ok (.putfield 26, 3) := by decide +kernel
theorem dX10_init_37 : decode cX10_init 37 = .ok (.aload_n 0, 1) := by decide +kernel
theorem dX10_init_38 : decode cX10_init 38 = .ok (.new 30, 3) := by decide +kernel
theorem dX10_init_41 : decode cX10_init 41 = .ok (.dup, 1) := by decide +kernel
theorem dX10_init_42 : decode cX10_init 42 = .ok (.invokespecial 32, 3) := by decide +kernel
theorem dX10_init_45 : decode cX10_init 45 = .ok (.putfield 33, 3) := by decide +kernel
theorem dX10_init_48 : decode cX10_init 48 = .ok (.aload_n 0, 1) := by decide +kernel
theorem dX10_init_49 : decode cX10_init 49 = .ok (.new 37, 3) := by decide +kernel
theorem dX10_init_52 : decode cX10_init 52 = .ok (.dup, 1) := by decide +kernel
theorem dX10_init_53 : decode cX10_init 53 = .ok (.invokespecial 39, 3) := by decide +kernel
theorem dX10_init_56 : decode cX10_init 56 = .ok (.putfield 40, 3) := by decide +kernel
theorem dX10_init_59 : decode cX10_init 59 = .ok (.aload_n 0, 1) := by decide +kernel
theorem dX10_init_60 : decode cX10_init 60 = .ok (.new 44, 3) := by decide +kernel
theorem dX10_init_63 : decode cX10_init 63 = .ok (.dup, 1) := by decide +kernel
theorem dX10_init_64 : decode cX10_init 64 = .ok (.invokespecial 46, 3) := by decide +kernel
theorem dX10_init_67 : decode cX10_init 67 = .ok (.putfield 47, 3) := by decide +kernel
theorem dX10_init_70 : decode cX10_init 70 = .ok (.aload_n 0, 1) := by decide +kernel
theorem dX10_init_71 : decode cX10_init 71 = .ok (.new 51, 3) := by decide +kernel
theorem dX10_init_74 : decode cX10_init 74 = .ok (.dup, 1) := by decide +kernel
theorem dX10_init_75 : decode cX10_init 75 = .ok (.aload_n 0, 1) := by decide +kernel
theorem dX10_init_76 : decode cX10_init 76 = .ok (.getfield 33, 3) := by decide +kernel
theorem dX10_init_79 : decode cX10_init 79 = .ok (.aload_n 0, 1) := by decide +kernel
theorem dX10_init_80 : decode cX10_init 80 = .ok (.getfield 40, 3) := by decide +kernel
theorem dX10_init_83 : decode cX10_init 83 = .ok (.aload_n 0, 1) := by decide +kernel
theorem dX10_init_84 : decode cX10_init 84 = .ok (.getfield 26, 3) := by decide +kernel
theorem dX10_init_87 : decode cX10_init 87 = .ok (.invokespecial 53, 3) := by decide +kernel
theorem dX10_init_90 : decode cX10_init 90 = .ok (.putfield 56, 3) := by decide +kernel
theorem dX10_init_93 : decode cX10_init 93 = .ok (.aload_n 0, 1) := by decide +kernel
theorem dX10_init_94 : decode cX10_init 94 = .ok (.new 60, 3) := by decide +kernel
theorem dX10_init_97 : decode cX10_init 97 = .ok (.dup, 1) := by decide +kernel
theorem dX10_init_98 : decode cX10_init 98 = .ok (.aload_n 0, 1) := by decide +kernel
theorem dX10_init_99 : decode cX10_init 99 = .ok (.getfield 33, 3) := by decide +kernel
theorem dX10_init_102 : decode cX10_init 102 = .ok (.aload_n 0, 1) := by decide +kernel
theorem dX10_init_103 : decode cX10_init 103 = .ok (.getfield 40, 3) := by decide +kernel
theorem dX10_init_106 : decode cX10_init 106 = .ok (.aload_n 0, 1) := by decide +kernel
theorem dX10_init_107 : decode cX10_init 107 = .ok (.getfield 56, 3) := by decide +kernel
theorem dX10_init_110 : decode cX10_init 110 = .ok (.new 62, 3) := by decide +kernel
theorem dX10_init_113 : decode cX10_init 113 = .ok (.dup, 1) := by decide +kernel
theorem dX10_init_114 : decode cX10_init 114 = .ok (.aload_n 0, 1) := by decide +kernel
theorem dX10_init_115 : decode cX10_init 115 = .ok (.getfield 33, 3) := by decide +kernel
theorem dX10_init_118 : decode cX10_init 118 = .ok (.aload_n 0, 1) := by decide +kernel
theorem dX10_init_119 : decode cX10_init 119 = .ok (.getfield 40, 3) := by decide +kernel
theorem dX10_init_122 : decode cX10_init 122 = .ok (.aload_n 0, 1) := by decide +kernel
theorem dX10_init_123 : decode cX10_init 123 = .ok (.getfield 26, 3) := by decide +kernel
theorem dX10_init_126 : decode cX10_init 126 = .ok (.aload_n 0, 1) := by decide +kernel
theorem dX10_init_127 : decode cX10_init 127 = .ok (.getfield 47, 3) := by decide +kernel
theorem dX10_init_130 : decode cX10_init 130 = .ok (.aload_n 0, 1) := by decide +kernel
theorem dX10_init_131 : decode cX10_init 131 = .ok (.getfield 19, 3) := by decide +kernel
theorem dX10_init_134 : decode cX10_init 134 = .ok (.invokespecial 64, 3) := by decide +kernel
theorem dX10_init_137 : decode cX10_init 137 = .ok (.invokespecial 67, 3) := by decide +kernel
theorem dX10_init_140 : decode cX10_init 140 = .ok (.putfield 70, 3) := by decide +kernel
theorem dX10_init_143 : decode cX10_init 143 = .ok (.aload_n 0, 1) := by decide +kernel
theorem dX10_init_144 : decode cX10_init 144 = .ok (.new 74, 3) := by decide +kernel
theorem dX10_init_147 : decode cX10_init 147 = .ok (.dup, 1) := by decide +kernel
theorem dX10_init_148 : decode cX10_init 148 = .ok (.invokespecial 76, 3) := by decide +kernel
theorem dX10_init_151 : decode cX10_init 151 = .ok (.putfield 77, 3) := by decide +kernel
theorem dX10_init_154 : decode cX10_init 154 = .ok (.aload_n 0, 1) := by decide +kernel
theorem dX10_init_155 : decode cX10_init 155 = .ok (.iconst 0, 1) := by decide +kernel
theorem dX10_init_156 : decode cX10_init 156 = .ok (.putfield 81, 3) := by decide +kernel
theorem dX10_init_159 : decode cX10_init 159 = .ok (.return_, 1) := by decide +kernel
theorem dX10_feed_0 : decode cX10_feed 0 = .ok (.aload_n 0, 1) := by decide +kernel
theorem dX10_feed_1 : decode cX10_feed 1 = .ok (.getfield 12, 3) := by decide +kernel
theorem dX10_feed_4 : decode cX10_feed 4 = .ok (.invokevirtual 85, 3) := by decide +kernel
theorem dX10_feed_7 : decode cX10_feed 7 = .ok (.ifCond .ne 5, 3) := by decide +kernel
theorem dX10_feed_10 : decode cX10_feed 10 = .ok (.iconst (-1), 1) := by decide +kernel
theorem dX10_feed_11 : decode cX10_feed 11 = .ok (.ireturn, 1) := by decide +kernel
theorem dX10_feed_12 : decode cX10_feed 12 = .ok (.aload_n 0, 1) := by decide +kernel
theorem dX10_feed_13 : decode cX10_feed 13 = .ok (.getfield 12, 3) := by decide +kernel
theorem dX10_feed_16 : decode cX10_feed 16 = .ok (.iload_n 1, 1) := by decide +kernel
theorem dX10_feed_17 : decode cX10_feed 17 = .ok (.invokevirtual 89, 3) := by decide +kernel
theorem dX10_feed_20 : decode cX10_feed 20 = .ok (.aload_n 0, 1) := by decide +kernel
theorem dX10_feed_21 : decode cX10_feed 21 = .ok (.getfield 12, 3) := by decide +kernel
theorem dX10_feed_24 : decode cX10_feed 24 = .ok (.iload_n 2, 1) := by decide +kernel
theorem dX10_feed_25 : decode cX10_feed 25 = .ok (.invokevirtual 89, 3) := by decide +kernel
theorem dX10_feed_28 : decode cX10_feed 28 = .ok (.aload_n 0, 1) := by decide +kernel
theorem dX10_feed_29 : decode cX10_feed 29 = .ok (.getfield 12, 3) := by decide +kernel
theorem dX10_feed_32 : decode cX10_feed 32 = .ok (.iload_n 3, 1) := by decide +kernel
theorem dX10_feed_33 : decode cX10_feed 33 = .ok (.invokevirtual 89, 3) := by decide +kernel
theorem dX10_feed_36 : decode cX10_feed 36 = .ok (.aload_n 0, 1) := by decide +kernel
theorem dX10_feed_37 : decode cX10_feed 37 = .ok (.getfield 12, 3) := by decide +kernel
theorem dX10_feed_40 : decode cX10_feed 40 = .ok (.iload 4, 2) := by decide +kernel
theorem dX10_feed_42 : decode cX10_feed 42 = .ok (.invokevirtual 89, 3) := by decide +kernel
theorem dX10_feed_45 : decode cX10_feed 45 = .ok (.aload_n 0, 1) := by decide +kernel
theorem dX10_feed_46 : decode cX10_feed 46 = .ok (.getfield 12, 3) := by decide +kernel
theorem dX10_feed_49 : decode cX10_feed 49 = .ok (.iload 5, 2) := by decide +kernel
theorem dX10_feed_51 : decode cX10_feed 51 = .ok (.invokevirtual 89, 3) := by decide +kernel
theorem dX10_feed_54 : decode cX10_feed 54 = .ok (.aload_n 0, 1) := by decide +kernel
theorem dX10_feed_55 : decode cX10_feed 55 = .ok (.getfield 12, 3) := by decide +kernel
theorem dX10_feed_58 : decode cX10_feed 58 = .ok (.invokevirtual 93, 3) := by decide +kernel
theorem dX10_feed_61 : decode cX10_feed 61 = .ok (.ireturn, 1) := by decide +kernel
theorem dX10_law_0 : decode cX10_law 0 = .ok (.iload_n 1, 1) := by decide +kernel
theorem dX10_law_1 : decode cX10_law 1 = .ok (.invokestatic 97, 3) := by decide +kernel
theorem dX10_law_4 : decode cX10_law 4 = .ok (.ifCond .eq 18, 3) := by decide +kernel
theorem dX10_law_7 : decode cX10_law 7 = .ok (.iload_n 2, 1) := by decide +kernel
theorem dX10_law_8 : decode cX10_law 8 = .ok (.ifCond .lt 14, 3) := by decide +kernel
theorem dX10_law_11 : decode cX10_law 11 = .ok (.iload_n 2, 1) := by decide +kernel
theorem dX10_law_12 : decode cX10_law 12 = .ok (.aload_n 0, 1) := by decide +kernel
theorem dX10_law_13 : decode cX10_law 13 = .ok (.getfield 12, 3) := by decide +kernel
theorem dX10_law_16 : decode cX10_law 16 = .ok (.invokevirtual 93, 3) := by decide +kernel
theorem dX10_law_19 : decode cX10_law 19 = .ok (.if_icmp .le 5, 3) := by decide +kernel
theorem dX10_law_22 : decode cX10_law 22 = .ok (.iconst (-1), 1) := by decide +kernel
theorem dX10_law_23 : decode cX10_law 23 = .ok (.ireturn, 1) := by decide +kernel
theorem dX10_law_24 : decode cX10_law 24 = .ok (.aload_n 0, 1) := by decide +kernel
theorem dX10_law_25 : decode cX10_law 25 = .ok (.getfield 19, 3) := by decide +kernel
theorem dX10_law_28 : decode cX10_law 28 = .ok (.aload_n 0, 1) := by decide +kernel
theorem dX10_law_29 : decode cX10_law 29 = .ok (.getfield 12, 3) := by decide +kernel
theorem dX10_law_32 : decode cX10_law 32 = .ok (.iload_n 2, 1) := by decide +kernel
theorem dX10_law_33 : decode cX10_law 33 = .ok (.invokevirtual 101, 3) := by decide +kernel
theorem dX10_law_36 : decode cX10_law 36 = .ok (.istore_n 3, 1) := by decide +kernel
theorem dX10_law_37 : decode cX10_law 37 = .ok (.aload_n 0, 1) := by decide +kernel
theorem dX10_law_38 : decode cX10_law 38 = .ok (.getfield 12, 3) := by decide +kernel
theorem dX10_law_41 : decode cX10_law 41 = .ok (.invokevirtual 105, 3) := by decide +kernel
theorem dX10_law_44 : decode cX10_law 44 = .ok (.iload_n 3, 1) := by decide +kernel
theorem dX10_law_45 : decode cX10_law 45 = .ok (.ifCond .ne 11, 3) := by decide +kernel
theorem dX10_law_48 : decode cX10_law 48 = .ok (.aload_n 0, 1) := by decide +kernel
theorem dX10_law_49 : decode cX10_law 49 = .ok (.getfield 19, 3) := by decide +kernel
theorem dX10_law_52 : decode cX10_law 52 = .ok (.iload_n 1, 1) := by decide +kernel
theorem dX10_law_53 : decode cX10_law 53 = .ok (.invokevirtual 108, 3) := by decide +kernel
theorem dX10_law_56 : decode cX10_law 56 = .ok (.iload_n 3, 1) := by decide +kernel
theorem dX10_law_57 : decode cX10_law 57 = .ok (.ireturn, 1) := by decide +kernel
theorem dX10_rule_0 : decode cX10_rule 0 = .ok (.iload_n 2, 1) := by decide +kernel
theorem dX10_rule_1 : decode cX10_rule 1 = .ok (.ifCond .ne 12, 3) := by decide +kernel
theorem dX10_rule_4 : decode cX10_rule 4 = .ok (.aload_n 0, 1) := by decide +kernel
theorem dX10_rule_5 : decode cX10_rule 5 = .ok (.getfield 19, 3) := by decide +kernel
theorem dX10_rule_8 : decode cX10_rule 8 = .ok (.iload_n 1, 1) := by decide +kernel
theorem dX10_rule_9 : decode cX10_rule 9 = .ok (.invokevirtual 111, 3) := by decide +kernel
theorem dX10_rule_12 : decode cX10_rule 12 = .ok (.ireturn, 1) := by decide +kernel
theorem dX10_rule_13 : decode cX10_rule 13 = .ok (.iload_n 2, 1) := by decide +kernel
theorem dX10_rule_14 : decode cX10_rule 14 = .ok (.iconst 1, 1) := by decide +kernel
theorem dX10_rule_15 : decode cX10_rule 15 = .ok (.if_icmp .ne 14, 3) := by decide +kernel
theorem dX10_rule_18 : decode cX10_rule 18 = .ok (.aload_n 0, 1) := by decide +kernel
theorem dX10_rule_19 : decode cX10_rule 19 = .ok (.getfield 19, 3) := by decide +kernel
theorem dX10_rule_22 : decode cX10_rule 22 = .ok (.iload_n 1, 1) := by decide +kernel
theorem dX10_rule_23 : decode cX10_rule 23 = .ok (.invokevirtual 115, 3) := by decide +kernel
theorem dX10_rule_26 : decode cX10_rule 26 = .ok (.goto 4, 3) := by decide +kernel
theorem dX10_rule_29 : decode cX10_rule 29 = .ok (.iconst (-1), 1) := by decide +kernel
theorem dX10_rule_30 : decode cX10_rule 30 = .ok (.ireturn, 1) := by decide +kernel
theorem dX10_way_0 : decode cX10_way 0 = .ok (.iload_n 1, 1) := by decide +kernel
theorem dX10_way_1 : decode cX10_way 1 = .ok (.invokestatic 118, 3) := by decide +kernel
theorem dX10_way_4 : decode cX10_way 4 = .ok (.ifCond .eq 15, 3) := by decide +kernel
theorem dX10_way_7 : decode cX10_way 7 = .ok (.iload_n 2, 1) := by decide +kernel
theorem dX10_way_8 : decode cX10_way 8 = .ok (.invokestatic 118, 3) := by decide +kernel
theorem dX10_way_11 : decode cX10_way 11 = .ok (.ifCond .eq 8, 3) := by decide +kernel
theorem dX10_way_14 : decode cX10_way 14 = .ok (.iload_n 1, 1) := by decide +kernel
theorem dX10_way_15 : decode cX10_way 15 = .ok (.iload_n 2, 1) := by decide +kernel
theorem dX10_way_16 : decode cX10_way 16 = .ok (.if_icmp .ne 5, 3) := by decide +kernel
theorem dX10_way_19 : decode cX10_way 19 = .ok (.iconst 0, 1) := by decide +kernel
theorem dX10_way_20 : decode cX10_way 20 = .ok (.ireturn, 1) := by decide +kernel
theorem dX10_way_21 : decode cX10_way 21 = .ok (.iload_n 3, 1) := by decide +kernel
theorem dX10_way_22 : decode cX10_way 22 = .ok (.ifCond .ne 17, 3) := by decide +kernel
theorem dX10_way_25 : decode cX10_way 25 = .ok (.aload_n 0, 1) := by decide +kernel
theorem dX10_way_26 : decode cX10_way 26 = .ok (.getfield 40, 3) := by decide +kernel
theorem dX10_way_29 : decode cX10_way 29 = .ok (.iload_n 1, 1) := by decide +kernel
theorem dX10_way_30 : decode cX10_way 30 = .ok (.iload_n 2, 1) := by decide +kernel
theorem dX10_way_31 : decode cX10_way 31 = .ok (.invokevirtual 121, 3) := by decide +kernel
theorem dX10_way_34 : decode cX10_way 34 = .ok (.ifCond .eq 19, 3) := by decide +kernel
theorem dX10_way_37 : decode cX10_way 37 = .ok (.iconst 0, 1) := by decide +kernel
theorem dX10_way_38 : decode cX10_way 38 = .ok (.ireturn, 1) := by decide +kernel
theorem dX10_way_39 : decode cX10_way 39 = .ok (.iload_n 3, 1) := by decide +kernel
theorem dX10_way_40 : decode cX10_way 40 = .ok (.bipush 10, 2) := by decide +kernel
theorem dX10_way_42 : decode cX10_way 42 = .ok (.sipush 600, 3) := by decide +kernel
theorem dX10_way_45 : decode cX10_way 45 = .ok (.invokestatic 125, 3) := by decide +kernel
theorem dX10_way_48 : decode cX10_way 48 = .ok (.ifCond .ne 5, 3) := by decide +kernel
theorem dX10_way_51 : decode cX10_way 51 = .ok (.iconst 0, 1) := by decide +kernel
theorem dX10_way_52 : decode cX10_way 52 = .ok (.ireturn, 1) := by decide +kernel
theorem dX10_way_53 : decode cX10_way 53 = .ok (.aload_n 0, 1) := by decide +kernel
theorem dX10_way_54 : decode cX10_way 54 = .ok (.getfield 26, 3) := by decide +kernel
theorem dX10_way_57 : decode cX10_way 57 = .ok (.iload_n 1, 1) := by decide +kernel
theorem dX10_way_58 : decode cX10_way 58 = .ok (.iload_n 2, 1) := by decide +kernel
theorem dX10_way_59 : decode cX10_way 59 = .ok (.iload_n 3, 1) := by decide +kernel
theorem dX10_way_60 : decode cX10_way 60 = .ok (.invokevirtual 129, 3) := by decide +kernel
theorem dX10_way_63 : decode cX10_way 63 = .ok (.iconst 1, 1) := by decide +kernel
theorem dX10_way_64 : decode cX10_way 64 = .ok (.ireturn, 1) := by decide +kernel
theorem dX10_plane_0 : decode cX10_plane 0 = .ok (.iload_n 1, 1) := by decide +kernel
theorem dX10_plane_1 : decode cX10_plane 1 = .ok (.invokestatic 118, 3) := by decide +kernel
theorem dX10_plane_4 : decode cX10_plane 4 = .ok (.ifCond .eq 13, 3) := by decide +kernel
theorem dX10_plane_7 : decode cX10_plane 7 = .ok (.iload_n 2, 1) := by decide +kernel
theorem dX10_plane_8 : decode cX10_plane 8 = .ok (.iconst 1, 1) := by decide +kernel
theorem dX10_plane_9 : decode cX10_plane 9 = .ok (.bipush 30, 2) := by decide +kernel
theorem dX10_plane_11 : decode cX10_plane 11 = .ok (.invokestatic 125, 3) := by decide +kernel
theorem dX10_plane_14 : decode cX10_plane 14 = .ok (.ifCond .ne 5, 3) := by decide +kernel
theorem dX10_plane_17 : decode cX10_plane 17 = .ok (.iconst (-1), 1) := by decide +kernel
theorem dX10_plane_18 : decode cX10_plane 18 = .ok (.ireturn, 1) := by decide +kernel
theorem dX10_plane_19 : decode cX10_plane 19 = .ok (.iload_n 3, 1) := by decide +kernel
theorem dX10_plane_20 : decode cX10_plane 20 = .ok (.iconst 0, 1) := by decide +kernel
theorem dX10_plane_21 : decode cX10_plane 21 = .ok (.sipush 180, 3) := by decide +kernel
theorem dX10_plane_24 : decode cX10_plane 24 = .ok (.invokestatic 125, 3) := by decide +kernel
theorem dX10_plane_27 : decode cX10_plane 27 = .ok (.ifCond .eq 15, 3) := by decide +kernel
theorem dX10_plane_30 : decode cX10_plane 30 = .ok (.iload 4, 2) := by decide +kernel
theorem dX10_plane_32 : decode cX10_plane 32 = .ok (.iconst 1, 1) := by decide +kernel
theorem dX10_plane_33 : decode cX10_plane 33 = .ok (.sipush 1000, 3) := by decide +kernel
theorem dX10_plane_36 : decode cX10_plane 36 = .ok (.invokestatic 125, 3) := by decide +kernel
theorem dX10_plane_39 : decode cX10_plane 39 = .ok (.ifCond .ne 5, 3) := by decide +kernel
theorem dX10_plane_42 : decode cX10_plane 42 = .ok (.iconst (-1), 1) := by decide +kernel
theorem dX10_plane_43 : decode cX10_plane 43 = .ok (.ireturn, 1) := by decide +kernel
theorem dX10_plane_44 : decode cX10_plane 44 = .ok (.aload_n 0, 1) := by decide +kernel
theorem dX10_plane_45 : decode cX10_plane 45 = .ok (.getfield 33, 3) := by decide +kernel
theorem dX10_plane_48 : decode cX10_plane 48 = .ok (.iload_n 1, 1) := by decide +kernel
theorem dX10_plane_49 : decode cX10_plane 49 = .ok (.iload_n 2, 1) := by decide +kernel
theorem dX10_plane_50 : decode cX10_plane 50 = .ok (.iload_n 3, 1) := by decide +kernel
theorem dX10_plane_51 : decode cX10_plane 51 = .ok (.iload 4, 2) := by decide +kernel
theorem dX10_plane_53 : decode cX10_plane 53 = .ok (.invokevirtual 133, 3) := by decide +kernel
theorem dX10_plane_56 : decode cX10_plane 56 = .ok (.ireturn, 1) := by decide +kernel
theorem dX10_flight_0 : decode cX10_flight 0 = .ok (.aload_n 0, 1) := by decide +kernel
theorem dX10_flight_1 : decode cX10_flight 1 = .ok (.getfield 26, 3) := by decide +kernel
theorem dX10_flight_4 : decode cX10_flight 4 = .ok (.iload_n 1, 1) := by decide +kernel
theorem dX10_flight_5 : decode cX10_flight 5 = .ok (.iload_n 2, 1) := by decide +kernel
theorem dX10_flight_6 : decode cX10_flight 6 = .ok (.invokevirtual 137, 3) := by decide +kernel
theorem dX10_flight_9 : decode cX10_flight 9 = .ok (.ifCond .eq 21, 3) := by decide +kernel
theorem dX10_flight_12 : decode cX10_flight 12 = .ok (.iload_n 3, 1) := by decide +kernel
theorem dX10_flight_13 : decode cX10_flight 13 = .ok (.invokestatic 141, 3) := by decide +kernel
theorem dX10_flight_16 : decode cX10_flight 16 = .ok (.ifCond .eq 14, 3) := by decide +kernel
theorem dX10_flight_19 : decode cX10_flight 19 = .ok (.iload 4, 2) := by decide +kernel
theorem dX10_flight_21 : decode cX10_flight 21 = .ok (.iconst 1, 1) := by decide +kernel
theorem dX10_flight_22 : decode cX10_flight 22 = .ok (.bipush 30, 2) := by decide +kernel
theorem dX10_flight_24 : decode cX10_flight 24 = .ok (.invokestatic 125, 3) := by decide +kernel
theorem dX10_flight_27 : decode cX10_flight 27 = .ok (.ifCond .ne 5, 3) := by decide +kernel
theorem dX10_flight_30 : decode cX10_flight 30 = .ok (.iconst (-1), 1) := by decide +kernel
theorem dX10_flight_31 : decode cX10_flight 31 = .ok (.ireturn, 1) := by decide +kernel
theorem dX10_flight_32 : decode cX10_flight 32 = .ok (.aload_n 0, 1) := by decide +kernel
theorem dX10_flight_33 : decode cX10_flight 33 = .ok (.getfield 40, 3) := by decide +kernel
theorem dX10_flight_36 : decode cX10_flight 36 = .ok (.iload_n 1, 1) := by decide +kernel
theorem dX10_flight_37 : decode cX10_flight 37 = .ok (.iload_n 2, 1) := by decide +kernel
theorem dX10_flight_38 : decode cX10_flight 38 = .ok (.iload_n 3, 1) := by decide +kernel
theorem dX10_flight_39 : decode cX10_flight 39 = .ok (.iload 4, 2) := by decide +kernel
theorem dX10_flight_41 : decode cX10_flight 41 = .ok (.invokevirtual 144, 3) := by decide +kernel
theorem dX10_flight_44 : decode cX10_flight 44 = .ok (.ireturn, 1) := by decide +kernel
theorem dX10_cancel_0 : decode cX10_cancel 0 = .ok (.aload_n 0, 1) := by decide +kernel
theorem dX10_cancel_1 : decode cX10_cancel 1 = .ok (.getfield 40, 3) := by decide +kernel
theorem dX10_cancel_4 : decode cX10_cancel 4 = .ok (.iload_n 1, 1) := by decide +kernel
theorem dX10_cancel_5 : decode cX10_cancel 5 = .ok (.invokevirtual 145, 3) := by decide +kernel
theorem dX10_cancel_8 : decode cX10_cancel 8 = .ok (.ifCond .ne 5, 3) := by decide +kernel
theorem dX10_cancel_11 : decode cX10_cancel 11 = .ok (.iconst 0, 1) := by decide +kernel
theorem dX10_cancel_12 : decode cX10_cancel 12 = .ok (.ireturn, 1) := by decide +kernel
theorem dX10_cancel_13 : decode cX10_cancel 13 = .ok (.aload_n 0, 1) := by decide +kernel
theorem dX10_cancel_14 : decode cX10_cancel 14 = .ok (.getfield 40, 3) := by decide +kernel
theorem dX10_cancel_17 : decode cX10_cancel 17 = .ok (.iload_n 1, 1) := by decide +kernel
theorem dX10_cancel_18 : decode cX10_cancel 18 = .ok (.invokevirtual 148, 3) := by decide +kernel
theorem dX10_cancel_21 : decode cX10_cancel 21 = .ok (.aload_n 0, 1) := by decide +kernel
theorem dX10_cancel_22 : decode cX10_cancel 22 = .ok (.getfield 56, 3) := by decide +kernel
theorem dX10_cancel_25 : decode cX10_cancel 25 = .ok (.iload_n 1, 1) := by decide +kernel
theorem dX10_cancel_26 : decode cX10_cancel 26 = .ok (.iconst (-1), 1) := by decide +kernel
theorem dX10_cancel_27 : decode cX10_cancel 27 = .ok (.invokevirtual 151, 3) := by decide +kernel
theorem dX10_cancel_30 : decode cX10_cancel 30 = .ok (.aload_n 0, 1) := by decide +kernel
theorem dX10_cancel_31 : decode cX10_cancel 31 = .ok (.getfield 77, 3) := by decide +kernel
theorem dX10_cancel_34 : decode cX10_cancel 34 = .ok (.aload_n 0, 1) := by decide +kernel
theorem dX10_cancel_35 : decode cX10_cancel 35 = .ok (.getfield 56, 3) := by decide +kernel
theorem dX10_cancel_38 : decode cX10_cancel 38 = .ok (.invokevirtual 155, 3) := by decide +kernel
theorem dX10_cancel_41 : decode cX10_cancel 41 = .ok (.iconst 1, 1) := by decide +kernel
theorem dX10_cancel_42 : decode cX10_cancel 42 = .ok (.ireturn, 1) := by decide +kernel
theorem dX10_storm_0 : decode cX10_storm 0 = .ok (.iload_n 1, 1) := by decide +kernel
theorem dX10_storm_1 : decode cX10_storm 1 = .ok (.invokestatic 118, 3) := by decide +kernel
theorem dX10_storm_4 : decode cX10_storm 4 = .ok (.ifCond .eq 23, 3) := by decide +kernel
theorem dX10_storm_7 : decode cX10_storm 7 = .ok (.iload_n 2, 1) := by decide +kernel
theorem dX10_storm_8 : decode cX10_storm 8 = .ok (.invokestatic 141, 3) := by decide +kernel
theorem dX10_storm_11 : decode cX10_storm 11 = .ok (.ifCond .eq 16, 3) := by decide +kernel
theorem dX10_storm_14 : decode cX10_storm 14 = .ok (.iload_n 3, 1) := by decide +kernel
theorem dX10_storm_15 : decode cX10_storm 15 = .ok (.iload_n 2, 1) := by decide +kernel
theorem dX10_storm_16 : decode cX10_storm 16 = .ok (.iconst 1, 1) := by decide +kernel
theorem dX10_storm_17 : decode cX10_storm 17 = .ok (.iadd, 1) := by decide +kernel
theorem dX10_storm_18 : decode cX10_storm 18 = .ok (.sipush 10080, 3) := by decide +kernel
theorem dX10_storm_21 : decode cX10_storm 21 = .ok (.invokestatic 125, 3) := by decide +kernel
theorem dX10_storm_24 : decode cX10_storm 24 = .ok (.ifCond .ne 5, 3) := by decide +kernel
theorem dX10_storm_27 : decode cX10_storm 27 = .ok (.iconst (-1), 1) := by decide +kernel
theorem dX10_storm_28 : decode cX10_storm 28 = .ok (.ireturn, 1) := by decide +kernel
theorem dX10_storm_29 : decode cX10_storm 29 = .ok (.aload_n 0, 1) := by decide +kernel
theorem dX10_storm_30 : decode cX10_storm 30 = .ok (.getfield 47, 3) := by decide +kernel
theorem dX10_storm_33 : decode cX10_storm 33 = .ok (.iload_n 1, 1) := by decide +kernel
theorem dX10_storm_34 : decode cX10_storm 34 = .ok (.iload_n 2, 1) := by decide +kernel
theorem dX10_storm_35 : decode cX10_storm 35 = .ok (.iload_n 3, 1) := by decide +kernel
theorem dX10_storm_36 : decode cX10_storm 36 = .ok (.invokevirtual 159, 3) := by decide +kernel
theorem dX10_storm_39 : decode cX10_storm 39 = .ok (.ireturn, 1) := by decide +kernel
theorem dX10_clock_0 : decode cX10_clock 0 = .ok (.iload_n 1, 1) := by decide +kernel
theorem dX10_clock_1 : decode cX10_clock 1 = .ok (.invokestatic 141, 3) := by decide +kernel
theorem dX10_clock_4 : decode cX10_clock 4 = .ok (.ifCond .eq 11, 3) := by decide +kernel
theorem dX10_clock_7 : decode cX10_clock 7 = .ok (.iload_n 1, 1) := by decide +kernel
theorem dX10_clock_8 : decode cX10_clock 8 = .ok (.aload_n 0, 1) := by decide +kernel
theorem dX10_clock_9 : decode cX10_clock 9 = .ok (.getfield 81, 3) := by decide +kernel
theorem dX10_clock_12 : decode cX10_clock 12 = .ok (.if_icmp .ge 5, 3) := by decide +kernel
theorem dX10_clock_15 : decode cX10_clock 15 = .ok (.iconst 0, 1) := by decide +kernel
theorem dX10_clock_16 : decode cX10_clock 16 = .ok (.ireturn, 1) := by decide +kernel
theorem dX10_clock_17 : decode cX10_clock 17 = .ok (.aload_n 0, 1) := by decide +kernel
theorem dX10_clock_18 : decode cX10_clock 18 = .ok (.iload_n 1, 1) := by decide +kernel
theorem dX10_clock_19 : decode cX10_clock 19 = .ok (.putfield 81, 3) := by decide +kernel
theorem dX10_clock_22 : decode cX10_clock 22 = .ok (.aload_n 0, 1) := by decide +kernel
theorem dX10_clock_23 : decode cX10_clock 23 = .ok (.getfield 77, 3) := by decide +kernel
theorem dX10_clock_26 : decode cX10_clock 26 = .ok (.aload_n 0, 1) := by decide +kernel
theorem dX10_clock_27 : decode cX10_clock 27 = .ok (.getfield 81, 3) := by decide +kernel
theorem dX10_clock_30 : decode cX10_clock 30 = .ok (.invokevirtual 162, 3) := by decide +kernel
theorem dX10_clock_33 : decode cX10_clock 33 = .ok (.iconst 1, 1) := by decide +kernel
theorem dX10_clock_34 : decode cX10_clock 34 = .ok (.ireturn, 1) := by decide +kernel
theorem dX10_plan_0 : decode cX10_plan 0 = .ok (.aload_n 0, 1) := by decide +kernel
theorem dX10_plan_1 : decode cX10_plan 1 = .ok (.getfield 70, 3) := by decide +kernel
theorem dX10_plan_4 : decode cX10_plan 4 = .ok (.iconst 0, 1) := by decide +kernel
theorem dX10_plan_5 : decode cX10_plan 5 = .ok (.invokevirtual 165, 3) := by decide +kernel
theorem dX10_plan_8 : decode cX10_plan 8 = .ok (.pop, 1) := by decide +kernel
theorem dX10_plan_9 : decode cX10_plan 9 = .ok (.aload_n 0, 1) := by decide +kernel
theorem dX10_plan_10 : decode cX10_plan 10 = .ok (.getfield 77, 3) := by decide +kernel
theorem dX10_plan_13 : decode cX10_plan 13 = .ok (.aload_n 0, 1) := by decide +kernel
theorem dX10_plan_14 : decode cX10_plan 14 = .ok (.getfield 56, 3) := by decide +kernel
theorem dX10_plan_17 : decode cX10_plan 17 = .ok (.invokevirtual 155, 3) := by decide +kernel
theorem dX10_plan_20 : decode cX10_plan 20 = .ok (.aload_n 0, 1) := by decide +kernel
theorem dX10_plan_21 : decode cX10_plan 21 = .ok (.getfield 56, 3) := by decide +kernel
theorem dX10_plan_24 : decode cX10_plan 24 = .ok (.invokevirtual 169, 3) := by decide +kernel
theorem dX10_plan_27 : decode cX10_plan 27 = .ok (.ireturn, 1) := by decide +kernel
theorem dX10_replan_0 : decode cX10_replan 0 = .ok (.aload_n 0, 1) := by decide +kernel
theorem dX10_replan_1 : decode cX10_replan 1 = .ok (.getfield 70, 3) := by decide +kernel
theorem dX10_replan_4 : decode cX10_replan 4 = .ok (.iconst 1, 1) := by decide +kernel
theorem dX10_replan_5 : decode cX10_replan 5 = .ok (.invokevirtual 165, 3) := by decide +kernel
theorem dX10_replan_8 : decode cX10_replan 8 = .ok (.istore_n 1, 1) := by decide +kernel
theorem dX10_replan_9 : decode cX10_replan 9 = .ok (.aload_n 0, 1) := by decide +kernel
theorem dX10_replan_10 : decode cX10_replan 10 = .ok (.getfield 77, 3) := by decide +kernel
theorem dX10_replan_13 : decode cX10_replan 13 = .ok (.aload_n 0, 1) := by decide +kernel
theorem dX10_replan_14 : decode cX10_replan 14 = .ok (.getfield 56, 3) := by decide +kernel
theorem dX10_replan_17 : decode cX10_replan 17 = .ok (.invokevirtual 155, 3) := by decide +kernel
theorem dX10_replan_20 : decode cX10_replan 20 = .ok (.iload_n 1, 1) := by decide +kernel
theorem dX10_replan_21 : decode cX10_replan 21 = .ok (.ireturn, 1) := by decide +kernel
theorem dX10_fits_0 : decode cX10_fits 0 = .ok (.aload_n 0, 1) := by decide +kernel
theorem dX10_fits_1 : decode cX10_fits 1 = .ok (.getfield 70, 3) := by decide +kernel
theorem dX10_fits_4 : decode cX10_fits 4 = .ok (.invokevirtual 172, 3) := by decide +kernel
theorem dX10_fits_7 : decode cX10_fits 7 = .ok (.ifCond .eq 7, 3) := by decide +kernel
theorem dX10_fits_10 : decode cX10_fits 10 = .ok (.iconst 1, 1) := by decide +kernel
theorem dX10_fits_11 : decode cX10_fits 11 = .ok (.goto 4, 3) := by decide +kernel
theorem dX10_fits_14 : decode cX10_fits 14 = .ok (.iconst 0, 1) := by decide +kernel
theorem dX10_fits_15 : decode cX10_fits 15 = .ok (.ireturn, 1) := by decide +kernel
theorem dX10_on_0 : decode cX10_on 0 = .ok (.aload_n 0, 1) := by decide +kernel
theorem dX10_on_1 : decode cX10_on 1 = .ok (.getfield 56, 3) := by decide +kernel
theorem dX10_on_4 : decode cX10_on 4 = .ok (.iload_n 1, 1) := by decide +kernel
theorem dX10_on_5 : decode cX10_on 5 = .ok (.invokevirtual 175, 3) := by decide +kernel
theorem dX10_on_8 : decode cX10_on 8 = .ok (.ireturn, 1) := by decide +kernel
theorem dX10_move_0 : decode cX10_move 0 = .ok (.aload_n 0, 1) := by decide +kernel
theorem dX10_move_1 : decode cX10_move 1 = .ok (.getfield 56, 3) := by decide +kernel
theorem dX10_move_4 : decode cX10_move 4 = .ok (.iload_n 1, 1) := by decide +kernel
theorem dX10_move_5 : decode cX10_move 5 = .ok (.iload_n 2, 1) := by decide +kernel
theorem dX10_move_6 : decode cX10_move 6 = .ok (.invokevirtual 178, 3) := by decide +kernel
theorem dX10_move_9 : decode cX10_move 9 = .ok (.istore 4, 2) := by decide +kernel
theorem dX10_move_11 : decode cX10_move 11 = .ok (.iload 4, 2) := by decide +kernel
theorem dX10_move_13 : decode cX10_move 13 = .ok (.iconst (-1), 1) := by decide +kernel
theorem dX10_move_14 : decode cX10_move 14 = .ok (.if_icmp .eq 11, 3) := by decide +kernel
theorem dX10_move_17 : decode cX10_move 17 = .ok (.aload_n 0, 1) := by decide +kernel
theorem dX10_move_18 : decode cX10_move 18 = .ok (.iload 4, 2) := by decide +kernel
theorem dX10_move_20 : decode cX10_move 20 = .ok (.iload_n 3, 1) := by decide +kernel
theorem dX10_move_21 : decode cX10_move 21 = .ok (.invokevirtual 181, 3) := by decide +kernel
theorem dX10_move_24 : decode cX10_move 24 = .ok (.ireturn, 1) := by decide +kernel
theorem dX10_move_25 : decode cX10_move 25 = .ok (.aload_n 0, 1) := by decide +kernel
theorem dX10_move_26 : decode cX10_move 26 = .ok (.getfield 56, 3) := by decide +kernel
theorem dX10_move_29 : decode cX10_move 29 = .ok (.iload_n 1, 1) := by decide +kernel
theorem dX10_move_30 : decode cX10_move 30 = .ok (.iload_n 2, 1) := by decide +kernel
theorem dX10_move_31 : decode cX10_move 31 = .ok (.invokevirtual 184, 3) := by decide +kernel
theorem dX10_move_34 : decode cX10_move 34 = .ok (.istore 5, 2) := by decide +kernel
theorem dX10_move_36 : decode cX10_move 36 = .ok (.iload 5, 2) := by decide +kernel
theorem dX10_move_38 : decode cX10_move 38 = .ok (.iconst (-1), 1) := by decide +kernel
theorem dX10_move_39 : decode cX10_move 39 = .ok (.if_icmp .ne 7, 3) := by decide +kernel
theorem dX10_move_42 : decode cX10_move 42 = .ok (.iconst (-1), 1) := by decide +kernel
theorem dX10_move_43 : decode cX10_move 43 = .ok (.goto 10, 3) := by decide +kernel
theorem dX10_move_46 : decode cX10_move 46 = .ok (.aload_n 0, 1) := by decide +kernel
theorem dX10_move_47 : decode cX10_move 47 = .ok (.iload 5, 2) := by decide +kernel
theorem dX10_move_49 : decode cX10_move 49 = .ok (.iload_n 3, 1) := by decide +kernel
theorem dX10_move_50 : decode cX10_move 50 = .ok (.invokevirtual 187, 3) := by decide +kernel
theorem dX10_move_53 : decode cX10_move 53 = .ok (.ireturn, 1) := by decide +kernel
theorem dX10_offer_0 : decode cX10_offer 0 = .ok (.aload_n 0, 1) := by decide +kernel
theorem dX10_offer_1 : decode cX10_offer 1 = .ok (.getfield 56, 3) := by decide +kernel
theorem dX10_offer_4 : decode cX10_offer 4 = .ok (.iload_n 1, 1) := by decide +kernel
theorem dX10_offer_5 : decode cX10_offer 5 = .ok (.iload_n 2, 1) := by decide +kernel
theorem dX10_offer_6 : decode cX10_offer 6 = .ok (.invokevirtual 184, 3) := by decide +kernel
theorem dX10_offer_9 : decode cX10_offer 9 = .ok (.istore 5, 2) := by decide +kernel
theorem dX10_offer_11 : decode cX10_offer 11 = .ok (.iload 5, 2) := by decide +kernel
theorem dX10_offer_13 : decode cX10_offer 13 = .ok (.iconst (-1), 1) := by decide +kernel
theorem dX10_offer_14 : decode cX10_offer 14 = .ok (.if_icmp .eq 13, 3) := by decide +kernel
theorem dX10_offer_17 : decode cX10_offer 17 = .ok (.iload_n 3, 1) := by decide +kernel
theorem dX10_offer_18 : decode cX10_offer 18 = .ok (.iconst 0, 1) := by decide +kernel
theorem dX10_offer_19 : decode cX10_offer 19 = .ok (.ldc 190, 2) := by decide +kernel
theorem dX10_offer_21 : decode cX10_offer 21 = .ok (.invokestatic 125, 3) := by decide +kernel
theorem dX10_offer_24 : decode cX10_offer 24 = .ok (.ifCond .ne 5, 3) := by decide +kernel
theorem dX10_offer_27 : decode cX10_offer 27 = .ok (.iconst (-1), 1) := by decide +kernel
theorem dX10_offer_28 : decode cX10_offer 28 = .ok (.ireturn, 1) := by decide +kernel
theorem dX10_offer_29 : decode cX10_offer 29 = .ok (.iload 4, 2) := by decide +kernel
theorem dX10_offer_31 : decode cX10_offer 31 = .ok (.invokestatic 141, 3) := by decide +kernel
theorem dX10_offer_34 : decode cX10_offer 34 = .ok (.ifCond .eq 24, 3) := by decide +kernel
theorem dX10_offer_37 : decode cX10_offer 37 = .ok (.iload 4, 2) := by decide +kernel
theorem dX10_offer_39 : decode cX10_offer 39 = .ok (.aload_n 0, 1) := by decide +kernel
theorem dX10_offer_40 : decode cX10_offer 40 = .ok (.getfield 81, 3) := by decide +kernel
theorem dX10_offer_43 : decode cX10_offer 43 = .ok (.if_icmp .lt 15, 3) := by decide +kernel
theorem dX10_offer_46 : decode cX10_offer 46 = .ok (.aload_n 0, 1) := by decide +kernel
theorem dX10_offer_47 : decode cX10_offer 47 = .ok (.getfield 77, 3) := by decide +kernel
theorem dX10_offer_50 : decode cX10_offer 50 = .ok (.iload 5, 2) := by decide +kernel
theorem dX10_offer_52 : decode cX10_offer 52 = .ok (.invokevirtual 191, 3) := by decide +kernel
theorem dX10_offer_55 : decode cX10_offer 55 = .ok (.ifCond .eq 5, 3) := by decide +kernel
theorem dX10_offer_58 : decode cX10_offer 58 = .ok (.iconst (-1), 1) := by decide +kernel
theorem dX10_offer_59 : decode cX10_offer 59 = .ok (.ireturn, 1) := by decide +kernel
theorem dX10_offer_60 : decode cX10_offer 60 = .ok (.aload_n 0, 1) := by decide +kernel
theorem dX10_offer_61 : decode cX10_offer 61 = .ok (.getfield 77, 3) := by decide +kernel
theorem dX10_offer_64 : decode cX10_offer 64 = .ok (.aload_n 0, 1) := by decide +kernel
theorem dX10_offer_65 : decode cX10_offer 65 = .ok (.getfield 56, 3) := by decide +kernel
theorem dX10_offer_68 : decode cX10_offer 68 = .ok (.iload 5, 2) := by decide +kernel
theorem dX10_offer_70 : decode cX10_offer 70 = .ok (.invokevirtual 194, 3) := by decide +kernel
theorem dX10_offer_73 : decode cX10_offer 73 = .ok (.iload_n 1, 1) := by decide +kernel
theorem dX10_offer_74 : decode cX10_offer 74 = .ok (.iload 5, 2) := by decide +kernel
theorem dX10_offer_76 : decode cX10_offer 76 = .ok (.iload_n 3, 1) := by decide +kernel
theorem dX10_offer_77 : decode cX10_offer 77 = .ok (.iload 4, 2) := by decide +kernel
theorem dX10_offer_79 : decode cX10_offer 79 = .ok (.invokevirtual 197, 3) := by decide +kernel
theorem dX10_offer_82 : decode cX10_offer 82 = .ok (.ireturn, 1) := by decide +kernel
theorem dX10_take_0 : decode cX10_take 0 = .ok (.iload_n 2, 1) := by decide +kernel
theorem dX10_take_1 : decode cX10_take 1 = .ok (.iconst 0, 1) := by decide +kernel
theorem dX10_take_2 : decode cX10_take 2 = .ok (.bipush 99, 2) := by decide +kernel
theorem dX10_take_4 : decode cX10_take 4 = .ok (.invokestatic 125, 3) := by decide +kernel
theorem dX10_take_7 : decode cX10_take 7 = .ok (.ifCond .eq 14, 3) := by decide +kernel
theorem dX10_take_10 : decode cX10_take 10 = .ok (.aload_n 0, 1) := by decide +kernel
theorem dX10_take_11 : decode cX10_take 11 = .ok (.getfield 77, 3) := by decide +kernel
theorem dX10_take_14 : decode cX10_take 14 = .ok (.iload_n 1, 1) := by decide +kernel
theorem dX10_take_15 : decode cX10_take 15 = .ok (.invokevirtual 200, 3) := by decide +kernel
theorem dX10_take_18 : decode cX10_take 18 = .ok (.ifCond .eq 5, 3) := by decide +kernel
theorem dX10_take_21 : decode cX10_take 21 = .ok (.iconst 0, 1) := by decide +kernel
theorem dX10_take_22 : decode cX10_take 22 = .ok (.ireturn, 1) := by decide +kernel
theorem dX10_take_23 : decode cX10_take 23 = .ok (.aload_n 0, 1) := by decide +kernel
theorem dX10_take_24 : decode cX10_take 24 = .ok (.getfield 77, 3) := by decide +kernel
theorem dX10_take_27 : decode cX10_take 27 = .ok (.iload_n 1, 1) := by decide +kernel
theorem dX10_take_28 : decode cX10_take 28 = .ok (.iload_n 2, 1) := by decide +kernel
theorem dX10_take_29 : decode cX10_take 29 = .ok (.invokevirtual 203, 3) := by decide +kernel
theorem dX10_take_32 : decode cX10_take 32 = .ok (.iconst 1, 1) := by decide +kernel
theorem dX10_take_33 : decode cX10_take 33 = .ok (.ireturn, 1) := by decide +kernel
theorem dX10_told_0 : decode cX10_told 0 = .ok (.iload_n 2, 1) := by decide +kernel
theorem dX10_told_1 : decode cX10_told 1 = .ok (.tableswitch 93 0 5 #[39, 48, 57, 66, 75, 84], 39) := by decide +kernel
theorem dX10_told_40 : decode cX10_told 40 = .ok (.aload_n 0, 1) := by decide +kernel
theorem dX10_told_41 : decode cX10_told 41 = .ok (.getfield 77, 3) := by decide +kernel
theorem dX10_told_44 : decode cX10_told 44 = .ok (.iload_n 1, 1) := by decide +kernel
theorem dX10_told_45 : decode cX10_told 45 = .ok (.invokevirtual 200, 3) := by decide +kernel
theorem dX10_told_48 : decode cX10_told 48 = .ok (.ireturn, 1) := by decide +kernel
theorem dX10_told_49 : decode cX10_told 49 = .ok (.aload_n 0, 1) := by decide +kernel
theorem dX10_told_50 : decode cX10_told 50 = .ok (.getfield 77, 3) := by decide +kernel
theorem dX10_told_53 : decode cX10_told 53 = .ok (.iload_n 1, 1) := by decide +kernel
theorem dX10_told_54 : decode cX10_told 54 = .ok (.invokevirtual 206, 3) := by decide +kernel
theorem dX10_told_57 : decode cX10_told 57 = .ok (.ireturn, 1) := by decide +kernel
theorem dX10_told_58 : decode cX10_told 58 = .ok (.aload_n 0, 1) := by decide +kernel
theorem dX10_told_59 : decode cX10_told 59 = .ok (.getfield 77, 3) := by decide +kernel
theorem dX10_told_62 : decode cX10_told 62 = .ok (.iload_n 1, 1) := by decide +kernel
theorem dX10_told_63 : decode cX10_told 63 = .ok (.invokevirtual 209, 3) := by decide +kernel
theorem dX10_told_66 : decode cX10_told 66 = .ok (.ireturn, 1) := by decide +kernel
theorem dX10_told_67 : decode cX10_told 67 = .ok (.aload_n 0, 1) := by decide +kernel
theorem dX10_told_68 : decode cX10_told 68 = .ok (.getfield 77, 3) := by decide +kernel
theorem dX10_told_71 : decode cX10_told 71 = .ok (.iload_n 1, 1) := by decide +kernel
theorem dX10_told_72 : decode cX10_told 72 = .ok (.invokevirtual 212, 3) := by decide +kernel
theorem dX10_told_75 : decode cX10_told 75 = .ok (.ireturn, 1) := by decide +kernel
theorem dX10_told_76 : decode cX10_told 76 = .ok (.aload_n 0, 1) := by decide +kernel
theorem dX10_told_77 : decode cX10_told 77 = .ok (.getfield 77, 3) := by decide +kernel
theorem dX10_told_80 : decode cX10_told 80 = .ok (.iload_n 1, 1) := by decide +kernel
theorem dX10_told_81 : decode cX10_told 81 = .ok (.invokevirtual 215, 3) := by decide +kernel
theorem dX10_told_84 : decode cX10_told 84 = .ok (.ireturn, 1) := by decide +kernel
theorem dX10_told_85 : decode cX10_told 85 = .ok (.aload_n 0, 1) := by decide +kernel
theorem dX10_told_86 : decode cX10_told 86 = .ok (.getfield 77, 3) := by decide +kernel
theorem dX10_told_89 : decode cX10_told 89 = .ok (.iload_n 1, 1) := by decide +kernel
theorem dX10_told_90 : decode cX10_told 90 = .ok (.invokevirtual 216, 3) := by decide +kernel
theorem dX10_told_93 : decode cX10_told 93 = .ok (.ireturn, 1) := by decide +kernel
theorem dX10_told_94 : decode cX10_told 94 = .ok (.iconst (-1), 1) := by decide +kernel
theorem dX10_told_95 : decode cX10_told 95 = .ok (.ireturn, 1) := by decide +kernel
theorem dX10_bill_0 : decode cX10_bill 0 = .ok (.aload_n 0, 1) := by decide +kernel
theorem dX10_bill_1 : decode cX10_bill 1 = .ok (.getfield 56, 3) := by decide +kernel
theorem dX10_bill_4 : decode cX10_bill 4 = .ok (.iload_n 1, 1) := by decide +kernel
theorem dX10_bill_5 : decode cX10_bill 5 = .ok (.invokevirtual 175, 3) := by decide +kernel
theorem dX10_bill_8 : decode cX10_bill 8 = .ok (.istore_n 2, 1) := by decide +kernel
theorem dX10_bill_9 : decode cX10_bill 9 = .ok (.iload_n 2, 1) := by decide +kernel
theorem dX10_bill_10 : decode cX10_bill 10 = .ok (.iconst (-1), 1) := by decide +kernel
theorem dX10_bill_11 : decode cX10_bill 11 = .ok (.if_icmp .ne 7, 3) := by decide +kernel
theorem dX10_bill_14 : decode cX10_bill 14 = .ok (.ldc2_w 219, 3) := by decide +kernel
theorem dX10_bill_17 : decode cX10_bill 17 = .ok (.lreturn, 1) := by decide +kernel
theorem dX10_bill_18 : decode cX10_bill 18 = .ok (.aload_n 0, 1) := by decide +kernel
theorem dX10_bill_19 : decode cX10_bill 19 = .ok (.getfield 56, 3) := by decide +kernel
theorem dX10_bill_22 : decode cX10_bill 22 = .ok (.iload_n 1, 1) := by decide +kernel
theorem dX10_bill_23 : decode cX10_bill 23 = .ok (.invokevirtual 221, 3) := by decide +kernel
theorem dX10_bill_26 : decode cX10_bill 26 = .ok (.istore_n 3, 1) := by decide +kernel
theorem dX10_bill_27 : decode cX10_bill 27 = .ok (.aload_n 0, 1) := by decide +kernel
theorem dX10_bill_28 : decode cX10_bill 28 = .ok (.getfield 56, 3) := by decide +kernel
theorem dX10_bill_31 : decode cX10_bill 31 = .ok (.iload_n 1, 1) := by decide +kernel
theorem dX10_bill_32 : decode cX10_bill 32 = .ok (.invokevirtual 224, 3) := by decide +kernel
theorem dX10_bill_35 : decode cX10_bill 35 = .ok (.ifCond .eq 27, 3) := by decide +kernel
theorem dX10_bill_38 : decode cX10_bill 38 = .ok (.aload_n 0, 1) := by decide +kernel
theorem dX10_bill_39 : decode cX10_bill 39 = .ok (.getfield 56, 3) := by decide +kernel
theorem dX10_bill_42 : decode cX10_bill 42 = .ok (.iload_n 1, 1) := by decide +kernel
theorem dX10_bill_43 : decode cX10_bill 43 = .ok (.invokevirtual 227, 3) := by decide +kernel
theorem dX10_bill_46 : decode cX10_bill 46 = .ok (.istore 4, 2) := by decide +kernel
theorem dX10_bill_48 : decode cX10_bill 48 = .ok (.iload 4, 2) := by decide +kernel
theorem dX10_bill_50 : decode cX10_bill 50 = .ok (.ifCond .ne 7, 3) := by decide +kernel
theorem dX10_bill_53 : decode cX10_bill 53 = .ok (.ldc2_w 219, 3) := by decide +kernel
theorem dX10_bill_56 : decode cX10_bill 56 = .ok (.lreturn, 1) := by decide +kernel
theorem dX10_bill_57 : decode cX10_bill 57 = .ok (.iload_n 3, 1) := by decide +kernel
theorem dX10_bill_58 : decode cX10_bill 58 = .ok (.iload 4, 2) := by decide +kernel
theorem dX10_bill_60 : decode cX10_bill 60 = .ok (.iadd, 1) := by decide +kernel
theorem dX10_bill_61 : decode cX10_bill 61 = .ok (.istore_n 3, 1) := by decide +kernel
theorem dX10_bill_62 : decode cX10_bill 62 = .ok (.aload_n 0, 1) := by decide +kernel
theorem dX10_bill_63 : decode cX10_bill 63 = .ok (.getfield 33, 3) := by decide +kernel
theorem dX10_bill_66 : decode cX10_bill 66 = .ok (.iload_n 2, 1) := by decide +kernel
theorem dX10_bill_67 : decode cX10_bill 67 = .ok (.invokevirtual 230, 3) := by decide +kernel
theorem dX10_bill_70 : decode cX10_bill 70 = .ok (.i2l, 1) := by decide +kernel
theorem dX10_bill_71 : decode cX10_bill 71 = .ok (.iload_n 3, 1) := by decide +kernel
theorem dX10_bill_72 : decode cX10_bill 72 = .ok (.i2l, 1) := by decide +kernel
theorem dX10_bill_73 : decode cX10_bill 73 = .ok (.lmul, 1) := by decide +kernel
theorem dX10_bill_74 : decode cX10_bill 74 = .ok (.lstore 4, 2) := by decide +kernel
theorem dX10_bill_76 : decode cX10_bill 76 = .ok (.lconst 0, 1) := by decide +kernel
theorem dX10_bill_77 : decode cX10_bill 77 = .ok (.lload 4, 2) := by decide +kernel
theorem dX10_bill_79 : decode cX10_bill 79 = .ok (.aload_n 0, 1) := by decide +kernel
theorem dX10_bill_80 : decode cX10_bill 80 = .ok (.getfield 77, 3) := by decide +kernel
theorem dX10_bill_83 : decode cX10_bill 83 = .ok (.iload_n 1, 1) := by decide +kernel
theorem dX10_bill_84 : decode cX10_bill 84 = .ok (.invokevirtual 233, 3) := by decide +kernel
theorem dX10_bill_87 : decode cX10_bill 87 = .ok (.iconst 2, 1) := by decide +kernel
theorem dX10_bill_88 : decode cX10_bill 88 = .ok (.idiv, 1) := by decide +kernel
theorem dX10_bill_89 : decode cX10_bill 89 = .ok (.i2l, 1) := by decide +kernel
theorem dX10_bill_90 : decode cX10_bill 90 = .ok (.lsub, 1) := by decide +kernel
theorem dX10_bill_91 : decode cX10_bill 91 = .ok (.invokestatic 236, 3) := by decide +kernel
theorem dX10_bill_94 : decode cX10_bill 94 = .ok (.lreturn, 1) := by decide +kernel
theorem dX10_look_0 : decode cX10_look 0 = .ok (.aload_n 0, 1) := by decide +kernel
theorem dX10_look_1 : decode cX10_look 1 = .ok (.getfield 40, 3) := by decide +kernel
theorem dX10_look_4 : decode cX10_look 4 = .ok (.iload_n 1, 1) := by decide +kernel
theorem dX10_look_5 : decode cX10_look 5 = .ok (.invokevirtual 242, 3) := by decide +kernel
theorem dX10_look_8 : decode cX10_look 8 = .ok (.ifCond .ne 5, 3) := by decide +kernel
theorem dX10_look_11 : decode cX10_look 11 = .ok (.iconst (-1), 1) := by decide +kernel
theorem dX10_look_12 : decode cX10_look 12 = .ok (.ireturn, 1) := by decide +kernel
theorem dX10_look_13 : decode cX10_look 13 = .ok (.iload_n 2, 1) := by decide +kernel
theorem dX10_look_14 : decode cX10_look 14 = .ok (.tableswitch 100 0 5 #[38, 47, 56, 65, 74, 91], 38) := by decide +kernel
theorem dX10_look_52 : decode cX10_look 52 = .ok (.aload_n 0, 1) := by decide +kernel
theorem dX10_look_53 : decode cX10_look 53 = .ok (.getfield 40, 3) := by decide +kernel
theorem dX10_look_56 : decode cX10_look 56 = .ok (.iload_n 1, 1) := by decide +kernel
theorem dX10_look_57 : decode cX10_look 57 = .ok (.invokevirtual 245, 3) := by decide +kernel
theorem dX10_look_60 : decode cX10_look 60 = .ok (.ireturn, 1) := by decide +kernel
theorem dX10_look_61 : decode cX10_look 61 = .ok (.aload_n 0, 1) := by decide +kernel
theorem dX10_look_62 : decode cX10_look 62 = .ok (.getfield 40, 3) := by decide +kernel
theorem dX10_look_65 : decode cX10_look 65 = .ok (.iload_n 1, 1) := by decide +kernel
theorem dX10_look_66 : decode cX10_look 66 = .ok (.invokevirtual 248, 3) := by decide +kernel
theorem dX10_look_69 : decode cX10_look 69 = .ok (.ireturn, 1) := by decide +kernel
theorem dX10_look_70 : decode cX10_look 70 = .ok (.aload_n 0, 1) := by decide +kernel
theorem dX10_look_71 : decode cX10_look 71 = .ok (.getfield 40, 3) := by decide +kernel
theorem dX10_look_74 : decode cX10_look 74 = .ok (.iload_n 1, 1) := by decide +kernel
theorem dX10_look_75 : decode cX10_look 75 = .ok (.invokevirtual 251, 3) := by decide +kernel
theorem dX10_look_78 : decode cX10_look 78 = .ok (.ireturn, 1) := by decide +kernel
theorem dX10_look_79 : decode cX10_look 79 = .ok (.aload_n 0, 1) := by decide +kernel
theorem dX10_look_80 : decode cX10_look 80 = .ok (.getfield 40, 3) := by decide +kernel
theorem dX10_look_83 : decode cX10_look 83 = .ok (.iload_n 1, 1) := by decide +kernel
theorem dX10_look_84 : decode cX10_look 84 = .ok (.invokevirtual 254, 3) := by decide +kernel
theorem dX10_look_87 : decode cX10_look 87 = .ok (.ireturn, 1) := by decide +kernel
theorem dX10_look_88 : decode cX10_look 88 = .ok (.aload_n 0, 1) := by decide +kernel
theorem dX10_look_89 : decode cX10_look 89 = .ok (.getfield 40, 3) := by decide +kernel
theorem dX10_look_92 : decode cX10_look 92 = .ok (.iload_n 1, 1) := by decide +kernel
theorem dX10_look_93 : decode cX10_look 93 = .ok (.invokevirtual 145, 3) := by decide +kernel
theorem dX10_look_96 : decode cX10_look 96 = .ok (.ifCond .eq 7, 3) := by decide +kernel
theorem dX10_look_99 : decode cX10_look 99 = .ok (.iconst 0, 1) := by decide +kernel
theorem dX10_look_100 : decode cX10_look 100 = .ok (.goto 4, 3) := by decide +kernel
theorem dX10_look_103 : decode cX10_look 103 = .ok (.iconst 1, 1) := by decide +kernel
theorem dX10_look_104 : decode cX10_look 104 = .ok (.ireturn, 1) := by decide +kernel
theorem dX10_look_105 : decode cX10_look 105 = .ok (.aload_n 0, 1) := by decide +kernel
theorem dX10_look_106 : decode cX10_look 106 = .ok (.getfield 56, 3) := by decide +kernel
theorem dX10_look_109 : decode cX10_look 109 = .ok (.iload_n 1, 1) := by decide +kernel
theorem dX10_look_110 : decode cX10_look 110 = .ok (.invokevirtual 221, 3) := by decide +kernel
theorem dX10_look_113 : decode cX10_look 113 = .ok (.ireturn, 1) := by decide +kernel
theorem dX10_look_114 : decode cX10_look 114 = .ok (.iconst (-1), 1) := by decide +kernel
theorem dX10_look_115 : decode cX10_look 115 = .ok (.ireturn, 1) := by decide +kernel
theorem dX10_count_0 : decode cX10_count 0 = .ok (.iload_n 1, 1) := by decide +kernel
theorem dX10_count_1 : decode cX10_count 1 = .ok (.tableswitch 120 0 8 #[51, 59, 67, 75, 83, 91, 99, 107, 112], 51) := by decide +kernel
theorem dX10_count_52 : decode cX10_count 52 = .ok (.aload_n 0, 1) := by decide +kernel
theorem dX10_count_53 : decode cX10_count 53 = .ok (.getfield 33, 3) := by decide +kernel
theorem dX10_count_56 : decode cX10_count 56 = .ok (.invokevirtual 257, 3) := by decide +kernel
theorem dX10_count_59 : decode cX10_count 59 = .ok (.ireturn, 1) := by decide +kernel
theorem dX10_count_60 : decode cX10_count 60 = .ok (.aload_n 0, 1) := by decide +kernel
theorem dX10_count_61 : decode cX10_count 61 = .ok (.getfield 40, 3) := by decide +kernel
theorem dX10_count_64 : decode cX10_count 64 = .ok (.invokevirtual 260, 3) := by decide +kernel
theorem dX10_count_67 : decode cX10_count 67 = .ok (.ireturn, 1) := by decide +kernel
theorem dX10_count_68 : decode cX10_count 68 = .ok (.aload_n 0, 1) := by decide +kernel
theorem dX10_count_69 : decode cX10_count 69 = .ok (.getfield 40, 3) := by decide +kernel
theorem dX10_count_72 : decode cX10_count 72 = .ok (.invokevirtual 261, 3) := by decide +kernel
theorem dX10_count_75 : decode cX10_count 75 = .ok (.ireturn, 1) := by decide +kernel
theorem dX10_count_76 : decode cX10_count 76 = .ok (.aload_n 0, 1) := by decide +kernel
theorem dX10_count_77 : decode cX10_count 77 = .ok (.getfield 56, 3) := by decide +kernel
theorem dX10_count_80 : decode cX10_count 80 = .ok (.invokevirtual 169, 3) := by decide +kernel
theorem dX10_count_83 : decode cX10_count 83 = .ok (.ireturn, 1) := by decide +kernel
theorem dX10_count_84 : decode cX10_count 84 = .ok (.aload_n 0, 1) := by decide +kernel
theorem dX10_count_85 : decode cX10_count 85 = .ok (.getfield 56, 3) := by decide +kernel
theorem dX10_count_88 : decode cX10_count 88 = .ok (.invokevirtual 264, 3) := by decide +kernel
theorem dX10_count_91 : decode cX10_count 91 = .ok (.ireturn, 1) := by decide +kernel
theorem dX10_count_92 : decode cX10_count 92 = .ok (.aload_n 0, 1) := by decide +kernel
theorem dX10_count_93 : decode cX10_count 93 = .ok (.getfield 47, 3) := by decide +kernel
theorem dX10_count_96 : decode cX10_count 96 = .ok (.invokevirtual 267, 3) := by decide +kernel
theorem dX10_count_99 : decode cX10_count 99 = .ok (.ireturn, 1) := by decide +kernel
theorem dX10_count_100 : decode cX10_count 100 = .ok (.aload_n 0, 1) := by decide +kernel
theorem dX10_count_101 : decode cX10_count 101 = .ok (.getfield 77, 3) := by decide +kernel
theorem dX10_count_104 : decode cX10_count 104 = .ok (.invokevirtual 268, 3) := by decide +kernel
theorem dX10_count_107 : decode cX10_count 107 = .ok (.ireturn, 1) := by decide +kernel
theorem dX10_count_108 : decode cX10_count 108 = .ok (.aload_n 0, 1) := by decide +kernel
theorem dX10_count_109 : decode cX10_count 109 = .ok (.getfield 81, 3) := by decide +kernel
theorem dX10_count_112 : decode cX10_count 112 = .ok (.ireturn, 1) := by decide +kernel
theorem dX10_count_113 : decode cX10_count 113 = .ok (.aload_n 0, 1) := by decide +kernel
theorem dX10_count_114 : decode cX10_count 114 = .ok (.getfield 12, 3) := by decide +kernel
theorem dX10_count_117 : decode cX10_count 117 = .ok (.invokevirtual 93, 3) := by decide +kernel
theorem dX10_count_120 : decode cX10_count 120 = .ok (.ireturn, 1) := by decide +kernel
theorem dX10_count_121 : decode cX10_count 121 = .ok (.iconst (-1), 1) := by decide +kernel
theorem dX10_count_122 : decode cX10_count 122 = .ok (.ireturn, 1) := by decide +kernel
theorem dX10_flownMove_0 : decode cX10_flownMove 0 = .ok (.iload_n 2, 1) := by decide +kernel
theorem dX10_flownMove_1 : decode cX10_flownMove 1 = .ok (.tableswitch 82 0 4 #[35, 37, 46, 55, 64], 35) := by decide +kernel
theorem dX10_flownMove_36 : decode cX10_flownMove 36 = .ok (.iload_n 1, 1) := by decide +kernel
theorem dX10_flownMove_37 : decode cX10_flownMove 37 = .ok (.ireturn, 1) := by decide +kernel
theorem dX10_flownMove_38 : decode cX10_flownMove 38 = .ok (.aload_n 0, 1) := by decide +kernel
theorem dX10_flownMove_39 : decode cX10_flownMove 39 = .ok (.getfield 40, 3) := by decide +kernel
theorem dX10_flownMove_42 : decode cX10_flownMove 42 = .ok (.iload_n 1, 1) := by decide +kernel
theorem dX10_flownMove_43 : decode cX10_flownMove 43 = .ok (.invokevirtual 245, 3) := by decide +kernel
theorem dX10_flownMove_46 : decode cX10_flownMove 46 = .ok (.ireturn, 1) := by decide +kernel
theorem dX10_flownMove_47 : decode cX10_flownMove 47 = .ok (.aload_n 0, 1) := by decide +kernel
theorem dX10_flownMove_48 : decode cX10_flownMove 48 = .ok (.getfield 40, 3) := by decide +kernel
theorem dX10_flownMove_51 : decode cX10_flownMove 51 = .ok (.iload_n 1, 1) := by decide +kernel
theorem dX10_flownMove_52 : decode cX10_flownMove 52 = .ok (.invokevirtual 248, 3) := by decide +kernel
theorem dX10_flownMove_55 : decode cX10_flownMove 55 = .ok (.ireturn, 1) := by decide +kernel
theorem dX10_flownMove_56 : decode cX10_flownMove 56 = .ok (.aload_n 0, 1) := by decide +kernel
theorem dX10_flownMove_57 : decode cX10_flownMove 57 = .ok (.getfield 40, 3) := by decide +kernel
theorem dX10_flownMove_60 : decode cX10_flownMove 60 = .ok (.iload_n 1, 1) := by decide +kernel
theorem dX10_flownMove_61 : decode cX10_flownMove 61 = .ok (.invokevirtual 251, 3) := by decide +kernel
theorem dX10_flownMove_64 : decode cX10_flownMove 64 = .ok (.ireturn, 1) := by decide +kernel
theorem dX10_flownMove_65 : decode cX10_flownMove 65 = .ok (.aload_n 0, 1) := by decide +kernel
theorem dX10_flownMove_66 : decode cX10_flownMove 66 = .ok (.getfield 40, 3) := by decide +kernel
theorem dX10_flownMove_69 : decode cX10_flownMove 69 = .ok (.iload_n 1, 1) := by decide +kernel
theorem dX10_flownMove_70 : decode cX10_flownMove 70 = .ok (.invokevirtual 251, 3) := by decide +kernel
theorem dX10_flownMove_73 : decode cX10_flownMove 73 = .ok (.aload_n 0, 1) := by decide +kernel
theorem dX10_flownMove_74 : decode cX10_flownMove 74 = .ok (.getfield 56, 3) := by decide +kernel
theorem dX10_flownMove_77 : decode cX10_flownMove 77 = .ok (.iload_n 1, 1) := by decide +kernel
theorem dX10_flownMove_78 : decode cX10_flownMove 78 = .ok (.invokevirtual 221, 3) := by decide +kernel
theorem dX10_flownMove_81 : decode cX10_flownMove 81 = .ok (.iadd, 1) := by decide +kernel
theorem dX10_flownMove_82 : decode cX10_flownMove 82 = .ok (.ireturn, 1) := by decide +kernel
theorem dX10_flownMove_83 : decode cX10_flownMove 83 = .ok (.iconst (-1), 1) := by decide +kernel
theorem dX10_flownMove_84 : decode cX10_flownMove 84 = .ok (.ireturn, 1) := by decide +kernel
theorem dX10_emptyMove_0 : decode cX10_emptyMove 0 = .ok (.iload_n 2, 1) := by decide +kernel
theorem dX10_emptyMove_1 : decode cX10_emptyMove 1 = .ok (.iconst 1, 1) := by decide +kernel
theorem dX10_emptyMove_2 : decode cX10_emptyMove 2 = .ok (.if_icmp .ne 12, 3) := by decide +kernel
theorem dX10_emptyMove_5 : decode cX10_emptyMove 5 = .ok (.aload_n 0, 1) := by decide +kernel
theorem dX10_emptyMove_6 : decode cX10_emptyMove 6 = .ok (.getfield 56, 3) := by decide +kernel
theorem dX10_emptyMove_9 : decode cX10_emptyMove 9 = .ok (.iload_n 1, 1) := by decide +kernel
theorem dX10_emptyMove_10 : decode cX10_emptyMove 10 = .ok (.invokevirtual 194, 3) := by decide +kernel
theorem dX10_emptyMove_13 : decode cX10_emptyMove 13 = .ok (.ireturn, 1) := by decide +kernel
theorem dX10_emptyMove_14 : decode cX10_emptyMove 14 = .ok (.iload_n 2, 1) := by decide +kernel
theorem dX10_emptyMove_15 : decode cX10_emptyMove 15 = .ok (.iconst 2, 1) := by decide +kernel
theorem dX10_emptyMove_16 : decode cX10_emptyMove 16 = .ok (.if_icmp .ne 12, 3) := by decide +kernel
theorem dX10_emptyMove_19 : decode cX10_emptyMove 19 = .ok (.aload_n 0, 1) := by decide +kernel
theorem dX10_emptyMove_20 : decode cX10_emptyMove 20 = .ok (.getfield 40, 3) := by decide +kernel
theorem dX10_emptyMove_23 : decode cX10_emptyMove 23 = .ok (.iload_n 1, 1) := by decide +kernel
theorem dX10_emptyMove_24 : decode cX10_emptyMove 24 = .ok (.invokevirtual 245, 3) := by decide +kernel
theorem dX10_emptyMove_27 : decode cX10_emptyMove 27 = .ok (.ireturn, 1) := by decide +kernel
theorem dX10_emptyMove_28 : decode cX10_emptyMove 28 = .ok (.aload_n 0, 1) := by decide +kernel
theorem dX10_emptyMove_29 : decode cX10_emptyMove 29 = .ok (.getfield 56, 3) := by decide +kernel
theorem dX10_emptyMove_32 : decode cX10_emptyMove 32 = .ok (.iload_n 1, 1) := by decide +kernel
theorem dX10_emptyMove_33 : decode cX10_emptyMove 33 = .ok (.invokevirtual 227, 3) := by decide +kernel
theorem dX10_emptyMove_36 : decode cX10_emptyMove 36 = .ok (.istore_n 3, 1) := by decide +kernel
theorem dX10_emptyMove_37 : decode cX10_emptyMove 37 = .ok (.iload_n 3, 1) := by decide +kernel
theorem dX10_emptyMove_38 : decode cX10_emptyMove 38 = .ok (.ifCond .eq 13, 3) := by decide +kernel
theorem dX10_emptyMove_41 : decode cX10_emptyMove 41 = .ok (.iload_n 2, 1) := by decide +kernel
theorem dX10_emptyMove_42 : decode cX10_emptyMove 42 = .ok (.iconst 3, 1) := by decide +kernel
theorem dX10_emptyMove_43 : decode cX10_emptyMove 43 = .ok (.if_icmp .eq 10, 3) := by decide +kernel
theorem dX10_emptyMove_46 : decode cX10_emptyMove 46 = .ok (.iload_n 2, 1) := by decide +kernel
theorem dX10_emptyMove_47 : decode cX10_emptyMove 47 = .ok (.iconst 4, 1) := by decide +kernel
theorem dX10_emptyMove_48 : decode cX10_emptyMove 48 = .ok (.if_icmp .eq 5, 3) := by decide +kernel
theorem dX10_emptyMove_51 : decode cX10_emptyMove 51 = .ok (.iconst (-1), 1) := by decide +kernel
theorem dX10_emptyMove_52 : decode cX10_emptyMove 52 = .ok (.ireturn, 1) := by decide +kernel
theorem dX10_emptyMove_53 : decode cX10_emptyMove 53 = .ok (.aload_n 0, 1) := by decide +kernel
theorem dX10_emptyMove_54 : decode cX10_emptyMove 54 = .ok (.getfield 40, 3) := by decide +kernel
theorem dX10_emptyMove_57 : decode cX10_emptyMove 57 = .ok (.iload_n 1, 1) := by decide +kernel
theorem dX10_emptyMove_58 : decode cX10_emptyMove 58 = .ok (.invokevirtual 251, 3) := by decide +kernel
theorem dX10_emptyMove_61 : decode cX10_emptyMove 61 = .ok (.aload_n 0, 1) := by decide +kernel
theorem dX10_emptyMove_62 : decode cX10_emptyMove 62 = .ok (.getfield 33, 3) := by decide +kernel
theorem dX10_emptyMove_65 : decode cX10_emptyMove 65 = .ok (.aload_n 0, 1) := by decide +kernel
theorem dX10_emptyMove_66 : decode cX10_emptyMove 66 = .ok (.getfield 56, 3) := by decide +kernel
theorem dX10_emptyMove_69 : decode cX10_emptyMove 69 = .ok (.iload_n 1, 1) := by decide +kernel
theorem dX10_emptyMove_70 : decode cX10_emptyMove 70 = .ok (.invokevirtual 175, 3) := by decide +kernel
theorem dX10_emptyMove_73 : decode cX10_emptyMove 73 = .ok (.invokevirtual 269, 3) := by decide +kernel
theorem dX10_emptyMove_76 : decode cX10_emptyMove 76 = .ok (.isub, 1) := by decide +kernel
theorem dX10_emptyMove_77 : decode cX10_emptyMove 77 = .ok (.istore 4, 2) := by decide +kernel
theorem dX10_emptyMove_79 : decode cX10_emptyMove 79 = .ok (.iload_n 2, 1) := by decide +kernel
theorem dX10_emptyMove_80 : decode cX10_emptyMove 80 = .ok (.iconst 4, 1) := by decide +kernel
theorem dX10_emptyMove_81 : decode cX10_emptyMove 81 = .ok (.if_icmp .ne 8, 3) := by decide +kernel
theorem dX10_emptyMove_84 : decode cX10_emptyMove 84 = .ok (.iload 4, 2) := by decide +kernel
theorem dX10_emptyMove_86 : decode cX10_emptyMove 86 = .ok (.goto 7, 3) := by decide +kernel
theorem dX10_emptyMove_89 : decode cX10_emptyMove 89 = .ok (.iload 4, 2) := by decide +kernel
theorem dX10_emptyMove_91 : decode cX10_emptyMove 91 = .ok (.iload_n 3, 1) := by decide +kernel
theorem dX10_emptyMove_92 : decode cX10_emptyMove 92 = .ok (.isub, 1) := by decide +kernel
theorem dX10_emptyMove_93 : decode cX10_emptyMove 93 = .ok (.ireturn, 1) := by decide +kernel
theorem dX10_isWithin_0 : decode cX10_isWithin 0 = .ok (.iload_n 0, 1) := by decide +kernel
theorem dX10_isWithin_1 : decode cX10_isWithin 1 = .ok (.iload_n 1, 1) := by decide +kernel
theorem dX10_isWithin_2 : decode cX10_isWithin 2 = .ok (.if_icmp .lt 12, 3) := by decide +kernel
theorem dX10_isWithin_5 : decode cX10_isWithin 5 = .ok (.iload_n 0, 1) := by decide +kernel
theorem dX10_isWithin_6 : decode cX10_isWithin 6 = .ok (.iload_n 2, 1) := by decide +kernel
theorem dX10_isWithin_7 : decode cX10_isWithin 7 = .ok (.if_icmp .gt 7, 3) := by decide +kernel
theorem dX10_isWithin_10 : decode cX10_isWithin 10 = .ok (.iconst 1, 1) := by decide +kernel
theorem dX10_isWithin_11 : decode cX10_isWithin 11 = .ok (.goto 4, 3) := by decide +kernel
theorem dX10_isWithin_14 : decode cX10_isWithin 14 = .ok (.iconst 0, 1) := by decide +kernel
theorem dX10_isWithin_15 : decode cX10_isWithin 15 = .ok (.ireturn, 1) := by decide +kernel
theorem dX10_isField_0 : decode cX10_isField 0 = .ok (.iload_n 0, 1) := by decide +kernel
theorem dX10_isField_1 : decode cX10_isField 1 = .ok (.ifCond .lt 13, 3) := by decide +kernel
theorem dX10_isField_4 : decode cX10_isField 4 = .ok (.iload_n 0, 1) := by decide +kernel
theorem dX10_isField_5 : decode cX10_isField 5 = .ok (.bipush 8, 2) := by decide +kernel
theorem dX10_isField_7 : decode cX10_isField 7 = .ok (.if_icmp .ge 7, 3) := by decide +kernel
theorem dX10_isField_10 : decode cX10_isField 10 = .ok (.iconst 1, 1) := by decide +kernel
theorem dX10_isField_11 : decode cX10_isField 11 = .ok (.goto 4, 3) := by decide +kernel
theorem dX10_isField_14 : decode cX10_isField 14 = .ok (.iconst 0, 1) := by decide +kernel
theorem dX10_isField_15 : decode cX10_isField 15 = .ok (.ireturn, 1) := by decide +kernel
theorem dX10_isDay_0 : decode cX10_isDay 0 = .ok (.iload_n 0, 1) := by decide +kernel
theorem dX10_isDay_1 : decode cX10_isDay 1 = .ok (.ifCond .lt 13, 3) := by decide +kernel
theorem dX10_isDay_4 : decode cX10_isDay 4 = .ok (.iload_n 0, 1) := by decide +kernel
theorem dX10_isDay_5 : decode cX10_isDay 5 = .ok (.bipush 7, 2) := by decide +kernel
theorem dX10_isDay_7 : decode cX10_isDay 7 = .ok (.if_icmp .ge 7, 3) := by decide +kernel
theorem dX10_isDay_10 : decode cX10_isDay 10 = .ok (.iconst 1, 1) := by decide +kernel
theorem dX10_isDay_11 : decode cX10_isDay 11 = .ok (.goto 4, 3) := by decide +kernel
theorem dX10_isDay_14 : decode cX10_isDay 14 = .ok (.iconst 0, 1) := by decide +kernel
theorem dX10_isDay_15 : decode cX10_isDay 15 = .ok (.ireturn, 1) := by decide +kernel
theorem dX10_isMinute_0 : decode cX10_isMinute 0 = .ok (.iload_n 0, 1) := by decide +kernel
theorem dX10_isMinute_1 : decode cX10_isMinute 1 = .ok (.ifCond .lt 14, 3) := by decide +kernel
theorem dX10_isMinute_4 : decode cX10_isMinute 4 = .ok (.iload_n 0, 1) := by decide +kernel
theorem dX10_isMinute_5 : decode cX10_isMinute 5 = .ok (.sipush 10080, 3) := by decide +kernel
theorem dX10_isMinute_8 : decode cX10_isMinute 8 = .ok (.if_icmp .ge 7, 3) := by decide +kernel
theorem dX10_isMinute_11 : decode cX10_isMinute 11 = .ok (.iconst 1, 1) := by decide +kernel
theorem dX10_isMinute_12 : decode cX10_isMinute 12 = .ok (.goto 4, 3) := by decide +kernel
theorem dX10_isMinute_15 : decode cX10_isMinute 15 = .ok (.iconst 0, 1) := by decide +kernel
theorem dX10_isMinute_16 : decode cX10_isMinute 16 = .ok (.ireturn, 1) := by decide +kernel
theorem dX11_init_0 : decode cX11_init 0 = .ok (.aload_n 0, 1) := by decide +kernel
theorem dX11_init_1 : decode cX11_init 1 = .ok (.invokespecial 1, 3) := by decide +kernel
theorem dX11_init_4 : decode cX11_init 4 = .ok (.aload_n 0, 1) := by decide +kernel
theorem dX11_init_5 : decode cX11_init 5 = .ok (.bipush 40, 2) := by decide +kernel
theorem dX11_init_7 : decode cX11_init 7 = .ok (.newarray .byte, 2) := by decide +kernel
theorem dX11_init_9 : decode cX11_init 9 = .ok (.putfield 7, 3) := by decide +kernel
theorem dX11_init_12 : decode cX11_init 12 = .ok (.aload_n 0, 1) := by decide +kernel
theorem dX11_init_13 : decode cX11_init 13 = .ok (.bipush 7, 2) := by decide +kernel
theorem dX11_init_15 : decode cX11_init 15 = .ok (.newarray .boolean, 2) := by decide +kernel
theorem dX11_init_17 : decode cX11_init 17 = .ok (.putfield 13, 3) := by decide +kernel
theorem dX11_init_20 : decode cX11_init 20 = .ok (.aload_n 0, 1) := by decide +kernel
theorem dX11_init_21 : decode cX11_init 21 = .ok (.bipush 7, 2) := by decide +kernel
theorem dX11_init_23 : decode cX11_init 23 = .ok (.newarray .int, 2) := by decide +kernel
theorem dX11_init_25 : decode cX11_init 25 = .ok (.putfield 17, 3) := by decide +kernel
theorem dX11_init_28 : decode cX11_init 28 = .ok (.aload_n 0, 1) := by decide +kernel
theorem dX11_init_29 : decode cX11_init 29 = .ok (.bipush 7, 2) := by decide +kernel
theorem dX11_init_31 : decode cX11_init 31 = .ok (.newarray .int, 2) := by decide +kernel
theorem dX11_init_33 : decode cX11_init 33 = .ok (.putfield 21, 3) := by decide +kernel
theorem dX11_init_36 : decode cX11_init 36 = .ok (.aload_n 0, 1) := by decide +kernel
theorem dX11_init_37 : decode cX11_init 37 = .ok (.bipush 64, 2) := by decide +kernel
theorem dX11_init_39 : decode cX11_init 39 = .ok (.newarray .int, 2) := by decide +kernel
theorem dX11_init_41 : decode cX11_init 41 = .ok (.putfield 24, 3) := by decide +kernel
theorem dX11_init_44 : decode cX11_init 44 = .ok (.aload_n 0, 1) := by decide +kernel
theorem dX11_init_45 : decode cX11_init 45 = .ok (.iconst 4, 1) := by decide +kernel
theorem dX11_init_46 : decode cX11_init 46 = .ok (.newarray .int, 2) := by decide +kernel
theorem dX11_init_48 : decode cX11_init 48 = .ok (.putfield 27, 3) := by decide +kernel
theorem dX11_init_51 : decode cX11_init 51 = .ok (.aload_n 0, 1) := by decide +kernel
theorem dX11_init_52 : decode cX11_init 52 = .ok (.iconst 4, 1) := by decide +kernel
theorem dX11_init_53 : decode cX11_init 53 = .ok (.newarray .int, 2) := by decide +kernel
theorem dX11_init_55 : decode cX11_init 55 = .ok (.putfield 30, 3) := by decide +kernel
theorem dX11_init_58 : decode cX11_init 58 = .ok (.aload_n 0, 1) := by decide +kernel
theorem dX11_init_59 : decode cX11_init 59 = .ok (.iconst 4, 1) := by decide +kernel
theorem dX11_init_60 : decode cX11_init 60 = .ok (.newarray .int, 2) := by decide +kernel
theorem dX11_init_62 : decode cX11_init 62 = .ok (.putfield 33, 3) := by decide +kernel
theorem dX11_init_65 : decode cX11_init 65 = .ok (.aload_n 0, 1) := by decide +kernel
theorem dX11_init_66 : decode cX11_init 66 = .ok (.iconst 4, 1) := by decide +kernel
theorem dX11_init_67 : decode cX11_init 67 = .ok (.newarray .int, 2) := by decide +kernel
theorem dX11_init_69 : decode cX11_init 69 = .ok (.putfield 36, 3) := by decide +kernel
theorem dX11_init_72 : decode cX11_init 72 = .ok (.aload_n 0, 1) := by decide +kernel
theorem dX11_init_73 : decode cX11_init 73 = .ok (.bipush 20, 2) := by decide +kernel
theorem dX11_init_75 : decode cX11_init 75 = .ok (.newarray .int, 2) := by decide +kernel
theorem dX11_init_77 : decode cX11_init 77 = .ok (.putfield 39, 3) := by decide +kernel
theorem dX11_init_80 : decode cX11_init 80 = .ok (.aload_n 0, 1) := by decide +kernel
theorem dX11_init_81 : decode cX11_init 81 = .ok (.bipush 20, 2) := by decide +kernel
theorem dX11_init_83 : decode cX11_init 83 = .ok (.newarray .int, 2) := by decide +kernel
theorem dX11_init_85 : decode cX11_init 85 = .ok (.putfield 42, 3) := by decide +kernel
theorem dX11_init_88 : decode cX11_init 88 = .ok (.aload_n 0, 1) := by decide +kernel
theorem dX11_init_89 : decode cX11_init 89 = .ok (.bipush 20, 2) := by decide +kernel
theorem dX11_init_91 : decode cX11_init 91 = .ok (.newarray .int, 2) := by decide +kernel
theorem dX11_init_93 : decode cX11_init 93 = .ok (.putfield 45, 3) := by decide +kernel
theorem dX11_init_96 : decode cX11_init 96 = .ok (.aload_n 0, 1) := by decide +kernel
theorem dX11_init_97 : decode cX11_init 97 = .ok (.bipush 20, 2) := by decide +kernel
theorem dX11_init_99 : decode cX11_init 99 = .ok (.newarray .int, 2) := by decide +kernel
theorem dX11_init_101 : decode cX11_init 101 = .ok (.putfield 48, 3) := by decide +kernel
theorem dX11_init_104 : decode cX11_init 104 = .ok (.aload_n 0, 1) := by decide +kernel
theorem dX11_init_105 : decode cX11_init 105 = .ok (.bipush 20, 2) := by decide +kernel
theorem dX11_init_107 : decode cX11_init 107 = .ok (.newarray .boolean, 2) := by decide +kernel
theorem dX11_init_109 : decode cX11_init 109 = .ok (.putfield 51, 3) := by decide +kernel
theorem dX11_init_112 : decode cX11_init 112 = .ok (.aload_n 0, 1) := by decide +kernel
theorem dX11_init_113 : decode cX11_init 113 = .ok (.bipush 20, 2) := by decide +kernel
theorem dX11_init_115 : decode cX11_init 115 = .ok (.newarray .int, 2) := by decide +kernel
theorem dX11_init_117 : decode cX11_init 117 = .ok (.putfield 54, 3) := by decide +kernel
theorem dX11_init_120 : decode cX11_init 120 = .ok (.aload_n 0, 1) := by decide +kernel
theorem dX11_init_121 : decode cX11_init 121 = .ok (.bipush 20, 2) := by decide +kernel
theorem dX11_init_123 : decode cX11_init 123 = .ok (.newarray .int, 2) := by decide +kernel
theorem dX11_init_125 : decode cX11_init 125 = .ok (.putfield 57, 3) := by decide +kernel
theorem dX11_init_128 : decode cX11_init 128 = .ok (.aload_n 0, 1) := by decide +kernel
theorem dX11_init_129 : decode cX11_init 129 = .ok (.bipush 20, 2) := by decide +kernel
theorem dX11_init_131 : decode cX11_init 131 = .ok (.newarray .int, 2) := by decide +kernel
theorem dX11_init_133 : decode cX11_init 133 = .ok (.putfield 60, 3) := by decide +kernel
theorem dX11_init_136 : decode cX11_init 136 = .ok (.aload_n 0, 1) := by decide +kernel
theorem dX11_init_137 : decode cX11_init 137 = .ok (.bipush 20, 2) := by decide +kernel
theorem dX11_init_139 : decode cX11_init 139 = .ok (.newarray .int, 2) := by decide +kernel
theorem dX11_init_141 : decode cX11_init 141 = .ok (.putfield 63, 3) := by decide +kernel
theorem dX11_init_144 : decode cX11_init 144 = .ok (.aload_n 0, 1) := by decide +kernel
theorem dX11_init_145 : decode cX11_init 145 = .ok (.bipush 40, 2) := by decide +kernel
theorem dX11_init_147 : decode cX11_init 147 = .ok (.newarray .int, 2) := by decide +kernel
theorem dX11_init_149 : decode cX11_init 149 = .ok (.putfield 66, 3) := by decide +kernel
theorem dX11_init_152 : decode cX11_init 152 = .ok (.aload_n 0, 1) := by decide +kernel
theorem dX11_init_153 : decode cX11_init 153 = .ok (.bipush 40, 2) := by decide +kernel
theorem dX11_init_155 : decode cX11_init 155 = .ok (.newarray .int, 2) := by decide +kernel
theorem dX11_init_157 : decode cX11_init 157 = .ok (.putfield 69, 3) := by decide +kernel
theorem dX11_init_160 : decode cX11_init 160 = .ok (.aload_n 0, 1) := by decide +kernel
theorem dX11_init_161 : decode cX11_init 161 = .ok (.bipush 40, 2) := by decide +kernel
theorem dX11_init_163 : decode cX11_init 163 = .ok (.newarray .int, 2) := by decide +kernel
theorem dX11_init_165 : decode cX11_init 165 = .ok (.putfield 72, 3) := by decide +kernel
theorem dX11_init_168 : decode cX11_init 168 = .ok (.aload_n 0, 1) := by decide +kernel
theorem dX11_init_169 : decode cX11_init 169 = .ok (.bipush 40, 2) := by decide +kernel
theorem dX11_init_171 : decode cX11_init 171 = .ok (.newarray .int, 2) := by decide +kernel
theorem dX11_init_173 : decode cX11_init 173 = .ok (.putfield 75, 3) := by decide +kernel
theorem dX11_init_176 : decode cX11_init 176 = .ok (.aload_n 0, 1) := by decide +kernel
theorem dX11_init_177 : decode cX11_init 177 = .ok (.bipush 40, 2) := by decide +kernel
theorem dX11_init_179 : decode cX11_init 179 = .ok (.newarray .int, 2) := by decide +kernel
theorem dX11_init_181 : decode cX11_init 181 = .ok (.putfield 78, 3) := by decide +kernel
theorem dX11_init_184 : decode cX11_init 184 = .ok (.aload_n 0, 1) := by decide +kernel
theorem dX11_init_185 : decode cX11_init 185 = .ok (.bipush 40, 2) := by decide +kernel
theorem dX11_init_187 : decode cX11_init 187 = .ok (.newarray .int, 2) := by decide +kernel
theorem dX11_init_189 : decode cX11_init 189 = .ok (.putfield 81, 3) := by decide +kernel
theorem dX11_init_192 : decode cX11_init 192 = .ok (.aload_n 0, 1) := by decide +kernel
