theorem dX0_init_0 : decode cX0_init 0 = .ok (.aload_n 0, 1) := by decide +kernel
theorem dX0_init_1 : decode cX0_init 1 = .ok (.invokespecial 3, 3) := by decide +kernel
theorem dX0_init_4 : decode cX0_init 4 = .ok (.aload_n 0, 1) := by decide +kernel
theorem dX0_init_5 : decode cX0_init 5 = .ok (.aload_n 1, 1) := by decide +kernel
theorem dX0_init_6 : decode cX0_init 6 = .ok (.putfield 9, 3) := by decide +kernel
theorem dX0_init_9 : decode cX0_init 9 = .ok (.aload_n 0, 1) := by decide +kernel
theorem dX0_init_10 : decode cX0_init 10 = .ok (.aload_n 2, 1) := by decide +kernel
theorem dX0_init_11 : decode cX0_init 11 = .ok (.putfield 15, 3) := by decide +kernel
theorem dX0_init_14 : decode cX0_init 14 = .ok (.aload_n 0, 1) := by decide +kernel
theorem dX0_init_15 : decode cX0_init 15 = .ok (.aload_n 3, 1) := by decide +kernel
theorem dX0_init_16 : decode cX0_init 16 = .ok (.putfield 19, 3) := by decide +kernel
theorem dX0_init_19 : decode cX0_init 19 = .ok (.aload_n 0, 1) := by decide +kernel
theorem dX0_init_20 : decode cX0_init 20 = .ok (.aload 4, 2) := by decide +kernel
theorem dX0_init_22 : decode cX0_init 22 = .ok (.putfield 23, 3) := by decide +kernel
theorem dX0_init_25 : decode cX0_init 25 = .ok (.aload_n 0, 1) := by decide +kernel
theorem dX0_init_26 : decode cX0_init 26 = .ok (.aload 5, 2) := by decide +kernel
theorem dX0_init_28 : decode cX0_init 28 = .ok (.putfield 27, 3) := by decide +kernel
theorem dX0_init_31 : decode cX0_init 31 = .ok (.return_, 1) := by decide +kernel
theorem dX0_begin_0 : decode cX0_begin 0 = .ok (.aload_n 0, 1) := by decide +kernel
theorem dX0_begin_1 : decode cX0_begin 1 = .ok (.aload_n 0, 1) := by decide +kernel
theorem dX0_begin_2 : decode cX0_begin 2 = .ok (.getfield 9, 3) := by decide +kernel
theorem dX0_begin_5 : decode cX0_begin 5 = .ok (.iload_n 1, 1) := by decide +kernel
theorem dX0_begin_6 : decode cX0_begin 6 = .ok (.invokevirtual 31, 3) := by decide +kernel
theorem dX0_begin_9 : decode cX0_begin 9 = .ok (.putfield 37, 3) := by decide +kernel
theorem dX0_begin_12 : decode cX0_begin 12 = .ok (.aload_n 0, 1) := by decide +kernel
theorem dX0_begin_13 : decode cX0_begin 13 = .ok (.aload_n 0, 1) := by decide +kernel
theorem dX0_begin_14 : decode cX0_begin 14 = .ok (.getfield 9, 3) := by decide +kernel
theorem dX0_begin_17 : decode cX0_begin 17 = .ok (.iload_n 1, 1) := by decide +kernel
theorem dX0_begin_18 : decode cX0_begin 18 = .ok (.invokevirtual 41, 3) := by decide +kernel
theorem dX0_begin_21 : decode cX0_begin 21 = .ok (.putfield 44, 3) := by decide +kernel
theorem dX0_begin_24 : decode cX0_begin 24 = .ok (.aload_n 0, 1) := by decide +kernel
theorem dX0_begin_25 : decode cX0_begin 25 = .ok (.aload_n 0, 1) := by decide +kernel
theorem dX0_begin_26 : decode cX0_begin 26 = .ok (.getfield 9, 3) := by decide +kernel
theorem dX0_begin_29 : decode cX0_begin 29 = .ok (.iload_n 1, 1) := by decide +kernel
theorem dX0_begin_30 : decode cX0_begin 30 = .ok (.invokevirtual 47, 3) := by decide +kernel
theorem dX0_begin_33 : decode cX0_begin 33 = .ok (.iconst 0, 1) := by decide +kernel
theorem dX0_begin_34 : decode cX0_begin 34 = .ok (.iconst (-1), 1) := by decide +kernel
theorem dX0_begin_35 : decode cX0_begin 35 = .ok (.invokevirtual 50, 3) := by decide +kernel
theorem dX0_begin_38 : decode cX0_begin 38 = .ok (.return_, 1) := by decide +kernel
theorem dX0_resume_0 : decode cX0_resume 0 = .ok (.aload_n 0, 1) := by decide +kernel
theorem dX0_resume_1 : decode cX0_resume 1 = .ok (.iload_n 1, 1) := by decide +kernel
theorem dX0_resume_2 : decode cX0_resume 2 = .ok (.putfield 54, 3) := by decide +kernel
theorem dX0_resume_5 : decode cX0_resume 5 = .ok (.aload_n 0, 1) := by decide +kernel
theorem dX0_resume_6 : decode cX0_resume 6 = .ok (.iload_n 2, 1) := by decide +kernel
theorem dX0_resume_7 : decode cX0_resume 7 = .ok (.putfield 57, 3) := by decide +kernel
theorem dX0_resume_10 : decode cX0_resume 10 = .ok (.aload_n 0, 1) := by decide +kernel
theorem dX0_resume_11 : decode cX0_resume 11 = .ok (.iload_n 3, 1) := by decide +kernel
theorem dX0_resume_12 : decode cX0_resume 12 = .ok (.putfield 60, 3) := by decide +kernel
theorem dX0_resume_15 : decode cX0_resume 15 = .ok (.return_, 1) := by decide +kernel
theorem dX0_place_0 : decode cX0_place 0 = .ok (.aload_n 0, 1) := by decide +kernel
theorem dX0_place_1 : decode cX0_place 1 = .ok (.getfield 54, 3) := by decide +kernel
theorem dX0_place_4 : decode cX0_place 4 = .ok (.ireturn, 1) := by decide +kernel
theorem dX0_ended_0 : decode cX0_ended 0 = .ok (.aload_n 0, 1) := by decide +kernel
theorem dX0_ended_1 : decode cX0_ended 1 = .ok (.getfield 57, 3) := by decide +kernel
theorem dX0_ended_4 : decode cX0_ended 4 = .ok (.ireturn, 1) := by decide +kernel
theorem dX0_dutyBegan_0 : decode cX0_dutyBegan 0 = .ok (.aload_n 0, 1) := by decide +kernel
theorem dX0_dutyBegan_1 : decode cX0_dutyBegan 1 = .ok (.getfield 60, 3) := by decide +kernel
theorem dX0_dutyBegan_4 : decode cX0_dutyBegan 4 = .ok (.ireturn, 1) := by decide +kernel
theorem dX0_join_0 : decode cX0_join 0 = .ok (.aload_n 0, 1) := by decide +kernel
theorem dX0_join_1 : decode cX0_join 1 = .ok (.getfield 37, 3) := by decide +kernel
theorem dX0_join_4 : decode cX0_join 4 = .ok (.aload_n 0, 1) := by decide +kernel
theorem dX0_join_5 : decode cX0_join 5 = .ok (.getfield 15, 3) := by decide +kernel
theorem dX0_join_8 : decode cX0_join 8 = .ok (.iload_n 1, 1) := by decide +kernel
theorem dX0_join_9 : decode cX0_join 9 = .ok (.invokevirtual 63, 3) := by decide +kernel
theorem dX0_join_12 : decode cX0_join 12 = .ok (.if_icmp .ge 5, 3) := by decide +kernel
theorem dX0_join_15 : decode cX0_join 15 = .ok (.iconst (-1), 1) := by decide +kernel
theorem dX0_join_16 : decode cX0_join 16 = .ok (.ireturn, 1) := by decide +kernel
theorem dX0_join_17 : decode cX0_join 17 = .ok (.aload_n 0, 1) := by decide +kernel
theorem dX0_join_18 : decode cX0_join 18 = .ok (.getfield 15, 3) := by decide +kernel
theorem dX0_join_21 : decode cX0_join 21 = .ok (.iload_n 1, 1) := by decide +kernel
theorem dX0_join_22 : decode cX0_join 22 = .ok (.invokevirtual 66, 3) := by decide +kernel
theorem dX0_join_25 : decode cX0_join 25 = .ok (.istore_n 2, 1) := by decide +kernel
theorem dX0_join_26 : decode cX0_join 26 = .ok (.aload_n 0, 1) := by decide +kernel
theorem dX0_join_27 : decode cX0_join 27 = .ok (.getfield 15, 3) := by decide +kernel
theorem dX0_join_30 : decode cX0_join 30 = .ok (.iload_n 1, 1) := by decide +kernel
theorem dX0_join_31 : decode cX0_join 31 = .ok (.invokevirtual 69, 3) := by decide +kernel
theorem dX0_join_34 : decode cX0_join 34 = .ok (.istore_n 3, 1) := by decide +kernel
theorem dX0_join_35 : decode cX0_join 35 = .ok (.iconst 0, 1) := by decide +kernel
theorem dX0_join_36 : decode cX0_join 36 = .ok (.istore 4, 2) := by decide +kernel
theorem dX0_join_38 : decode cX0_join 38 = .ok (.aload_n 0, 1) := by decide +kernel
theorem dX0_join_39 : decode cX0_join 39 = .ok (.getfield 54, 3) := by decide +kernel
theorem dX0_join_42 : decode cX0_join 42 = .ok (.iload_n 2, 1) := by decide +kernel
theorem dX0_join_43 : decode cX0_join 43 = .ok (.if_icmp .eq 47, 3) := by decide +kernel
theorem dX0_join_46 : decode cX0_join 46 = .ok (.aload_n 0, 1) := by decide +kernel
theorem dX0_join_47 : decode cX0_join 47 = .ok (.getfield 19, 3) := by decide +kernel
theorem dX0_join_50 : decode cX0_join 50 = .ok (.aload_n 0, 1) := by decide +kernel
theorem dX0_join_51 : decode cX0_join 51 = .ok (.getfield 54, 3) := by decide +kernel
theorem dX0_join_54 : decode cX0_join 54 = .ok (.iload_n 2, 1) := by decide +kernel
theorem dX0_join_55 : decode cX0_join 55 = .ok (.invokevirtual 72, 3) := by decide +kernel
theorem dX0_join_58 : decode cX0_join 58 = .ok (.istore 4, 2) := by decide +kernel
theorem dX0_join_60 : decode cX0_join 60 = .ok (.iload_n 3, 1) := by decide +kernel
theorem dX0_join_61 : decode cX0_join 61 = .ok (.aload_n 0, 1) := by decide +kernel
theorem dX0_join_62 : decode cX0_join 62 = .ok (.getfield 44, 3) := by decide +kernel
theorem dX0_join_65 : decode cX0_join 65 = .ok (.isub, 1) := by decide +kernel
theorem dX0_join_66 : decode cX0_join 66 = .ok (.istore 5, 2) := by decide +kernel
theorem dX0_join_68 : decode cX0_join 68 = .ok (.iload 4, 2) := by decide +kernel
theorem dX0_join_70 : decode cX0_join 70 = .ok (.ifCond .eq 18, 3) := by decide +kernel
theorem dX0_join_73 : decode cX0_join 73 = .ok (.aload_n 0, 1) := by decide +kernel
theorem dX0_join_74 : decode cX0_join 74 = .ok (.iload_n 2, 1) := by decide +kernel
theorem dX0_join_75 : decode cX0_join 75 = .ok (.iload 5, 2) := by decide +kernel
theorem dX0_join_77 : decode cX0_join 77 = .ok (.iload 4, 2) := by decide +kernel
theorem dX0_join_79 : decode cX0_join 79 = .ok (.isub, 1) := by decide +kernel
theorem dX0_join_80 : decode cX0_join 80 = .ok (.iload 5, 2) := by decide +kernel
theorem dX0_join_82 : decode cX0_join 82 = .ok (.invokevirtual 78, 3) := by decide +kernel
theorem dX0_join_85 : decode cX0_join 85 = .ok (.ifCond .ne 5, 3) := by decide +kernel
theorem dX0_join_88 : decode cX0_join 88 = .ok (.iconst (-1), 1) := by decide +kernel
theorem dX0_join_89 : decode cX0_join 89 = .ok (.ireturn, 1) := by decide +kernel
theorem dX0_join_90 : decode cX0_join 90 = .ok (.aload_n 0, 1) := by decide +kernel
theorem dX0_join_91 : decode cX0_join 91 = .ok (.getfield 15, 3) := by decide +kernel
theorem dX0_join_94 : decode cX0_join 94 = .ok (.iload_n 1, 1) := by decide +kernel
theorem dX0_join_95 : decode cX0_join 95 = .ok (.invokevirtual 82, 3) := by decide +kernel
theorem dX0_join_98 : decode cX0_join 98 = .ok (.istore 5, 2) := by decide +kernel
theorem dX0_join_100 : decode cX0_join 100 = .ok (.aload_n 0, 1) := by decide +kernel
theorem dX0_join_101 : decode cX0_join 101 = .ok (.iload 5, 2) := by decide +kernel
theorem dX0_join_103 : decode cX0_join 103 = .ok (.iload_n 3, 1) := by decide +kernel
theorem dX0_join_104 : decode cX0_join 104 = .ok (.iload_n 3, 1) := by decide +kernel
theorem dX0_join_105 : decode cX0_join 105 = .ok (.aload_n 0, 1) := by decide +kernel
theorem dX0_join_106 : decode cX0_join 106 = .ok (.getfield 19, 3) := by decide +kernel
theorem dX0_join_109 : decode cX0_join 109 = .ok (.iload_n 2, 1) := by decide +kernel
theorem dX0_join_110 : decode cX0_join 110 = .ok (.iload 5, 2) := by decide +kernel
theorem dX0_join_112 : decode cX0_join 112 = .ok (.invokevirtual 72, 3) := by decide +kernel
theorem dX0_join_115 : decode cX0_join 115 = .ok (.iadd, 1) := by decide +kernel
theorem dX0_join_116 : decode cX0_join 116 = .ok (.invokevirtual 78, 3) := by decide +kernel
theorem dX0_join_119 : decode cX0_join 119 = .ok (.ifCond .eq 8, 3) := by decide +kernel
theorem dX0_join_122 : decode cX0_join 122 = .ok (.iload 4, 2) := by decide +kernel
theorem dX0_join_124 : decode cX0_join 124 = .ok (.goto 4, 3) := by decide +kernel
theorem dX0_join_127 : decode cX0_join 127 = .ok (.iconst (-1), 1) := by decide +kernel
theorem dX0_join_128 : decode cX0_join 128 = .ok (.ireturn, 1) := by decide +kernel
theorem dX0_goes_0 : decode cX0_goes 0 = .ok (.aload_n 0, 1) := by decide +kernel
theorem dX0_goes_1 : decode cX0_goes 1 = .ok (.getfield 60, 3) := by decide +kernel
theorem dX0_goes_4 : decode cX0_goes 4 = .ok (.iconst (-1), 1) := by decide +kernel
theorem dX0_goes_5 : decode cX0_goes 5 = .ok (.if_icmp .ne 7, 3) := by decide +kernel
theorem dX0_goes_8 : decode cX0_goes 8 = .ok (.iconst 1, 1) := by decide +kernel
theorem dX0_goes_9 : decode cX0_goes 9 = .ok (.goto 4, 3) := by decide +kernel
theorem dX0_goes_12 : decode cX0_goes 12 = .ok (.iconst 0, 1) := by decide +kernel
theorem dX0_goes_13 : decode cX0_goes 13 = .ok (.istore 4, 2) := by decide +kernel
theorem dX0_goes_15 : decode cX0_goes 15 = .ok (.iload_n 2, 1) := by decide +kernel
theorem dX0_goes_16 : decode cX0_goes 16 = .ok (.invokestatic 85, 3) := by decide +kernel
theorem dX0_goes_19 : decode cX0_goes 19 = .ok (.ifCond .eq 10, 3) := by decide +kernel
theorem dX0_goes_22 : decode cX0_goes 22 = .ok (.iload_n 3, 1) := by decide +kernel
theorem dX0_goes_23 : decode cX0_goes 23 = .ok (.invokestatic 85, 3) := by decide +kernel
theorem dX0_goes_26 : decode cX0_goes 26 = .ok (.ifCond .ne 5, 3) := by decide +kernel
theorem dX0_goes_29 : decode cX0_goes 29 = .ok (.iconst 0, 1) := by decide +kernel
theorem dX0_goes_30 : decode cX0_goes 30 = .ok (.ireturn, 1) := by decide +kernel
theorem dX0_goes_31 : decode cX0_goes 31 = .ok (.iload 4, 2) := by decide +kernel
theorem dX0_goes_33 : decode cX0_goes 33 = .ok (.ifCond .ne 18, 3) := by decide +kernel
theorem dX0_goes_36 : decode cX0_goes 36 = .ok (.iload_n 2, 1) := by decide +kernel
theorem dX0_goes_37 : decode cX0_goes 37 = .ok (.aload_n 0, 1) := by decide +kernel
theorem dX0_goes_38 : decode cX0_goes 38 = .ok (.getfield 57, 3) := by decide +kernel
theorem dX0_goes_41 : decode cX0_goes 41 = .ok (.aload_n 0, 1) := by decide +kernel
theorem dX0_goes_42 : decode cX0_goes 42 = .ok (.getfield 44, 3) := by decide +kernel
theorem dX0_goes_45 : decode cX0_goes 45 = .ok (.iadd, 1) := by decide +kernel
theorem dX0_goes_46 : decode cX0_goes 46 = .ok (.if_icmp .ge 5, 3) := by decide +kernel
theorem dX0_goes_49 : decode cX0_goes 49 = .ok (.iconst 0, 1) := by decide +kernel
theorem dX0_goes_50 : decode cX0_goes 50 = .ok (.ireturn, 1) := by decide +kernel
theorem dX0_goes_51 : decode cX0_goes 51 = .ok (.aload_n 0, 1) := by decide +kernel
theorem dX0_goes_52 : decode cX0_goes 52 = .ok (.getfield 23, 3) := by decide +kernel
theorem dX0_goes_55 : decode cX0_goes 55 = .ok (.aload_n 0, 1) := by decide +kernel
theorem dX0_goes_56 : decode cX0_goes 56 = .ok (.getfield 54, 3) := by decide +kernel
theorem dX0_goes_59 : decode cX0_goes 59 = .ok (.iload_n 2, 1) := by decide +kernel
theorem dX0_goes_60 : decode cX0_goes 60 = .ok (.invokevirtual 89, 3) := by decide +kernel
theorem dX0_goes_63 : decode cX0_goes 63 = .ok (.ifCond .ne 15, 3) := by decide +kernel
theorem dX0_goes_66 : decode cX0_goes 66 = .ok (.aload_n 0, 1) := by decide +kernel
theorem dX0_goes_67 : decode cX0_goes 67 = .ok (.getfield 23, 3) := by decide +kernel
theorem dX0_goes_70 : decode cX0_goes 70 = .ok (.iload_n 1, 1) := by decide +kernel
theorem dX0_goes_71 : decode cX0_goes 71 = .ok (.iload_n 3, 1) := by decide +kernel
theorem dX0_goes_72 : decode cX0_goes 72 = .ok (.invokevirtual 89, 3) := by decide +kernel
theorem dX0_goes_75 : decode cX0_goes 75 = .ok (.ifCond .eq 5, 3) := by decide +kernel
theorem dX0_goes_78 : decode cX0_goes 78 = .ok (.iconst 0, 1) := by decide +kernel
theorem dX0_goes_79 : decode cX0_goes 79 = .ok (.ireturn, 1) := by decide +kernel
theorem dX0_goes_80 : decode cX0_goes 80 = .ok (.iload 4, 2) := by decide +kernel
theorem dX0_goes_82 : decode cX0_goes 82 = .ok (.ifCond .ne 27, 3) := by decide +kernel
theorem dX0_goes_85 : decode cX0_goes 85 = .ok (.iload_n 2, 1) := by decide +kernel
theorem dX0_goes_86 : decode cX0_goes 86 = .ok (.aload_n 0, 1) := by decide +kernel
theorem dX0_goes_87 : decode cX0_goes 87 = .ok (.getfield 57, 3) := by decide +kernel
theorem dX0_goes_90 : decode cX0_goes 90 = .ok (.isub, 1) := by decide +kernel
theorem dX0_goes_91 : decode cX0_goes 91 = .ok (.aload_n 0, 1) := by decide +kernel
theorem dX0_goes_92 : decode cX0_goes 92 = .ok (.getfield 27, 3) := by decide +kernel
theorem dX0_goes_95 : decode cX0_goes 95 = .ok (.aload_n 0, 1) := by decide +kernel
theorem dX0_goes_96 : decode cX0_goes 96 = .ok (.getfield 60, 3) := by decide +kernel
theorem dX0_goes_99 : decode cX0_goes 99 = .ok (.sipush 1440, 3) := by decide +kernel
theorem dX0_goes_102 : decode cX0_goes 102 = .ok (.idiv, 1) := by decide +kernel
theorem dX0_goes_103 : decode cX0_goes 103 = .ok (.invokevirtual 95, 3) := by decide +kernel
theorem dX0_goes_106 : decode cX0_goes 106 = .ok (.if_icmp .lt 8, 3) := by decide +kernel
theorem dX0_goes_109 : decode cX0_goes 109 = .ok (.aload_n 0, 1) := by decide +kernel
theorem dX0_goes_110 : decode cX0_goes 110 = .ok (.iload_n 2, 1) := by decide +kernel
theorem dX0_goes_111 : decode cX0_goes 111 = .ok (.putfield 60, 3) := by decide +kernel
theorem dX0_goes_114 : decode cX0_goes 114 = .ok (.aload_n 0, 1) := by decide +kernel
theorem dX0_goes_115 : decode cX0_goes 115 = .ok (.iload_n 1, 1) := by decide +kernel
theorem dX0_goes_116 : decode cX0_goes 116 = .ok (.putfield 54, 3) := by decide +kernel
theorem dX0_goes_119 : decode cX0_goes 119 = .ok (.aload_n 0, 1) := by decide +kernel
theorem dX0_goes_120 : decode cX0_goes 120 = .ok (.iload_n 3, 1) := by decide +kernel
theorem dX0_goes_121 : decode cX0_goes 121 = .ok (.putfield 57, 3) := by decide +kernel
theorem dX0_goes_124 : decode cX0_goes 124 = .ok (.iload_n 3, 1) := by decide +kernel
theorem dX0_goes_125 : decode cX0_goes 125 = .ok (.aload_n 0, 1) := by decide +kernel
theorem dX0_goes_126 : decode cX0_goes 126 = .ok (.getfield 60, 3) := by decide +kernel
theorem dX0_goes_129 : decode cX0_goes 129 = .ok (.isub, 1) := by decide +kernel
theorem dX0_goes_130 : decode cX0_goes 130 = .ok (.aload_n 0, 1) := by decide +kernel
theorem dX0_goes_131 : decode cX0_goes 131 = .ok (.getfield 27, 3) := by decide +kernel
theorem dX0_goes_134 : decode cX0_goes 134 = .ok (.aload_n 0, 1) := by decide +kernel
theorem dX0_goes_135 : decode cX0_goes 135 = .ok (.getfield 60, 3) := by decide +kernel
theorem dX0_goes_138 : decode cX0_goes 138 = .ok (.sipush 1440, 3) := by decide +kernel
theorem dX0_goes_141 : decode cX0_goes 141 = .ok (.idiv, 1) := by decide +kernel
theorem dX0_goes_142 : decode cX0_goes 142 = .ok (.invokevirtual 100, 3) := by decide +kernel
theorem dX0_goes_145 : decode cX0_goes 145 = .ok (.if_icmp .gt 7, 3) := by decide +kernel
theorem dX0_goes_148 : decode cX0_goes 148 = .ok (.iconst 1, 1) := by decide +kernel
theorem dX0_goes_149 : decode cX0_goes 149 = .ok (.goto 4, 3) := by decide +kernel
theorem dX0_goes_152 : decode cX0_goes 152 = .ok (.iconst 0, 1) := by decide +kernel
theorem dX0_goes_153 : decode cX0_goes 153 = .ok (.ireturn, 1) := by decide +kernel
theorem dX1_init_0 : decode cX1_init 0 = .ok (.aload_n 0, 1) := by decide +kernel
theorem dX1_init_1 : decode cX1_init 1 = .ok (.invokespecial 3, 3) := by decide +kernel
theorem dX1_init_4 : decode cX1_init 4 = .ok (.aload_n 0, 1) := by decide +kernel
theorem dX1_init_5 : decode cX1_init 5 = .ok (.bipush 20, 2) := by decide +kernel
theorem dX1_init_7 : decode cX1_init 7 = .ok (.newarray .int, 2) := by decide +kernel
theorem dX1_init_9 : decode cX1_init 9 = .ok (.putfield 11, 3) := by decide +kernel
theorem dX1_init_12 : decode cX1_init 12 = .ok (.aload_n 0, 1) := by decide +kernel
theorem dX1_init_13 : decode cX1_init 13 = .ok (.bipush 20, 2) := by decide +kernel
theorem dX1_init_15 : decode cX1_init 15 = .ok (.newarray .int, 2) := by decide +kernel
theorem dX1_init_17 : decode cX1_init 17 = .ok (.putfield 15, 3) := by decide +kernel
theorem dX1_init_20 : decode cX1_init 20 = .ok (.aload_n 0, 1) := by decide +kernel
theorem dX1_init_21 : decode cX1_init 21 = .ok (.bipush 20, 2) := by decide +kernel
theorem dX1_init_23 : decode cX1_init 23 = .ok (.newarray .int, 2) := by decide +kernel
theorem dX1_init_25 : decode cX1_init 25 = .ok (.putfield 18, 3) := by decide +kernel
theorem dX1_init_28 : decode cX1_init 28 = .ok (.aload_n 0, 1) := by decide +kernel
theorem dX1_init_29 : decode cX1_init 29 = .ok (.bipush 20, 2) := by decide +kernel
theorem dX1_init_31 : decode cX1_init 31 = .ok (.newarray .int, 2) := by decide +kernel
theorem dX1_init_33 : decode cX1_init 33 = .ok (.putfield 21, 3) := by decide +kernel
theorem dX1_init_36 : decode cX1_init 36 = .ok (.aload_n 0, 1) := by decide +kernel
theorem dX1_init_37 : decode cX1_init 37 = .ok (.bipush 20, 2) := by decide +kernel
theorem dX1_init_39 : decode cX1_init 39 = .ok (.newarray .boolean, 2) := by decide +kernel
theorem dX1_init_41 : decode cX1_init 41 = .ok (.putfield 24, 3) := by decide +kernel
theorem dX1_init_44 : decode cX1_init 44 = .ok (.aload_n 0, 1) := by decide +kernel
theorem dX1_init_45 : decode cX1_init 45 = .ok (.bipush 20, 2) := by decide +kernel
theorem dX1_init_47 : decode cX1_init 47 = .ok (.newarray .int, 2) := by decide +kernel
theorem dX1_init_49 : decode cX1_init 49 = .ok (.putfield 28, 3) := by decide +kernel
theorem dX1_init_52 : decode cX1_init 52 = .ok (.return_, 1) := by decide +kernel
theorem dX1_add_0 : decode cX1_add 0 = .ok (.aload_n 0, 1) := by decide +kernel
theorem dX1_add_1 : decode cX1_add 1 = .ok (.getfield 31, 3) := by decide +kernel
theorem dX1_add_4 : decode cX1_add 4 = .ok (.bipush 20, 2) := by decide +kernel
theorem dX1_add_6 : decode cX1_add 6 = .ok (.if_icmp .ge 12, 3) := by decide +kernel
theorem dX1_add_9 : decode cX1_add 9 = .ok (.aload_n 0, 1) := by decide +kernel
theorem dX1_add_10 : decode cX1_add 10 = .ok (.getfield 35, 3) := by decide +kernel
theorem dX1_add_13 : decode cX1_add 13 = .ok (.bipush 8, 2) := by decide +kernel
theorem dX1_add_15 : decode cX1_add 15 = .ok (.if_icmp .lt 5, 3) := by decide +kernel
theorem dX1_add_18 : decode cX1_add 18 = .ok (.iconst (-1), 1) := by decide +kernel
theorem dX1_add_19 : decode cX1_add 19 = .ok (.ireturn, 1) := by decide +kernel
theorem dX1_add_20 : decode cX1_add 20 = .ok (.aload_n 0, 1) := by decide +kernel
theorem dX1_add_21 : decode cX1_add 21 = .ok (.getfield 11, 3) := by decide +kernel
theorem dX1_add_24 : decode cX1_add 24 = .ok (.aload_n 0, 1) := by decide +kernel
theorem dX1_add_25 : decode cX1_add 25 = .ok (.getfield 31, 3) := by decide +kernel
theorem dX1_add_28 : decode cX1_add 28 = .ok (.iload_n 1, 1) := by decide +kernel
theorem dX1_add_29 : decode cX1_add 29 = .ok (.iastore, 1) := by decide +kernel
theorem dX1_add_30 : decode cX1_add 30 = .ok (.aload_n 0, 1) := by decide +kernel
theorem dX1_add_31 : decode cX1_add 31 = .ok (.getfield 15, 3) := by decide +kernel
theorem dX1_add_34 : decode cX1_add 34 = .ok (.aload_n 0, 1) := by decide +kernel
theorem dX1_add_35 : decode cX1_add 35 = .ok (.getfield 31, 3) := by decide +kernel
theorem dX1_add_38 : decode cX1_add 38 = .ok (.iload_n 2, 1) := by decide +kernel
theorem dX1_add_39 : decode cX1_add 39 = .ok (.iastore, 1) := by decide +kernel
theorem dX1_add_40 : decode cX1_add 40 = .ok (.aload_n 0, 1) := by decide +kernel
theorem dX1_add_41 : decode cX1_add 41 = .ok (.getfield 18, 3) := by decide +kernel
theorem dX1_add_44 : decode cX1_add 44 = .ok (.aload_n 0, 1) := by decide +kernel
theorem dX1_add_45 : decode cX1_add 45 = .ok (.getfield 31, 3) := by decide +kernel
theorem dX1_add_48 : decode cX1_add 48 = .ok (.iload_n 3, 1) := by decide +kernel
theorem dX1_add_49 : decode cX1_add 49 = .ok (.iastore, 1) := by decide +kernel
theorem dX1_add_50 : decode cX1_add 50 = .ok (.aload_n 0, 1) := by decide +kernel
theorem dX1_add_51 : decode cX1_add 51 = .ok (.getfield 21, 3) := by decide +kernel
theorem dX1_add_54 : decode cX1_add 54 = .ok (.aload_n 0, 1) := by decide +kernel
theorem dX1_add_55 : decode cX1_add 55 = .ok (.getfield 31, 3) := by decide +kernel
theorem dX1_add_58 : decode cX1_add 58 = .ok (.iload 4, 2) := by decide +kernel
theorem dX1_add_60 : decode cX1_add 60 = .ok (.iastore, 1) := by decide +kernel
theorem dX1_add_61 : decode cX1_add 61 = .ok (.aload_n 0, 1) := by decide +kernel
theorem dX1_add_62 : decode cX1_add 62 = .ok (.getfield 24, 3) := by decide +kernel
theorem dX1_add_65 : decode cX1_add 65 = .ok (.aload_n 0, 1) := by decide +kernel
theorem dX1_add_66 : decode cX1_add 66 = .ok (.getfield 31, 3) := by decide +kernel
theorem dX1_add_69 : decode cX1_add 69 = .ok (.iconst 0, 1) := by decide +kernel
theorem dX1_add_70 : decode cX1_add 70 = .ok (.bastore, 1) := by decide +kernel
theorem dX1_add_71 : decode cX1_add 71 = .ok (.aload_n 0, 1) := by decide +kernel
theorem dX1_add_72 : decode cX1_add 72 = .ok (.aload_n 0, 1) := by decide +kernel
theorem dX1_add_73 : decode cX1_add 73 = .ok (.getfield 31, 3) := by decide +kernel
theorem dX1_add_76 : decode cX1_add 76 = .ok (.iload_n 3, 1) := by decide +kernel
theorem dX1_add_77 : decode cX1_add 77 = .ok (.invokevirtual 38, 3) := by decide +kernel
theorem dX1_add_80 : decode cX1_add 80 = .ok (.aload_n 0, 1) := by decide +kernel
theorem dX1_add_81 : decode cX1_add 81 = .ok (.dup, 1) := by decide +kernel
theorem dX1_add_82 : decode cX1_add 82 = .ok (.getfield 31, 3) := by decide +kernel
theorem dX1_add_85 : decode cX1_add 85 = .ok (.iconst 1, 1) := by decide +kernel
theorem dX1_add_86 : decode cX1_add 86 = .ok (.iadd, 1) := by decide +kernel
theorem dX1_add_87 : decode cX1_add 87 = .ok (.putfield 31, 3) := by decide +kernel
theorem dX1_add_90 : decode cX1_add 90 = .ok (.aload_n 0, 1) := by decide +kernel
theorem dX1_add_91 : decode cX1_add 91 = .ok (.dup, 1) := by decide +kernel
theorem dX1_add_92 : decode cX1_add 92 = .ok (.getfield 35, 3) := by decide +kernel
theorem dX1_add_95 : decode cX1_add 95 = .ok (.iconst 1, 1) := by decide +kernel
theorem dX1_add_96 : decode cX1_add 96 = .ok (.iadd, 1) := by decide +kernel
theorem dX1_add_97 : decode cX1_add 97 = .ok (.putfield 35, 3) := by decide +kernel
theorem dX1_add_100 : decode cX1_add 100 = .ok (.aload_n 0, 1) := by decide +kernel
theorem dX1_add_101 : decode cX1_add 101 = .ok (.getfield 31, 3) := by decide +kernel
theorem dX1_add_104 : decode cX1_add 104 = .ok (.iconst 1, 1) := by decide +kernel
theorem dX1_add_105 : decode cX1_add 105 = .ok (.isub, 1) := by decide +kernel
theorem dX1_add_106 : decode cX1_add 106 = .ok (.ireturn, 1) := by decide +kernel
theorem dX1_lineUp_0 : decode cX1_lineUp 0 = .ok (.iload_n 1, 1) := by decide +kernel
theorem dX1_lineUp_1 : decode cX1_lineUp 1 = .ok (.istore_n 3, 1) := by decide +kernel
theorem dX1_lineUp_2 : decode cX1_lineUp 2 = .ok (.iload_n 1, 1) := by decide +kernel
theorem dX1_lineUp_3 : decode cX1_lineUp 3 = .ok (.iconst 1, 1) := by decide +kernel
theorem dX1_lineUp_4 : decode cX1_lineUp 4 = .ok (.isub, 1) := by decide +kernel
theorem dX1_lineUp_5 : decode cX1_lineUp 5 = .ok (.istore 4, 2) := by decide +kernel
theorem dX1_lineUp_7 : decode cX1_lineUp 7 = .ok (.iload 4, 2) := by decide +kernel
theorem dX1_lineUp_9 : decode cX1_lineUp 9 = .ok (.ifCond .lt 46, 3) := by decide +kernel
theorem dX1_lineUp_12 : decode cX1_lineUp 12 = .ok (.aload_n 0, 1) := by decide +kernel
theorem dX1_lineUp_13 : decode cX1_lineUp 13 = .ok (.aload_n 0, 1) := by decide +kernel
theorem dX1_lineUp_14 : decode cX1_lineUp 14 = .ok (.getfield 28, 3) := by decide +kernel
theorem dX1_lineUp_17 : decode cX1_lineUp 17 = .ok (.iload 4, 2) := by decide +kernel
theorem dX1_lineUp_19 : decode cX1_lineUp 19 = .ok (.iaload, 1) := by decide +kernel
theorem dX1_lineUp_20 : decode cX1_lineUp 20 = .ok (.invokevirtual 42, 3) := by decide +kernel
theorem dX1_lineUp_23 : decode cX1_lineUp 23 = .ok (.iload_n 2, 1) := by decide +kernel
theorem dX1_lineUp_24 : decode cX1_lineUp 24 = .ok (.if_icmp .gt 6, 3) := by decide +kernel
theorem dX1_lineUp_27 : decode cX1_lineUp 27 = .ok (.goto 28, 3) := by decide +kernel
theorem dX1_lineUp_30 : decode cX1_lineUp 30 = .ok (.aload_n 0, 1) := by decide +kernel
theorem dX1_lineUp_31 : decode cX1_lineUp 31 = .ok (.getfield 28, 3) := by decide +kernel
theorem dX1_lineUp_34 : decode cX1_lineUp 34 = .ok (.iload 4, 2) := by decide +kernel
theorem dX1_lineUp_36 : decode cX1_lineUp 36 = .ok (.iconst 1, 1) := by decide +kernel
theorem dX1_lineUp_37 : decode cX1_lineUp 37 = .ok (.iadd, 1) := by decide +kernel
theorem dX1_lineUp_38 : decode cX1_lineUp 38 = .ok (.aload_n 0, 1) := by decide +kernel
theorem dX1_lineUp_39 : decode cX1_lineUp 39 = .ok (.getfield 28, 3) := by decide +kernel
theorem dX1_lineUp_42 : decode cX1_lineUp 42 = .ok (.iload 4, 2) := by decide +kernel
theorem dX1_lineUp_44 : decode cX1_lineUp 44 = .ok (.iaload, 1) := by decide +kernel
theorem dX1_lineUp_45 : decode cX1_lineUp 45 = .ok (.iastore, 1) := by decide +kernel
theorem dX1_lineUp_46 : decode cX1_lineUp 46 = .ok (.iload 4, 2) := by decide +kernel
theorem dX1_lineUp_48 : decode cX1_lineUp 48 = .ok (.istore_n 3, 1) := by decide +kernel
theorem dX1_lineUp_49 : decode cX1_lineUp 49 = .ok (.iinc 4 (-1), 3) := by decide +kernel
theorem dX1_lineUp_52 : decode cX1_lineUp 52 = .ok (.goto (-45), 3) := by decide +kernel
theorem dX1_lineUp_55 : decode cX1_lineUp 55 = .ok (.aload_n 0, 1) := by decide +kernel
theorem dX1_lineUp_56 : decode cX1_lineUp 56 = .ok (.getfield 28, 3) := by decide +kernel
theorem dX1_lineUp_59 : decode cX1_lineUp 59 = .ok (.iload_n 3, 1) := by decide +kernel
theorem dX1_lineUp_60 : decode cX1_lineUp 60 = .ok (.iload_n 1, 1) := by decide +kernel
theorem dX1_lineUp_61 : decode cX1_lineUp 61 = .ok (.iastore, 1) := by decide +kernel
theorem dX1_lineUp_62 : decode cX1_lineUp 62 = .ok (.return_, 1) := by decide +kernel
theorem dX1_strike_0 : decode cX1_strike 0 = .ok (.aload_n 0, 1) := by decide +kernel
theorem dX1_strike_1 : decode cX1_strike 1 = .ok (.iload_n 1, 1) := by decide +kernel
theorem dX1_strike_2 : decode cX1_strike 2 = .ok (.invokevirtual 46, 3) := by decide +kernel
theorem dX1_strike_5 : decode cX1_strike 5 = .ok (.ifCond .eq 20, 3) := by decide +kernel
theorem dX1_strike_8 : decode cX1_strike 8 = .ok (.aload_n 0, 1) := by decide +kernel
theorem dX1_strike_9 : decode cX1_strike 9 = .ok (.getfield 24, 3) := by decide +kernel
theorem dX1_strike_12 : decode cX1_strike 12 = .ok (.iload_n 1, 1) := by decide +kernel
theorem dX1_strike_13 : decode cX1_strike 13 = .ok (.iconst 1, 1) := by decide +kernel
theorem dX1_strike_14 : decode cX1_strike 14 = .ok (.bastore, 1) := by decide +kernel
theorem dX1_strike_15 : decode cX1_strike 15 = .ok (.aload_n 0, 1) := by decide +kernel
theorem dX1_strike_16 : decode cX1_strike 16 = .ok (.dup, 1) := by decide +kernel
theorem dX1_strike_17 : decode cX1_strike 17 = .ok (.getfield 35, 3) := by decide +kernel
theorem dX1_strike_20 : decode cX1_strike 20 = .ok (.iconst 1, 1) := by decide +kernel
theorem dX1_strike_21 : decode cX1_strike 21 = .ok (.isub, 1) := by decide +kernel
theorem dX1_strike_22 : decode cX1_strike 22 = .ok (.putfield 35, 3) := by decide +kernel
theorem dX1_strike_25 : decode cX1_strike 25 = .ok (.return_, 1) := by decide +kernel
theorem dX1_size_0 : decode cX1_size 0 = .ok (.aload_n 0, 1) := by decide +kernel
theorem dX1_size_1 : decode cX1_size 1 = .ok (.getfield 31, 3) := by decide +kernel
theorem dX1_size_4 : decode cX1_size 4 = .ok (.ireturn, 1) := by decide +kernel
theorem dX1_live_0 : decode cX1_live 0 = .ok (.aload_n 0, 1) := by decide +kernel
theorem dX1_live_1 : decode cX1_live 1 = .ok (.getfield 35, 3) := by decide +kernel
theorem dX1_live_4 : decode cX1_live 4 = .ok (.ireturn, 1) := by decide +kernel
theorem dX1_has_0 : decode cX1_has 0 = .ok (.iload_n 1, 1) := by decide +kernel
theorem dX1_has_1 : decode cX1_has 1 = .ok (.ifCond .lt 15, 3) := by decide +kernel
theorem dX1_has_4 : decode cX1_has 4 = .ok (.iload_n 1, 1) := by decide +kernel
theorem dX1_has_5 : decode cX1_has 5 = .ok (.aload_n 0, 1) := by decide +kernel
theorem dX1_has_6 : decode cX1_has 6 = .ok (.getfield 31, 3) := by decide +kernel
theorem dX1_has_9 : decode cX1_has 9 = .ok (.if_icmp .ge 7, 3) := by decide +kernel
theorem dX1_has_12 : decode cX1_has 12 = .ok (.iconst 1, 1) := by decide +kernel
theorem dX1_has_13 : decode cX1_has 13 = .ok (.goto 4, 3) := by decide +kernel
theorem dX1_has_16 : decode cX1_has 16 = .ok (.iconst 0, 1) := by decide +kernel
theorem dX1_has_17 : decode cX1_has 17 = .ok (.ireturn, 1) := by decide +kernel
theorem dX1_isLive_0 : decode cX1_isLive 0 = .ok (.aload_n 0, 1) := by decide +kernel
theorem dX1_isLive_1 : decode cX1_isLive 1 = .ok (.iload_n 1, 1) := by decide +kernel
theorem dX1_isLive_2 : decode cX1_isLive 2 = .ok (.invokevirtual 50, 3) := by decide +kernel
theorem dX1_isLive_5 : decode cX1_isLive 5 = .ok (.ifCond .eq 16, 3) := by decide +kernel
theorem dX1_isLive_8 : decode cX1_isLive 8 = .ok (.aload_n 0, 1) := by decide +kernel
theorem dX1_isLive_9 : decode cX1_isLive 9 = .ok (.getfield 24, 3) := by decide +kernel
theorem dX1_isLive_12 : decode cX1_isLive 12 = .ok (.iload_n 1, 1) := by decide +kernel
theorem dX1_isLive_13 : decode cX1_isLive 13 = .ok (.baload, 1) := by decide +kernel
theorem dX1_isLive_14 : decode cX1_isLive 14 = .ok (.ifCond .ne 7, 3) := by decide +kernel
theorem dX1_isLive_17 : decode cX1_isLive 17 = .ok (.iconst 1, 1) := by decide +kernel
theorem dX1_isLive_18 : decode cX1_isLive 18 = .ok (.goto 4, 3) := by decide +kernel
theorem dX1_isLive_21 : decode cX1_isLive 21 = .ok (.iconst 0, 1) := by decide +kernel
theorem dX1_isLive_22 : decode cX1_isLive 22 = .ok (.ireturn, 1) := by decide +kernel
theorem dX1_inOrder_0 : decode cX1_inOrder 0 = .ok (.iload_n 1, 1) := by decide +kernel
theorem dX1_inOrder_1 : decode cX1_inOrder 1 = .ok (.ifCond .lt 20, 3) := by decide +kernel
theorem dX1_inOrder_4 : decode cX1_inOrder 4 = .ok (.iload_n 1, 1) := by decide +kernel
theorem dX1_inOrder_5 : decode cX1_inOrder 5 = .ok (.aload_n 0, 1) := by decide +kernel
theorem dX1_inOrder_6 : decode cX1_inOrder 6 = .ok (.getfield 31, 3) := by decide +kernel
theorem dX1_inOrder_9 : decode cX1_inOrder 9 = .ok (.if_icmp .ge 12, 3) := by decide +kernel
theorem dX1_inOrder_12 : decode cX1_inOrder 12 = .ok (.aload_n 0, 1) := by decide +kernel
theorem dX1_inOrder_13 : decode cX1_inOrder 13 = .ok (.getfield 28, 3) := by decide +kernel
theorem dX1_inOrder_16 : decode cX1_inOrder 16 = .ok (.iload_n 1, 1) := by decide +kernel
theorem dX1_inOrder_17 : decode cX1_inOrder 17 = .ok (.iaload, 1) := by decide +kernel
theorem dX1_inOrder_18 : decode cX1_inOrder 18 = .ok (.goto 4, 3) := by decide +kernel
theorem dX1_inOrder_21 : decode cX1_inOrder 21 = .ok (.iconst (-1), 1) := by decide +kernel
theorem dX1_inOrder_22 : decode cX1_inOrder 22 = .ok (.ireturn, 1) := by decide +kernel
theorem dX1_fromOf_0 : decode cX1_fromOf 0 = .ok (.aload_n 0, 1) := by decide +kernel
theorem dX1_fromOf_1 : decode cX1_fromOf 1 = .ok (.iload_n 1, 1) := by decide +kernel
theorem dX1_fromOf_2 : decode cX1_fromOf 2 = .ok (.invokevirtual 50, 3) := by decide +kernel
theorem dX1_fromOf_5 : decode cX1_fromOf 5 = .ok (.ifCond .eq 12, 3) := by decide +kernel
theorem dX1_fromOf_8 : decode cX1_fromOf 8 = .ok (.aload_n 0, 1) := by decide +kernel
theorem dX1_fromOf_9 : decode cX1_fromOf 9 = .ok (.getfield 11, 3) := by decide +kernel
theorem dX1_fromOf_12 : decode cX1_fromOf 12 = .ok (.iload_n 1, 1) := by decide +kernel
theorem dX1_fromOf_13 : decode cX1_fromOf 13 = .ok (.iaload, 1) := by decide +kernel
theorem dX1_fromOf_14 : decode cX1_fromOf 14 = .ok (.goto 4, 3) := by decide +kernel
theorem dX1_fromOf_17 : decode cX1_fromOf 17 = .ok (.iconst (-1), 1) := by decide +kernel
theorem dX1_fromOf_18 : decode cX1_fromOf 18 = .ok (.ireturn, 1) := by decide +kernel
theorem dX1_toOf_0 : decode cX1_toOf 0 = .ok (.aload_n 0, 1) := by decide +kernel
theorem dX1_toOf_1 : decode cX1_toOf 1 = .ok (.iload_n 1, 1) := by decide +kernel
theorem dX1_toOf_2 : decode cX1_toOf 2 = .ok (.invokevirtual 50, 3) := by decide +kernel
theorem dX1_toOf_5 : decode cX1_toOf 5 = .ok (.ifCond .eq 12, 3) := by decide +kernel
theorem dX1_toOf_8 : decode cX1_toOf 8 = .ok (.aload_n 0, 1) := by decide +kernel
theorem dX1_toOf_9 : decode cX1_toOf 9 = .ok (.getfield 15, 3) := by decide +kernel
theorem dX1_toOf_12 : decode cX1_toOf 12 = .ok (.iload_n 1, 1) := by decide +kernel
theorem dX1_toOf_13 : decode cX1_toOf 13 = .ok (.iaload, 1) := by decide +kernel
theorem dX1_toOf_14 : decode cX1_toOf 14 = .ok (.goto 4, 3) := by decide +kernel
theorem dX1_toOf_17 : decode cX1_toOf 17 = .ok (.iconst (-1), 1) := by decide +kernel
theorem dX1_toOf_18 : decode cX1_toOf 18 = .ok (.ireturn, 1) := by decide +kernel
theorem dX1_startOf_0 : decode cX1_startOf 0 = .ok (.aload_n 0, 1) := by decide +kernel
theorem dX1_startOf_1 : decode cX1_startOf 1 = .ok (.iload_n 1, 1) := by decide +kernel
theorem dX1_startOf_2 : decode cX1_startOf 2 = .ok (.invokevirtual 50, 3) := by decide +kernel
theorem dX1_startOf_5 : decode cX1_startOf 5 = .ok (.ifCond .eq 12, 3) := by decide +kernel
theorem dX1_startOf_8 : decode cX1_startOf 8 = .ok (.aload_n 0, 1) := by decide +kernel
theorem dX1_startOf_9 : decode cX1_startOf 9 = .ok (.getfield 18, 3) := by decide +kernel
theorem dX1_startOf_12 : decode cX1_startOf 12 = .ok (.iload_n 1, 1) := by decide +kernel
theorem dX1_startOf_13 : decode cX1_startOf 13 = .ok (.iaload, 1) := by decide +kernel
theorem dX1_startOf_14 : decode cX1_startOf 14 = .ok (.goto 4, 3) := by decide +kernel
theorem dX1_startOf_17 : decode cX1_startOf 17 = .ok (.iconst (-1), 1) := by decide +kernel
theorem dX1_startOf_18 : decode cX1_startOf 18 = .ok (.ireturn, 1) := by decide +kernel
theorem dX1_seatsOf_0 : decode cX1_seatsOf 0 = .ok (.aload_n 0, 1) := by decide +kernel
theorem dX1_seatsOf_1 : decode cX1_seatsOf 1 = .ok (.iload_n 1, 1) := by decide +kernel
theorem dX1_seatsOf_2 : decode cX1_seatsOf 2 = .ok (.invokevirtual 50, 3) := by decide +kernel
theorem dX1_seatsOf_5 : decode cX1_seatsOf 5 = .ok (.ifCond .eq 12, 3) := by decide +kernel
theorem dX1_seatsOf_8 : decode cX1_seatsOf 8 = .ok (.aload_n 0, 1) := by decide +kernel
theorem dX1_seatsOf_9 : decode cX1_seatsOf 9 = .ok (.getfield 21, 3) := by decide +kernel
theorem dX1_seatsOf_12 : decode cX1_seatsOf 12 = .ok (.iload_n 1, 1) := by decide +kernel
theorem dX1_seatsOf_13 : decode cX1_seatsOf 13 = .ok (.iaload, 1) := by decide +kernel
theorem dX1_seatsOf_14 : decode cX1_seatsOf 14 = .ok (.goto 4, 3) := by decide +kernel
theorem dX1_seatsOf_17 : decode cX1_seatsOf 17 = .ok (.iconst (-1), 1) := by decide +kernel
theorem dX1_seatsOf_18 : decode cX1_seatsOf 18 = .ok (.ireturn, 1) := by decide +kernel
theorem dX1_anyBetween_0 : decode cX1_anyBetween 0 = .ok (.iconst 0, 1) := by decide +kernel
theorem dX1_anyBetween_1 : decode cX1_anyBetween 1 = .ok (.istore_n 3, 1) := by decide +kernel
theorem dX1_anyBetween_2 : decode cX1_anyBetween 2 = .ok (.iload_n 3, 1) := by decide +kernel
theorem dX1_anyBetween_3 : decode cX1_anyBetween 3 = .ok (.aload_n 0, 1) := by decide +kernel
theorem dX1_anyBetween_4 : decode cX1_anyBetween 4 = .ok (.getfield 31, 3) := by decide +kernel
theorem dX1_anyBetween_7 : decode cX1_anyBetween 7 = .ok (.if_icmp .ge 84, 3) := by decide +kernel
theorem dX1_anyBetween_10 : decode cX1_anyBetween 10 = .ok (.aload_n 0, 1) := by decide +kernel
theorem dX1_anyBetween_11 : decode cX1_anyBetween 11 = .ok (.getfield 11, 3) := by decide +kernel
theorem dX1_anyBetween_14 : decode cX1_anyBetween 14 = .ok (.iload_n 3, 1) := by decide +kernel
theorem dX1_anyBetween_15 : decode cX1_anyBetween 15 = .ok (.iaload, 1) := by decide +kernel
theorem dX1_anyBetween_16 : decode cX1_anyBetween 16 = .ok (.iload_n 1, 1) := by decide +kernel
theorem dX1_anyBetween_17 : decode cX1_anyBetween 17 = .ok (.if_icmp .ne 17, 3) := by decide +kernel
theorem dX1_anyBetween_20 : decode cX1_anyBetween 20 = .ok (.aload_n 0, 1) := by decide +kernel
theorem dX1_anyBetween_21 : decode cX1_anyBetween 21 = .ok (.getfield 15, 3) := by decide +kernel
theorem dX1_anyBetween_24 : decode cX1_anyBetween 24 = .ok (.iload_n 3, 1) := by decide +kernel
theorem dX1_anyBetween_25 : decode cX1_anyBetween 25 = .ok (.iaload, 1) := by decide +kernel
theorem dX1_anyBetween_26 : decode cX1_anyBetween 26 = .ok (.iload_n 2, 1) := by decide +kernel
theorem dX1_anyBetween_27 : decode cX1_anyBetween 27 = .ok (.if_icmp .ne 7, 3) := by decide +kernel
theorem dX1_anyBetween_30 : decode cX1_anyBetween 30 = .ok (.iconst 1, 1) := by decide +kernel
theorem dX1_anyBetween_31 : decode cX1_anyBetween 31 = .ok (.goto 4, 3) := by decide +kernel
theorem dX1_anyBetween_34 : decode cX1_anyBetween 34 = .ok (.iconst 0, 1) := by decide +kernel
theorem dX1_anyBetween_35 : decode cX1_anyBetween 35 = .ok (.istore 4, 2) := by decide +kernel
theorem dX1_anyBetween_37 : decode cX1_anyBetween 37 = .ok (.aload_n 0, 1) := by decide +kernel
theorem dX1_anyBetween_38 : decode cX1_anyBetween 38 = .ok (.getfield 11, 3) := by decide +kernel
theorem dX1_anyBetween_41 : decode cX1_anyBetween 41 = .ok (.iload_n 3, 1) := by decide +kernel
theorem dX1_anyBetween_42 : decode cX1_anyBetween 42 = .ok (.iaload, 1) := by decide +kernel
theorem dX1_anyBetween_43 : decode cX1_anyBetween 43 = .ok (.iload_n 2, 1) := by decide +kernel
theorem dX1_anyBetween_44 : decode cX1_anyBetween 44 = .ok (.if_icmp .ne 17, 3) := by decide +kernel
theorem dX1_anyBetween_47 : decode cX1_anyBetween 47 = .ok (.aload_n 0, 1) := by decide +kernel
theorem dX1_anyBetween_48 : decode cX1_anyBetween 48 = .ok (.getfield 15, 3) := by decide +kernel
theorem dX1_anyBetween_51 : decode cX1_anyBetween 51 = .ok (.iload_n 3, 1) := by decide +kernel
theorem dX1_anyBetween_52 : decode cX1_anyBetween 52 = .ok (.iaload, 1) := by decide +kernel
theorem dX1_anyBetween_53 : decode cX1_anyBetween 53 = .ok (.iload_n 1, 1) := by decide +kernel
theorem dX1_anyBetween_54 : decode cX1_anyBetween 54 = .ok (.if_icmp .ne 7, 3) := by decide +kernel
theorem dX1_anyBetween_57 : decode cX1_anyBetween 57 = .ok (.iconst 1, 1) := by decide +kernel
theorem dX1_anyBetween_58 : decode cX1_anyBetween 58 = .ok (.goto 4, 3) := by decide +kernel
theorem dX1_anyBetween_61 : decode cX1_anyBetween 61 = .ok (.iconst 0, 1) := by decide +kernel
theorem dX1_anyBetween_62 : decode cX1_anyBetween 62 = .ok (.istore 5, 2) := by decide +kernel
theorem dX1_anyBetween_64 : decode cX1_anyBetween 64 = .ok (.aload_n 0, 1) := by decide +kernel
theorem dX1_anyBetween_65 : decode cX1_anyBetween 65 = .ok (.getfield 24, 3) := by decide +kernel
theorem dX1_anyBetween_68 : decode cX1_anyBetween 68 = .ok (.iload_n 3, 1) := by decide +kernel
theorem dX1_anyBetween_69 : decode cX1_anyBetween 69 = .ok (.baload, 1) := by decide +kernel
theorem dX1_anyBetween_70 : decode cX1_anyBetween 70 = .ok (.ifCond .ne 15, 3) := by decide +kernel
theorem dX1_anyBetween_73 : decode cX1_anyBetween 73 = .ok (.iload 4, 2) := by decide +kernel
theorem dX1_anyBetween_75 : decode cX1_anyBetween 75 = .ok (.ifCond .ne 8, 3) := by decide +kernel
theorem dX1_anyBetween_78 : decode cX1_anyBetween 78 = .ok (.iload 5, 2) := by decide +kernel
theorem dX1_anyBetween_80 : decode cX1_anyBetween 80 = .ok (.ifCond .eq 5, 3) := by decide +kernel
theorem dX1_anyBetween_83 : decode cX1_anyBetween 83 = .ok (.iconst 1, 1) := by decide +kernel
theorem dX1_anyBetween_84 : decode cX1_anyBetween 84 = .ok (.ireturn, 1) := by decide +kernel
theorem dX1_anyBetween_85 : decode cX1_anyBetween 85 = .ok (.iinc 3 1, 3) := by decide +kernel
theorem dX1_anyBetween_88 : decode cX1_anyBetween 88 = .ok (.goto (-86), 3) := by decide +kernel
theorem dX1_anyBetween_91 : decode cX1_anyBetween 91 = .ok (.iconst 0, 1) := by decide +kernel
theorem dX1_anyBetween_92 : decode cX1_anyBetween 92 = .ok (.ireturn, 1) := by decide +kernel
theorem dX2_init_0 : decode cX2_init 0 = .ok (.aload_n 0, 1) := by decide +kernel
theorem dX2_init_1 : decode cX2_init 1 = .ok (.invokespecial 3, 3) := by decide +kernel
theorem dX2_init_4 : decode cX2_init 4 = .ok (.aload_n 0, 1) := by decide +kernel
theorem dX2_init_5 : decode cX2_init 5 = .ok (.bipush 7, 2) := by decide +kernel
theorem dX2_init_7 : decode cX2_init 7 = .ok (.newarray .int, 2) := by decide +kernel
theorem dX2_init_9 : decode cX2_init 9 = .ok (.putfield 9, 3) := by decide +kernel
theorem dX2_init_12 : decode cX2_init 12 = .ok (.aload_n 0, 1) := by decide +kernel
theorem dX2_init_13 : decode cX2_init 13 = .ok (.bipush 7, 2) := by decide +kernel
theorem dX2_init_15 : decode cX2_init 15 = .ok (.newarray .int, 2) := by decide +kernel
theorem dX2_init_17 : decode cX2_init 17 = .ok (.putfield 15, 3) := by decide +kernel
theorem dX2_init_20 : decode cX2_init 20 = .ok (.aload_n 0, 1) := by decide +kernel
theorem dX2_init_21 : decode cX2_init 21 = .ok (.bipush 7, 2) := by decide +kernel
theorem dX2_init_23 : decode cX2_init 23 = .ok (.newarray .int, 2) := by decide +kernel
theorem dX2_init_25 : decode cX2_init 25 = .ok (.putfield 18, 3) := by decide +kernel
theorem dX2_init_28 : decode cX2_init 28 = .ok (.aload_n 0, 1) := by decide +kernel
theorem dX2_init_29 : decode cX2_init 29 = .ok (.bipush 7, 2) := by decide +kernel
theorem dX2_init_31 : decode cX2_init 31 = .ok (.newarray .int, 2) := by decide +kernel
theorem dX2_init_33 : decode cX2_init 33 = .ok (.putfield 21, 3) := by decide +kernel
theorem dX2_init_36 : decode cX2_init 36 = .ok (.iconst 0, 1) := by decide +kernel
theorem dX2_init_37 : decode cX2_init 37 = .ok (.istore_n 1, 1) := by decide +kernel
theorem dX2_init_38 : decode cX2_init 38 = .ok (.iload_n 1, 1) := by decide +kernel
theorem dX2_init_39 : decode cX2_init 39 = .ok (.bipush 7, 2) := by decide +kernel
theorem dX2_init_41 : decode cX2_init 41 = .ok (.if_icmp .ge 41, 3) := by decide +kernel
theorem dX2_init_44 : decode cX2_init 44 = .ok (.aload_n 0, 1) := by decide +kernel
theorem dX2_init_45 : decode cX2_init 45 = .ok (.getfield 9, 3) := by decide +kernel
theorem dX2_init_48 : decode cX2_init 48 = .ok (.iload_n 1, 1) := by decide +kernel
theorem dX2_init_49 : decode cX2_init 49 = .ok (.iconst (-1), 1) := by decide +kernel
theorem dX2_init_50 : decode cX2_init 50 = .ok (.iastore, 1) := by decide +kernel
theorem dX2_init_51 : decode cX2_init 51 = .ok (.aload_n 0, 1) := by decide +kernel
theorem dX2_init_52 : decode cX2_init 52 = .ok (.getfield 15, 3) := by decide +kernel
theorem dX2_init_55 : decode cX2_init 55 = .ok (.iload_n 1, 1) := by decide +kernel
theorem dX2_init_56 : decode cX2_init 56 = .ok (.iconst (-1), 1) := by decide +kernel
theorem dX2_init_57 : decode cX2_init 57 = .ok (.iastore, 1) := by decide +kernel
theorem dX2_init_58 : decode cX2_init 58 = .ok (.aload_n 0, 1) := by decide +kernel
theorem dX2_init_59 : decode cX2_init 59 = .ok (.getfield 18, 3) := by decide +kernel
theorem dX2_init_62 : decode cX2_init 62 = .ok (.iload_n 1, 1) := by decide +kernel
theorem dX2_init_63 : decode cX2_init 63 = .ok (.sipush 840, 3) := by decide +kernel
theorem dX2_init_66 : decode cX2_init 66 = .ok (.iastore, 1) := by decide +kernel
theorem dX2_init_67 : decode cX2_init 67 = .ok (.aload_n 0, 1) := by decide +kernel
theorem dX2_init_68 : decode cX2_init 68 = .ok (.getfield 21, 3) := by decide +kernel
theorem dX2_init_71 : decode cX2_init 71 = .ok (.iload_n 1, 1) := by decide +kernel
theorem dX2_init_72 : decode cX2_init 72 = .ok (.sipush 600, 3) := by decide +kernel
theorem dX2_init_75 : decode cX2_init 75 = .ok (.iastore, 1) := by decide +kernel
theorem dX2_init_76 : decode cX2_init 76 = .ok (.iinc 1 1, 3) := by decide +kernel
theorem dX2_init_79 : decode cX2_init 79 = .ok (.goto (-41), 3) := by decide +kernel
theorem dX2_init_82 : decode cX2_init 82 = .ok (.return_, 1) := by decide +kernel
theorem dX2_dutyOn_0 : decode cX2_dutyOn 0 = .ok (.iload_n 1, 1) := by decide +kernel
theorem dX2_dutyOn_1 : decode cX2_dutyOn 1 = .ok (.ifCond .lt 18, 3) := by decide +kernel
theorem dX2_dutyOn_4 : decode cX2_dutyOn 4 = .ok (.iload_n 1, 1) := by decide +kernel
theorem dX2_dutyOn_5 : decode cX2_dutyOn 5 = .ok (.bipush 7, 2) := by decide +kernel
theorem dX2_dutyOn_7 : decode cX2_dutyOn 7 = .ok (.if_icmp .ge 12, 3) := by decide +kernel
theorem dX2_dutyOn_10 : decode cX2_dutyOn 10 = .ok (.aload_n 0, 1) := by decide +kernel
theorem dX2_dutyOn_11 : decode cX2_dutyOn 11 = .ok (.getfield 18, 3) := by decide +kernel
theorem dX2_dutyOn_14 : decode cX2_dutyOn 14 = .ok (.iload_n 1, 1) := by decide +kernel
theorem dX2_dutyOn_15 : decode cX2_dutyOn 15 = .ok (.iaload, 1) := by decide +kernel
theorem dX2_dutyOn_16 : decode cX2_dutyOn 16 = .ok (.goto 4, 3) := by decide +kernel
theorem dX2_dutyOn_19 : decode cX2_dutyOn 19 = .ok (.iconst (-1), 1) := by decide +kernel
theorem dX2_dutyOn_20 : decode cX2_dutyOn 20 = .ok (.ireturn, 1) := by decide +kernel
theorem dX2_restOn_0 : decode cX2_restOn 0 = .ok (.iload_n 1, 1) := by decide +kernel
theorem dX2_restOn_1 : decode cX2_restOn 1 = .ok (.ifCond .lt 18, 3) := by decide +kernel
theorem dX2_restOn_4 : decode cX2_restOn 4 = .ok (.iload_n 1, 1) := by decide +kernel
theorem dX2_restOn_5 : decode cX2_restOn 5 = .ok (.bipush 7, 2) := by decide +kernel
theorem dX2_restOn_7 : decode cX2_restOn 7 = .ok (.if_icmp .ge 12, 3) := by decide +kernel
theorem dX2_restOn_10 : decode cX2_restOn 10 = .ok (.aload_n 0, 1) := by decide +kernel
theorem dX2_restOn_11 : decode cX2_restOn 11 = .ok (.getfield 21, 3) := by decide +kernel
theorem dX2_restOn_14 : decode cX2_restOn 14 = .ok (.iload_n 1, 1) := by decide +kernel
theorem dX2_restOn_15 : decode cX2_restOn 15 = .ok (.iaload, 1) := by decide +kernel
theorem dX2_restOn_16 : decode cX2_restOn 16 = .ok (.goto 4, 3) := by decide +kernel
theorem dX2_restOn_19 : decode cX2_restOn 19 = .ok (.iconst (-1), 1) := by decide +kernel
theorem dX2_restOn_20 : decode cX2_restOn 20 = .ok (.ireturn, 1) := by decide +kernel
theorem dX2_read_0 : decode cX2_read 0 = .ok (.aload_n 0, 1) := by decide +kernel
theorem dX2_read_1 : decode cX2_read 1 = .ok (.iconst (-1), 1) := by decide +kernel
theorem dX2_read_2 : decode cX2_read 2 = .ok (.putfield 24, 3) := by decide +kernel
theorem dX2_read_5 : decode cX2_read 5 = .ok (.aload_n 0, 1) := by decide +kernel
theorem dX2_read_6 : decode cX2_read 6 = .ok (.iconst (-1), 1) := by decide +kernel
theorem dX2_read_7 : decode cX2_read 7 = .ok (.putfield 28, 3) := by decide +kernel
theorem dX2_read_10 : decode cX2_read 10 = .ok (.aload_n 0, 1) := by decide +kernel
theorem dX2_read_11 : decode cX2_read 11 = .ok (.iconst 0, 1) := by decide +kernel
theorem dX2_read_12 : decode cX2_read 12 = .ok (.putfield 31, 3) := by decide +kernel
theorem dX2_read_15 : decode cX2_read 15 = .ok (.iconst 0, 1) := by decide +kernel
theorem dX2_read_16 : decode cX2_read 16 = .ok (.istore_n 3, 1) := by decide +kernel
theorem dX2_read_17 : decode cX2_read 17 = .ok (.iload_n 3, 1) := by decide +kernel
theorem dX2_read_18 : decode cX2_read 18 = .ok (.iload_n 2, 1) := by decide +kernel
theorem dX2_read_19 : decode cX2_read 19 = .ok (.if_icmp .gt 70, 3) := by decide +kernel
theorem dX2_read_22 : decode cX2_read 22 = .ok (.aload_n 0, 1) := by decide +kernel
theorem dX2_read_23 : decode cX2_read 23 = .ok (.aload_n 1, 1) := by decide +kernel
theorem dX2_read_24 : decode cX2_read 24 = .ok (.iload_n 2, 1) := by decide +kernel
theorem dX2_read_25 : decode cX2_read 25 = .ok (.invokevirtual 34, 3) := by decide +kernel
theorem dX2_read_28 : decode cX2_read 28 = .ok (.istore 4, 2) := by decide +kernel
theorem dX2_read_30 : decode cX2_read 30 = .ok (.iload 4, 2) := by decide +kernel
theorem dX2_read_32 : decode cX2_read 32 = .ok (.ifCond .eq 6, 3) := by decide +kernel
theorem dX2_read_35 : decode cX2_read 35 = .ok (.iload 4, 2) := by decide +kernel
theorem dX2_read_37 : decode cX2_read 37 = .ok (.ireturn, 1) := by decide +kernel
theorem dX2_read_38 : decode cX2_read 38 = .ok (.aload_n 1, 1) := by decide +kernel
theorem dX2_read_39 : decode cX2_read 39 = .ok (.aload_n 0, 1) := by decide +kernel
theorem dX2_read_40 : decode cX2_read 40 = .ok (.getfield 31, 3) := by decide +kernel
theorem dX2_read_43 : decode cX2_read 43 = .ok (.iload_n 2, 1) := by decide +kernel
theorem dX2_read_44 : decode cX2_read 44 = .ok (.invokevirtual 38, 3) := by decide +kernel
theorem dX2_read_47 : decode cX2_read 47 = .ok (.istore 5, 2) := by decide +kernel
theorem dX2_read_49 : decode cX2_read 49 = .ok (.iload 5, 2) := by decide +kernel
theorem dX2_read_51 : decode cX2_read 51 = .ok (.iconst (-1), 1) := by decide +kernel
theorem dX2_read_52 : decode cX2_read 52 = .ok (.if_icmp .ne 5, 3) := by decide +kernel
theorem dX2_read_55 : decode cX2_read 55 = .ok (.iconst 0, 1) := by decide +kernel
theorem dX2_read_56 : decode cX2_read 56 = .ok (.ireturn, 1) := by decide +kernel
theorem dX2_read_57 : decode cX2_read 57 = .ok (.iload 5, 2) := by decide +kernel
theorem dX2_read_59 : decode cX2_read 59 = .ok (.bipush 59, 2) := by decide +kernel
theorem dX2_read_61 : decode cX2_read 61 = .ok (.if_icmp .eq 12, 3) := by decide +kernel
theorem dX2_read_64 : decode cX2_read 64 = .ok (.sipush 400, 3) := by decide +kernel
theorem dX2_read_67 : decode cX2_read 67 = .ok (.aload_n 0, 1) := by decide +kernel
theorem dX2_read_68 : decode cX2_read 68 = .ok (.getfield 31, 3) := by decide +kernel
theorem dX2_read_71 : decode cX2_read 71 = .ok (.iadd, 1) := by decide +kernel
theorem dX2_read_72 : decode cX2_read 72 = .ok (.ireturn, 1) := by decide +kernel
theorem dX2_read_73 : decode cX2_read 73 = .ok (.aload_n 0, 1) := by decide +kernel
theorem dX2_read_74 : decode cX2_read 74 = .ok (.dup, 1) := by decide +kernel
theorem dX2_read_75 : decode cX2_read 75 = .ok (.getfield 31, 3) := by decide +kernel
theorem dX2_read_78 : decode cX2_read 78 = .ok (.iconst 1, 1) := by decide +kernel
theorem dX2_read_79 : decode cX2_read 79 = .ok (.iadd, 1) := by decide +kernel
theorem dX2_read_80 : decode cX2_read 80 = .ok (.putfield 31, 3) := by decide +kernel
theorem dX2_read_83 : decode cX2_read 83 = .ok (.iinc 3 1, 3) := by decide +kernel
theorem dX2_read_86 : decode cX2_read 86 = .ok (.goto (-69), 3) := by decide +kernel
theorem dX2_read_89 : decode cX2_read 89 = .ok (.iconst 0, 1) := by decide +kernel
theorem dX2_read_90 : decode cX2_read 90 = .ok (.ireturn, 1) := by decide +kernel
theorem dX2_readClause_0 : decode cX2_readClause 0 = .ok (.aload_n 1, 1) := by decide +kernel
theorem dX2_readClause_1 : decode cX2_readClause 1 = .ok (.aload_n 0, 1) := by decide +kernel
theorem dX2_readClause_2 : decode cX2_readClause 2 = .ok (.getfield 31, 3) := by decide +kernel
theorem dX2_readClause_5 : decode cX2_readClause 5 = .ok (.iload_n 2, 1) := by decide +kernel
theorem dX2_readClause_6 : decode cX2_readClause 6 = .ok (.invokevirtual 38, 3) := by decide +kernel
theorem dX2_readClause_9 : decode cX2_readClause 9 = .ok (.istore_n 3, 1) := by decide +kernel
theorem dX2_readClause_10 : decode cX2_readClause 10 = .ok (.iload_n 3, 1) := by decide +kernel
theorem dX2_readClause_11 : decode cX2_readClause 11 = .ok (.bipush 100, 2) := by decide +kernel
theorem dX2_readClause_13 : decode cX2_readClause 13 = .ok (.if_icmp .eq 17, 3) := by decide +kernel
theorem dX2_readClause_16 : decode cX2_readClause 16 = .ok (.iload_n 3, 1) := by decide +kernel
theorem dX2_readClause_17 : decode cX2_readClause 17 = .ok (.bipush 114, 2) := by decide +kernel
theorem dX2_readClause_19 : decode cX2_readClause 19 = .ok (.if_icmp .eq 11, 3) := by decide +kernel
theorem dX2_readClause_22 : decode cX2_readClause 22 = .ok (.bipush 100, 2) := by decide +kernel
theorem dX2_readClause_24 : decode cX2_readClause 24 = .ok (.aload_n 0, 1) := by decide +kernel
theorem dX2_readClause_25 : decode cX2_readClause 25 = .ok (.getfield 31, 3) := by decide +kernel
theorem dX2_readClause_28 : decode cX2_readClause 28 = .ok (.iadd, 1) := by decide +kernel
theorem dX2_readClause_29 : decode cX2_readClause 29 = .ok (.ireturn, 1) := by decide +kernel
theorem dX2_readClause_30 : decode cX2_readClause 30 = .ok (.aload_n 0, 1) := by decide +kernel
theorem dX2_readClause_31 : decode cX2_readClause 31 = .ok (.dup, 1) := by decide +kernel
theorem dX2_readClause_32 : decode cX2_readClause 32 = .ok (.getfield 31, 3) := by decide +kernel
theorem dX2_readClause_35 : decode cX2_readClause 35 = .ok (.iconst 1, 1) := by decide +kernel
theorem dX2_readClause_36 : decode cX2_readClause 36 = .ok (.iadd, 1) := by decide +kernel
theorem dX2_readClause_37 : decode cX2_readClause 37 = .ok (.putfield 31, 3) := by decide +kernel
theorem dX2_readClause_40 : decode cX2_readClause 40 = .ok (.aload_n 0, 1) := by decide +kernel
theorem dX2_readClause_41 : decode cX2_readClause 41 = .ok (.getfield 31, 3) := by decide +kernel
theorem dX2_readClause_44 : decode cX2_readClause 44 = .ok (.istore 4, 2) := by decide +kernel
theorem dX2_readClause_46 : decode cX2_readClause 46 = .ok (.aload_n 0, 1) := by decide +kernel
theorem dX2_readClause_47 : decode cX2_readClause 47 = .ok (.aload_n 1, 1) := by decide +kernel
theorem dX2_readClause_48 : decode cX2_readClause 48 = .ok (.iload_n 2, 1) := by decide +kernel
theorem dX2_readClause_49 : decode cX2_readClause 49 = .ok (.invokevirtual 44, 3) := by decide +kernel
theorem dX2_readClause_52 : decode cX2_readClause 52 = .ok (.istore 5, 2) := by decide +kernel
theorem dX2_readClause_54 : decode cX2_readClause 54 = .ok (.aload_n 0, 1) := by decide +kernel
theorem dX2_readClause_55 : decode cX2_readClause 55 = .ok (.getfield 31, 3) := by decide +kernel
theorem dX2_readClause_58 : decode cX2_readClause 58 = .ok (.iload 4, 2) := by decide +kernel
theorem dX2_readClause_60 : decode cX2_readClause 60 = .ok (.if_icmp .ne 12, 3) := by decide +kernel
theorem dX2_readClause_63 : decode cX2_readClause 63 = .ok (.sipush 200, 3) := by decide +kernel
theorem dX2_readClause_66 : decode cX2_readClause 66 = .ok (.aload_n 0, 1) := by decide +kernel
theorem dX2_readClause_67 : decode cX2_readClause 67 = .ok (.getfield 31, 3) := by decide +kernel
theorem dX2_readClause_70 : decode cX2_readClause 70 = .ok (.iadd, 1) := by decide +kernel
theorem dX2_readClause_71 : decode cX2_readClause 71 = .ok (.ireturn, 1) := by decide +kernel
theorem dX2_readClause_72 : decode cX2_readClause 72 = .ok (.iload_n 3, 1) := by decide +kernel
theorem dX2_readClause_73 : decode cX2_readClause 73 = .ok (.bipush 100, 2) := by decide +kernel
theorem dX2_readClause_75 : decode cX2_readClause 75 = .ok (.if_icmp .ne 8, 3) := by decide +kernel
theorem dX2_readClause_78 : decode cX2_readClause 78 = .ok (.bipush 60, 2) := by decide +kernel
theorem dX2_readClause_80 : decode cX2_readClause 80 = .ok (.goto 4, 3) := by decide +kernel
theorem dX2_readClause_83 : decode cX2_readClause 83 = .ok (.iconst 0, 1) := by decide +kernel
theorem dX2_readClause_84 : decode cX2_readClause 84 = .ok (.istore 6, 2) := by decide +kernel
theorem dX2_readClause_86 : decode cX2_readClause 86 = .ok (.aload_n 0, 1) := by decide +kernel
theorem dX2_readClause_87 : decode cX2_readClause 87 = .ok (.getfield 31, 3) := by decide +kernel
theorem dX2_readClause_90 : decode cX2_readClause 90 = .ok (.iload 4, 2) := by decide +kernel
theorem dX2_readClause_92 : decode cX2_readClause 92 = .ok (.isub, 1) := by decide +kernel
theorem dX2_readClause_93 : decode cX2_readClause 93 = .ok (.iconst 4, 1) := by decide +kernel
theorem dX2_readClause_94 : decode cX2_readClause 94 = .ok (.if_icmp .gt 16, 3) := by decide +kernel
theorem dX2_readClause_97 : decode cX2_readClause 97 = .ok (.iload 5, 2) := by decide +kernel
theorem dX2_readClause_99 : decode cX2_readClause 99 = .ok (.iload 6, 2) := by decide +kernel
theorem dX2_readClause_101 : decode cX2_readClause 101 = .ok (.sipush 9999, 3) := by decide +kernel
theorem dX2_readClause_104 : decode cX2_readClause 104 = .ok (.invokestatic 47, 3) := by decide +kernel
theorem dX2_readClause_107 : decode cX2_readClause 107 = .ok (.ifCond .ne 10, 3) := by decide +kernel
theorem dX2_readClause_110 : decode cX2_readClause 110 = .ok (.sipush 300, 3) := by decide +kernel
theorem dX2_readClause_113 : decode cX2_readClause 113 = .ok (.iload 4, 2) := by decide +kernel
theorem dX2_readClause_115 : decode cX2_readClause 115 = .ok (.iadd, 1) := by decide +kernel
theorem dX2_readClause_116 : decode cX2_readClause 116 = .ok (.ireturn, 1) := by decide +kernel
theorem dX2_readClause_117 : decode cX2_readClause 117 = .ok (.iload_n 3, 1) := by decide +kernel
theorem dX2_readClause_118 : decode cX2_readClause 118 = .ok (.bipush 100, 2) := by decide +kernel
theorem dX2_readClause_120 : decode cX2_readClause 120 = .ok (.if_icmp .ne 12, 3) := by decide +kernel
theorem dX2_readClause_123 : decode cX2_readClause 123 = .ok (.aload_n 0, 1) := by decide +kernel
theorem dX2_readClause_124 : decode cX2_readClause 124 = .ok (.iload 5, 2) := by decide +kernel
theorem dX2_readClause_126 : decode cX2_readClause 126 = .ok (.putfield 24, 3) := by decide +kernel
theorem dX2_readClause_129 : decode cX2_readClause 129 = .ok (.goto 9, 3) := by decide +kernel
theorem dX2_readClause_132 : decode cX2_readClause 132 = .ok (.aload_n 0, 1) := by decide +kernel
theorem dX2_readClause_133 : decode cX2_readClause 133 = .ok (.iload 5, 2) := by decide +kernel
theorem dX2_readClause_135 : decode cX2_readClause 135 = .ok (.putfield 28, 3) := by decide +kernel
theorem dX2_readClause_138 : decode cX2_readClause 138 = .ok (.iconst 0, 1) := by decide +kernel
theorem dX2_readClause_139 : decode cX2_readClause 139 = .ok (.ireturn, 1) := by decide +kernel
theorem dX2_readNumber_0 : decode cX2_readNumber 0 = .ok (.iconst 0, 1) := by decide +kernel
theorem dX2_readNumber_1 : decode cX2_readNumber 1 = .ok (.istore_n 3, 1) := by decide +kernel
theorem dX2_readNumber_2 : decode cX2_readNumber 2 = .ok (.iconst 0, 1) := by decide +kernel
theorem dX2_readNumber_3 : decode cX2_readNumber 3 = .ok (.istore 4, 2) := by decide +kernel
theorem dX2_readNumber_5 : decode cX2_readNumber 5 = .ok (.iload 4, 2) := by decide +kernel
theorem dX2_readNumber_7 : decode cX2_readNumber 7 = .ok (.iconst 4, 1) := by decide +kernel
theorem dX2_readNumber_8 : decode cX2_readNumber 8 = .ok (.if_icmp .gt 57, 3) := by decide +kernel
theorem dX2_readNumber_11 : decode cX2_readNumber 11 = .ok (.aload_n 1, 1) := by decide +kernel
theorem dX2_readNumber_12 : decode cX2_readNumber 12 = .ok (.aload_n 0, 1) := by decide +kernel
theorem dX2_readNumber_13 : decode cX2_readNumber 13 = .ok (.getfield 31, 3) := by decide +kernel
theorem dX2_readNumber_16 : decode cX2_readNumber 16 = .ok (.iload_n 2, 1) := by decide +kernel
theorem dX2_readNumber_17 : decode cX2_readNumber 17 = .ok (.invokevirtual 38, 3) := by decide +kernel
theorem dX2_readNumber_20 : decode cX2_readNumber 20 = .ok (.istore 5, 2) := by decide +kernel
theorem dX2_readNumber_22 : decode cX2_readNumber 22 = .ok (.iload 5, 2) := by decide +kernel
theorem dX2_readNumber_24 : decode cX2_readNumber 24 = .ok (.bipush 48, 2) := by decide +kernel
theorem dX2_readNumber_26 : decode cX2_readNumber 26 = .ok (.if_icmp .lt 10, 3) := by decide +kernel
theorem dX2_readNumber_29 : decode cX2_readNumber 29 = .ok (.iload 5, 2) := by decide +kernel
theorem dX2_readNumber_31 : decode cX2_readNumber 31 = .ok (.bipush 57, 2) := by decide +kernel
theorem dX2_readNumber_33 : decode cX2_readNumber 33 = .ok (.if_icmp .le 5, 3) := by decide +kernel
theorem dX2_readNumber_36 : decode cX2_readNumber 36 = .ok (.iload_n 3, 1) := by decide +kernel
theorem dX2_readNumber_37 : decode cX2_readNumber 37 = .ok (.ireturn, 1) := by decide +kernel
theorem dX2_readNumber_38 : decode cX2_readNumber 38 = .ok (.iload_n 3, 1) := by decide +kernel
theorem dX2_readNumber_39 : decode cX2_readNumber 39 = .ok (.bipush 10, 2) := by decide +kernel
theorem dX2_readNumber_41 : decode cX2_readNumber 41 = .ok (.imul, 1) := by decide +kernel
theorem dX2_readNumber_42 : decode cX2_readNumber 42 = .ok (.iload 5, 2) := by decide +kernel
theorem dX2_readNumber_44 : decode cX2_readNumber 44 = .ok (.bipush 48, 2) := by decide +kernel
theorem dX2_readNumber_46 : decode cX2_readNumber 46 = .ok (.isub, 1) := by decide +kernel
theorem dX2_readNumber_47 : decode cX2_readNumber 47 = .ok (.iadd, 1) := by decide +kernel
theorem dX2_readNumber_48 : decode cX2_readNumber 48 = .ok (.istore_n 3, 1) := by decide +kernel
theorem dX2_readNumber_49 : decode cX2_readNumber 49 = .ok (.aload_n 0, 1) := by decide +kernel
theorem dX2_readNumber_50 : decode cX2_readNumber 50 = .ok (.dup, 1) := by decide +kernel
theorem dX2_readNumber_51 : decode cX2_readNumber 51 = .ok (.getfield 31, 3) := by decide +kernel
theorem dX2_readNumber_54 : decode cX2_readNumber 54 = .ok (.iconst 1, 1) := by decide +kernel
theorem dX2_readNumber_55 : decode cX2_readNumber 55 = .ok (.iadd, 1) := by decide +kernel
theorem dX2_readNumber_56 : decode cX2_readNumber 56 = .ok (.putfield 31, 3) := by decide +kernel
theorem dX2_readNumber_59 : decode cX2_readNumber 59 = .ok (.iinc 4 1, 3) := by decide +kernel
theorem dX2_readNumber_62 : decode cX2_readNumber 62 = .ok (.goto (-57), 3) := by decide +kernel
theorem dX2_readNumber_65 : decode cX2_readNumber 65 = .ok (.iload_n 3, 1) := by decide +kernel
theorem dX2_readNumber_66 : decode cX2_readNumber 66 = .ok (.ireturn, 1) := by decide +kernel
theorem dX2_enact_0 : decode cX2_enact 0 = .ok (.iload_n 1, 1) := by decide +kernel
theorem dX2_enact_1 : decode cX2_enact 1 = .ok (.invokestatic 51, 3) := by decide +kernel
theorem dX2_enact_4 : decode cX2_enact 4 = .ok (.ifCond .ne 4, 3) := by decide +kernel
theorem dX2_enact_7 : decode cX2_enact 7 = .ok (.return_, 1) := by decide +kernel
theorem dX2_enact_8 : decode cX2_enact 8 = .ok (.aload_n 0, 1) := by decide +kernel
theorem dX2_enact_9 : decode cX2_enact 9 = .ok (.getfield 9, 3) := by decide +kernel
theorem dX2_enact_12 : decode cX2_enact 12 = .ok (.iload_n 1, 1) := by decide +kernel
theorem dX2_enact_13 : decode cX2_enact 13 = .ok (.aload_n 0, 1) := by decide +kernel
theorem dX2_enact_14 : decode cX2_enact 14 = .ok (.getfield 24, 3) := by decide +kernel
theorem dX2_enact_17 : decode cX2_enact 17 = .ok (.iastore, 1) := by decide +kernel
theorem dX2_enact_18 : decode cX2_enact 18 = .ok (.aload_n 0, 1) := by decide +kernel
theorem dX2_enact_19 : decode cX2_enact 19 = .ok (.getfield 15, 3) := by decide +kernel
theorem dX2_enact_22 : decode cX2_enact 22 = .ok (.iload_n 1, 1) := by decide +kernel
theorem dX2_enact_23 : decode cX2_enact 23 = .ok (.aload_n 0, 1) := by decide +kernel
theorem dX2_enact_24 : decode cX2_enact 24 = .ok (.getfield 28, 3) := by decide +kernel
theorem dX2_enact_27 : decode cX2_enact 27 = .ok (.iastore, 1) := by decide +kernel
theorem dX2_enact_28 : decode cX2_enact 28 = .ok (.sipush 840, 3) := by decide +kernel
theorem dX2_enact_31 : decode cX2_enact 31 = .ok (.istore_n 2, 1) := by decide +kernel
theorem dX2_enact_32 : decode cX2_enact 32 = .ok (.sipush 600, 3) := by decide +kernel
theorem dX2_enact_35 : decode cX2_enact 35 = .ok (.istore_n 3, 1) := by decide +kernel
theorem dX2_enact_36 : decode cX2_enact 36 = .ok (.iconst 0, 1) := by decide +kernel
theorem dX2_enact_37 : decode cX2_enact 37 = .ok (.istore 4, 2) := by decide +kernel
theorem dX2_enact_39 : decode cX2_enact 39 = .ok (.iload 4, 2) := by decide +kernel
theorem dX2_enact_41 : decode cX2_enact 41 = .ok (.bipush 7, 2) := by decide +kernel
theorem dX2_enact_43 : decode cX2_enact 43 = .ok (.if_icmp .ge 71, 3) := by decide +kernel
theorem dX2_enact_46 : decode cX2_enact 46 = .ok (.aload_n 0, 1) := by decide +kernel
theorem dX2_enact_47 : decode cX2_enact 47 = .ok (.getfield 9, 3) := by decide +kernel
theorem dX2_enact_50 : decode cX2_enact 50 = .ok (.iload 4, 2) := by decide +kernel
theorem dX2_enact_52 : decode cX2_enact 52 = .ok (.iaload, 1) := by decide +kernel
theorem dX2_enact_53 : decode cX2_enact 53 = .ok (.iconst (-1), 1) := by decide +kernel
theorem dX2_enact_54 : decode cX2_enact 54 = .ok (.if_icmp .ne 7, 3) := by decide +kernel
theorem dX2_enact_57 : decode cX2_enact 57 = .ok (.iload_n 2, 1) := by decide +kernel
theorem dX2_enact_58 : decode cX2_enact 58 = .ok (.goto 10, 3) := by decide +kernel
theorem dX2_enact_61 : decode cX2_enact 61 = .ok (.aload_n 0, 1) := by decide +kernel
theorem dX2_enact_62 : decode cX2_enact 62 = .ok (.getfield 9, 3) := by decide +kernel
theorem dX2_enact_65 : decode cX2_enact 65 = .ok (.iload 4, 2) := by decide +kernel
theorem dX2_enact_67 : decode cX2_enact 67 = .ok (.iaload, 1) := by decide +kernel
theorem dX2_enact_68 : decode cX2_enact 68 = .ok (.istore_n 2, 1) := by decide +kernel
theorem dX2_enact_69 : decode cX2_enact 69 = .ok (.aload_n 0, 1) := by decide +kernel
theorem dX2_enact_70 : decode cX2_enact 70 = .ok (.getfield 15, 3) := by decide +kernel
theorem dX2_enact_73 : decode cX2_enact 73 = .ok (.iload 4, 2) := by decide +kernel
theorem dX2_enact_75 : decode cX2_enact 75 = .ok (.iaload, 1) := by decide +kernel
theorem dX2_enact_76 : decode cX2_enact 76 = .ok (.iconst (-1), 1) := by decide +kernel
theorem dX2_enact_77 : decode cX2_enact 77 = .ok (.if_icmp .ne 7, 3) := by decide +kernel
theorem dX2_enact_80 : decode cX2_enact 80 = .ok (.iload_n 3, 1) := by decide +kernel
theorem dX2_enact_81 : decode cX2_enact 81 = .ok (.goto 10, 3) := by decide +kernel
theorem dX2_enact_84 : decode cX2_enact 84 = .ok (.aload_n 0, 1) := by decide +kernel
theorem dX2_enact_85 : decode cX2_enact 85 = .ok (.getfield 15, 3) := by decide +kernel
theorem dX2_enact_88 : decode cX2_enact 88 = .ok (.iload 4, 2) := by decide +kernel
theorem dX2_enact_90 : decode cX2_enact 90 = .ok (.iaload, 1) := by decide +kernel
theorem dX2_enact_91 : decode cX2_enact 91 = .ok (.istore_n 3, 1) := by decide +kernel
theorem dX2_enact_92 : decode cX2_enact 92 = .ok (.aload_n 0, 1) := by decide +kernel
theorem dX2_enact_93 : decode cX2_enact 93 = .ok (.getfield 18, 3) := by decide +kernel
theorem dX2_enact_96 : decode cX2_enact 96 = .ok (.iload 4, 2) := by decide +kernel
theorem dX2_enact_98 : decode cX2_enact 98 = .ok (.iload_n 2, 1) := by decide +kernel
theorem dX2_enact_99 : decode cX2_enact 99 = .ok (.iastore, 1) := by decide +kernel
theorem dX2_enact_100 : decode cX2_enact 100 = .ok (.aload_n 0, 1) := by decide +kernel
theorem dX2_enact_101 : decode cX2_enact 101 = .ok (.getfield 21, 3) := by decide +kernel
theorem dX2_enact_104 : decode cX2_enact 104 = .ok (.iload 4, 2) := by decide +kernel
theorem dX2_enact_106 : decode cX2_enact 106 = .ok (.iload_n 3, 1) := by decide +kernel
theorem dX2_enact_107 : decode cX2_enact 107 = .ok (.iastore, 1) := by decide +kernel
theorem dX2_enact_108 : decode cX2_enact 108 = .ok (.iinc 4 1, 3) := by decide +kernel
theorem dX2_enact_111 : decode cX2_enact 111 = .ok (.goto (-72), 3) := by decide +kernel
theorem dX2_enact_114 : decode cX2_enact 114 = .ok (.return_, 1) := by decide +kernel
theorem dX3_init_0 : decode cX3_init 0 = .ok (.aload_n 0, 1) := by decide +kernel
theorem dX3_init_1 : decode cX3_init 1 = .ok (.invokespecial 3, 3) := by decide +kernel
theorem dX3_init_4 : decode cX3_init 4 = .ok (.aload_n 0, 1) := by decide +kernel
theorem dX3_init_5 : decode cX3_init 5 = .ok (.bipush 40, 2) := by decide +kernel
theorem dX3_init_7 : decode cX3_init 7 = .ok (.newarray .int, 2) := by decide +kernel
theorem dX3_init_9 : decode cX3_init 9 = .ok (.putfield 11, 3) := by decide +kernel
theorem dX3_init_12 : decode cX3_init 12 = .ok (.aload_n 0, 1) := by decide +kernel
theorem dX3_init_13 : decode cX3_init 13 = .ok (.bipush 40, 2) := by decide +kernel
theorem dX3_init_15 : decode cX3_init 15 = .ok (.newarray .int, 2) := by decide +kernel
theorem dX3_init_17 : decode cX3_init 17 = .ok (.putfield 15, 3) := by decide +kernel
theorem dX3_init_20 : decode cX3_init 20 = .ok (.aload_n 0, 1) := by decide +kernel
theorem dX3_init_21 : decode cX3_init 21 = .ok (.bipush 40, 2) := by decide +kernel
theorem dX3_init_23 : decode cX3_init 23 = .ok (.newarray .int, 2) := by decide +kernel
theorem dX3_init_25 : decode cX3_init 25 = .ok (.putfield 18, 3) := by decide +kernel
theorem dX3_init_28 : decode cX3_init 28 = .ok (.aload_n 0, 1) := by decide +kernel
theorem dX3_init_29 : decode cX3_init 29 = .ok (.bipush 40, 2) := by decide +kernel
theorem dX3_init_31 : decode cX3_init 31 = .ok (.newarray .int, 2) := by decide +kernel
theorem dX3_init_33 : decode cX3_init 33 = .ok (.putfield 21, 3) := by decide +kernel
theorem dX3_init_36 : decode cX3_init 36 = .ok (.aload_n 0, 1) := by decide +kernel
theorem dX3_init_37 : decode cX3_init 37 = .ok (.bipush 40, 2) := by decide +kernel
theorem dX3_init_39 : decode cX3_init 39 = .ok (.newarray .int, 2) := by decide +kernel
theorem dX3_init_41 : decode cX3_init 41 = .ok (.putfield 24, 3) := by decide +kernel
theorem dX3_init_44 : decode cX3_init 44 = .ok (.aload_n 0, 1) := by decide +kernel
theorem dX3_init_45 : decode cX3_init 45 = .ok (.bipush 40, 2) := by decide +kernel
theorem dX3_init_47 : decode cX3_init 47 = .ok (.newarray .int, 2) := by decide +kernel
theorem dX3_init_49 : decode cX3_init 49 = .ok (.putfield 27, 3) := by decide +kernel
theorem dX3_init_52 : decode cX3_init 52 = .ok (.aload_n 0, 1) := by decide +kernel
theorem dX3_init_53 : decode cX3_init 53 = .ok (.bipush 40, 2) := by decide +kernel
theorem dX3_init_55 : decode cX3_init 55 = .ok (.newarray .int, 2) := by decide +kernel
theorem dX3_init_57 : decode cX3_init 57 = .ok (.putfield 30, 3) := by decide +kernel
theorem dX3_init_60 : decode cX3_init 60 = .ok (.return_, 1) := by decide +kernel
theorem dX3_add_0 : decode cX3_add 0 = .ok (.aload_n 0, 1) := by decide +kernel
theorem dX3_add_1 : decode cX3_add 1 = .ok (.getfield 33, 3) := by decide +kernel
theorem dX3_add_4 : decode cX3_add 4 = .ok (.bipush 40, 2) := by decide +kernel
theorem dX3_add_6 : decode cX3_add 6 = .ok (.if_icmp .lt 5, 3) := by decide +kernel
theorem dX3_add_9 : decode cX3_add 9 = .ok (.iconst (-1), 1) := by decide +kernel
theorem dX3_add_10 : decode cX3_add 10 = .ok (.ireturn, 1) := by decide +kernel
theorem dX3_add_11 : decode cX3_add 11 = .ok (.aload_n 0, 1) := by decide +kernel
theorem dX3_add_12 : decode cX3_add 12 = .ok (.getfield 11, 3) := by decide +kernel
theorem dX3_add_15 : decode cX3_add 15 = .ok (.aload_n 0, 1) := by decide +kernel
theorem dX3_add_16 : decode cX3_add 16 = .ok (.getfield 33, 3) := by decide +kernel
theorem dX3_add_19 : decode cX3_add 19 = .ok (.iconst 0, 1) := by decide +kernel
theorem dX3_add_20 : decode cX3_add 20 = .ok (.iastore, 1) := by decide +kernel
theorem dX3_add_21 : decode cX3_add 21 = .ok (.aload_n 0, 1) := by decide +kernel
theorem dX3_add_22 : decode cX3_add 22 = .ok (.getfield 15, 3) := by decide +kernel
theorem dX3_add_25 : decode cX3_add 25 = .ok (.aload_n 0, 1) := by decide +kernel
theorem dX3_add_26 : decode cX3_add 26 = .ok (.getfield 33, 3) := by decide +kernel
theorem dX3_add_29 : decode cX3_add 29 = .ok (.iload_n 1, 1) := by decide +kernel
theorem dX3_add_30 : decode cX3_add 30 = .ok (.iastore, 1) := by decide +kernel
theorem dX3_add_31 : decode cX3_add 31 = .ok (.aload_n 0, 1) := by decide +kernel
theorem dX3_add_32 : decode cX3_add 32 = .ok (.getfield 18, 3) := by decide +kernel
theorem dX3_add_35 : decode cX3_add 35 = .ok (.aload_n 0, 1) := by decide +kernel
theorem dX3_add_36 : decode cX3_add 36 = .ok (.getfield 33, 3) := by decide +kernel
theorem dX3_add_39 : decode cX3_add 39 = .ok (.iload_n 2, 1) := by decide +kernel
theorem dX3_add_40 : decode cX3_add 40 = .ok (.iastore, 1) := by decide +kernel
theorem dX3_add_41 : decode cX3_add 41 = .ok (.aload_n 0, 1) := by decide +kernel
theorem dX3_add_42 : decode cX3_add 42 = .ok (.getfield 21, 3) := by decide +kernel
theorem dX3_add_45 : decode cX3_add 45 = .ok (.aload_n 0, 1) := by decide +kernel
theorem dX3_add_46 : decode cX3_add 46 = .ok (.getfield 33, 3) := by decide +kernel
theorem dX3_add_49 : decode cX3_add 49 = .ok (.iload_n 3, 1) := by decide +kernel
theorem dX3_add_50 : decode cX3_add 50 = .ok (.iastore, 1) := by decide +kernel
theorem dX3_add_51 : decode cX3_add 51 = .ok (.aload_n 0, 1) := by decide +kernel
theorem dX3_add_52 : decode cX3_add 52 = .ok (.getfield 24, 3) := by decide +kernel
theorem dX3_add_55 : decode cX3_add 55 = .ok (.aload_n 0, 1) := by decide +kernel
theorem dX3_add_56 : decode cX3_add 56 = .ok (.getfield 33, 3) := by decide +kernel
theorem dX3_add_59 : decode cX3_add 59 = .ok (.iload 4, 2) := by decide +kernel
theorem dX3_add_61 : decode cX3_add 61 = .ok (.iastore, 1) := by decide +kernel
theorem dX3_add_62 : decode cX3_add 62 = .ok (.aload_n 0, 1) := by decide +kernel
theorem dX3_add_63 : decode cX3_add 63 = .ok (.getfield 27, 3) := by decide +kernel
theorem dX3_add_66 : decode cX3_add 66 = .ok (.aload_n 0, 1) := by decide +kernel
theorem dX3_add_67 : decode cX3_add 67 = .ok (.getfield 33, 3) := by decide +kernel
theorem dX3_add_70 : decode cX3_add 70 = .ok (.iload 5, 2) := by decide +kernel
theorem dX3_add_72 : decode cX3_add 72 = .ok (.iastore, 1) := by decide +kernel
theorem dX3_add_73 : decode cX3_add 73 = .ok (.aload_n 0, 1) := by decide +kernel
theorem dX3_add_74 : decode cX3_add 74 = .ok (.getfield 30, 3) := by decide +kernel
theorem dX3_add_77 : decode cX3_add 77 = .ok (.aload_n 0, 1) := by decide +kernel
theorem dX3_add_78 : decode cX3_add 78 = .ok (.getfield 33, 3) := by decide +kernel
theorem dX3_add_81 : decode cX3_add 81 = .ok (.iconst (-1), 1) := by decide +kernel
theorem dX3_add_82 : decode cX3_add 82 = .ok (.iastore, 1) := by decide +kernel
theorem dX3_add_83 : decode cX3_add 83 = .ok (.aload_n 0, 1) := by decide +kernel
theorem dX3_add_84 : decode cX3_add 84 = .ok (.dup, 1) := by decide +kernel
theorem dX3_add_85 : decode cX3_add 85 = .ok (.getfield 33, 3) := by decide +kernel
theorem dX3_add_88 : decode cX3_add 88 = .ok (.iconst 1, 1) := by decide +kernel
theorem dX3_add_89 : decode cX3_add 89 = .ok (.iadd, 1) := by decide +kernel
theorem dX3_add_90 : decode cX3_add 90 = .ok (.putfield 33, 3) := by decide +kernel
theorem dX3_add_93 : decode cX3_add 93 = .ok (.aload_n 0, 1) := by decide +kernel
theorem dX3_add_94 : decode cX3_add 94 = .ok (.getfield 33, 3) := by decide +kernel
theorem dX3_add_97 : decode cX3_add 97 = .ok (.iconst 1, 1) := by decide +kernel
theorem dX3_add_98 : decode cX3_add 98 = .ok (.isub, 1) := by decide +kernel
theorem dX3_add_99 : decode cX3_add 99 = .ok (.ireturn, 1) := by decide +kernel
theorem dX3_sell_0 : decode cX3_sell 0 = .ok (.aload_n 0, 1) := by decide +kernel
theorem dX3_sell_1 : decode cX3_sell 1 = .ok (.iload_n 1, 1) := by decide +kernel
theorem dX3_sell_2 : decode cX3_sell 2 = .ok (.invokevirtual 37, 3) := by decide +kernel
theorem dX3_sell_5 : decode cX3_sell 5 = .ok (.ifCond .eq 17, 3) := by decide +kernel
theorem dX3_sell_8 : decode cX3_sell 8 = .ok (.aload_n 0, 1) := by decide +kernel
theorem dX3_sell_9 : decode cX3_sell 9 = .ok (.getfield 11, 3) := by decide +kernel
theorem dX3_sell_12 : decode cX3_sell 12 = .ok (.iload_n 1, 1) := by decide +kernel
theorem dX3_sell_13 : decode cX3_sell 13 = .ok (.iconst 1, 1) := by decide +kernel
theorem dX3_sell_14 : decode cX3_sell 14 = .ok (.iastore, 1) := by decide +kernel
theorem dX3_sell_15 : decode cX3_sell 15 = .ok (.aload_n 0, 1) := by decide +kernel
theorem dX3_sell_16 : decode cX3_sell 16 = .ok (.getfield 30, 3) := by decide +kernel
theorem dX3_sell_19 : decode cX3_sell 19 = .ok (.iload_n 1, 1) := by decide +kernel
theorem dX3_sell_20 : decode cX3_sell 20 = .ok (.iload_n 2, 1) := by decide +kernel
theorem dX3_sell_21 : decode cX3_sell 21 = .ok (.iastore, 1) := by decide +kernel
theorem dX3_sell_22 : decode cX3_sell 22 = .ok (.return_, 1) := by decide +kernel
theorem dX3_lapseBehind_0 : decode cX3_lapseBehind 0 = .ok (.iconst 0, 1) := by decide +kernel
theorem dX3_lapseBehind_1 : decode cX3_lapseBehind 1 = .ok (.istore_n 2, 1) := by decide +kernel
theorem dX3_lapseBehind_2 : decode cX3_lapseBehind 2 = .ok (.iload_n 2, 1) := by decide +kernel
theorem dX3_lapseBehind_3 : decode cX3_lapseBehind 3 = .ok (.aload_n 0, 1) := by decide +kernel
theorem dX3_lapseBehind_4 : decode cX3_lapseBehind 4 = .ok (.getfield 33, 3) := by decide +kernel
theorem dX3_lapseBehind_7 : decode cX3_lapseBehind 7 = .ok (.if_icmp .ge 35, 3) := by decide +kernel
theorem dX3_lapseBehind_10 : decode cX3_lapseBehind 10 = .ok (.aload_n 0, 1) := by decide +kernel
theorem dX3_lapseBehind_11 : decode cX3_lapseBehind 11 = .ok (.getfield 11, 3) := by decide +kernel
theorem dX3_lapseBehind_14 : decode cX3_lapseBehind 14 = .ok (.iload_n 2, 1) := by decide +kernel
theorem dX3_lapseBehind_15 : decode cX3_lapseBehind 15 = .ok (.iaload, 1) := by decide +kernel
theorem dX3_lapseBehind_16 : decode cX3_lapseBehind 16 = .ok (.ifCond .ne 20, 3) := by decide +kernel
theorem dX3_lapseBehind_19 : decode cX3_lapseBehind 19 = .ok (.iload_n 1, 1) := by decide +kernel
theorem dX3_lapseBehind_20 : decode cX3_lapseBehind 20 = .ok (.aload_n 0, 1) := by decide +kernel
theorem dX3_lapseBehind_21 : decode cX3_lapseBehind 21 = .ok (.getfield 27, 3) := by decide +kernel
theorem dX3_lapseBehind_24 : decode cX3_lapseBehind 24 = .ok (.iload_n 2, 1) := by decide +kernel
theorem dX3_lapseBehind_25 : decode cX3_lapseBehind 25 = .ok (.iaload, 1) := by decide +kernel
theorem dX3_lapseBehind_26 : decode cX3_lapseBehind 26 = .ok (.if_icmp .le 10, 3) := by decide +kernel
theorem dX3_lapseBehind_29 : decode cX3_lapseBehind 29 = .ok (.aload_n 0, 1) := by decide +kernel
theorem dX3_lapseBehind_30 : decode cX3_lapseBehind 30 = .ok (.getfield 11, 3) := by decide +kernel
theorem dX3_lapseBehind_33 : decode cX3_lapseBehind 33 = .ok (.iload_n 2, 1) := by decide +kernel
theorem dX3_lapseBehind_34 : decode cX3_lapseBehind 34 = .ok (.iconst 2, 1) := by decide +kernel
theorem dX3_lapseBehind_35 : decode cX3_lapseBehind 35 = .ok (.iastore, 1) := by decide +kernel
theorem dX3_lapseBehind_36 : decode cX3_lapseBehind 36 = .ok (.iinc 2 1, 3) := by decide +kernel
theorem dX3_lapseBehind_39 : decode cX3_lapseBehind 39 = .ok (.goto (-37), 3) := by decide +kernel
theorem dX3_lapseBehind_42 : decode cX3_lapseBehind 42 = .ok (.return_, 1) := by decide +kernel
theorem dX3_breakLost_0 : decode cX3_breakLost 0 = .ok (.iconst 0, 1) := by decide +kernel
theorem dX3_breakLost_1 : decode cX3_breakLost 1 = .ok (.istore_n 2, 1) := by decide +kernel
theorem dX3_breakLost_2 : decode cX3_breakLost 2 = .ok (.iload_n 2, 1) := by decide +kernel
theorem dX3_breakLost_3 : decode cX3_breakLost 3 = .ok (.aload_n 0, 1) := by decide +kernel
theorem dX3_breakLost_4 : decode cX3_breakLost 4 = .ok (.getfield 33, 3) := by decide +kernel
theorem dX3_breakLost_7 : decode cX3_breakLost 7 = .ok (.if_icmp .ge 79, 3) := by decide +kernel
theorem dX3_breakLost_10 : decode cX3_breakLost 10 = .ok (.aload_n 0, 1) := by decide +kernel
theorem dX3_breakLost_11 : decode cX3_breakLost 11 = .ok (.getfield 21, 3) := by decide +kernel
theorem dX3_breakLost_14 : decode cX3_breakLost 14 = .ok (.iload_n 2, 1) := by decide +kernel
theorem dX3_breakLost_15 : decode cX3_breakLost 15 = .ok (.iaload, 1) := by decide +kernel
theorem dX3_breakLost_16 : decode cX3_breakLost 16 = .ok (.istore_n 3, 1) := by decide +kernel
theorem dX3_breakLost_17 : decode cX3_breakLost 17 = .ok (.aload_n 1, 1) := by decide +kernel
theorem dX3_breakLost_18 : decode cX3_breakLost 18 = .ok (.iload_n 3, 1) := by decide +kernel
theorem dX3_breakLost_19 : decode cX3_breakLost 19 = .ok (.invokevirtual 41, 3) := by decide +kernel
theorem dX3_breakLost_22 : decode cX3_breakLost 22 = .ok (.aload_n 0, 1) := by decide +kernel
theorem dX3_breakLost_23 : decode cX3_breakLost 23 = .ok (.getfield 18, 3) := by decide +kernel
theorem dX3_breakLost_26 : decode cX3_breakLost 26 = .ok (.iload_n 2, 1) := by decide +kernel
theorem dX3_breakLost_27 : decode cX3_breakLost 27 = .ok (.iaload, 1) := by decide +kernel
theorem dX3_breakLost_28 : decode cX3_breakLost 28 = .ok (.if_icmp .ne 29, 3) := by decide +kernel
theorem dX3_breakLost_31 : decode cX3_breakLost 31 = .ok (.aload_n 1, 1) := by decide +kernel
theorem dX3_breakLost_32 : decode cX3_breakLost 32 = .ok (.iload_n 3, 1) := by decide +kernel
theorem dX3_breakLost_33 : decode cX3_breakLost 33 = .ok (.invokevirtual 47, 3) := by decide +kernel
theorem dX3_breakLost_36 : decode cX3_breakLost 36 = .ok (.ifCond .eq 21, 3) := by decide +kernel
theorem dX3_breakLost_39 : decode cX3_breakLost 39 = .ok (.aload_n 1, 1) := by decide +kernel
theorem dX3_breakLost_40 : decode cX3_breakLost 40 = .ok (.iload_n 3, 1) := by decide +kernel
theorem dX3_breakLost_41 : decode cX3_breakLost 41 = .ok (.invokevirtual 50, 3) := by decide +kernel
theorem dX3_breakLost_44 : decode cX3_breakLost 44 = .ok (.aload_n 0, 1) := by decide +kernel
theorem dX3_breakLost_45 : decode cX3_breakLost 45 = .ok (.getfield 15, 3) := by decide +kernel
theorem dX3_breakLost_48 : decode cX3_breakLost 48 = .ok (.iload_n 2, 1) := by decide +kernel
theorem dX3_breakLost_49 : decode cX3_breakLost 49 = .ok (.iaload, 1) := by decide +kernel
theorem dX3_breakLost_50 : decode cX3_breakLost 50 = .ok (.if_icmp .ne 7, 3) := by decide +kernel
theorem dX3_breakLost_53 : decode cX3_breakLost 53 = .ok (.iconst 1, 1) := by decide +kernel
theorem dX3_breakLost_54 : decode cX3_breakLost 54 = .ok (.goto 4, 3) := by decide +kernel
theorem dX3_breakLost_57 : decode cX3_breakLost 57 = .ok (.iconst 0, 1) := by decide +kernel
theorem dX3_breakLost_58 : decode cX3_breakLost 58 = .ok (.istore 4, 2) := by decide +kernel
theorem dX3_breakLost_60 : decode cX3_breakLost 60 = .ok (.aload_n 0, 1) := by decide +kernel
theorem dX3_breakLost_61 : decode cX3_breakLost 61 = .ok (.iload_n 2, 1) := by decide +kernel
theorem dX3_breakLost_62 : decode cX3_breakLost 62 = .ok (.invokevirtual 53, 3) := by decide +kernel
theorem dX3_breakLost_65 : decode cX3_breakLost 65 = .ok (.ifCond .eq 15, 3) := by decide +kernel
theorem dX3_breakLost_68 : decode cX3_breakLost 68 = .ok (.iload 4, 2) := by decide +kernel
theorem dX3_breakLost_70 : decode cX3_breakLost 70 = .ok (.ifCond .ne 10, 3) := by decide +kernel
theorem dX3_breakLost_73 : decode cX3_breakLost 73 = .ok (.aload_n 0, 1) := by decide +kernel
theorem dX3_breakLost_74 : decode cX3_breakLost 74 = .ok (.getfield 11, 3) := by decide +kernel
theorem dX3_breakLost_77 : decode cX3_breakLost 77 = .ok (.iload_n 2, 1) := by decide +kernel
theorem dX3_breakLost_78 : decode cX3_breakLost 78 = .ok (.iconst 3, 1) := by decide +kernel
theorem dX3_breakLost_79 : decode cX3_breakLost 79 = .ok (.iastore, 1) := by decide +kernel
theorem dX3_breakLost_80 : decode cX3_breakLost 80 = .ok (.iinc 2 1, 3) := by decide +kernel
theorem dX3_breakLost_83 : decode cX3_breakLost 83 = .ok (.goto (-81), 3) := by decide +kernel
theorem dX3_breakLost_86 : decode cX3_breakLost 86 = .ok (.return_, 1) := by decide +kernel
theorem dX3_isStanding_0 : decode cX3_isStanding 0 = .ok (.aload_n 0, 1) := by decide +kernel
theorem dX3_isStanding_1 : decode cX3_isStanding 1 = .ok (.iload_n 1, 1) := by decide +kernel
theorem dX3_isStanding_2 : decode cX3_isStanding 2 = .ok (.invokevirtual 56, 3) := by decide +kernel
theorem dX3_isStanding_5 : decode cX3_isStanding 5 = .ok (.ifCond .eq 12, 3) := by decide +kernel
theorem dX3_isStanding_8 : decode cX3_isStanding 8 = .ok (.aload_n 0, 1) := by decide +kernel
theorem dX3_isStanding_9 : decode cX3_isStanding 9 = .ok (.iload_n 1, 1) := by decide +kernel
theorem dX3_isStanding_10 : decode cX3_isStanding 10 = .ok (.invokevirtual 56, 3) := by decide +kernel
theorem dX3_isStanding_13 : decode cX3_isStanding 13 = .ok (.iconst 1, 1) := by decide +kernel
theorem dX3_isStanding_14 : decode cX3_isStanding 14 = .ok (.if_icmp .ne 7, 3) := by decide +kernel
theorem dX3_isStanding_17 : decode cX3_isStanding 17 = .ok (.iconst 1, 1) := by decide +kernel
theorem dX3_isStanding_18 : decode cX3_isStanding 18 = .ok (.goto 4, 3) := by decide +kernel
theorem dX3_isStanding_21 : decode cX3_isStanding 21 = .ok (.iconst 0, 1) := by decide +kernel
theorem dX3_isStanding_22 : decode cX3_isStanding 22 = .ok (.ireturn, 1) := by decide +kernel
theorem dX3_isHeld_0 : decode cX3_isHeld 0 = .ok (.iconst 0, 1) := by decide +kernel
theorem dX3_isHeld_1 : decode cX3_isHeld 1 = .ok (.istore_n 2, 1) := by decide +kernel
theorem dX3_isHeld_2 : decode cX3_isHeld 2 = .ok (.iload_n 2, 1) := by decide +kernel
theorem dX3_isHeld_3 : decode cX3_isHeld 3 = .ok (.aload_n 0, 1) := by decide +kernel
theorem dX3_isHeld_4 : decode cX3_isHeld 4 = .ok (.getfield 33, 3) := by decide +kernel
theorem dX3_isHeld_7 : decode cX3_isHeld 7 = .ok (.if_icmp .ge 29, 3) := by decide +kernel
theorem dX3_isHeld_10 : decode cX3_isHeld 10 = .ok (.aload_n 0, 1) := by decide +kernel
theorem dX3_isHeld_11 : decode cX3_isHeld 11 = .ok (.getfield 21, 3) := by decide +kernel
theorem dX3_isHeld_14 : decode cX3_isHeld 14 = .ok (.iload_n 2, 1) := by decide +kernel
theorem dX3_isHeld_15 : decode cX3_isHeld 15 = .ok (.iaload, 1) := by decide +kernel
theorem dX3_isHeld_16 : decode cX3_isHeld 16 = .ok (.iload_n 1, 1) := by decide +kernel
theorem dX3_isHeld_17 : decode cX3_isHeld 17 = .ok (.if_icmp .ne 13, 3) := by decide +kernel
theorem dX3_isHeld_20 : decode cX3_isHeld 20 = .ok (.aload_n 0, 1) := by decide +kernel
theorem dX3_isHeld_21 : decode cX3_isHeld 21 = .ok (.iload_n 2, 1) := by decide +kernel
theorem dX3_isHeld_22 : decode cX3_isHeld 22 = .ok (.invokevirtual 53, 3) := by decide +kernel
theorem dX3_isHeld_25 : decode cX3_isHeld 25 = .ok (.ifCond .eq 5, 3) := by decide +kernel
theorem dX3_isHeld_28 : decode cX3_isHeld 28 = .ok (.iconst 1, 1) := by decide +kernel
theorem dX3_isHeld_29 : decode cX3_isHeld 29 = .ok (.ireturn, 1) := by decide +kernel
theorem dX3_isHeld_30 : decode cX3_isHeld 30 = .ok (.iinc 2 1, 3) := by decide +kernel
theorem dX3_isHeld_33 : decode cX3_isHeld 33 = .ok (.goto (-31), 3) := by decide +kernel
theorem dX3_isHeld_36 : decode cX3_isHeld 36 = .ok (.iconst 0, 1) := by decide +kernel
theorem dX3_isHeld_37 : decode cX3_isHeld 37 = .ok (.ireturn, 1) := by decide +kernel
theorem dX3_takenPrice_0 : decode cX3_takenPrice 0 = .ok (.iconst 0, 1) := by decide +kernel
theorem dX3_takenPrice_1 : decode cX3_takenPrice 1 = .ok (.istore_n 2, 1) := by decide +kernel
theorem dX3_takenPrice_2 : decode cX3_takenPrice 2 = .ok (.iload_n 2, 1) := by decide +kernel
theorem dX3_takenPrice_3 : decode cX3_takenPrice 3 = .ok (.aload_n 0, 1) := by decide +kernel
theorem dX3_takenPrice_4 : decode cX3_takenPrice 4 = .ok (.getfield 33, 3) := by decide +kernel
theorem dX3_takenPrice_7 : decode cX3_takenPrice 7 = .ok (.if_icmp .ge 36, 3) := by decide +kernel
theorem dX3_takenPrice_10 : decode cX3_takenPrice 10 = .ok (.aload_n 0, 1) := by decide +kernel
theorem dX3_takenPrice_11 : decode cX3_takenPrice 11 = .ok (.getfield 21, 3) := by decide +kernel
theorem dX3_takenPrice_14 : decode cX3_takenPrice 14 = .ok (.iload_n 2, 1) := by decide +kernel
theorem dX3_takenPrice_15 : decode cX3_takenPrice 15 = .ok (.iaload, 1) := by decide +kernel
theorem dX3_takenPrice_16 : decode cX3_takenPrice 16 = .ok (.iload_n 1, 1) := by decide +kernel
theorem dX3_takenPrice_17 : decode cX3_takenPrice 17 = .ok (.if_icmp .ne 20, 3) := by decide +kernel
theorem dX3_takenPrice_20 : decode cX3_takenPrice 20 = .ok (.aload_n 0, 1) := by decide +kernel
theorem dX3_takenPrice_21 : decode cX3_takenPrice 21 = .ok (.getfield 11, 3) := by decide +kernel
theorem dX3_takenPrice_24 : decode cX3_takenPrice 24 = .ok (.iload_n 2, 1) := by decide +kernel
theorem dX3_takenPrice_25 : decode cX3_takenPrice 25 = .ok (.iaload, 1) := by decide +kernel
theorem dX3_takenPrice_26 : decode cX3_takenPrice 26 = .ok (.iconst 1, 1) := by decide +kernel
theorem dX3_takenPrice_27 : decode cX3_takenPrice 27 = .ok (.if_icmp .ne 10, 3) := by decide +kernel
theorem dX3_takenPrice_30 : decode cX3_takenPrice 30 = .ok (.aload_n 0, 1) := by decide +kernel
theorem dX3_takenPrice_31 : decode cX3_takenPrice 31 = .ok (.getfield 24, 3) := by decide +kernel
theorem dX3_takenPrice_34 : decode cX3_takenPrice 34 = .ok (.iload_n 2, 1) := by decide +kernel
theorem dX3_takenPrice_35 : decode cX3_takenPrice 35 = .ok (.iaload, 1) := by decide +kernel
theorem dX3_takenPrice_36 : decode cX3_takenPrice 36 = .ok (.ireturn, 1) := by decide +kernel
theorem dX3_takenPrice_37 : decode cX3_takenPrice 37 = .ok (.iinc 2 1, 3) := by decide +kernel
theorem dX3_takenPrice_40 : decode cX3_takenPrice 40 = .ok (.goto (-38), 3) := by decide +kernel
theorem dX3_takenPrice_43 : decode cX3_takenPrice 43 = .ok (.iconst 0, 1) := by decide +kernel
theorem dX3_takenPrice_44 : decode cX3_takenPrice 44 = .ok (.ireturn, 1) := by decide +kernel
theorem dX3_size_0 : decode cX3_size 0 = .ok (.aload_n 0, 1) := by decide +kernel
theorem dX3_size_1 : decode cX3_size 1 = .ok (.getfield 33, 3) := by decide +kernel
theorem dX3_size_4 : decode cX3_size 4 = .ok (.ireturn, 1) := by decide +kernel
theorem dX3_has_0 : decode cX3_has 0 = .ok (.iload_n 1, 1) := by decide +kernel
theorem dX3_has_1 : decode cX3_has 1 = .ok (.ifCond .lt 15, 3) := by decide +kernel
theorem dX3_has_4 : decode cX3_has 4 = .ok (.iload_n 1, 1) := by decide +kernel
theorem dX3_has_5 : decode cX3_has 5 = .ok (.aload_n 0, 1) := by decide +kernel
theorem dX3_has_6 : decode cX3_has 6 = .ok (.getfield 33, 3) := by decide +kernel
theorem dX3_has_9 : decode cX3_has 9 = .ok (.if_icmp .ge 7, 3) := by decide +kernel
theorem dX3_has_12 : decode cX3_has 12 = .ok (.iconst 1, 1) := by decide +kernel
theorem dX3_has_13 : decode cX3_has 13 = .ok (.goto 4, 3) := by decide +kernel
theorem dX3_has_16 : decode cX3_has 16 = .ok (.iconst 0, 1) := by decide +kernel
theorem dX3_has_17 : decode cX3_has 17 = .ok (.ireturn, 1) := by decide +kernel
theorem dX3_stateOf_0 : decode cX3_stateOf 0 = .ok (.aload_n 0, 1) := by decide +kernel
theorem dX3_stateOf_1 : decode cX3_stateOf 1 = .ok (.iload_n 1, 1) := by decide +kernel
theorem dX3_stateOf_2 : decode cX3_stateOf 2 = .ok (.invokevirtual 37, 3) := by decide +kernel
theorem dX3_stateOf_5 : decode cX3_stateOf 5 = .ok (.ifCond .eq 12, 3) := by decide +kernel
theorem dX3_stateOf_8 : decode cX3_stateOf 8 = .ok (.aload_n 0, 1) := by decide +kernel
theorem dX3_stateOf_9 : decode cX3_stateOf 9 = .ok (.getfield 11, 3) := by decide +kernel
theorem dX3_stateOf_12 : decode cX3_stateOf 12 = .ok (.iload_n 1, 1) := by decide +kernel
theorem dX3_stateOf_13 : decode cX3_stateOf 13 = .ok (.iaload, 1) := by decide +kernel
theorem dX3_stateOf_14 : decode cX3_stateOf 14 = .ok (.goto 4, 3) := by decide +kernel
theorem dX3_stateOf_17 : decode cX3_stateOf 17 = .ok (.iconst (-1), 1) := by decide +kernel
theorem dX3_stateOf_18 : decode cX3_stateOf 18 = .ok (.ireturn, 1) := by decide +kernel
theorem dX3_priceOf_0 : decode cX3_priceOf 0 = .ok (.aload_n 0, 1) := by decide +kernel
theorem dX3_priceOf_1 : decode cX3_priceOf 1 = .ok (.iload_n 1, 1) := by decide +kernel
theorem dX3_priceOf_2 : decode cX3_priceOf 2 = .ok (.invokevirtual 37, 3) := by decide +kernel
theorem dX3_priceOf_5 : decode cX3_priceOf 5 = .ok (.ifCond .eq 12, 3) := by decide +kernel
theorem dX3_priceOf_8 : decode cX3_priceOf 8 = .ok (.aload_n 0, 1) := by decide +kernel
theorem dX3_priceOf_9 : decode cX3_priceOf 9 = .ok (.getfield 24, 3) := by decide +kernel
theorem dX3_priceOf_12 : decode cX3_priceOf 12 = .ok (.iload_n 1, 1) := by decide +kernel
theorem dX3_priceOf_13 : decode cX3_priceOf 13 = .ok (.iaload, 1) := by decide +kernel
theorem dX3_priceOf_14 : decode cX3_priceOf 14 = .ok (.goto 4, 3) := by decide +kernel
theorem dX3_priceOf_17 : decode cX3_priceOf 17 = .ok (.iconst (-1), 1) := by decide +kernel
theorem dX3_priceOf_18 : decode cX3_priceOf 18 = .ok (.ireturn, 1) := by decide +kernel
theorem dX3_tillOf_0 : decode cX3_tillOf 0 = .ok (.aload_n 0, 1) := by decide +kernel
theorem dX3_tillOf_1 : decode cX3_tillOf 1 = .ok (.iload_n 1, 1) := by decide +kernel
theorem dX3_tillOf_2 : decode cX3_tillOf 2 = .ok (.invokevirtual 37, 3) := by decide +kernel
theorem dX3_tillOf_5 : decode cX3_tillOf 5 = .ok (.ifCond .eq 12, 3) := by decide +kernel
theorem dX3_tillOf_8 : decode cX3_tillOf 8 = .ok (.aload_n 0, 1) := by decide +kernel
theorem dX3_tillOf_9 : decode cX3_tillOf 9 = .ok (.getfield 27, 3) := by decide +kernel
theorem dX3_tillOf_12 : decode cX3_tillOf 12 = .ok (.iload_n 1, 1) := by decide +kernel
theorem dX3_tillOf_13 : decode cX3_tillOf 13 = .ok (.iaload, 1) := by decide +kernel
theorem dX3_tillOf_14 : decode cX3_tillOf 14 = .ok (.goto 4, 3) := by decide +kernel
theorem dX3_tillOf_17 : decode cX3_tillOf 17 = .ok (.iconst (-1), 1) := by decide +kernel
theorem dX3_tillOf_18 : decode cX3_tillOf 18 = .ok (.ireturn, 1) := by decide +kernel
theorem dX3_clientOf_0 : decode cX3_clientOf 0 = .ok (.aload_n 0, 1) := by decide +kernel
theorem dX3_clientOf_1 : decode cX3_clientOf 1 = .ok (.iload_n 1, 1) := by decide +kernel
theorem dX3_clientOf_2 : decode cX3_clientOf 2 = .ok (.invokevirtual 37, 3) := by decide +kernel
theorem dX3_clientOf_5 : decode cX3_clientOf 5 = .ok (.ifCond .eq 12, 3) := by decide +kernel
theorem dX3_clientOf_8 : decode cX3_clientOf 8 = .ok (.aload_n 0, 1) := by decide +kernel
theorem dX3_clientOf_9 : decode cX3_clientOf 9 = .ok (.getfield 30, 3) := by decide +kernel
theorem dX3_clientOf_12 : decode cX3_clientOf 12 = .ok (.iload_n 1, 1) := by decide +kernel
theorem dX3_clientOf_13 : decode cX3_clientOf 13 = .ok (.iaload, 1) := by decide +kernel
theorem dX3_clientOf_14 : decode cX3_clientOf 14 = .ok (.goto 4, 3) := by decide +kernel
theorem dX3_clientOf_17 : decode cX3_clientOf 17 = .ok (.iconst (-1), 1) := by decide +kernel
theorem dX3_clientOf_18 : decode cX3_clientOf 18 = .ok (.ireturn, 1) := by decide +kernel
theorem dX3_planeOf_0 : decode cX3_planeOf 0 = .ok (.aload_n 0, 1) := by decide +kernel
theorem dX3_planeOf_1 : decode cX3_planeOf 1 = .ok (.iload_n 1, 1) := by decide +kernel
theorem dX3_planeOf_2 : decode cX3_planeOf 2 = .ok (.invokevirtual 37, 3) := by decide +kernel
theorem dX3_planeOf_5 : decode cX3_planeOf 5 = .ok (.ifCond .eq 12, 3) := by decide +kernel
theorem dX3_planeOf_8 : decode cX3_planeOf 8 = .ok (.aload_n 0, 1) := by decide +kernel
theorem dX3_planeOf_9 : decode cX3_planeOf 9 = .ok (.getfield 18, 3) := by decide +kernel
theorem dX3_planeOf_12 : decode cX3_planeOf 12 = .ok (.iload_n 1, 1) := by decide +kernel
theorem dX3_planeOf_13 : decode cX3_planeOf 13 = .ok (.iaload, 1) := by decide +kernel
theorem dX3_planeOf_14 : decode cX3_planeOf 14 = .ok (.goto 4, 3) := by decide +kernel
theorem dX3_planeOf_17 : decode cX3_planeOf 17 = .ok (.iconst (-1), 1) := by decide +kernel
theorem dX3_planeOf_18 : decode cX3_planeOf 18 = .ok (.ireturn, 1) := by decide +kernel
theorem dX3_flightOf_0 : decode cX3_flightOf 0 = .ok (.aload_n 0, 1) := by decide +kernel
theorem dX3_flightOf_1 : decode cX3_flightOf 1 = .ok (.iload_n 1, 1) := by decide +kernel
theorem dX3_flightOf_2 : decode cX3_flightOf 2 = .ok (.invokevirtual 37, 3) := by decide +kernel
theorem dX3_flightOf_5 : decode cX3_flightOf 5 = .ok (.ifCond .eq 12, 3) := by decide +kernel
theorem dX3_flightOf_8 : decode cX3_flightOf 8 = .ok (.aload_n 0, 1) := by decide +kernel
theorem dX3_flightOf_9 : decode cX3_flightOf 9 = .ok (.getfield 21, 3) := by decide +kernel
theorem dX3_flightOf_12 : decode cX3_flightOf 12 = .ok (.iload_n 1, 1) := by decide +kernel
theorem dX3_flightOf_13 : decode cX3_flightOf 13 = .ok (.iaload, 1) := by decide +kernel
theorem dX3_flightOf_14 : decode cX3_flightOf 14 = .ok (.goto 4, 3) := by decide +kernel
theorem dX3_flightOf_17 : decode cX3_flightOf 17 = .ok (.iconst (-1), 1) := by decide +kernel
theorem dX3_flightOf_18 : decode cX3_flightOf 18 = .ok (.ireturn, 1) := by decide +kernel
theorem dX4_init_0 : decode cX4_init 0 = .ok (.aload_n 0, 1) := by decide +kernel
theorem dX4_init_1 : decode cX4_init 1 = .ok (.invokespecial 3, 3) := by decide +kernel
theorem dX4_init_4 : decode cX4_init 4 = .ok (.aload_n 0, 1) := by decide +kernel
theorem dX4_init_5 : decode cX4_init 5 = .ok (.iconst 4, 1) := by decide +kernel
theorem dX4_init_6 : decode cX4_init 6 = .ok (.newarray .int, 2) := by decide +kernel
theorem dX4_init_8 : decode cX4_init 8 = .ok (.putfield 11, 3) := by decide +kernel
theorem dX4_init_11 : decode cX4_init 11 = .ok (.aload_n 0, 1) := by decide +kernel
theorem dX4_init_12 : decode cX4_init 12 = .ok (.iconst 4, 1) := by decide +kernel
theorem dX4_init_13 : decode cX4_init 13 = .ok (.newarray .int, 2) := by decide +kernel
theorem dX4_init_15 : decode cX4_init 15 = .ok (.putfield 15, 3) := by decide +kernel
theorem dX4_init_18 : decode cX4_init 18 = .ok (.aload_n 0, 1) := by decide +kernel
theorem dX4_init_19 : decode cX4_init 19 = .ok (.iconst 4, 1) := by decide +kernel
theorem dX4_init_20 : decode cX4_init 20 = .ok (.newarray .int, 2) := by decide +kernel
theorem dX4_init_22 : decode cX4_init 22 = .ok (.putfield 18, 3) := by decide +kernel
theorem dX4_init_25 : decode cX4_init 25 = .ok (.aload_n 0, 1) := by decide +kernel
theorem dX4_init_26 : decode cX4_init 26 = .ok (.iconst 4, 1) := by decide +kernel
theorem dX4_init_27 : decode cX4_init 27 = .ok (.newarray .int, 2) := by decide +kernel
theorem dX4_init_29 : decode cX4_init 29 = .ok (.putfield 21, 3) := by decide +kernel
theorem dX4_init_32 : decode cX4_init 32 = .ok (.return_, 1) := by decide +kernel
theorem dX4_add_0 : decode cX4_add 0 = .ok (.aload_n 0, 1) := by decide +kernel
theorem dX4_add_1 : decode cX4_add 1 = .ok (.getfield 24, 3) := by decide +kernel
theorem dX4_add_4 : decode cX4_add 4 = .ok (.iconst 4, 1) := by decide +kernel
theorem dX4_add_5 : decode cX4_add 5 = .ok (.if_icmp .lt 5, 3) := by decide +kernel
theorem dX4_add_8 : decode cX4_add 8 = .ok (.iconst (-1), 1) := by decide +kernel
theorem dX4_add_9 : decode cX4_add 9 = .ok (.ireturn, 1) := by decide +kernel
theorem dX4_add_10 : decode cX4_add 10 = .ok (.aload_n 0, 1) := by decide +kernel
theorem dX4_add_11 : decode cX4_add 11 = .ok (.getfield 11, 3) := by decide +kernel
theorem dX4_add_14 : decode cX4_add 14 = .ok (.aload_n 0, 1) := by decide +kernel
theorem dX4_add_15 : decode cX4_add 15 = .ok (.getfield 24, 3) := by decide +kernel
theorem dX4_add_18 : decode cX4_add 18 = .ok (.iload_n 1, 1) := by decide +kernel
theorem dX4_add_19 : decode cX4_add 19 = .ok (.iastore, 1) := by decide +kernel
theorem dX4_add_20 : decode cX4_add 20 = .ok (.aload_n 0, 1) := by decide +kernel
theorem dX4_add_21 : decode cX4_add 21 = .ok (.getfield 15, 3) := by decide +kernel
theorem dX4_add_24 : decode cX4_add 24 = .ok (.aload_n 0, 1) := by decide +kernel
theorem dX4_add_25 : decode cX4_add 25 = .ok (.getfield 24, 3) := by decide +kernel
theorem dX4_add_28 : decode cX4_add 28 = .ok (.iload_n 2, 1) := by decide +kernel
theorem dX4_add_29 : decode cX4_add 29 = .ok (.iastore, 1) := by decide +kernel
theorem dX4_add_30 : decode cX4_add 30 = .ok (.aload_n 0, 1) := by decide +kernel
theorem dX4_add_31 : decode cX4_add 31 = .ok (.getfield 18, 3) := by decide +kernel
theorem dX4_add_34 : decode cX4_add 34 = .ok (.aload_n 0, 1) := by decide +kernel
theorem dX4_add_35 : decode cX4_add 35 = .ok (.getfield 24, 3) := by decide +kernel
theorem dX4_add_38 : decode cX4_add 38 = .ok (.iload_n 3, 1) := by decide +kernel
theorem dX4_add_39 : decode cX4_add 39 = .ok (.iastore, 1) := by decide +kernel
theorem dX4_add_40 : decode cX4_add 40 = .ok (.aload_n 0, 1) := by decide +kernel
theorem dX4_add_41 : decode cX4_add 41 = .ok (.getfield 21, 3) := by decide +kernel
theorem dX4_add_44 : decode cX4_add 44 = .ok (.aload_n 0, 1) := by decide +kernel
theorem dX4_add_45 : decode cX4_add 45 = .ok (.getfield 24, 3) := by decide +kernel
theorem dX4_add_48 : decode cX4_add 48 = .ok (.iload 4, 2) := by decide +kernel
theorem dX4_add_50 : decode cX4_add 50 = .ok (.iastore, 1) := by decide +kernel
theorem dX4_add_51 : decode cX4_add 51 = .ok (.aload_n 0, 1) := by decide +kernel
theorem dX4_add_52 : decode cX4_add 52 = .ok (.dup, 1) := by decide +kernel
theorem dX4_add_53 : decode cX4_add 53 = .ok (.getfield 24, 3) := by decide +kernel
theorem dX4_add_56 : decode cX4_add 56 = .ok (.iconst 1, 1) := by decide +kernel
theorem dX4_add_57 : decode cX4_add 57 = .ok (.iadd, 1) := by decide +kernel
theorem dX4_add_58 : decode cX4_add 58 = .ok (.putfield 24, 3) := by decide +kernel
theorem dX4_add_61 : decode cX4_add 61 = .ok (.aload_n 0, 1) := by decide +kernel
theorem dX4_add_62 : decode cX4_add 62 = .ok (.getfield 24, 3) := by decide +kernel
theorem dX4_add_65 : decode cX4_add 65 = .ok (.iconst 1, 1) := by decide +kernel
theorem dX4_add_66 : decode cX4_add 66 = .ok (.isub, 1) := by decide +kernel
theorem dX4_add_67 : decode cX4_add 67 = .ok (.ireturn, 1) := by decide +kernel
theorem dX4_size_0 : decode cX4_size 0 = .ok (.aload_n 0, 1) := by decide +kernel
theorem dX4_size_1 : decode cX4_size 1 = .ok (.getfield 24, 3) := by decide +kernel
theorem dX4_size_4 : decode cX4_size 4 = .ok (.ireturn, 1) := by decide +kernel
theorem dX4_has_0 : decode cX4_has 0 = .ok (.iload_n 1, 1) := by decide +kernel
theorem dX4_has_1 : decode cX4_has 1 = .ok (.ifCond .lt 15, 3) := by decide +kernel
theorem dX4_has_4 : decode cX4_has 4 = .ok (.iload_n 1, 1) := by decide +kernel
theorem dX4_has_5 : decode cX4_has 5 = .ok (.aload_n 0, 1) := by decide +kernel
theorem dX4_has_6 : decode cX4_has 6 = .ok (.getfield 24, 3) := by decide +kernel
theorem dX4_has_9 : decode cX4_has 9 = .ok (.if_icmp .ge 7, 3) := by decide +kernel
theorem dX4_has_12 : decode cX4_has 12 = .ok (.iconst 1, 1) := by decide +kernel
theorem dX4_has_13 : decode cX4_has 13 = .ok (.goto 4, 3) := by decide +kernel
theorem dX4_has_16 : decode cX4_has 16 = .ok (.iconst 0, 1) := by decide +kernel
theorem dX4_has_17 : decode cX4_has 17 = .ok (.ireturn, 1) := by decide +kernel
theorem dX4_homeOf_0 : decode cX4_homeOf 0 = .ok (.aload_n 0, 1) := by decide +kernel
theorem dX4_homeOf_1 : decode cX4_homeOf 1 = .ok (.iload_n 1, 1) := by decide +kernel
theorem dX4_homeOf_2 : decode cX4_homeOf 2 = .ok (.invokevirtual 28, 3) := by decide +kernel
theorem dX4_homeOf_5 : decode cX4_homeOf 5 = .ok (.ifCond .eq 12, 3) := by decide +kernel
theorem dX4_homeOf_8 : decode cX4_homeOf 8 = .ok (.aload_n 0, 1) := by decide +kernel
theorem dX4_homeOf_9 : decode cX4_homeOf 9 = .ok (.getfield 11, 3) := by decide +kernel
theorem dX4_homeOf_12 : decode cX4_homeOf 12 = .ok (.iload_n 1, 1) := by decide +kernel
theorem dX4_homeOf_13 : decode cX4_homeOf 13 = .ok (.iaload, 1) := by decide +kernel
theorem dX4_homeOf_14 : decode cX4_homeOf 14 = .ok (.goto 4, 3) := by decide +kernel
theorem dX4_homeOf_17 : decode cX4_homeOf 17 = .ok (.iconst (-1), 1) := by decide +kernel
theorem dX4_homeOf_18 : decode cX4_homeOf 18 = .ok (.ireturn, 1) := by decide +kernel
theorem dX4_seatsOf_0 : decode cX4_seatsOf 0 = .ok (.aload_n 0, 1) := by decide +kernel
theorem dX4_seatsOf_1 : decode cX4_seatsOf 1 = .ok (.iload_n 1, 1) := by decide +kernel
theorem dX4_seatsOf_2 : decode cX4_seatsOf 2 = .ok (.invokevirtual 28, 3) := by decide +kernel
theorem dX4_seatsOf_5 : decode cX4_seatsOf 5 = .ok (.ifCond .eq 12, 3) := by decide +kernel
theorem dX4_seatsOf_8 : decode cX4_seatsOf 8 = .ok (.aload_n 0, 1) := by decide +kernel
theorem dX4_seatsOf_9 : decode cX4_seatsOf 9 = .ok (.getfield 15, 3) := by decide +kernel
theorem dX4_seatsOf_12 : decode cX4_seatsOf 12 = .ok (.iload_n 1, 1) := by decide +kernel
theorem dX4_seatsOf_13 : decode cX4_seatsOf 13 = .ok (.iaload, 1) := by decide +kernel
theorem dX4_seatsOf_14 : decode cX4_seatsOf 14 = .ok (.goto 4, 3) := by decide +kernel
theorem dX4_seatsOf_17 : decode cX4_seatsOf 17 = .ok (.iconst (-1), 1) := by decide +kernel
theorem dX4_seatsOf_18 : decode cX4_seatsOf 18 = .ok (.ireturn, 1) := by decide +kernel
theorem dX4_turnOf_0 : decode cX4_turnOf 0 = .ok (.aload_n 0, 1) := by decide +kernel
theorem dX4_turnOf_1 : decode cX4_turnOf 1 = .ok (.iload_n 1, 1) := by decide +kernel
theorem dX4_turnOf_2 : decode cX4_turnOf 2 = .ok (.invokevirtual 28, 3) := by decide +kernel
theorem dX4_turnOf_5 : decode cX4_turnOf 5 = .ok (.ifCond .eq 12, 3) := by decide +kernel
theorem dX4_turnOf_8 : decode cX4_turnOf 8 = .ok (.aload_n 0, 1) := by decide +kernel
theorem dX4_turnOf_9 : decode cX4_turnOf 9 = .ok (.getfield 18, 3) := by decide +kernel
theorem dX4_turnOf_12 : decode cX4_turnOf 12 = .ok (.iload_n 1, 1) := by decide +kernel
theorem dX4_turnOf_13 : decode cX4_turnOf 13 = .ok (.iaload, 1) := by decide +kernel
theorem dX4_turnOf_14 : decode cX4_turnOf 14 = .ok (.goto 4, 3) := by decide +kernel
theorem dX4_turnOf_17 : decode cX4_turnOf 17 = .ok (.iconst (-1), 1) := by decide +kernel
theorem dX4_turnOf_18 : decode cX4_turnOf 18 = .ok (.ireturn, 1) := by decide +kernel
theorem dX4_rateOf_0 : decode cX4_rateOf 0 = .ok (.aload_n 0, 1) := by decide +kernel
theorem dX4_rateOf_1 : decode cX4_rateOf 1 = .ok (.iload_n 1, 1) := by decide +kernel
theorem dX4_rateOf_2 : decode cX4_rateOf 2 = .ok (.invokevirtual 28, 3) := by decide +kernel
theorem dX4_rateOf_5 : decode cX4_rateOf 5 = .ok (.ifCond .eq 12, 3) := by decide +kernel
theorem dX4_rateOf_8 : decode cX4_rateOf 8 = .ok (.aload_n 0, 1) := by decide +kernel
theorem dX4_rateOf_9 : decode cX4_rateOf 9 = .ok (.getfield 21, 3) := by decide +kernel
theorem dX4_rateOf_12 : decode cX4_rateOf 12 = .ok (.iload_n 1, 1) := by decide +kernel
theorem dX4_rateOf_13 : decode cX4_rateOf 13 = .ok (.iaload, 1) := by decide +kernel
theorem dX4_rateOf_14 : decode cX4_rateOf 14 = .ok (.goto 4, 3) := by decide +kernel
theorem dX4_rateOf_17 : decode cX4_rateOf 17 = .ok (.iconst (-1), 1) := by decide +kernel
theorem dX4_rateOf_18 : decode cX4_rateOf 18 = .ok (.ireturn, 1) := by decide +kernel
theorem dX5_init_0 : decode cX5_init 0 = .ok (.aload_n 0, 1) := by decide +kernel
theorem dX5_init_1 : decode cX5_init 1 = .ok (.invokespecial 7, 3) := by decide +kernel
theorem dX5_init_4 : decode cX5_init 4 = .ok (.aload_n 0, 1) := by decide +kernel
theorem dX5_init_5 : decode cX5_init 5 = .ok (.bipush 8, 2) := by decide +kernel
theorem dX5_init_7 : decode cX5_init 7 = .ok (.newarray .int, 2) := by decide +kernel
theorem dX5_init_9 : decode cX5_init 9 = .ok (.putfield 13, 3) := by decide +kernel
theorem dX5_init_12 : decode cX5_init 12 = .ok (.aload_n 0, 1) := by decide +kernel
theorem dX5_init_13 : decode cX5_init 13 = .ok (.bipush 8, 2) := by decide +kernel
theorem dX5_init_15 : decode cX5_init 15 = .ok (.newarray .long, 2) := by decide +kernel
theorem dX5_init_17 : decode cX5_init 17 = .ok (.putfield 17, 3) := by decide +kernel
theorem dX5_init_20 : decode cX5_init 20 = .ok (.aload_n 0, 1) := by decide +kernel
theorem dX5_init_21 : decode cX5_init 21 = .ok (.sipush 256, 3) := by decide +kernel
theorem dX5_init_24 : decode cX5_init 24 = .ok (.newarray .long, 2) := by decide +kernel
theorem dX5_init_26 : decode cX5_init 26 = .ok (.putfield 21, 3) := by decide +kernel
theorem dX5_init_29 : decode cX5_init 29 = .ok (.aload_n 0, 1) := by decide +kernel
theorem dX5_init_30 : decode cX5_init 30 = .ok (.sipush 256, 3) := by decide +kernel
theorem dX5_init_33 : decode cX5_init 33 = .ok (.newarray .long, 2) := by decide +kernel
theorem dX5_init_35 : decode cX5_init 35 = .ok (.putfield 24, 3) := by decide +kernel
theorem dX5_init_38 : decode cX5_init 38 = .ok (.aload_n 0, 1) := by decide +kernel
theorem dX5_init_39 : decode cX5_init 39 = .ok (.sipush 256, 3) := by decide +kernel
theorem dX5_init_42 : decode cX5_init 42 = .ok (.newarray .int, 2) := by decide +kernel
theorem dX5_init_44 : decode cX5_init 44 = .ok (.putfield 27, 3) := by decide +kernel
theorem dX5_init_47 : decode cX5_init 47 = .ok (.aload_n 0, 1) := by decide +kernel
theorem dX5_init_48 : decode cX5_init 48 = .ok (.sipush 256, 3) := by decide +kernel
theorem dX5_init_51 : decode cX5_init 51 = .ok (.newarray .int, 2) := by decide +kernel
theorem dX5_init_53 : decode cX5_init 53 = .ok (.putfield 30, 3) := by decide +kernel
theorem dX5_init_56 : decode cX5_init 56 = .ok (.aload_n 0, 1) := by decide +kernel
theorem dX5_init_57 : decode cX5_init 57 = .ok (.sipush 256, 3) := by decide +kernel
theorem dX5_init_60 : decode cX5_init 60 = .ok (.newarray .int, 2) := by decide +kernel
theorem dX5_init_62 : decode cX5_init 62 = .ok (.putfield 33, 3) := by decide +kernel
theorem dX5_init_65 : decode cX5_init 65 = .ok (.aload_n 0, 1) := by decide +kernel
theorem dX5_init_66 : decode cX5_init 66 = .ok (.aload_n 1, 1) := by decide +kernel
theorem dX5_init_67 : decode cX5_init 67 = .ok (.putfield 36, 3) := by decide +kernel
theorem dX5_init_70 : decode cX5_init 70 = .ok (.aload_n 0, 1) := by decide +kernel
theorem dX5_init_71 : decode cX5_init 71 = .ok (.aload_n 2, 1) := by decide +kernel
theorem dX5_init_72 : decode cX5_init 72 = .ok (.putfield 40, 3) := by decide +kernel
theorem dX5_init_75 : decode cX5_init 75 = .ok (.aload_n 0, 1) := by decide +kernel
theorem dX5_init_76 : decode cX5_init 76 = .ok (.aload_n 3, 1) := by decide +kernel
theorem dX5_init_77 : decode cX5_init 77 = .ok (.putfield 44, 3) := by decide +kernel
theorem dX5_init_80 : decode cX5_init 80 = .ok (.aload_n 0, 1) := by decide +kernel
theorem dX5_init_81 : decode cX5_init 81 = .ok (.aload 4, 2) := by decide +kernel
theorem dX5_init_83 : decode cX5_init 83 = .ok (.putfield 48, 3) := by decide +kernel
theorem dX5_init_86 : decode cX5_init 86 = .ok (.return_, 1) := by decide +kernel
theorem dX5_settle_0 : decode cX5_settle 0 = .ok (.aload_n 0, 1) := by decide +kernel
theorem dX5_settle_1 : decode cX5_settle 1 = .ok (.iload_n 1, 1) := by decide +kernel
theorem dX5_settle_2 : decode cX5_settle 2 = .ok (.ifCond .eq 9, 3) := by decide +kernel
theorem dX5_settle_5 : decode cX5_settle 5 = .ok (.ldc2_w 52, 3) := by decide +kernel
theorem dX5_settle_8 : decode cX5_settle 8 = .ok (.goto 4, 3) := by decide +kernel
theorem dX5_settle_11 : decode cX5_settle 11 = .ok (.lconst 0, 1) := by decide +kernel
theorem dX5_settle_12 : decode cX5_settle 12 = .ok (.putfield 54, 3) := by decide +kernel
theorem dX5_settle_15 : decode cX5_settle 15 = .ok (.aload_n 0, 1) := by decide +kernel
theorem dX5_settle_16 : decode cX5_settle 16 = .ok (.invokevirtual 58, 3) := by decide +kernel
theorem dX5_settle_19 : decode cX5_settle 19 = .ok (.iconst 0, 1) := by decide +kernel
theorem dX5_settle_20 : decode cX5_settle 20 = .ok (.istore_n 2, 1) := by decide +kernel
theorem dX5_settle_21 : decode cX5_settle 21 = .ok (.iload_n 2, 1) := by decide +kernel
theorem dX5_settle_22 : decode cX5_settle 22 = .ok (.aload_n 0, 1) := by decide +kernel
theorem dX5_settle_23 : decode cX5_settle 23 = .ok (.getfield 36, 3) := by decide +kernel
theorem dX5_settle_26 : decode cX5_settle 26 = .ok (.invokevirtual 61, 3) := by decide +kernel
theorem dX5_settle_29 : decode cX5_settle 29 = .ok (.if_icmp .ge 18, 3) := by decide +kernel
theorem dX5_settle_32 : decode cX5_settle 32 = .ok (.aload_n 0, 1) := by decide +kernel
theorem dX5_settle_33 : decode cX5_settle 33 = .ok (.iload_n 2, 1) := by decide +kernel
theorem dX5_settle_34 : decode cX5_settle 34 = .ok (.invokevirtual 67, 3) := by decide +kernel
theorem dX5_settle_37 : decode cX5_settle 37 = .ok (.aload_n 0, 1) := by decide +kernel
theorem dX5_settle_38 : decode cX5_settle 38 = .ok (.invokevirtual 71, 3) := by decide +kernel
theorem dX5_settle_41 : decode cX5_settle 41 = .ok (.iinc 2 1, 3) := by decide +kernel
theorem dX5_settle_44 : decode cX5_settle 44 = .ok (.goto (-23), 3) := by decide +kernel
theorem dX5_settle_47 : decode cX5_settle 47 = .ok (.aload_n 0, 1) := by decide +kernel
theorem dX5_settle_48 : decode cX5_settle 48 = .ok (.invokevirtual 74, 3) := by decide +kernel
theorem dX5_settle_51 : decode cX5_settle 51 = .ok (.aload_n 0, 1) := by decide +kernel
theorem dX5_settle_52 : decode cX5_settle 52 = .ok (.iconst 1, 1) := by decide +kernel
theorem dX5_settle_53 : decode cX5_settle 53 = .ok (.aload_n 0, 1) := by decide +kernel
theorem dX5_settle_54 : decode cX5_settle 54 = .ok (.getfield 77, 3) := by decide +kernel
theorem dX5_settle_57 : decode cX5_settle 57 = .ok (.ishl, 1) := by decide +kernel
theorem dX5_settle_58 : decode cX5_settle 58 = .ok (.iconst 1, 1) := by decide +kernel
theorem dX5_settle_59 : decode cX5_settle 59 = .ok (.isub, 1) := by decide +kernel
theorem dX5_settle_60 : decode cX5_settle 60 = .ok (.invokevirtual 81, 3) := by decide +kernel
theorem dX5_settle_63 : decode cX5_settle 63 = .ok (.lstore_n 2, 1) := by decide +kernel
theorem dX5_settle_64 : decode cX5_settle 64 = .ok (.aload_n 0, 1) := by decide +kernel
theorem dX5_settle_65 : decode cX5_settle 65 = .ok (.lload_n 2, 1) := by decide +kernel
theorem dX5_settle_66 : decode cX5_settle 66 = .ok (.ldc2_w 85, 3) := by decide +kernel
theorem dX5_settle_69 : decode cX5_settle 69 = .ok (.lrem, 1) := by decide +kernel
theorem dX5_settle_70 : decode cX5_settle 70 = .ok (.invokevirtual 87, 3) := by decide +kernel
theorem dX5_settle_73 : decode cX5_settle 73 = .ok (.lload_n 2, 1) := by decide +kernel
theorem dX5_settle_74 : decode cX5_settle 74 = .ok (.ldc2_w 91, 3) := by decide +kernel
theorem dX5_settle_77 : decode cX5_settle 77 = .ok (.lrem, 1) := by decide +kernel
theorem dX5_settle_78 : decode cX5_settle 78 = .ok (.ldc2_w 52, 3) := by decide +kernel
theorem dX5_settle_81 : decode cX5_settle 81 = .ok (.ldiv, 1) := by decide +kernel
theorem dX5_settle_82 : decode cX5_settle 82 = .ok (.l2i, 1) := by decide +kernel
theorem dX5_settle_83 : decode cX5_settle 83 = .ok (.ireturn, 1) := by decide +kernel
theorem dX5_holds_0 : decode cX5_holds 0 = .ok (.iconst 0, 1) := by decide +kernel
theorem dX5_holds_1 : decode cX5_holds 1 = .ok (.istore_n 1, 1) := by decide +kernel
theorem dX5_holds_2 : decode cX5_holds 2 = .ok (.iload_n 1, 1) := by decide +kernel
theorem dX5_holds_3 : decode cX5_holds 3 = .ok (.aload_n 0, 1) := by decide +kernel
theorem dX5_holds_4 : decode cX5_holds 4 = .ok (.getfield 36, 3) := by decide +kernel
theorem dX5_holds_7 : decode cX5_holds 7 = .ok (.invokevirtual 61, 3) := by decide +kernel
theorem dX5_holds_10 : decode cX5_holds 10 = .ok (.if_icmp .ge 71, 3) := by decide +kernel
theorem dX5_holds_13 : decode cX5_holds 13 = .ok (.aload_n 0, 1) := by decide +kernel
theorem dX5_holds_14 : decode cX5_holds 14 = .ok (.getfield 48, 3) := by decide +kernel
theorem dX5_holds_17 : decode cX5_holds 17 = .ok (.iload_n 1, 1) := by decide +kernel
theorem dX5_holds_18 : decode cX5_holds 18 = .ok (.invokevirtual 93, 3) := by decide +kernel
theorem dX5_holds_21 : decode cX5_holds 21 = .ok (.iconst 0, 1) := by decide +kernel
theorem dX5_holds_22 : decode cX5_holds 22 = .ok (.istore_n 2, 1) := by decide +kernel
theorem dX5_holds_23 : decode cX5_holds 23 = .ok (.iload_n 2, 1) := by decide +kernel
theorem dX5_holds_24 : decode cX5_holds 24 = .ok (.aload_n 0, 1) := by decide +kernel
theorem dX5_holds_25 : decode cX5_holds 25 = .ok (.getfield 40, 3) := by decide +kernel
theorem dX5_holds_28 : decode cX5_holds 28 = .ok (.invokevirtual 98, 3) := by decide +kernel
theorem dX5_holds_31 : decode cX5_holds 31 = .ok (.if_icmp .ge 44, 3) := by decide +kernel
theorem dX5_holds_34 : decode cX5_holds 34 = .ok (.aload_n 0, 1) := by decide +kernel
theorem dX5_holds_35 : decode cX5_holds 35 = .ok (.getfield 40, 3) := by decide +kernel
theorem dX5_holds_38 : decode cX5_holds 38 = .ok (.iload_n 2, 1) := by decide +kernel
theorem dX5_holds_39 : decode cX5_holds 39 = .ok (.invokevirtual 99, 3) := by decide +kernel
theorem dX5_holds_42 : decode cX5_holds 42 = .ok (.istore_n 3, 1) := by decide +kernel
theorem dX5_holds_43 : decode cX5_holds 43 = .ok (.aload_n 0, 1) := by decide +kernel
theorem dX5_holds_44 : decode cX5_holds 44 = .ok (.getfield 44, 3) := by decide +kernel
theorem dX5_holds_47 : decode cX5_holds 47 = .ok (.iload_n 3, 1) := by decide +kernel
theorem dX5_holds_48 : decode cX5_holds 48 = .ok (.invokevirtual 103, 3) := by decide +kernel
theorem dX5_holds_51 : decode cX5_holds 51 = .ok (.iload_n 1, 1) := by decide +kernel
theorem dX5_holds_52 : decode cX5_holds 52 = .ok (.if_icmp .ne 17, 3) := by decide +kernel
theorem dX5_holds_55 : decode cX5_holds 55 = .ok (.aload_n 0, 1) := by decide +kernel
theorem dX5_holds_56 : decode cX5_holds 56 = .ok (.getfield 48, 3) := by decide +kernel
theorem dX5_holds_59 : decode cX5_holds 59 = .ok (.iload_n 3, 1) := by decide +kernel
theorem dX5_holds_60 : decode cX5_holds 60 = .ok (.invokevirtual 108, 3) := by decide +kernel
theorem dX5_holds_63 : decode cX5_holds 63 = .ok (.iconst (-1), 1) := by decide +kernel
theorem dX5_holds_64 : decode cX5_holds 64 = .ok (.if_icmp .ne 5, 3) := by decide +kernel
theorem dX5_holds_67 : decode cX5_holds 67 = .ok (.iconst 0, 1) := by decide +kernel
theorem dX5_holds_68 : decode cX5_holds 68 = .ok (.ireturn, 1) := by decide +kernel
theorem dX5_holds_69 : decode cX5_holds 69 = .ok (.iinc 2 1, 3) := by decide +kernel
theorem dX5_holds_72 : decode cX5_holds 72 = .ok (.goto (-49), 3) := by decide +kernel
theorem dX5_holds_75 : decode cX5_holds 75 = .ok (.iinc 1 1, 3) := by decide +kernel
theorem dX5_holds_78 : decode cX5_holds 78 = .ok (.goto (-76), 3) := by decide +kernel
theorem dX5_holds_81 : decode cX5_holds 81 = .ok (.iconst 1, 1) := by decide +kernel
theorem dX5_holds_82 : decode cX5_holds 82 = .ok (.ireturn, 1) := by decide +kernel
theorem dX5_lineUp_0 : decode cX5_lineUp 0 = .ok (.aload_n 0, 1) := by decide +kernel
theorem dX5_lineUp_1 : decode cX5_lineUp 1 = .ok (.iconst 0, 1) := by decide +kernel
theorem dX5_lineUp_2 : decode cX5_lineUp 2 = .ok (.putfield 77, 3) := by decide +kernel
theorem dX5_lineUp_5 : decode cX5_lineUp 5 = .ok (.iconst 0, 1) := by decide +kernel
theorem dX5_lineUp_6 : decode cX5_lineUp 6 = .ok (.istore_n 1, 1) := by decide +kernel
theorem dX5_lineUp_7 : decode cX5_lineUp 7 = .ok (.iload_n 1, 1) := by decide +kernel
theorem dX5_lineUp_8 : decode cX5_lineUp 8 = .ok (.aload_n 0, 1) := by decide +kernel
theorem dX5_lineUp_9 : decode cX5_lineUp 9 = .ok (.getfield 40, 3) := by decide +kernel
theorem dX5_lineUp_12 : decode cX5_lineUp 12 = .ok (.invokevirtual 98, 3) := by decide +kernel
theorem dX5_lineUp_15 : decode cX5_lineUp 15 = .ok (.if_icmp .ge 58, 3) := by decide +kernel
theorem dX5_lineUp_18 : decode cX5_lineUp 18 = .ok (.aload_n 0, 1) := by decide +kernel
theorem dX5_lineUp_19 : decode cX5_lineUp 19 = .ok (.getfield 40, 3) := by decide +kernel
theorem dX5_lineUp_22 : decode cX5_lineUp 22 = .ok (.iload_n 1, 1) := by decide +kernel
theorem dX5_lineUp_23 : decode cX5_lineUp 23 = .ok (.invokevirtual 99, 3) := by decide +kernel
theorem dX5_lineUp_26 : decode cX5_lineUp 26 = .ok (.istore_n 2, 1) := by decide +kernel
theorem dX5_lineUp_27 : decode cX5_lineUp 27 = .ok (.aload_n 0, 1) := by decide +kernel
theorem dX5_lineUp_28 : decode cX5_lineUp 28 = .ok (.getfield 40, 3) := by decide +kernel
theorem dX5_lineUp_31 : decode cX5_lineUp 31 = .ok (.iload_n 2, 1) := by decide +kernel
theorem dX5_lineUp_32 : decode cX5_lineUp 32 = .ok (.invokevirtual 111, 3) := by decide +kernel
theorem dX5_lineUp_35 : decode cX5_lineUp 35 = .ok (.ifCond .eq 32, 3) := by decide +kernel
theorem dX5_lineUp_38 : decode cX5_lineUp 38 = .ok (.aload_n 0, 1) := by decide +kernel
theorem dX5_lineUp_39 : decode cX5_lineUp 39 = .ok (.getfield 77, 3) := by decide +kernel
theorem dX5_lineUp_42 : decode cX5_lineUp 42 = .ok (.bipush 8, 2) := by decide +kernel
theorem dX5_lineUp_44 : decode cX5_lineUp 44 = .ok (.if_icmp .ge 23, 3) := by decide +kernel
theorem dX5_lineUp_47 : decode cX5_lineUp 47 = .ok (.aload_n 0, 1) := by decide +kernel
theorem dX5_lineUp_48 : decode cX5_lineUp 48 = .ok (.getfield 13, 3) := by decide +kernel
theorem dX5_lineUp_51 : decode cX5_lineUp 51 = .ok (.aload_n 0, 1) := by decide +kernel
theorem dX5_lineUp_52 : decode cX5_lineUp 52 = .ok (.getfield 77, 3) := by decide +kernel
theorem dX5_lineUp_55 : decode cX5_lineUp 55 = .ok (.iload_n 2, 1) := by decide +kernel
theorem dX5_lineUp_56 : decode cX5_lineUp 56 = .ok (.iastore, 1) := by decide +kernel
theorem dX5_lineUp_57 : decode cX5_lineUp 57 = .ok (.aload_n 0, 1) := by decide +kernel
theorem dX5_lineUp_58 : decode cX5_lineUp 58 = .ok (.dup, 1) := by decide +kernel
theorem dX5_lineUp_59 : decode cX5_lineUp 59 = .ok (.getfield 77, 3) := by decide +kernel
theorem dX5_lineUp_62 : decode cX5_lineUp 62 = .ok (.iconst 1, 1) := by decide +kernel
theorem dX5_lineUp_63 : decode cX5_lineUp 63 = .ok (.iadd, 1) := by decide +kernel
theorem dX5_lineUp_64 : decode cX5_lineUp 64 = .ok (.putfield 77, 3) := by decide +kernel
theorem dX5_lineUp_67 : decode cX5_lineUp 67 = .ok (.iinc 1 1, 3) := by decide +kernel
theorem dX5_lineUp_70 : decode cX5_lineUp 70 = .ok (.goto (-63), 3) := by decide +kernel
theorem dX5_lineUp_73 : decode cX5_lineUp 73 = .ok (.lconst 1, 1) := by decide +kernel
theorem dX5_lineUp_74 : decode cX5_lineUp 74 = .ok (.lstore_n 1, 1) := by decide +kernel
theorem dX5_lineUp_75 : decode cX5_lineUp 75 = .ok (.aload_n 0, 1) := by decide +kernel
theorem dX5_lineUp_76 : decode cX5_lineUp 76 = .ok (.getfield 77, 3) := by decide +kernel
theorem dX5_lineUp_79 : decode cX5_lineUp 79 = .ok (.iconst 1, 1) := by decide +kernel
theorem dX5_lineUp_80 : decode cX5_lineUp 80 = .ok (.isub, 1) := by decide +kernel
theorem dX5_lineUp_81 : decode cX5_lineUp 81 = .ok (.istore_n 3, 1) := by decide +kernel
theorem dX5_lineUp_82 : decode cX5_lineUp 82 = .ok (.iload_n 3, 1) := by decide +kernel
theorem dX5_lineUp_83 : decode cX5_lineUp 83 = .ok (.ifCond .lt 22, 3) := by decide +kernel
theorem dX5_lineUp_86 : decode cX5_lineUp 86 = .ok (.aload_n 0, 1) := by decide +kernel
theorem dX5_lineUp_87 : decode cX5_lineUp 87 = .ok (.getfield 17, 3) := by decide +kernel
theorem dX5_lineUp_90 : decode cX5_lineUp 90 = .ok (.iload_n 3, 1) := by decide +kernel
theorem dX5_lineUp_91 : decode cX5_lineUp 91 = .ok (.lload_n 1, 1) := by decide +kernel
theorem dX5_lineUp_92 : decode cX5_lineUp 92 = .ok (.lastore, 1) := by decide +kernel
theorem dX5_lineUp_93 : decode cX5_lineUp 93 = .ok (.lload_n 1, 1) := by decide +kernel
theorem dX5_lineUp_94 : decode cX5_lineUp 94 = .ok (.ldc2_w 115, 3) := by decide +kernel
theorem dX5_lineUp_97 : decode cX5_lineUp 97 = .ok (.lmul, 1) := by decide +kernel
theorem dX5_lineUp_98 : decode cX5_lineUp 98 = .ok (.lstore_n 1, 1) := by decide +kernel
theorem dX5_lineUp_99 : decode cX5_lineUp 99 = .ok (.iinc 3 (-1), 3) := by decide +kernel
theorem dX5_lineUp_102 : decode cX5_lineUp 102 = .ok (.goto (-20), 3) := by decide +kernel
theorem dX5_lineUp_105 : decode cX5_lineUp 105 = .ok (.aload_n 0, 1) := by decide +kernel
theorem dX5_lineUp_106 : decode cX5_lineUp 106 = .ok (.getfield 24, 3) := by decide +kernel
theorem dX5_lineUp_109 : decode cX5_lineUp 109 = .ok (.iconst 0, 1) := by decide +kernel
theorem dX5_lineUp_110 : decode cX5_lineUp 110 = .ok (.lconst 0, 1) := by decide +kernel
theorem dX5_lineUp_111 : decode cX5_lineUp 111 = .ok (.lastore, 1) := by decide +kernel
theorem dX5_lineUp_112 : decode cX5_lineUp 112 = .ok (.iconst 1, 1) := by decide +kernel
theorem dX5_lineUp_113 : decode cX5_lineUp 113 = .ok (.istore_n 3, 1) := by decide +kernel
theorem dX5_lineUp_114 : decode cX5_lineUp 114 = .ok (.iload_n 3, 1) := by decide +kernel
theorem dX5_lineUp_115 : decode cX5_lineUp 115 = .ok (.sipush 256, 3) := by decide +kernel
theorem dX5_lineUp_118 : decode cX5_lineUp 118 = .ok (.if_icmp .ge 18, 3) := by decide +kernel
theorem dX5_lineUp_121 : decode cX5_lineUp 121 = .ok (.aload_n 0, 1) := by decide +kernel
theorem dX5_lineUp_122 : decode cX5_lineUp 122 = .ok (.getfield 24, 3) := by decide +kernel
theorem dX5_lineUp_125 : decode cX5_lineUp 125 = .ok (.iload_n 3, 1) := by decide +kernel
theorem dX5_lineUp_126 : decode cX5_lineUp 126 = .ok (.ldc2_w 117, 3) := by decide +kernel
theorem dX5_lineUp_129 : decode cX5_lineUp 129 = .ok (.lastore, 1) := by decide +kernel
theorem dX5_lineUp_130 : decode cX5_lineUp 130 = .ok (.iinc 3 1, 3) := by decide +kernel
theorem dX5_lineUp_133 : decode cX5_lineUp 133 = .ok (.goto (-19), 3) := by decide +kernel
theorem dX5_lineUp_136 : decode cX5_lineUp 136 = .ok (.return_, 1) := by decide +kernel
theorem dX5_addWeighed_0 : decode cX5_addWeighed 0 = .ok (.iconst 1, 1) := by decide +kernel
theorem dX5_addWeighed_1 : decode cX5_addWeighed 1 = .ok (.aload_n 0, 1) := by decide +kernel
theorem dX5_addWeighed_2 : decode cX5_addWeighed 2 = .ok (.getfield 77, 3) := by decide +kernel
theorem dX5_addWeighed_5 : decode cX5_addWeighed 5 = .ok (.ishl, 1) := by decide +kernel
theorem dX5_addWeighed_6 : decode cX5_addWeighed 6 = .ok (.iconst 1, 1) := by decide +kernel
theorem dX5_addWeighed_7 : decode cX5_addWeighed 7 = .ok (.isub, 1) := by decide +kernel
theorem dX5_addWeighed_8 : decode cX5_addWeighed 8 = .ok (.istore_n 1, 1) := by decide +kernel
theorem dX5_addWeighed_9 : decode cX5_addWeighed 9 = .ok (.iload_n 1, 1) := by decide +kernel
theorem dX5_addWeighed_10 : decode cX5_addWeighed 10 = .ok (.ifCond .lt 20, 3) := by decide +kernel
theorem dX5_addWeighed_13 : decode cX5_addWeighed 13 = .ok (.aload_n 0, 1) := by decide +kernel
theorem dX5_addWeighed_14 : decode cX5_addWeighed 14 = .ok (.getfield 24, 3) := by decide +kernel
theorem dX5_addWeighed_17 : decode cX5_addWeighed 17 = .ok (.iload_n 1, 1) := by decide +kernel
theorem dX5_addWeighed_18 : decode cX5_addWeighed 18 = .ok (.aload_n 0, 1) := by decide +kernel
theorem dX5_addWeighed_19 : decode cX5_addWeighed 19 = .ok (.iload_n 1, 1) := by decide +kernel
theorem dX5_addWeighed_20 : decode cX5_addWeighed 20 = .ok (.invokevirtual 81, 3) := by decide +kernel
theorem dX5_addWeighed_23 : decode cX5_addWeighed 23 = .ok (.lastore, 1) := by decide +kernel
theorem dX5_addWeighed_24 : decode cX5_addWeighed 24 = .ok (.iinc 1 (-1), 3) := by decide +kernel
theorem dX5_addWeighed_27 : decode cX5_addWeighed 27 = .ok (.goto (-18), 3) := by decide +kernel
theorem dX5_addWeighed_30 : decode cX5_addWeighed 30 = .ok (.return_, 1) := by decide +kernel
theorem dX5_leastOf_0 : decode cX5_leastOf 0 = .ok (.ldc2_w 117, 3) := by decide +kernel
theorem dX5_leastOf_3 : decode cX5_leastOf 3 = .ok (.lstore_n 2, 1) := by decide +kernel
theorem dX5_leastOf_4 : decode cX5_leastOf 4 = .ok (.iload_n 1, 1) := by decide +kernel
theorem dX5_leastOf_5 : decode cX5_leastOf 5 = .ok (.istore 4, 2) := by decide +kernel
theorem dX5_leastOf_7 : decode cX5_leastOf 7 = .ok (.iconst 0, 1) := by decide +kernel
theorem dX5_leastOf_8 : decode cX5_leastOf 8 = .ok (.istore 5, 2) := by decide +kernel
theorem dX5_leastOf_10 : decode cX5_leastOf 10 = .ok (.iload 5, 2) := by decide +kernel
theorem dX5_leastOf_12 : decode cX5_leastOf 12 = .ok (.iload_n 1, 1) := by decide +kernel
theorem dX5_leastOf_13 : decode cX5_leastOf 13 = .ok (.if_icmp .gt 61, 3) := by decide +kernel
theorem dX5_leastOf_16 : decode cX5_leastOf 16 = .ok (.aload_n 0, 1) := by decide +kernel
theorem dX5_leastOf_17 : decode cX5_leastOf 17 = .ok (.getfield 21, 3) := by decide +kernel
theorem dX5_leastOf_20 : decode cX5_leastOf 20 = .ok (.iload 4, 2) := by decide +kernel
theorem dX5_leastOf_22 : decode cX5_leastOf 22 = .ok (.laload, 1) := by decide +kernel
theorem dX5_leastOf_23 : decode cX5_leastOf 23 = .ok (.ldc2_w 117, 3) := by decide +kernel
theorem dX5_leastOf_26 : decode cX5_leastOf 26 = .ok (.lcmp, 1) := by decide +kernel
theorem dX5_leastOf_27 : decode cX5_leastOf 27 = .ok (.ifCond .ge 25, 3) := by decide +kernel
theorem dX5_leastOf_30 : decode cX5_leastOf 30 = .ok (.lload_n 2, 1) := by decide +kernel
theorem dX5_leastOf_31 : decode cX5_leastOf 31 = .ok (.aload_n 0, 1) := by decide +kernel
theorem dX5_leastOf_32 : decode cX5_leastOf 32 = .ok (.getfield 21, 3) := by decide +kernel
theorem dX5_leastOf_35 : decode cX5_leastOf 35 = .ok (.iload 4, 2) := by decide +kernel
theorem dX5_leastOf_37 : decode cX5_leastOf 37 = .ok (.laload, 1) := by decide +kernel
theorem dX5_leastOf_38 : decode cX5_leastOf 38 = .ok (.aload_n 0, 1) := by decide +kernel
theorem dX5_leastOf_39 : decode cX5_leastOf 39 = .ok (.getfield 24, 3) := by decide +kernel
theorem dX5_leastOf_42 : decode cX5_leastOf 42 = .ok (.iload_n 1, 1) := by decide +kernel
theorem dX5_leastOf_43 : decode cX5_leastOf 43 = .ok (.iload 4, 2) := by decide +kernel
theorem dX5_leastOf_45 : decode cX5_leastOf 45 = .ok (.ixor, 1) := by decide +kernel
theorem dX5_leastOf_46 : decode cX5_leastOf 46 = .ok (.laload, 1) := by decide +kernel
theorem dX5_leastOf_47 : decode cX5_leastOf 47 = .ok (.ladd, 1) := by decide +kernel
theorem dX5_leastOf_48 : decode cX5_leastOf 48 = .ok (.invokestatic 119, 3) := by decide +kernel
theorem dX5_leastOf_51 : decode cX5_leastOf 51 = .ok (.lstore_n 2, 1) := by decide +kernel
theorem dX5_leastOf_52 : decode cX5_leastOf 52 = .ok (.iload 4, 2) := by decide +kernel
theorem dX5_leastOf_54 : decode cX5_leastOf 54 = .ok (.ifCond .ne 6, 3) := by decide +kernel
theorem dX5_leastOf_57 : decode cX5_leastOf 57 = .ok (.goto 17, 3) := by decide +kernel
theorem dX5_leastOf_60 : decode cX5_leastOf 60 = .ok (.iload 4, 2) := by decide +kernel
theorem dX5_leastOf_62 : decode cX5_leastOf 62 = .ok (.iconst 1, 1) := by decide +kernel
theorem dX5_leastOf_63 : decode cX5_leastOf 63 = .ok (.isub, 1) := by decide +kernel
theorem dX5_leastOf_64 : decode cX5_leastOf 64 = .ok (.iload_n 1, 1) := by decide +kernel
theorem dX5_leastOf_65 : decode cX5_leastOf 65 = .ok (.iand, 1) := by decide +kernel
theorem dX5_leastOf_66 : decode cX5_leastOf 66 = .ok (.istore 4, 2) := by decide +kernel
theorem dX5_leastOf_68 : decode cX5_leastOf 68 = .ok (.iinc 5 1, 3) := by decide +kernel
theorem dX5_leastOf_71 : decode cX5_leastOf 71 = .ok (.goto (-61), 3) := by decide +kernel
theorem dX5_leastOf_74 : decode cX5_leastOf 74 = .ok (.lload_n 2, 1) := by decide +kernel
theorem dX5_leastOf_75 : decode cX5_leastOf 75 = .ok (.lreturn, 1) := by decide +kernel
theorem dX5_weighChains_0 : decode cX5_weighChains 0 = .ok (.aload_n 0, 1) := by decide +kernel
theorem dX5_weighChains_1 : decode cX5_weighChains 1 = .ok (.getfield 48, 3) := by decide +kernel
theorem dX5_weighChains_4 : decode cX5_weighChains 4 = .ok (.iload_n 1, 1) := by decide +kernel
theorem dX5_weighChains_5 : decode cX5_weighChains 5 = .ok (.invokevirtual 93, 3) := by decide +kernel
