theorem dX11_flown_0 : decode cX11_flown 0 = .ok (.iconst 0, 1) := by decide +kernel
theorem dX11_flown_1 : decode cX11_flown 1 = .ok (.istore_n 1, 1) := by decide +kernel
theorem dX11_flown_2 : decode cX11_flown 2 = .ok (.iconst 0, 1) := by decide +kernel
theorem dX11_flown_3 : decode cX11_flown 3 = .ok (.istore_n 2, 1) := by decide +kernel
theorem dX11_flown_4 : decode cX11_flown 4 = .ok (.iload_n 2, 1) := by decide +kernel
theorem dX11_flown_5 : decode cX11_flown 5 = .ok (.aload_n 0, 1) := by decide +kernel
theorem dX11_flown_6 : decode cX11_flown 6 = .ok (.getfield 159, 3) := by decide +kernel
theorem dX11_flown_9 : decode cX11_flown 9 = .ok (.if_icmp .ge 27, 3) := by decide +kernel
theorem dX11_flown_12 : decode cX11_flown 12 = .ok (.iload_n 1, 1) := by decide +kernel
theorem dX11_flown_13 : decode cX11_flown 13 = .ok (.aload_n 0, 1) := by decide +kernel
theorem dX11_flown_14 : decode cX11_flown 14 = .ok (.getfield 54, 3) := by decide +kernel
theorem dX11_flown_17 : decode cX11_flown 17 = .ok (.iload_n 2, 1) := by decide +kernel
theorem dX11_flown_18 : decode cX11_flown 18 = .ok (.iaload, 1) := by decide +kernel
theorem dX11_flown_19 : decode cX11_flown 19 = .ok (.iconst (-1), 1) := by decide +kernel
theorem dX11_flown_20 : decode cX11_flown 20 = .ok (.if_icmp .ne 7, 3) := by decide +kernel
theorem dX11_flown_23 : decode cX11_flown 23 = .ok (.iconst 0, 1) := by decide +kernel
theorem dX11_flown_24 : decode cX11_flown 24 = .ok (.goto 4, 3) := by decide +kernel
theorem dX11_flown_27 : decode cX11_flown 27 = .ok (.iconst 1, 1) := by decide +kernel
theorem dX11_flown_28 : decode cX11_flown 28 = .ok (.iadd, 1) := by decide +kernel
theorem dX11_flown_29 : decode cX11_flown 29 = .ok (.istore_n 1, 1) := by decide +kernel
theorem dX11_flown_30 : decode cX11_flown 30 = .ok (.iinc 2 1, 3) := by decide +kernel
theorem dX11_flown_33 : decode cX11_flown 33 = .ok (.goto (-29), 3) := by decide +kernel
theorem dX11_flown_36 : decode cX11_flown 36 = .ok (.iload_n 1, 1) := by decide +kernel
theorem dX11_flown_37 : decode cX11_flown 37 = .ok (.ireturn, 1) := by decide +kernel
theorem dX11_plan_0 : decode cX11_plan 0 = .ok (.aload_n 0, 1) := by decide +kernel
theorem dX11_plan_1 : decode cX11_plan 1 = .ok (.iconst 0, 1) := by decide +kernel
theorem dX11_plan_2 : decode cX11_plan 2 = .ok (.invokevirtual 220, 3) := by decide +kernel
theorem dX11_plan_5 : decode cX11_plan 5 = .ok (.istore_n 1, 1) := by decide +kernel
theorem dX11_plan_6 : decode cX11_plan 6 = .ok (.aload_n 0, 1) := by decide +kernel
theorem dX11_plan_7 : decode cX11_plan 7 = .ok (.invokevirtual 224, 3) := by decide +kernel
theorem dX11_plan_10 : decode cX11_plan 10 = .ok (.ireturn, 1) := by decide +kernel
theorem dX11_replan_0 : decode cX11_replan 0 = .ok (.aload_n 0, 1) := by decide +kernel
theorem dX11_replan_1 : decode cX11_replan 1 = .ok (.iconst 1, 1) := by decide +kernel
theorem dX11_replan_2 : decode cX11_replan 2 = .ok (.invokevirtual 220, 3) := by decide +kernel
theorem dX11_replan_5 : decode cX11_replan 5 = .ok (.ireturn, 1) := by decide +kernel
theorem dX11_hand_0 : decode cX11_hand 0 = .ok (.aload_n 0, 1) := by decide +kernel
theorem dX11_hand_1 : decode cX11_hand 1 = .ok (.invokevirtual 201, 3) := by decide +kernel
theorem dX11_hand_4 : decode cX11_hand 4 = .ok (.iconst 0, 1) := by decide +kernel
theorem dX11_hand_5 : decode cX11_hand 5 = .ok (.istore_n 2, 1) := by decide +kernel
theorem dX11_hand_6 : decode cX11_hand 6 = .ok (.iconst 0, 1) := by decide +kernel
theorem dX11_hand_7 : decode cX11_hand 7 = .ok (.istore_n 3, 1) := by decide +kernel
theorem dX11_hand_8 : decode cX11_hand 8 = .ok (.iload_n 3, 1) := by decide +kernel
theorem dX11_hand_9 : decode cX11_hand 9 = .ok (.aload_n 0, 1) := by decide +kernel
theorem dX11_hand_10 : decode cX11_hand 10 = .ok (.getfield 188, 3) := by decide +kernel
theorem dX11_hand_13 : decode cX11_hand 13 = .ok (.if_icmp .ge 34, 3) := by decide +kernel
theorem dX11_hand_16 : decode cX11_hand 16 = .ok (.iload_n 2, 1) := by decide +kernel
theorem dX11_hand_17 : decode cX11_hand 17 = .ok (.aload_n 0, 1) := by decide +kernel
theorem dX11_hand_18 : decode cX11_hand 18 = .ok (.getfield 54, 3) := by decide +kernel
theorem dX11_hand_21 : decode cX11_hand 21 = .ok (.aload_n 0, 1) := by decide +kernel
theorem dX11_hand_22 : decode cX11_hand 22 = .ok (.getfield 90, 3) := by decide +kernel
theorem dX11_hand_25 : decode cX11_hand 25 = .ok (.iload_n 3, 1) := by decide +kernel
theorem dX11_hand_26 : decode cX11_hand 26 = .ok (.iaload, 1) := by decide +kernel
theorem dX11_hand_27 : decode cX11_hand 27 = .ok (.iaload, 1) := by decide +kernel
theorem dX11_hand_28 : decode cX11_hand 28 = .ok (.iload_n 1, 1) := by decide +kernel
theorem dX11_hand_29 : decode cX11_hand 29 = .ok (.if_icmp .ne 9, 3) := by decide +kernel
theorem dX11_hand_32 : decode cX11_hand 32 = .ok (.iconst 1, 1) := by decide +kernel
theorem dX11_hand_33 : decode cX11_hand 33 = .ok (.iload_n 3, 1) := by decide +kernel
theorem dX11_hand_34 : decode cX11_hand 34 = .ok (.ishl, 1) := by decide +kernel
theorem dX11_hand_35 : decode cX11_hand 35 = .ok (.goto 4, 3) := by decide +kernel
theorem dX11_hand_38 : decode cX11_hand 38 = .ok (.iconst 0, 1) := by decide +kernel
theorem dX11_hand_39 : decode cX11_hand 39 = .ok (.ior, 1) := by decide +kernel
theorem dX11_hand_40 : decode cX11_hand 40 = .ok (.istore_n 2, 1) := by decide +kernel
theorem dX11_hand_41 : decode cX11_hand 41 = .ok (.iinc 3 1, 3) := by decide +kernel
theorem dX11_hand_44 : decode cX11_hand 44 = .ok (.goto (-36), 3) := by decide +kernel
theorem dX11_hand_47 : decode cX11_hand 47 = .ok (.aload_n 0, 1) := by decide +kernel
theorem dX11_hand_48 : decode cX11_hand 48 = .ok (.iload_n 1, 1) := by decide +kernel
theorem dX11_hand_49 : decode cX11_hand 49 = .ok (.iload_n 2, 1) := by decide +kernel
theorem dX11_hand_50 : decode cX11_hand 50 = .ok (.invokevirtual 204, 3) := by decide +kernel
theorem dX11_hand_53 : decode cX11_hand 53 = .ok (.return_, 1) := by decide +kernel
theorem dX11_fits_0 : decode cX11_fits 0 = .ok (.iconst 0, 1) := by decide +kernel
theorem dX11_fits_1 : decode cX11_fits 1 = .ok (.istore_n 1, 1) := by decide +kernel
theorem dX11_fits_2 : decode cX11_fits 2 = .ok (.iload_n 1, 1) := by decide +kernel
theorem dX11_fits_3 : decode cX11_fits 3 = .ok (.aload_n 0, 1) := by decide +kernel
theorem dX11_fits_4 : decode cX11_fits 4 = .ok (.getfield 162, 3) := by decide +kernel
theorem dX11_fits_7 : decode cX11_fits 7 = .ok (.if_icmp .ge 24, 3) := by decide +kernel
theorem dX11_fits_10 : decode cX11_fits 10 = .ok (.aload_n 0, 1) := by decide +kernel
theorem dX11_fits_11 : decode cX11_fits 11 = .ok (.iload_n 1, 1) := by decide +kernel
theorem dX11_fits_12 : decode cX11_fits 12 = .ok (.invokevirtual 227, 3) := by decide +kernel
theorem dX11_fits_15 : decode cX11_fits 15 = .ok (.aload_n 0, 1) := by decide +kernel
theorem dX11_fits_16 : decode cX11_fits 16 = .ok (.iload_n 1, 1) := by decide +kernel
theorem dX11_fits_17 : decode cX11_fits 17 = .ok (.invokevirtual 208, 3) := by decide +kernel
theorem dX11_fits_20 : decode cX11_fits 20 = .ok (.ifCond .ne 5, 3) := by decide +kernel
theorem dX11_fits_23 : decode cX11_fits 23 = .ok (.iconst 0, 1) := by decide +kernel
theorem dX11_fits_24 : decode cX11_fits 24 = .ok (.ireturn, 1) := by decide +kernel
theorem dX11_fits_25 : decode cX11_fits 25 = .ok (.iinc 1 1, 3) := by decide +kernel
theorem dX11_fits_28 : decode cX11_fits 28 = .ok (.goto (-26), 3) := by decide +kernel
theorem dX11_fits_31 : decode cX11_fits 31 = .ok (.iconst 1, 1) := by decide +kernel
theorem dX11_fits_32 : decode cX11_fits 32 = .ok (.ireturn, 1) := by decide +kernel
theorem dX11_on_0 : decode cX11_on 0 = .ok (.aload_n 0, 1) := by decide +kernel
theorem dX11_on_1 : decode cX11_on 1 = .ok (.iload_n 1, 1) := by decide +kernel
theorem dX11_on_2 : decode cX11_on 2 = .ok (.invokevirtual 172, 3) := by decide +kernel
theorem dX11_on_5 : decode cX11_on 5 = .ok (.ifCond .eq 12, 3) := by decide +kernel
theorem dX11_on_8 : decode cX11_on 8 = .ok (.aload_n 0, 1) := by decide +kernel
theorem dX11_on_9 : decode cX11_on 9 = .ok (.getfield 54, 3) := by decide +kernel
theorem dX11_on_12 : decode cX11_on 12 = .ok (.iload_n 1, 1) := by decide +kernel
theorem dX11_on_13 : decode cX11_on 13 = .ok (.iaload, 1) := by decide +kernel
theorem dX11_on_14 : decode cX11_on 14 = .ok (.goto 4, 3) := by decide +kernel
theorem dX11_on_17 : decode cX11_on 17 = .ok (.iconst (-1), 1) := by decide +kernel
theorem dX11_on_18 : decode cX11_on 18 = .ok (.ireturn, 1) := by decide +kernel
theorem dX11_move_0 : decode cX11_move 0 = .ok (.iload_n 1, 1) := by decide +kernel
theorem dX11_move_1 : decode cX11_move 1 = .ok (.iconst 0, 1) := by decide +kernel
theorem dX11_move_2 : decode cX11_move 2 = .ok (.aload_n 0, 1) := by decide +kernel
theorem dX11_move_3 : decode cX11_move 3 = .ok (.getfield 162, 3) := by decide +kernel
theorem dX11_move_6 : decode cX11_move 6 = .ok (.iconst 1, 1) := by decide +kernel
theorem dX11_move_7 : decode cX11_move 7 = .ok (.isub, 1) := by decide +kernel
theorem dX11_move_8 : decode cX11_move 8 = .ok (.invokestatic 141, 3) := by decide +kernel
theorem dX11_move_11 : decode cX11_move 11 = .ok (.ifCond .ne 5, 3) := by decide +kernel
theorem dX11_move_14 : decode cX11_move 14 = .ok (.iconst (-1), 1) := by decide +kernel
theorem dX11_move_15 : decode cX11_move 15 = .ok (.ireturn, 1) := by decide +kernel
theorem dX11_move_16 : decode cX11_move 16 = .ok (.aload_n 0, 1) := by decide +kernel
theorem dX11_move_17 : decode cX11_move 17 = .ok (.iload_n 1, 1) := by decide +kernel
theorem dX11_move_18 : decode cX11_move 18 = .ok (.invokevirtual 227, 3) := by decide +kernel
theorem dX11_move_21 : decode cX11_move 21 = .ok (.iload_n 2, 1) := by decide +kernel
theorem dX11_move_22 : decode cX11_move 22 = .ok (.iconst 0, 1) := by decide +kernel
theorem dX11_move_23 : decode cX11_move 23 = .ok (.aload_n 0, 1) := by decide +kernel
theorem dX11_move_24 : decode cX11_move 24 = .ok (.getfield 191, 3) := by decide +kernel
theorem dX11_move_27 : decode cX11_move 27 = .ok (.iconst 1, 1) := by decide +kernel
theorem dX11_move_28 : decode cX11_move 28 = .ok (.isub, 1) := by decide +kernel
theorem dX11_move_29 : decode cX11_move 29 = .ok (.invokestatic 141, 3) := by decide +kernel
theorem dX11_move_32 : decode cX11_move 32 = .ok (.ifCond .ne 5, 3) := by decide +kernel
theorem dX11_move_35 : decode cX11_move 35 = .ok (.iconst (-1), 1) := by decide +kernel
theorem dX11_move_36 : decode cX11_move 36 = .ok (.ireturn, 1) := by decide +kernel
theorem dX11_move_37 : decode cX11_move 37 = .ok (.aload_n 0, 1) := by decide +kernel
theorem dX11_move_38 : decode cX11_move 38 = .ok (.aload_n 0, 1) := by decide +kernel
theorem dX11_move_39 : decode cX11_move 39 = .ok (.getfield 96, 3) := by decide +kernel
theorem dX11_move_42 : decode cX11_move 42 = .ok (.iload_n 2, 1) := by decide +kernel
theorem dX11_move_43 : decode cX11_move 43 = .ok (.iaload, 1) := by decide +kernel
theorem dX11_move_44 : decode cX11_move 44 = .ok (.aload_n 0, 1) := by decide +kernel
theorem dX11_move_45 : decode cX11_move 45 = .ok (.getfield 99, 3) := by decide +kernel
theorem dX11_move_48 : decode cX11_move 48 = .ok (.iload_n 2, 1) := by decide +kernel
theorem dX11_move_49 : decode cX11_move 49 = .ok (.iaload, 1) := by decide +kernel
theorem dX11_move_50 : decode cX11_move 50 = .ok (.invokevirtual 165, 3) := by decide +kernel
theorem dX11_move_53 : decode cX11_move 53 = .ok (.ifCond .le 7, 3) := by decide +kernel
theorem dX11_move_56 : decode cX11_move 56 = .ok (.iconst 1, 1) := by decide +kernel
theorem dX11_move_57 : decode cX11_move 57 = .ok (.goto 4, 3) := by decide +kernel
theorem dX11_move_60 : decode cX11_move 60 = .ok (.iconst 0, 1) := by decide +kernel
theorem dX11_move_61 : decode cX11_move 61 = .ok (.istore 4, 2) := by decide +kernel
theorem dX11_move_63 : decode cX11_move 63 = .ok (.iload_n 3, 1) := by decide +kernel
theorem dX11_move_64 : decode cX11_move 64 = .ok (.tableswitch 89 0 4 #[36, 43, 50, 57, 73], 36) := by decide +kernel
theorem dX11_move_100 : decode cX11_move 100 = .ok (.aload_n 0, 1) := by decide +kernel
theorem dX11_move_101 : decode cX11_move 101 = .ok (.getfield 93, 3) := by decide +kernel
theorem dX11_move_104 : decode cX11_move 104 = .ok (.iload_n 2, 1) := by decide +kernel
theorem dX11_move_105 : decode cX11_move 105 = .ok (.iaload, 1) := by decide +kernel
theorem dX11_move_106 : decode cX11_move 106 = .ok (.ireturn, 1) := by decide +kernel
theorem dX11_move_107 : decode cX11_move 107 = .ok (.aload_n 0, 1) := by decide +kernel
theorem dX11_move_108 : decode cX11_move 108 = .ok (.getfield 96, 3) := by decide +kernel
theorem dX11_move_111 : decode cX11_move 111 = .ok (.iload_n 2, 1) := by decide +kernel
theorem dX11_move_112 : decode cX11_move 112 = .ok (.iaload, 1) := by decide +kernel
theorem dX11_move_113 : decode cX11_move 113 = .ok (.ireturn, 1) := by decide +kernel
theorem dX11_move_114 : decode cX11_move 114 = .ok (.aload_n 0, 1) := by decide +kernel
theorem dX11_move_115 : decode cX11_move 115 = .ok (.getfield 99, 3) := by decide +kernel
theorem dX11_move_118 : decode cX11_move 118 = .ok (.iload_n 2, 1) := by decide +kernel
theorem dX11_move_119 : decode cX11_move 119 = .ok (.iaload, 1) := by decide +kernel
theorem dX11_move_120 : decode cX11_move 120 = .ok (.ireturn, 1) := by decide +kernel
theorem dX11_move_121 : decode cX11_move 121 = .ok (.iload 4, 2) := by decide +kernel
theorem dX11_move_123 : decode cX11_move 123 = .ok (.ifCond .eq 12, 3) := by decide +kernel
theorem dX11_move_126 : decode cX11_move 126 = .ok (.aload_n 0, 1) := by decide +kernel
theorem dX11_move_127 : decode cX11_move 127 = .ok (.getfield 102, 3) := by decide +kernel
theorem dX11_move_130 : decode cX11_move 130 = .ok (.iload_n 2, 1) := by decide +kernel
theorem dX11_move_131 : decode cX11_move 131 = .ok (.iaload, 1) := by decide +kernel
theorem dX11_move_132 : decode cX11_move 132 = .ok (.goto 4, 3) := by decide +kernel
theorem dX11_move_135 : decode cX11_move 135 = .ok (.iconst (-1), 1) := by decide +kernel
theorem dX11_move_136 : decode cX11_move 136 = .ok (.ireturn, 1) := by decide +kernel
theorem dX11_move_137 : decode cX11_move 137 = .ok (.iload 4, 2) := by decide +kernel
theorem dX11_move_139 : decode cX11_move 139 = .ok (.ifCond .eq 12, 3) := by decide +kernel
theorem dX11_move_142 : decode cX11_move 142 = .ok (.aload_n 0, 1) := by decide +kernel
theorem dX11_move_143 : decode cX11_move 143 = .ok (.getfield 105, 3) := by decide +kernel
theorem dX11_move_146 : decode cX11_move 146 = .ok (.iload_n 2, 1) := by decide +kernel
theorem dX11_move_147 : decode cX11_move 147 = .ok (.iaload, 1) := by decide +kernel
theorem dX11_move_148 : decode cX11_move 148 = .ok (.goto 4, 3) := by decide +kernel
theorem dX11_move_151 : decode cX11_move 151 = .ok (.iconst (-1), 1) := by decide +kernel
theorem dX11_move_152 : decode cX11_move 152 = .ok (.ireturn, 1) := by decide +kernel
theorem dX11_move_153 : decode cX11_move 153 = .ok (.iconst (-1), 1) := by decide +kernel
theorem dX11_move_154 : decode cX11_move 154 = .ok (.ireturn, 1) := by decide +kernel
theorem dX11_isLeg_0 : decode cX11_isLeg 0 = .ok (.aload_n 0, 1) := by decide +kernel
theorem dX11_isLeg_1 : decode cX11_isLeg 1 = .ok (.getfield 93, 3) := by decide +kernel
theorem dX11_isLeg_4 : decode cX11_isLeg 4 = .ok (.iload_n 2, 1) := by decide +kernel
theorem dX11_isLeg_5 : decode cX11_isLeg 5 = .ok (.iaload, 1) := by decide +kernel
theorem dX11_isLeg_6 : decode cX11_isLeg 6 = .ok (.iconst (-1), 1) := by decide +kernel
theorem dX11_isLeg_7 : decode cX11_isLeg 7 = .ok (.if_icmp .ne 52, 3) := by decide +kernel
theorem dX11_isLeg_10 : decode cX11_isLeg 10 = .ok (.aload_n 0, 1) := by decide +kernel
theorem dX11_isLeg_11 : decode cX11_isLeg 11 = .ok (.getfield 108, 3) := by decide +kernel
theorem dX11_isLeg_14 : decode cX11_isLeg 14 = .ok (.iload_n 2, 1) := by decide +kernel
theorem dX11_isLeg_15 : decode cX11_isLeg 15 = .ok (.iaload, 1) := by decide +kernel
theorem dX11_isLeg_16 : decode cX11_isLeg 16 = .ok (.aload_n 0, 1) := by decide +kernel
theorem dX11_isLeg_17 : decode cX11_isLeg 17 = .ok (.getfield 87, 3) := by decide +kernel
theorem dX11_isLeg_20 : decode cX11_isLeg 20 = .ok (.iload_n 1, 1) := by decide +kernel
theorem dX11_isLeg_21 : decode cX11_isLeg 21 = .ok (.iaload, 1) := by decide +kernel
theorem dX11_isLeg_22 : decode cX11_isLeg 22 = .ok (.if_icmp .ne 37, 3) := by decide +kernel
theorem dX11_isLeg_25 : decode cX11_isLeg 25 = .ok (.aload_n 0, 1) := by decide +kernel
theorem dX11_isLeg_26 : decode cX11_isLeg 26 = .ok (.getfield 96, 3) := by decide +kernel
theorem dX11_isLeg_29 : decode cX11_isLeg 29 = .ok (.iload_n 2, 1) := by decide +kernel
theorem dX11_isLeg_30 : decode cX11_isLeg 30 = .ok (.iaload, 1) := by decide +kernel
theorem dX11_isLeg_31 : decode cX11_isLeg 31 = .ok (.aload_n 0, 1) := by decide +kernel
theorem dX11_isLeg_32 : decode cX11_isLeg 32 = .ok (.getfield 81, 3) := by decide +kernel
theorem dX11_isLeg_35 : decode cX11_isLeg 35 = .ok (.iload_n 1, 1) := by decide +kernel
theorem dX11_isLeg_36 : decode cX11_isLeg 36 = .ok (.iaload, 1) := by decide +kernel
theorem dX11_isLeg_37 : decode cX11_isLeg 37 = .ok (.if_icmp .ne 22, 3) := by decide +kernel
theorem dX11_isLeg_40 : decode cX11_isLeg 40 = .ok (.aload_n 0, 1) := by decide +kernel
theorem dX11_isLeg_41 : decode cX11_isLeg 41 = .ok (.getfield 99, 3) := by decide +kernel
theorem dX11_isLeg_44 : decode cX11_isLeg 44 = .ok (.iload_n 2, 1) := by decide +kernel
theorem dX11_isLeg_45 : decode cX11_isLeg 45 = .ok (.iaload, 1) := by decide +kernel
theorem dX11_isLeg_46 : decode cX11_isLeg 46 = .ok (.aload_n 0, 1) := by decide +kernel
theorem dX11_isLeg_47 : decode cX11_isLeg 47 = .ok (.getfield 84, 3) := by decide +kernel
theorem dX11_isLeg_50 : decode cX11_isLeg 50 = .ok (.iload_n 1, 1) := by decide +kernel
theorem dX11_isLeg_51 : decode cX11_isLeg 51 = .ok (.iaload, 1) := by decide +kernel
theorem dX11_isLeg_52 : decode cX11_isLeg 52 = .ok (.if_icmp .ne 7, 3) := by decide +kernel
theorem dX11_isLeg_55 : decode cX11_isLeg 55 = .ok (.iconst 1, 1) := by decide +kernel
theorem dX11_isLeg_56 : decode cX11_isLeg 56 = .ok (.goto 4, 3) := by decide +kernel
theorem dX11_isLeg_59 : decode cX11_isLeg 59 = .ok (.iconst 0, 1) := by decide +kernel
theorem dX11_isLeg_60 : decode cX11_isLeg 60 = .ok (.ireturn, 1) := by decide +kernel
theorem dX11_hasLeg_0 : decode cX11_hasLeg 0 = .ok (.aload_n 0, 1) := by decide +kernel
theorem dX11_hasLeg_1 : decode cX11_hasLeg 1 = .ok (.aload_n 0, 1) := by decide +kernel
theorem dX11_hasLeg_2 : decode cX11_hasLeg 2 = .ok (.getfield 78, 3) := by decide +kernel
theorem dX11_hasLeg_5 : decode cX11_hasLeg 5 = .ok (.iload_n 1, 1) := by decide +kernel
theorem dX11_hasLeg_6 : decode cX11_hasLeg 6 = .ok (.iaload, 1) := by decide +kernel
theorem dX11_hasLeg_7 : decode cX11_hasLeg 7 = .ok (.invokevirtual 227, 3) := by decide +kernel
theorem dX11_hasLeg_10 : decode cX11_hasLeg 10 = .ok (.iconst 0, 1) := by decide +kernel
theorem dX11_hasLeg_11 : decode cX11_hasLeg 11 = .ok (.istore_n 2, 1) := by decide +kernel
theorem dX11_hasLeg_12 : decode cX11_hasLeg 12 = .ok (.iload_n 2, 1) := by decide +kernel
theorem dX11_hasLeg_13 : decode cX11_hasLeg 13 = .ok (.aload_n 0, 1) := by decide +kernel
theorem dX11_hasLeg_14 : decode cX11_hasLeg 14 = .ok (.getfield 191, 3) := by decide +kernel
theorem dX11_hasLeg_17 : decode cX11_hasLeg 17 = .ok (.if_icmp .ge 20, 3) := by decide +kernel
theorem dX11_hasLeg_20 : decode cX11_hasLeg 20 = .ok (.aload_n 0, 1) := by decide +kernel
theorem dX11_hasLeg_21 : decode cX11_hasLeg 21 = .ok (.iload_n 1, 1) := by decide +kernel
theorem dX11_hasLeg_22 : decode cX11_hasLeg 22 = .ok (.iload_n 2, 1) := by decide +kernel
theorem dX11_hasLeg_23 : decode cX11_hasLeg 23 = .ok (.invokevirtual 230, 3) := by decide +kernel
theorem dX11_hasLeg_26 : decode cX11_hasLeg 26 = .ok (.ifCond .eq 5, 3) := by decide +kernel
theorem dX11_hasLeg_29 : decode cX11_hasLeg 29 = .ok (.iconst 1, 1) := by decide +kernel
theorem dX11_hasLeg_30 : decode cX11_hasLeg 30 = .ok (.ireturn, 1) := by decide +kernel
theorem dX11_hasLeg_31 : decode cX11_hasLeg 31 = .ok (.iinc 2 1, 3) := by decide +kernel
theorem dX11_hasLeg_34 : decode cX11_hasLeg 34 = .ok (.goto (-22), 3) := by decide +kernel
theorem dX11_hasLeg_37 : decode cX11_hasLeg 37 = .ok (.iconst 0, 1) := by decide +kernel
theorem dX11_hasLeg_38 : decode cX11_hasLeg 38 = .ok (.ireturn, 1) := by decide +kernel
theorem dX11_binds_0 : decode cX11_binds 0 = .ok (.aload_n 0, 1) := by decide +kernel
theorem dX11_binds_1 : decode cX11_binds 1 = .ok (.getfield 66, 3) := by decide +kernel
theorem dX11_binds_4 : decode cX11_binds 4 = .ok (.iload_n 1, 1) := by decide +kernel
theorem dX11_binds_5 : decode cX11_binds 5 = .ok (.iaload, 1) := by decide +kernel
theorem dX11_binds_6 : decode cX11_binds 6 = .ok (.ifCond .eq 13, 3) := by decide +kernel
theorem dX11_binds_9 : decode cX11_binds 9 = .ok (.aload_n 0, 1) := by decide +kernel
theorem dX11_binds_10 : decode cX11_binds 10 = .ok (.getfield 66, 3) := by decide +kernel
theorem dX11_binds_13 : decode cX11_binds 13 = .ok (.iload_n 1, 1) := by decide +kernel
theorem dX11_binds_14 : decode cX11_binds 14 = .ok (.iaload, 1) := by decide +kernel
theorem dX11_binds_15 : decode cX11_binds 15 = .ok (.iconst 1, 1) := by decide +kernel
theorem dX11_binds_16 : decode cX11_binds 16 = .ok (.if_icmp .ne 7, 3) := by decide +kernel
theorem dX11_binds_19 : decode cX11_binds 19 = .ok (.iconst 1, 1) := by decide +kernel
theorem dX11_binds_20 : decode cX11_binds 20 = .ok (.goto 4, 3) := by decide +kernel
theorem dX11_binds_23 : decode cX11_binds 23 = .ok (.iconst 0, 1) := by decide +kernel
theorem dX11_binds_24 : decode cX11_binds 24 = .ok (.ireturn, 1) := by decide +kernel
theorem dX11_breaks_0 : decode cX11_breaks 0 = .ok (.iconst 0, 1) := by decide +kernel
theorem dX11_breaks_1 : decode cX11_breaks 1 = .ok (.istore_n 1, 1) := by decide +kernel
theorem dX11_breaks_2 : decode cX11_breaks 2 = .ok (.iload_n 1, 1) := by decide +kernel
theorem dX11_breaks_3 : decode cX11_breaks 3 = .ok (.aload_n 0, 1) := by decide +kernel
theorem dX11_breaks_4 : decode cX11_breaks 4 = .ok (.getfield 185, 3) := by decide +kernel
theorem dX11_breaks_7 : decode cX11_breaks 7 = .ok (.if_icmp .ge 32, 3) := by decide +kernel
theorem dX11_breaks_10 : decode cX11_breaks 10 = .ok (.aload_n 0, 1) := by decide +kernel
theorem dX11_breaks_11 : decode cX11_breaks 11 = .ok (.iload_n 1, 1) := by decide +kernel
theorem dX11_breaks_12 : decode cX11_breaks 12 = .ok (.invokevirtual 233, 3) := by decide +kernel
theorem dX11_breaks_15 : decode cX11_breaks 15 = .ok (.ifCond .eq 18, 3) := by decide +kernel
theorem dX11_breaks_18 : decode cX11_breaks 18 = .ok (.aload_n 0, 1) := by decide +kernel
theorem dX11_breaks_19 : decode cX11_breaks 19 = .ok (.iload_n 1, 1) := by decide +kernel
theorem dX11_breaks_20 : decode cX11_breaks 20 = .ok (.invokevirtual 236, 3) := by decide +kernel
theorem dX11_breaks_23 : decode cX11_breaks 23 = .ok (.ifCond .ne 10, 3) := by decide +kernel
theorem dX11_breaks_26 : decode cX11_breaks 26 = .ok (.aload_n 0, 1) := by decide +kernel
theorem dX11_breaks_27 : decode cX11_breaks 27 = .ok (.getfield 66, 3) := by decide +kernel
theorem dX11_breaks_30 : decode cX11_breaks 30 = .ok (.iload_n 1, 1) := by decide +kernel
theorem dX11_breaks_31 : decode cX11_breaks 31 = .ok (.iconst 3, 1) := by decide +kernel
theorem dX11_breaks_32 : decode cX11_breaks 32 = .ok (.iastore, 1) := by decide +kernel
theorem dX11_breaks_33 : decode cX11_breaks 33 = .ok (.iinc 1 1, 3) := by decide +kernel
theorem dX11_breaks_36 : decode cX11_breaks 36 = .ok (.goto (-34), 3) := by decide +kernel
theorem dX11_breaks_39 : decode cX11_breaks 39 = .ok (.return_, 1) := by decide +kernel
theorem dX11_offer_0 : decode cX11_offer 0 = .ok (.aload_n 0, 1) := by decide +kernel
theorem dX11_offer_1 : decode cX11_offer 1 = .ok (.getfield 185, 3) := by decide +kernel
theorem dX11_offer_4 : decode cX11_offer 4 = .ok (.bipush 40, 2) := by decide +kernel
theorem dX11_offer_6 : decode cX11_offer 6 = .ok (.if_icmp .eq 42, 3) := by decide +kernel
theorem dX11_offer_9 : decode cX11_offer 9 = .ok (.iload_n 1, 1) := by decide +kernel
theorem dX11_offer_10 : decode cX11_offer 10 = .ok (.iconst 0, 1) := by decide +kernel
theorem dX11_offer_11 : decode cX11_offer 11 = .ok (.aload_n 0, 1) := by decide +kernel
theorem dX11_offer_12 : decode cX11_offer 12 = .ok (.getfield 162, 3) := by decide +kernel
theorem dX11_offer_15 : decode cX11_offer 15 = .ok (.iconst 1, 1) := by decide +kernel
theorem dX11_offer_16 : decode cX11_offer 16 = .ok (.isub, 1) := by decide +kernel
theorem dX11_offer_17 : decode cX11_offer 17 = .ok (.invokestatic 141, 3) := by decide +kernel
theorem dX11_offer_20 : decode cX11_offer 20 = .ok (.ifCond .eq 28, 3) := by decide +kernel
theorem dX11_offer_23 : decode cX11_offer 23 = .ok (.iload_n 3, 1) := by decide +kernel
theorem dX11_offer_24 : decode cX11_offer 24 = .ok (.iconst 0, 1) := by decide +kernel
theorem dX11_offer_25 : decode cX11_offer 25 = .ok (.ldc 239, 2) := by decide +kernel
theorem dX11_offer_27 : decode cX11_offer 27 = .ok (.invokestatic 141, 3) := by decide +kernel
theorem dX11_offer_30 : decode cX11_offer 30 = .ok (.ifCond .eq 18, 3) := by decide +kernel
theorem dX11_offer_33 : decode cX11_offer 33 = .ok (.iload 4, 2) := by decide +kernel
theorem dX11_offer_35 : decode cX11_offer 35 = .ok (.aload_n 0, 1) := by decide +kernel
theorem dX11_offer_36 : decode cX11_offer 36 = .ok (.getfield 182, 3) := by decide +kernel
theorem dX11_offer_39 : decode cX11_offer 39 = .ok (.sipush 10079, 3) := by decide +kernel
theorem dX11_offer_42 : decode cX11_offer 42 = .ok (.invokestatic 141, 3) := by decide +kernel
theorem dX11_offer_45 : decode cX11_offer 45 = .ok (.ifCond .ne 5, 3) := by decide +kernel
theorem dX11_offer_48 : decode cX11_offer 48 = .ok (.iconst (-1), 1) := by decide +kernel
theorem dX11_offer_49 : decode cX11_offer 49 = .ok (.ireturn, 1) := by decide +kernel
theorem dX11_offer_50 : decode cX11_offer 50 = .ok (.aload_n 0, 1) := by decide +kernel
theorem dX11_offer_51 : decode cX11_offer 51 = .ok (.iload_n 1, 1) := by decide +kernel
theorem dX11_offer_52 : decode cX11_offer 52 = .ok (.invokevirtual 227, 3) := by decide +kernel
theorem dX11_offer_55 : decode cX11_offer 55 = .ok (.iload_n 2, 1) := by decide +kernel
theorem dX11_offer_56 : decode cX11_offer 56 = .ok (.iconst 0, 1) := by decide +kernel
theorem dX11_offer_57 : decode cX11_offer 57 = .ok (.aload_n 0, 1) := by decide +kernel
theorem dX11_offer_58 : decode cX11_offer 58 = .ok (.getfield 191, 3) := by decide +kernel
theorem dX11_offer_61 : decode cX11_offer 61 = .ok (.iconst 1, 1) := by decide +kernel
theorem dX11_offer_62 : decode cX11_offer 62 = .ok (.isub, 1) := by decide +kernel
theorem dX11_offer_63 : decode cX11_offer 63 = .ok (.invokestatic 141, 3) := by decide +kernel
theorem dX11_offer_66 : decode cX11_offer 66 = .ok (.ifCond .eq 13, 3) := by decide +kernel
theorem dX11_offer_69 : decode cX11_offer 69 = .ok (.aload_n 0, 1) := by decide +kernel
theorem dX11_offer_70 : decode cX11_offer 70 = .ok (.getfield 93, 3) := by decide +kernel
theorem dX11_offer_73 : decode cX11_offer 73 = .ok (.iload_n 2, 1) := by decide +kernel
theorem dX11_offer_74 : decode cX11_offer 74 = .ok (.iaload, 1) := by decide +kernel
theorem dX11_offer_75 : decode cX11_offer 75 = .ok (.iconst (-1), 1) := by decide +kernel
theorem dX11_offer_76 : decode cX11_offer 76 = .ok (.if_icmp .eq 5, 3) := by decide +kernel
theorem dX11_offer_79 : decode cX11_offer 79 = .ok (.iconst (-1), 1) := by decide +kernel
theorem dX11_offer_80 : decode cX11_offer 80 = .ok (.ireturn, 1) := by decide +kernel
theorem dX11_offer_81 : decode cX11_offer 81 = .ok (.iconst 0, 1) := by decide +kernel
theorem dX11_offer_82 : decode cX11_offer 82 = .ok (.istore 5, 2) := by decide +kernel
theorem dX11_offer_84 : decode cX11_offer 84 = .ok (.iload 5, 2) := by decide +kernel
theorem dX11_offer_86 : decode cX11_offer 86 = .ok (.aload_n 0, 1) := by decide +kernel
theorem dX11_offer_87 : decode cX11_offer 87 = .ok (.getfield 185, 3) := by decide +kernel
theorem dX11_offer_90 : decode cX11_offer 90 = .ok (.if_icmp .ge 41, 3) := by decide +kernel
theorem dX11_offer_93 : decode cX11_offer 93 = .ok (.aload_n 0, 1) := by decide +kernel
theorem dX11_offer_94 : decode cX11_offer 94 = .ok (.iload 5, 2) := by decide +kernel
theorem dX11_offer_96 : decode cX11_offer 96 = .ok (.invokevirtual 233, 3) := by decide +kernel
theorem dX11_offer_99 : decode cX11_offer 99 = .ok (.ifCond .eq 26, 3) := by decide +kernel
theorem dX11_offer_102 : decode cX11_offer 102 = .ok (.aload_n 0, 1) := by decide +kernel
theorem dX11_offer_103 : decode cX11_offer 103 = .ok (.getfield 78, 3) := by decide +kernel
theorem dX11_offer_106 : decode cX11_offer 106 = .ok (.iload 5, 2) := by decide +kernel
theorem dX11_offer_108 : decode cX11_offer 108 = .ok (.iaload, 1) := by decide +kernel
theorem dX11_offer_109 : decode cX11_offer 109 = .ok (.iload_n 1, 1) := by decide +kernel
theorem dX11_offer_110 : decode cX11_offer 110 = .ok (.if_icmp .ne 15, 3) := by decide +kernel
theorem dX11_offer_113 : decode cX11_offer 113 = .ok (.aload_n 0, 1) := by decide +kernel
theorem dX11_offer_114 : decode cX11_offer 114 = .ok (.iload 5, 2) := by decide +kernel
theorem dX11_offer_116 : decode cX11_offer 116 = .ok (.iload_n 2, 1) := by decide +kernel
theorem dX11_offer_117 : decode cX11_offer 117 = .ok (.invokevirtual 230, 3) := by decide +kernel
theorem dX11_offer_120 : decode cX11_offer 120 = .ok (.ifCond .eq 5, 3) := by decide +kernel
theorem dX11_offer_123 : decode cX11_offer 123 = .ok (.iconst (-1), 1) := by decide +kernel
theorem dX11_offer_124 : decode cX11_offer 124 = .ok (.ireturn, 1) := by decide +kernel
theorem dX11_offer_125 : decode cX11_offer 125 = .ok (.iinc 5 1, 3) := by decide +kernel
theorem dX11_offer_128 : decode cX11_offer 128 = .ok (.goto (-44), 3) := by decide +kernel
theorem dX11_offer_131 : decode cX11_offer 131 = .ok (.aload_n 0, 1) := by decide +kernel
theorem dX11_offer_132 : decode cX11_offer 132 = .ok (.getfield 66, 3) := by decide +kernel
theorem dX11_offer_135 : decode cX11_offer 135 = .ok (.aload_n 0, 1) := by decide +kernel
theorem dX11_offer_136 : decode cX11_offer 136 = .ok (.getfield 185, 3) := by decide +kernel
theorem dX11_offer_139 : decode cX11_offer 139 = .ok (.iconst 0, 1) := by decide +kernel
theorem dX11_offer_140 : decode cX11_offer 140 = .ok (.iastore, 1) := by decide +kernel
theorem dX11_offer_141 : decode cX11_offer 141 = .ok (.aload_n 0, 1) := by decide +kernel
theorem dX11_offer_142 : decode cX11_offer 142 = .ok (.getfield 69, 3) := by decide +kernel
theorem dX11_offer_145 : decode cX11_offer 145 = .ok (.aload_n 0, 1) := by decide +kernel
theorem dX11_offer_146 : decode cX11_offer 146 = .ok (.getfield 185, 3) := by decide +kernel
theorem dX11_offer_149 : decode cX11_offer 149 = .ok (.iload_n 3, 1) := by decide +kernel
theorem dX11_offer_150 : decode cX11_offer 150 = .ok (.iastore, 1) := by decide +kernel
theorem dX11_offer_151 : decode cX11_offer 151 = .ok (.aload_n 0, 1) := by decide +kernel
theorem dX11_offer_152 : decode cX11_offer 152 = .ok (.getfield 72, 3) := by decide +kernel
theorem dX11_offer_155 : decode cX11_offer 155 = .ok (.aload_n 0, 1) := by decide +kernel
theorem dX11_offer_156 : decode cX11_offer 156 = .ok (.getfield 185, 3) := by decide +kernel
theorem dX11_offer_159 : decode cX11_offer 159 = .ok (.iload 4, 2) := by decide +kernel
theorem dX11_offer_161 : decode cX11_offer 161 = .ok (.iastore, 1) := by decide +kernel
theorem dX11_offer_162 : decode cX11_offer 162 = .ok (.aload_n 0, 1) := by decide +kernel
theorem dX11_offer_163 : decode cX11_offer 163 = .ok (.getfield 75, 3) := by decide +kernel
theorem dX11_offer_166 : decode cX11_offer 166 = .ok (.aload_n 0, 1) := by decide +kernel
theorem dX11_offer_167 : decode cX11_offer 167 = .ok (.getfield 185, 3) := by decide +kernel
theorem dX11_offer_170 : decode cX11_offer 170 = .ok (.iconst (-1), 1) := by decide +kernel
theorem dX11_offer_171 : decode cX11_offer 171 = .ok (.iastore, 1) := by decide +kernel
theorem dX11_offer_172 : decode cX11_offer 172 = .ok (.aload_n 0, 1) := by decide +kernel
theorem dX11_offer_173 : decode cX11_offer 173 = .ok (.getfield 78, 3) := by decide +kernel
theorem dX11_offer_176 : decode cX11_offer 176 = .ok (.aload_n 0, 1) := by decide +kernel
theorem dX11_offer_177 : decode cX11_offer 177 = .ok (.getfield 185, 3) := by decide +kernel
theorem dX11_offer_180 : decode cX11_offer 180 = .ok (.iload_n 1, 1) := by decide +kernel
theorem dX11_offer_181 : decode cX11_offer 181 = .ok (.iastore, 1) := by decide +kernel
theorem dX11_offer_182 : decode cX11_offer 182 = .ok (.aload_n 0, 1) := by decide +kernel
theorem dX11_offer_183 : decode cX11_offer 183 = .ok (.getfield 81, 3) := by decide +kernel
theorem dX11_offer_186 : decode cX11_offer 186 = .ok (.aload_n 0, 1) := by decide +kernel
theorem dX11_offer_187 : decode cX11_offer 187 = .ok (.getfield 185, 3) := by decide +kernel
theorem dX11_offer_190 : decode cX11_offer 190 = .ok (.aload_n 0, 1) := by decide +kernel
theorem dX11_offer_191 : decode cX11_offer 191 = .ok (.getfield 96, 3) := by decide +kernel
theorem dX11_offer_194 : decode cX11_offer 194 = .ok (.iload_n 2, 1) := by decide +kernel
theorem dX11_offer_195 : decode cX11_offer 195 = .ok (.iaload, 1) := by decide +kernel
theorem dX11_offer_196 : decode cX11_offer 196 = .ok (.iastore, 1) := by decide +kernel
theorem dX11_offer_197 : decode cX11_offer 197 = .ok (.aload_n 0, 1) := by decide +kernel
theorem dX11_offer_198 : decode cX11_offer 198 = .ok (.getfield 84, 3) := by decide +kernel
theorem dX11_offer_201 : decode cX11_offer 201 = .ok (.aload_n 0, 1) := by decide +kernel
theorem dX11_offer_202 : decode cX11_offer 202 = .ok (.getfield 185, 3) := by decide +kernel
theorem dX11_offer_205 : decode cX11_offer 205 = .ok (.aload_n 0, 1) := by decide +kernel
theorem dX11_offer_206 : decode cX11_offer 206 = .ok (.getfield 99, 3) := by decide +kernel
theorem dX11_offer_209 : decode cX11_offer 209 = .ok (.iload_n 2, 1) := by decide +kernel
theorem dX11_offer_210 : decode cX11_offer 210 = .ok (.iaload, 1) := by decide +kernel
theorem dX11_offer_211 : decode cX11_offer 211 = .ok (.iastore, 1) := by decide +kernel
theorem dX11_offer_212 : decode cX11_offer 212 = .ok (.aload_n 0, 1) := by decide +kernel
theorem dX11_offer_213 : decode cX11_offer 213 = .ok (.getfield 87, 3) := by decide +kernel
theorem dX11_offer_216 : decode cX11_offer 216 = .ok (.aload_n 0, 1) := by decide +kernel
theorem dX11_offer_217 : decode cX11_offer 217 = .ok (.getfield 185, 3) := by decide +kernel
theorem dX11_offer_220 : decode cX11_offer 220 = .ok (.aload_n 0, 1) := by decide +kernel
theorem dX11_offer_221 : decode cX11_offer 221 = .ok (.getfield 108, 3) := by decide +kernel
theorem dX11_offer_224 : decode cX11_offer 224 = .ok (.iload_n 2, 1) := by decide +kernel
theorem dX11_offer_225 : decode cX11_offer 225 = .ok (.iaload, 1) := by decide +kernel
theorem dX11_offer_226 : decode cX11_offer 226 = .ok (.iastore, 1) := by decide +kernel
theorem dX11_offer_227 : decode cX11_offer 227 = .ok (.aload_n 0, 1) := by decide +kernel
theorem dX11_offer_228 : decode cX11_offer 228 = .ok (.dup, 1) := by decide +kernel
theorem dX11_offer_229 : decode cX11_offer 229 = .ok (.getfield 185, 3) := by decide +kernel
theorem dX11_offer_232 : decode cX11_offer 232 = .ok (.iconst 1, 1) := by decide +kernel
theorem dX11_offer_233 : decode cX11_offer 233 = .ok (.iadd, 1) := by decide +kernel
theorem dX11_offer_234 : decode cX11_offer 234 = .ok (.putfield 185, 3) := by decide +kernel
theorem dX11_offer_237 : decode cX11_offer 237 = .ok (.aload_n 0, 1) := by decide +kernel
theorem dX11_offer_238 : decode cX11_offer 238 = .ok (.getfield 185, 3) := by decide +kernel
theorem dX11_offer_241 : decode cX11_offer 241 = .ok (.iconst 1, 1) := by decide +kernel
theorem dX11_offer_242 : decode cX11_offer 242 = .ok (.isub, 1) := by decide +kernel
theorem dX11_offer_243 : decode cX11_offer 243 = .ok (.ireturn, 1) := by decide +kernel
theorem dX11_take_0 : decode cX11_take 0 = .ok (.iload_n 1, 1) := by decide +kernel
theorem dX11_take_1 : decode cX11_take 1 = .ok (.iconst 0, 1) := by decide +kernel
theorem dX11_take_2 : decode cX11_take 2 = .ok (.aload_n 0, 1) := by decide +kernel
theorem dX11_take_3 : decode cX11_take 3 = .ok (.getfield 185, 3) := by decide +kernel
theorem dX11_take_6 : decode cX11_take 6 = .ok (.iconst 1, 1) := by decide +kernel
theorem dX11_take_7 : decode cX11_take 7 = .ok (.isub, 1) := by decide +kernel
theorem dX11_take_8 : decode cX11_take 8 = .ok (.invokestatic 141, 3) := by decide +kernel
theorem dX11_take_11 : decode cX11_take 11 = .ok (.ifCond .eq 22, 3) := by decide +kernel
theorem dX11_take_14 : decode cX11_take 14 = .ok (.aload_n 0, 1) := by decide +kernel
theorem dX11_take_15 : decode cX11_take 15 = .ok (.getfield 66, 3) := by decide +kernel
theorem dX11_take_18 : decode cX11_take 18 = .ok (.iload_n 1, 1) := by decide +kernel
theorem dX11_take_19 : decode cX11_take 19 = .ok (.iaload, 1) := by decide +kernel
theorem dX11_take_20 : decode cX11_take 20 = .ok (.ifCond .ne 13, 3) := by decide +kernel
theorem dX11_take_23 : decode cX11_take 23 = .ok (.iload_n 2, 1) := by decide +kernel
theorem dX11_take_24 : decode cX11_take 24 = .ok (.iconst 0, 1) := by decide +kernel
theorem dX11_take_25 : decode cX11_take 25 = .ok (.bipush 99, 2) := by decide +kernel
theorem dX11_take_27 : decode cX11_take 27 = .ok (.invokestatic 141, 3) := by decide +kernel
theorem dX11_take_30 : decode cX11_take 30 = .ok (.ifCond .ne 5, 3) := by decide +kernel
theorem dX11_take_33 : decode cX11_take 33 = .ok (.iconst 0, 1) := by decide +kernel
theorem dX11_take_34 : decode cX11_take 34 = .ok (.ireturn, 1) := by decide +kernel
theorem dX11_take_35 : decode cX11_take 35 = .ok (.aload_n 0, 1) := by decide +kernel
theorem dX11_take_36 : decode cX11_take 36 = .ok (.getfield 66, 3) := by decide +kernel
theorem dX11_take_39 : decode cX11_take 39 = .ok (.iload_n 1, 1) := by decide +kernel
theorem dX11_take_40 : decode cX11_take 40 = .ok (.iconst 1, 1) := by decide +kernel
theorem dX11_take_41 : decode cX11_take 41 = .ok (.iastore, 1) := by decide +kernel
theorem dX11_take_42 : decode cX11_take 42 = .ok (.aload_n 0, 1) := by decide +kernel
theorem dX11_take_43 : decode cX11_take 43 = .ok (.getfield 75, 3) := by decide +kernel
theorem dX11_take_46 : decode cX11_take 46 = .ok (.iload_n 1, 1) := by decide +kernel
theorem dX11_take_47 : decode cX11_take 47 = .ok (.iload_n 2, 1) := by decide +kernel
theorem dX11_take_48 : decode cX11_take 48 = .ok (.iastore, 1) := by decide +kernel
theorem dX11_take_49 : decode cX11_take 49 = .ok (.iconst 1, 1) := by decide +kernel
theorem dX11_take_50 : decode cX11_take 50 = .ok (.ireturn, 1) := by decide +kernel
theorem dX11_told_0 : decode cX11_told 0 = .ok (.iload_n 1, 1) := by decide +kernel
theorem dX11_told_1 : decode cX11_told 1 = .ok (.iconst 0, 1) := by decide +kernel
theorem dX11_told_2 : decode cX11_told 2 = .ok (.aload_n 0, 1) := by decide +kernel
theorem dX11_told_3 : decode cX11_told 3 = .ok (.getfield 185, 3) := by decide +kernel
theorem dX11_told_6 : decode cX11_told 6 = .ok (.iconst 1, 1) := by decide +kernel
theorem dX11_told_7 : decode cX11_told 7 = .ok (.isub, 1) := by decide +kernel
theorem dX11_told_8 : decode cX11_told 8 = .ok (.invokestatic 141, 3) := by decide +kernel
theorem dX11_told_11 : decode cX11_told 11 = .ok (.ifCond .ne 5, 3) := by decide +kernel
theorem dX11_told_14 : decode cX11_told 14 = .ok (.iconst (-1), 1) := by decide +kernel
theorem dX11_told_15 : decode cX11_told 15 = .ok (.ireturn, 1) := by decide +kernel
theorem dX11_told_16 : decode cX11_told 16 = .ok (.iload_n 2, 1) := by decide +kernel
theorem dX11_told_17 : decode cX11_told 17 = .ok (.tableswitch 81 0 5 #[39, 46, 53, 60, 67, 74], 39) := by decide +kernel
theorem dX11_told_56 : decode cX11_told 56 = .ok (.aload_n 0, 1) := by decide +kernel
theorem dX11_told_57 : decode cX11_told 57 = .ok (.getfield 66, 3) := by decide +kernel
theorem dX11_told_60 : decode cX11_told 60 = .ok (.iload_n 1, 1) := by decide +kernel
theorem dX11_told_61 : decode cX11_told 61 = .ok (.iaload, 1) := by decide +kernel
theorem dX11_told_62 : decode cX11_told 62 = .ok (.ireturn, 1) := by decide +kernel
theorem dX11_told_63 : decode cX11_told 63 = .ok (.aload_n 0, 1) := by decide +kernel
theorem dX11_told_64 : decode cX11_told 64 = .ok (.getfield 69, 3) := by decide +kernel
theorem dX11_told_67 : decode cX11_told 67 = .ok (.iload_n 1, 1) := by decide +kernel
theorem dX11_told_68 : decode cX11_told 68 = .ok (.iaload, 1) := by decide +kernel
theorem dX11_told_69 : decode cX11_told 69 = .ok (.ireturn, 1) := by decide +kernel
theorem dX11_told_70 : decode cX11_told 70 = .ok (.aload_n 0, 1) := by decide +kernel
theorem dX11_told_71 : decode cX11_told 71 = .ok (.getfield 72, 3) := by decide +kernel
theorem dX11_told_74 : decode cX11_told 74 = .ok (.iload_n 1, 1) := by decide +kernel
theorem dX11_told_75 : decode cX11_told 75 = .ok (.iaload, 1) := by decide +kernel
theorem dX11_told_76 : decode cX11_told 76 = .ok (.ireturn, 1) := by decide +kernel
theorem dX11_told_77 : decode cX11_told 77 = .ok (.aload_n 0, 1) := by decide +kernel
theorem dX11_told_78 : decode cX11_told 78 = .ok (.getfield 75, 3) := by decide +kernel
theorem dX11_told_81 : decode cX11_told 81 = .ok (.iload_n 1, 1) := by decide +kernel
theorem dX11_told_82 : decode cX11_told 82 = .ok (.iaload, 1) := by decide +kernel
theorem dX11_told_83 : decode cX11_told 83 = .ok (.ireturn, 1) := by decide +kernel
theorem dX11_told_84 : decode cX11_told 84 = .ok (.aload_n 0, 1) := by decide +kernel
theorem dX11_told_85 : decode cX11_told 85 = .ok (.getfield 78, 3) := by decide +kernel
theorem dX11_told_88 : decode cX11_told 88 = .ok (.iload_n 1, 1) := by decide +kernel
theorem dX11_told_89 : decode cX11_told 89 = .ok (.iaload, 1) := by decide +kernel
theorem dX11_told_90 : decode cX11_told 90 = .ok (.ireturn, 1) := by decide +kernel
theorem dX11_told_91 : decode cX11_told 91 = .ok (.aload_n 0, 1) := by decide +kernel
theorem dX11_told_92 : decode cX11_told 92 = .ok (.getfield 87, 3) := by decide +kernel
theorem dX11_told_95 : decode cX11_told 95 = .ok (.iload_n 1, 1) := by decide +kernel
theorem dX11_told_96 : decode cX11_told 96 = .ok (.iaload, 1) := by decide +kernel
theorem dX11_told_97 : decode cX11_told 97 = .ok (.ireturn, 1) := by decide +kernel
theorem dX11_told_98 : decode cX11_told 98 = .ok (.iconst (-1), 1) := by decide +kernel
theorem dX11_told_99 : decode cX11_told 99 = .ok (.ireturn, 1) := by decide +kernel
theorem dX11_bill_0 : decode cX11_bill 0 = .ok (.aload_n 0, 1) := by decide +kernel
theorem dX11_bill_1 : decode cX11_bill 1 = .ok (.iload_n 1, 1) := by decide +kernel
theorem dX11_bill_2 : decode cX11_bill 2 = .ok (.invokevirtual 172, 3) := by decide +kernel
theorem dX11_bill_5 : decode cX11_bill 5 = .ok (.ifCond .eq 13, 3) := by decide +kernel
theorem dX11_bill_8 : decode cX11_bill 8 = .ok (.aload_n 0, 1) := by decide +kernel
theorem dX11_bill_9 : decode cX11_bill 9 = .ok (.getfield 54, 3) := by decide +kernel
theorem dX11_bill_12 : decode cX11_bill 12 = .ok (.iload_n 1, 1) := by decide +kernel
theorem dX11_bill_13 : decode cX11_bill 13 = .ok (.iaload, 1) := by decide +kernel
theorem dX11_bill_14 : decode cX11_bill 14 = .ok (.iconst (-1), 1) := by decide +kernel
theorem dX11_bill_15 : decode cX11_bill 15 = .ok (.if_icmp .ne 7, 3) := by decide +kernel
theorem dX11_bill_18 : decode cX11_bill 18 = .ok (.ldc2_w 240, 3) := by decide +kernel
theorem dX11_bill_21 : decode cX11_bill 21 = .ok (.lreturn, 1) := by decide +kernel
theorem dX11_bill_22 : decode cX11_bill 22 = .ok (.aload_n 0, 1) := by decide +kernel
theorem dX11_bill_23 : decode cX11_bill 23 = .ok (.getfield 54, 3) := by decide +kernel
theorem dX11_bill_26 : decode cX11_bill 26 = .ok (.iload_n 1, 1) := by decide +kernel
theorem dX11_bill_27 : decode cX11_bill 27 = .ok (.iaload, 1) := by decide +kernel
theorem dX11_bill_28 : decode cX11_bill 28 = .ok (.istore_n 2, 1) := by decide +kernel
theorem dX11_bill_29 : decode cX11_bill 29 = .ok (.aload_n 0, 1) := by decide +kernel
theorem dX11_bill_30 : decode cX11_bill 30 = .ok (.iload_n 2, 1) := by decide +kernel
theorem dX11_bill_31 : decode cX11_bill 31 = .ok (.invokevirtual 227, 3) := by decide +kernel
theorem dX11_bill_34 : decode cX11_bill 34 = .ok (.aload_n 0, 1) := by decide +kernel
theorem dX11_bill_35 : decode cX11_bill 35 = .ok (.getfield 36, 3) := by decide +kernel
theorem dX11_bill_38 : decode cX11_bill 38 = .ok (.iload_n 2, 1) := by decide +kernel
theorem dX11_bill_39 : decode cX11_bill 39 = .ok (.iaload, 1) := by decide +kernel
theorem dX11_bill_40 : decode cX11_bill 40 = .ok (.i2l, 1) := by decide +kernel
theorem dX11_bill_41 : decode cX11_bill 41 = .ok (.aload_n 0, 1) := by decide +kernel
theorem dX11_bill_42 : decode cX11_bill 42 = .ok (.aload_n 0, 1) := by decide +kernel
theorem dX11_bill_43 : decode cX11_bill 43 = .ok (.getfield 39, 3) := by decide +kernel
theorem dX11_bill_46 : decode cX11_bill 46 = .ok (.iload_n 1, 1) := by decide +kernel
theorem dX11_bill_47 : decode cX11_bill 47 = .ok (.iaload, 1) := by decide +kernel
theorem dX11_bill_48 : decode cX11_bill 48 = .ok (.aload_n 0, 1) := by decide +kernel
theorem dX11_bill_49 : decode cX11_bill 49 = .ok (.getfield 42, 3) := by decide +kernel
theorem dX11_bill_52 : decode cX11_bill 52 = .ok (.iload_n 1, 1) := by decide +kernel
theorem dX11_bill_53 : decode cX11_bill 53 = .ok (.iaload, 1) := by decide +kernel
theorem dX11_bill_54 : decode cX11_bill 54 = .ok (.invokevirtual 165, 3) := by decide +kernel
theorem dX11_bill_57 : decode cX11_bill 57 = .ok (.i2l, 1) := by decide +kernel
theorem dX11_bill_58 : decode cX11_bill 58 = .ok (.lmul, 1) := by decide +kernel
theorem dX11_bill_59 : decode cX11_bill 59 = .ok (.lstore_n 3, 1) := by decide +kernel
theorem dX11_bill_60 : decode cX11_bill 60 = .ok (.iconst 0, 1) := by decide +kernel
theorem dX11_bill_61 : decode cX11_bill 61 = .ok (.istore 5, 2) := by decide +kernel
theorem dX11_bill_63 : decode cX11_bill 63 = .ok (.iload 5, 2) := by decide +kernel
theorem dX11_bill_65 : decode cX11_bill 65 = .ok (.aload_n 0, 1) := by decide +kernel
theorem dX11_bill_66 : decode cX11_bill 66 = .ok (.getfield 191, 3) := by decide +kernel
theorem dX11_bill_69 : decode cX11_bill 69 = .ok (.if_icmp .ge 145, 3) := by decide +kernel
theorem dX11_bill_72 : decode cX11_bill 72 = .ok (.aload_n 0, 1) := by decide +kernel
theorem dX11_bill_73 : decode cX11_bill 73 = .ok (.getfield 93, 3) := by decide +kernel
theorem dX11_bill_76 : decode cX11_bill 76 = .ok (.iload 5, 2) := by decide +kernel
theorem dX11_bill_78 : decode cX11_bill 78 = .ok (.iaload, 1) := by decide +kernel
theorem dX11_bill_79 : decode cX11_bill 79 = .ok (.iconst (-1), 1) := by decide +kernel
theorem dX11_bill_80 : decode cX11_bill 80 = .ok (.if_icmp .ne 128, 3) := by decide +kernel
theorem dX11_bill_83 : decode cX11_bill 83 = .ok (.aload_n 0, 1) := by decide +kernel
theorem dX11_bill_84 : decode cX11_bill 84 = .ok (.getfield 108, 3) := by decide +kernel
theorem dX11_bill_87 : decode cX11_bill 87 = .ok (.iload 5, 2) := by decide +kernel
theorem dX11_bill_89 : decode cX11_bill 89 = .ok (.iaload, 1) := by decide +kernel
theorem dX11_bill_90 : decode cX11_bill 90 = .ok (.iload_n 1, 1) := by decide +kernel
theorem dX11_bill_91 : decode cX11_bill 91 = .ok (.if_icmp .eq 6, 3) := by decide +kernel
theorem dX11_bill_94 : decode cX11_bill 94 = .ok (.goto 114, 3) := by decide +kernel
theorem dX11_bill_97 : decode cX11_bill 97 = .ok (.aload_n 0, 1) := by decide +kernel
theorem dX11_bill_98 : decode cX11_bill 98 = .ok (.aload_n 0, 1) := by decide +kernel
theorem dX11_bill_99 : decode cX11_bill 99 = .ok (.getfield 96, 3) := by decide +kernel
theorem dX11_bill_102 : decode cX11_bill 102 = .ok (.iload 5, 2) := by decide +kernel
theorem dX11_bill_104 : decode cX11_bill 104 = .ok (.iaload, 1) := by decide +kernel
theorem dX11_bill_105 : decode cX11_bill 105 = .ok (.aload_n 0, 1) := by decide +kernel
theorem dX11_bill_106 : decode cX11_bill 106 = .ok (.getfield 99, 3) := by decide +kernel
theorem dX11_bill_109 : decode cX11_bill 109 = .ok (.iload 5, 2) := by decide +kernel
theorem dX11_bill_111 : decode cX11_bill 111 = .ok (.iaload, 1) := by decide +kernel
theorem dX11_bill_112 : decode cX11_bill 112 = .ok (.invokevirtual 165, 3) := by decide +kernel
theorem dX11_bill_115 : decode cX11_bill 115 = .ok (.istore 6, 2) := by decide +kernel
theorem dX11_bill_117 : decode cX11_bill 117 = .ok (.iload 6, 2) := by decide +kernel
theorem dX11_bill_119 : decode cX11_bill 119 = .ok (.ifCond .ne 7, 3) := by decide +kernel
theorem dX11_bill_122 : decode cX11_bill 122 = .ok (.ldc2_w 240, 3) := by decide +kernel
theorem dX11_bill_125 : decode cX11_bill 125 = .ok (.lreturn, 1) := by decide +kernel
theorem dX11_bill_126 : decode cX11_bill 126 = .ok (.lload_n 3, 1) := by decide +kernel
theorem dX11_bill_127 : decode cX11_bill 127 = .ok (.aload_n 0, 1) := by decide +kernel
theorem dX11_bill_128 : decode cX11_bill 128 = .ok (.getfield 36, 3) := by decide +kernel
theorem dX11_bill_131 : decode cX11_bill 131 = .ok (.iload_n 2, 1) := by decide +kernel
theorem dX11_bill_132 : decode cX11_bill 132 = .ok (.iaload, 1) := by decide +kernel
theorem dX11_bill_133 : decode cX11_bill 133 = .ok (.i2l, 1) := by decide +kernel
theorem dX11_bill_134 : decode cX11_bill 134 = .ok (.iload 6, 2) := by decide +kernel
theorem dX11_bill_136 : decode cX11_bill 136 = .ok (.i2l, 1) := by decide +kernel
theorem dX11_bill_137 : decode cX11_bill 137 = .ok (.lmul, 1) := by decide +kernel
theorem dX11_bill_138 : decode cX11_bill 138 = .ok (.ladd, 1) := by decide +kernel
theorem dX11_bill_139 : decode cX11_bill 139 = .ok (.lstore_n 3, 1) := by decide +kernel
theorem dX11_bill_140 : decode cX11_bill 140 = .ok (.iconst 0, 1) := by decide +kernel
theorem dX11_bill_141 : decode cX11_bill 141 = .ok (.istore 7, 2) := by decide +kernel
theorem dX11_bill_143 : decode cX11_bill 143 = .ok (.iload 7, 2) := by decide +kernel
theorem dX11_bill_145 : decode cX11_bill 145 = .ok (.aload_n 0, 1) := by decide +kernel
theorem dX11_bill_146 : decode cX11_bill 146 = .ok (.getfield 185, 3) := by decide +kernel
theorem dX11_bill_149 : decode cX11_bill 149 = .ok (.if_icmp .ge 59, 3) := by decide +kernel
theorem dX11_bill_152 : decode cX11_bill 152 = .ok (.lload_n 3, 1) := by decide +kernel
theorem dX11_bill_153 : decode cX11_bill 153 = .ok (.aload_n 0, 1) := by decide +kernel
theorem dX11_bill_154 : decode cX11_bill 154 = .ok (.getfield 66, 3) := by decide +kernel
theorem dX11_bill_157 : decode cX11_bill 157 = .ok (.iload 7, 2) := by decide +kernel
theorem dX11_bill_159 : decode cX11_bill 159 = .ok (.iaload, 1) := by decide +kernel
theorem dX11_bill_160 : decode cX11_bill 160 = .ok (.iconst 1, 1) := by decide +kernel
theorem dX11_bill_161 : decode cX11_bill 161 = .ok (.if_icmp .ne 38, 3) := by decide +kernel
theorem dX11_bill_164 : decode cX11_bill 164 = .ok (.aload_n 0, 1) := by decide +kernel
theorem dX11_bill_165 : decode cX11_bill 165 = .ok (.getfield 78, 3) := by decide +kernel
theorem dX11_bill_168 : decode cX11_bill 168 = .ok (.iload 7, 2) := by decide +kernel
theorem dX11_bill_170 : decode cX11_bill 170 = .ok (.iaload, 1) := by decide +kernel
theorem dX11_bill_171 : decode cX11_bill 171 = .ok (.iload_n 2, 1) := by decide +kernel
theorem dX11_bill_172 : decode cX11_bill 172 = .ok (.if_icmp .ne 27, 3) := by decide +kernel
theorem dX11_bill_175 : decode cX11_bill 175 = .ok (.aload_n 0, 1) := by decide +kernel
theorem dX11_bill_176 : decode cX11_bill 176 = .ok (.iload 7, 2) := by decide +kernel
theorem dX11_bill_178 : decode cX11_bill 178 = .ok (.iload 5, 2) := by decide +kernel
theorem dX11_bill_180 : decode cX11_bill 180 = .ok (.invokevirtual 230, 3) := by decide +kernel
theorem dX11_bill_183 : decode cX11_bill 183 = .ok (.ifCond .eq 16, 3) := by decide +kernel
theorem dX11_bill_186 : decode cX11_bill 186 = .ok (.aload_n 0, 1) := by decide +kernel
theorem dX11_bill_187 : decode cX11_bill 187 = .ok (.getfield 69, 3) := by decide +kernel
theorem dX11_bill_190 : decode cX11_bill 190 = .ok (.iload 7, 2) := by decide +kernel
theorem dX11_bill_192 : decode cX11_bill 192 = .ok (.iaload, 1) := by decide +kernel
theorem dX11_bill_193 : decode cX11_bill 193 = .ok (.iconst 2, 1) := by decide +kernel
theorem dX11_bill_194 : decode cX11_bill 194 = .ok (.idiv, 1) := by decide +kernel
theorem dX11_bill_195 : decode cX11_bill 195 = .ok (.i2l, 1) := by decide +kernel
theorem dX11_bill_196 : decode cX11_bill 196 = .ok (.goto 4, 3) := by decide +kernel
theorem dX11_bill_199 : decode cX11_bill 199 = .ok (.lconst 0, 1) := by decide +kernel
theorem dX11_bill_200 : decode cX11_bill 200 = .ok (.lsub, 1) := by decide +kernel
theorem dX11_bill_201 : decode cX11_bill 201 = .ok (.lstore_n 3, 1) := by decide +kernel
theorem dX11_bill_202 : decode cX11_bill 202 = .ok (.iinc 7 1, 3) := by decide +kernel
theorem dX11_bill_205 : decode cX11_bill 205 = .ok (.goto (-62), 3) := by decide +kernel
theorem dX11_bill_208 : decode cX11_bill 208 = .ok (.iinc 5 1, 3) := by decide +kernel
theorem dX11_bill_211 : decode cX11_bill 211 = .ok (.goto (-148), 3) := by decide +kernel
theorem dX11_bill_214 : decode cX11_bill 214 = .ok (.lload_n 3, 1) := by decide +kernel
theorem dX11_bill_215 : decode cX11_bill 215 = .ok (.lconst 0, 1) := by decide +kernel
theorem dX11_bill_216 : decode cX11_bill 216 = .ok (.lcmp, 1) := by decide +kernel
theorem dX11_bill_217 : decode cX11_bill 217 = .ok (.ifCond .ge 7, 3) := by decide +kernel
theorem dX11_bill_220 : decode cX11_bill 220 = .ok (.lconst 0, 1) := by decide +kernel
theorem dX11_bill_221 : decode cX11_bill 221 = .ok (.goto 4, 3) := by decide +kernel
theorem dX11_bill_224 : decode cX11_bill 224 = .ok (.lload_n 3, 1) := by decide +kernel
theorem dX11_bill_225 : decode cX11_bill 225 = .ok (.lreturn, 1) := by decide +kernel
theorem dX11_look_0 : decode cX11_look 0 = .ok (.aload_n 0, 1) := by decide +kernel
theorem dX11_look_1 : decode cX11_look 1 = .ok (.iload_n 1, 1) := by decide +kernel
theorem dX11_look_2 : decode cX11_look 2 = .ok (.invokevirtual 172, 3) := by decide +kernel
theorem dX11_look_5 : decode cX11_look 5 = .ok (.ifCond .ne 5, 3) := by decide +kernel
theorem dX11_look_8 : decode cX11_look 8 = .ok (.iconst (-1), 1) := by decide +kernel
theorem dX11_look_9 : decode cX11_look 9 = .ok (.ireturn, 1) := by decide +kernel
theorem dX11_look_10 : decode cX11_look 10 = .ok (.iload_n 2, 1) := by decide +kernel
theorem dX11_look_11 : decode cX11_look 11 = .ok (.tableswitch 97 0 5 #[37, 44, 51, 58, 65, 80], 37) := by decide +kernel
theorem dX11_look_48 : decode cX11_look 48 = .ok (.aload_n 0, 1) := by decide +kernel
theorem dX11_look_49 : decode cX11_look 49 = .ok (.getfield 39, 3) := by decide +kernel
theorem dX11_look_52 : decode cX11_look 52 = .ok (.iload_n 1, 1) := by decide +kernel
theorem dX11_look_53 : decode cX11_look 53 = .ok (.iaload, 1) := by decide +kernel
theorem dX11_look_54 : decode cX11_look 54 = .ok (.ireturn, 1) := by decide +kernel
theorem dX11_look_55 : decode cX11_look 55 = .ok (.aload_n 0, 1) := by decide +kernel
theorem dX11_look_56 : decode cX11_look 56 = .ok (.getfield 42, 3) := by decide +kernel
theorem dX11_look_59 : decode cX11_look 59 = .ok (.iload_n 1, 1) := by decide +kernel
theorem dX11_look_60 : decode cX11_look 60 = .ok (.iaload, 1) := by decide +kernel
theorem dX11_look_61 : decode cX11_look 61 = .ok (.ireturn, 1) := by decide +kernel
theorem dX11_look_62 : decode cX11_look 62 = .ok (.aload_n 0, 1) := by decide +kernel
theorem dX11_look_63 : decode cX11_look 63 = .ok (.getfield 45, 3) := by decide +kernel
theorem dX11_look_66 : decode cX11_look 66 = .ok (.iload_n 1, 1) := by decide +kernel
theorem dX11_look_67 : decode cX11_look 67 = .ok (.iaload, 1) := by decide +kernel
theorem dX11_look_68 : decode cX11_look 68 = .ok (.ireturn, 1) := by decide +kernel
theorem dX11_look_69 : decode cX11_look 69 = .ok (.aload_n 0, 1) := by decide +kernel
theorem dX11_look_70 : decode cX11_look 70 = .ok (.getfield 48, 3) := by decide +kernel
theorem dX11_look_73 : decode cX11_look 73 = .ok (.iload_n 1, 1) := by decide +kernel
theorem dX11_look_74 : decode cX11_look 74 = .ok (.iaload, 1) := by decide +kernel
theorem dX11_look_75 : decode cX11_look 75 = .ok (.ireturn, 1) := by decide +kernel
theorem dX11_look_76 : decode cX11_look 76 = .ok (.aload_n 0, 1) := by decide +kernel
theorem dX11_look_77 : decode cX11_look 77 = .ok (.getfield 51, 3) := by decide +kernel
theorem dX11_look_80 : decode cX11_look 80 = .ok (.iload_n 1, 1) := by decide +kernel
theorem dX11_look_81 : decode cX11_look 81 = .ok (.baload, 1) := by decide +kernel
theorem dX11_look_82 : decode cX11_look 82 = .ok (.ifCond .eq 7, 3) := by decide +kernel
theorem dX11_look_85 : decode cX11_look 85 = .ok (.iconst 1, 1) := by decide +kernel
theorem dX11_look_86 : decode cX11_look 86 = .ok (.goto 4, 3) := by decide +kernel
theorem dX11_look_89 : decode cX11_look 89 = .ok (.iconst 0, 1) := by decide +kernel
theorem dX11_look_90 : decode cX11_look 90 = .ok (.ireturn, 1) := by decide +kernel
theorem dX11_look_91 : decode cX11_look 91 = .ok (.aload_n 0, 1) := by decide +kernel
theorem dX11_look_92 : decode cX11_look 92 = .ok (.aload_n 0, 1) := by decide +kernel
theorem dX11_look_93 : decode cX11_look 93 = .ok (.getfield 39, 3) := by decide +kernel
theorem dX11_look_96 : decode cX11_look 96 = .ok (.iload_n 1, 1) := by decide +kernel
theorem dX11_look_97 : decode cX11_look 97 = .ok (.iaload, 1) := by decide +kernel
theorem dX11_look_98 : decode cX11_look 98 = .ok (.aload_n 0, 1) := by decide +kernel
theorem dX11_look_99 : decode cX11_look 99 = .ok (.getfield 42, 3) := by decide +kernel
theorem dX11_look_102 : decode cX11_look 102 = .ok (.iload_n 1, 1) := by decide +kernel
theorem dX11_look_103 : decode cX11_look 103 = .ok (.iaload, 1) := by decide +kernel
theorem dX11_look_104 : decode cX11_look 104 = .ok (.invokevirtual 165, 3) := by decide +kernel
theorem dX11_look_107 : decode cX11_look 107 = .ok (.ireturn, 1) := by decide +kernel
theorem dX11_look_108 : decode cX11_look 108 = .ok (.iconst (-1), 1) := by decide +kernel
theorem dX11_look_109 : decode cX11_look 109 = .ok (.ireturn, 1) := by decide +kernel
theorem dX11_count_0 : decode cX11_count 0 = .ok (.iconst 0, 1) := by decide +kernel
theorem dX11_count_1 : decode cX11_count 1 = .ok (.istore_n 2, 1) := by decide +kernel
theorem dX11_count_2 : decode cX11_count 2 = .ok (.iload_n 1, 1) := by decide +kernel
theorem dX11_count_3 : decode cX11_count 3 = .ok (.tableswitch 119 0 8 #[49, 54, 59, 64, 69, 99, 104, 109, 114], 49) := by decide +kernel
theorem dX11_count_52 : decode cX11_count 52 = .ok (.aload_n 0, 1) := by decide +kernel
theorem dX11_count_53 : decode cX11_count 53 = .ok (.getfield 162, 3) := by decide +kernel
theorem dX11_count_56 : decode cX11_count 56 = .ok (.ireturn, 1) := by decide +kernel
theorem dX11_count_57 : decode cX11_count 57 = .ok (.aload_n 0, 1) := by decide +kernel
theorem dX11_count_58 : decode cX11_count 58 = .ok (.getfield 159, 3) := by decide +kernel
theorem dX11_count_61 : decode cX11_count 61 = .ok (.ireturn, 1) := by decide +kernel
theorem dX11_count_62 : decode cX11_count 62 = .ok (.aload_n 0, 1) := by decide +kernel
theorem dX11_count_63 : decode cX11_count 63 = .ok (.invokevirtual 168, 3) := by decide +kernel
theorem dX11_count_66 : decode cX11_count 66 = .ok (.ireturn, 1) := by decide +kernel
theorem dX11_count_67 : decode cX11_count 67 = .ok (.aload_n 0, 1) := by decide +kernel
theorem dX11_count_68 : decode cX11_count 68 = .ok (.invokevirtual 224, 3) := by decide +kernel
theorem dX11_count_71 : decode cX11_count 71 = .ok (.ireturn, 1) := by decide +kernel
theorem dX11_count_72 : decode cX11_count 72 = .ok (.iconst 0, 1) := by decide +kernel
theorem dX11_count_73 : decode cX11_count 73 = .ok (.istore_n 3, 1) := by decide +kernel
theorem dX11_count_74 : decode cX11_count 74 = .ok (.iload_n 3, 1) := by decide +kernel
theorem dX11_count_75 : decode cX11_count 75 = .ok (.aload_n 0, 1) := by decide +kernel
theorem dX11_count_76 : decode cX11_count 76 = .ok (.getfield 162, 3) := by decide +kernel
theorem dX11_count_79 : decode cX11_count 79 = .ok (.if_icmp .ge 21, 3) := by decide +kernel
theorem dX11_count_82 : decode cX11_count 82 = .ok (.aload_n 0, 1) := by decide +kernel
theorem dX11_count_83 : decode cX11_count 83 = .ok (.iload_n 3, 1) := by decide +kernel
theorem dX11_count_84 : decode cX11_count 84 = .ok (.invokevirtual 227, 3) := by decide +kernel
theorem dX11_count_87 : decode cX11_count 87 = .ok (.iload_n 2, 1) := by decide +kernel
theorem dX11_count_88 : decode cX11_count 88 = .ok (.aload_n 0, 1) := by decide +kernel
theorem dX11_count_89 : decode cX11_count 89 = .ok (.invokevirtual 211, 3) := by decide +kernel
theorem dX11_count_92 : decode cX11_count 92 = .ok (.iadd, 1) := by decide +kernel
theorem dX11_count_93 : decode cX11_count 93 = .ok (.istore_n 2, 1) := by decide +kernel
theorem dX11_count_94 : decode cX11_count 94 = .ok (.iinc 3 1, 3) := by decide +kernel
theorem dX11_count_97 : decode cX11_count 97 = .ok (.goto (-23), 3) := by decide +kernel
theorem dX11_count_100 : decode cX11_count 100 = .ok (.iload_n 2, 1) := by decide +kernel
theorem dX11_count_101 : decode cX11_count 101 = .ok (.ireturn, 1) := by decide +kernel
theorem dX11_count_102 : decode cX11_count 102 = .ok (.aload_n 0, 1) := by decide +kernel
theorem dX11_count_103 : decode cX11_count 103 = .ok (.getfield 179, 3) := by decide +kernel
theorem dX11_count_106 : decode cX11_count 106 = .ok (.ireturn, 1) := by decide +kernel
theorem dX11_count_107 : decode cX11_count 107 = .ok (.aload_n 0, 1) := by decide +kernel
theorem dX11_count_108 : decode cX11_count 108 = .ok (.getfield 185, 3) := by decide +kernel
theorem dX11_count_111 : decode cX11_count 111 = .ok (.ireturn, 1) := by decide +kernel
theorem dX11_count_112 : decode cX11_count 112 = .ok (.aload_n 0, 1) := by decide +kernel
theorem dX11_count_113 : decode cX11_count 113 = .ok (.getfield 182, 3) := by decide +kernel
theorem dX11_count_116 : decode cX11_count 116 = .ok (.ireturn, 1) := by decide +kernel
theorem dX11_count_117 : decode cX11_count 117 = .ok (.aload_n 0, 1) := by decide +kernel
theorem dX11_count_118 : decode cX11_count 118 = .ok (.getfield 123, 3) := by decide +kernel
theorem dX11_count_121 : decode cX11_count 121 = .ok (.ireturn, 1) := by decide +kernel
theorem dX11_count_122 : decode cX11_count 122 = .ok (.iconst (-1), 1) := by decide +kernel
theorem dX11_count_123 : decode cX11_count 123 = .ok (.ireturn, 1) := by decide +kernel
theorem dL_law_0 : decode cL_law 0 = .ok (.new 7, 3) := by decide +kernel
theorem dL_law_3 : decode cL_law 3 = .ok (.dup, 1) := by decide +kernel
theorem dL_law_4 : decode cL_law 4 = .ok (.invokespecial 9, 3) := by decide +kernel
theorem dL_law_7 : decode cL_law 7 = .ok (.astore_n 1, 1) := by decide +kernel
theorem dL_law_8 : decode cL_law 8 = .ok (.new 10, 3) := by decide +kernel
theorem dL_law_11 : decode cL_law 11 = .ok (.dup, 1) := by decide +kernel
theorem dL_law_12 : decode cL_law 12 = .ok (.invokespecial 12, 3) := by decide +kernel
theorem dL_law_15 : decode cL_law 15 = .ok (.astore_n 2, 1) := by decide +kernel
theorem dL_law_16 : decode cL_law 16 = .ok (.iconst 0, 1) := by decide +kernel
theorem dL_law_17 : decode cL_law 17 = .ok (.istore_n 3, 1) := by decide +kernel
theorem dL_law_18 : decode cL_law 18 = .ok (.iload_n 3, 1) := by decide +kernel
theorem dL_law_19 : decode cL_law 19 = .ok (.aload_n 0, 1) := by decide +kernel
theorem dL_law_20 : decode cL_law 20 = .ok (.arraylength, 1) := by decide +kernel
theorem dL_law_21 : decode cL_law 21 = .ok (.bipush 6, 2) := by decide +kernel
theorem dL_law_23 : decode cL_law 23 = .ok (.isub, 1) := by decide +kernel
theorem dL_law_24 : decode cL_law 24 = .ok (.if_icmp .gt 781, 3) := by decide +kernel
theorem dL_law_27 : decode cL_law 27 = .ok (.aload_n 0, 1) := by decide +kernel
theorem dL_law_28 : decode cL_law 28 = .ok (.iload_n 3, 1) := by decide +kernel
theorem dL_law_29 : decode cL_law 29 = .ok (.iaload, 1) := by decide +kernel
theorem dL_law_30 : decode cL_law 30 = .ok (.bipush 31, 2) := by decide +kernel
theorem dL_law_32 : decode cL_law 32 = .ok (.iand, 1) := by decide +kernel
theorem dL_law_33 : decode cL_law 33 = .ok (.tableswitch 766 0 19 #[95, 158, 191, 224, 267, 320, 373, 396, 439, 462, 475, 488, 501, 524, 567, 620, 653, 686, 710, 743], 95) := by decide +kernel
theorem dL_law_128 : decode cL_law 128 = .ok (.aload_n 1, 1) := by decide +kernel
theorem dL_law_129 : decode cL_law 129 = .ok (.aload_n 0, 1) := by decide +kernel
theorem dL_law_130 : decode cL_law 130 = .ok (.iload_n 3, 1) := by decide +kernel
theorem dL_law_131 : decode cL_law 131 = .ok (.iconst 1, 1) := by decide +kernel
theorem dL_law_132 : decode cL_law 132 = .ok (.iadd, 1) := by decide +kernel
theorem dL_law_133 : decode cL_law 133 = .ok (.iaload, 1) := by decide +kernel
theorem dL_law_134 : decode cL_law 134 = .ok (.aload_n 0, 1) := by decide +kernel
theorem dL_law_135 : decode cL_law 135 = .ok (.iload_n 3, 1) := by decide +kernel
theorem dL_law_136 : decode cL_law 136 = .ok (.iconst 2, 1) := by decide +kernel
theorem dL_law_137 : decode cL_law 137 = .ok (.iadd, 1) := by decide +kernel
theorem dL_law_138 : decode cL_law 138 = .ok (.iaload, 1) := by decide +kernel
theorem dL_law_139 : decode cL_law 139 = .ok (.aload_n 0, 1) := by decide +kernel
theorem dL_law_140 : decode cL_law 140 = .ok (.iload_n 3, 1) := by decide +kernel
theorem dL_law_141 : decode cL_law 141 = .ok (.iconst 3, 1) := by decide +kernel
theorem dL_law_142 : decode cL_law 142 = .ok (.iadd, 1) := by decide +kernel
theorem dL_law_143 : decode cL_law 143 = .ok (.iaload, 1) := by decide +kernel
theorem dL_law_144 : decode cL_law 144 = .ok (.aload_n 0, 1) := by decide +kernel
theorem dL_law_145 : decode cL_law 145 = .ok (.iload_n 3, 1) := by decide +kernel
theorem dL_law_146 : decode cL_law 146 = .ok (.iconst 4, 1) := by decide +kernel
theorem dL_law_147 : decode cL_law 147 = .ok (.iadd, 1) := by decide +kernel
theorem dL_law_148 : decode cL_law 148 = .ok (.iaload, 1) := by decide +kernel
theorem dL_law_149 : decode cL_law 149 = .ok (.aload_n 0, 1) := by decide +kernel
theorem dL_law_150 : decode cL_law 150 = .ok (.iload_n 3, 1) := by decide +kernel
theorem dL_law_151 : decode cL_law 151 = .ok (.iconst 5, 1) := by decide +kernel
theorem dL_law_152 : decode cL_law 152 = .ok (.iadd, 1) := by decide +kernel
theorem dL_law_153 : decode cL_law 153 = .ok (.iaload, 1) := by decide +kernel
theorem dL_law_154 : decode cL_law 154 = .ok (.invokevirtual 13, 3) := by decide +kernel
theorem dL_law_157 : decode cL_law 157 = .ok (.aload_n 2, 1) := by decide +kernel
theorem dL_law_158 : decode cL_law 158 = .ok (.aload_n 0, 1) := by decide +kernel
theorem dL_law_159 : decode cL_law 159 = .ok (.iload_n 3, 1) := by decide +kernel
theorem dL_law_160 : decode cL_law 160 = .ok (.iconst 1, 1) := by decide +kernel
theorem dL_law_161 : decode cL_law 161 = .ok (.iadd, 1) := by decide +kernel
theorem dL_law_162 : decode cL_law 162 = .ok (.iaload, 1) := by decide +kernel
theorem dL_law_163 : decode cL_law 163 = .ok (.aload_n 0, 1) := by decide +kernel
theorem dL_law_164 : decode cL_law 164 = .ok (.iload_n 3, 1) := by decide +kernel
theorem dL_law_165 : decode cL_law 165 = .ok (.iconst 2, 1) := by decide +kernel
theorem dL_law_166 : decode cL_law 166 = .ok (.iadd, 1) := by decide +kernel
theorem dL_law_167 : decode cL_law 167 = .ok (.iaload, 1) := by decide +kernel
theorem dL_law_168 : decode cL_law 168 = .ok (.aload_n 0, 1) := by decide +kernel
theorem dL_law_169 : decode cL_law 169 = .ok (.iload_n 3, 1) := by decide +kernel
theorem dL_law_170 : decode cL_law 170 = .ok (.iconst 3, 1) := by decide +kernel
theorem dL_law_171 : decode cL_law 171 = .ok (.iadd, 1) := by decide +kernel
theorem dL_law_172 : decode cL_law 172 = .ok (.iaload, 1) := by decide +kernel
theorem dL_law_173 : decode cL_law 173 = .ok (.aload_n 0, 1) := by decide +kernel
theorem dL_law_174 : decode cL_law 174 = .ok (.iload_n 3, 1) := by decide +kernel
theorem dL_law_175 : decode cL_law 175 = .ok (.iconst 4, 1) := by decide +kernel
theorem dL_law_176 : decode cL_law 176 = .ok (.iadd, 1) := by decide +kernel
theorem dL_law_177 : decode cL_law 177 = .ok (.iaload, 1) := by decide +kernel
theorem dL_law_178 : decode cL_law 178 = .ok (.aload_n 0, 1) := by decide +kernel
theorem dL_law_179 : decode cL_law 179 = .ok (.iload_n 3, 1) := by decide +kernel
theorem dL_law_180 : decode cL_law 180 = .ok (.iconst 5, 1) := by decide +kernel
theorem dL_law_181 : decode cL_law 181 = .ok (.iadd, 1) := by decide +kernel
theorem dL_law_182 : decode cL_law 182 = .ok (.iaload, 1) := by decide +kernel
theorem dL_law_183 : decode cL_law 183 = .ok (.invokevirtual 17, 3) := by decide +kernel
theorem dL_law_186 : decode cL_law 186 = .ok (.if_icmp .eq 613, 3) := by decide +kernel
theorem dL_law_189 : decode cL_law 189 = .ok (.iconst 0, 1) := by decide +kernel
theorem dL_law_190 : decode cL_law 190 = .ok (.ireturn, 1) := by decide +kernel
theorem dL_law_191 : decode cL_law 191 = .ok (.aload_n 1, 1) := by decide +kernel
theorem dL_law_192 : decode cL_law 192 = .ok (.aload_n 0, 1) := by decide +kernel
theorem dL_law_193 : decode cL_law 193 = .ok (.iload_n 3, 1) := by decide +kernel
theorem dL_law_194 : decode cL_law 194 = .ok (.iconst 1, 1) := by decide +kernel
theorem dL_law_195 : decode cL_law 195 = .ok (.iadd, 1) := by decide +kernel
theorem dL_law_196 : decode cL_law 196 = .ok (.iaload, 1) := by decide +kernel
theorem dL_law_197 : decode cL_law 197 = .ok (.aload_n 0, 1) := by decide +kernel
theorem dL_law_198 : decode cL_law 198 = .ok (.iload_n 3, 1) := by decide +kernel
theorem dL_law_199 : decode cL_law 199 = .ok (.iconst 2, 1) := by decide +kernel
theorem dL_law_200 : decode cL_law 200 = .ok (.iadd, 1) := by decide +kernel
theorem dL_law_201 : decode cL_law 201 = .ok (.iaload, 1) := by decide +kernel
theorem dL_law_202 : decode cL_law 202 = .ok (.invokevirtual 18, 3) := by decide +kernel
theorem dL_law_205 : decode cL_law 205 = .ok (.aload_n 2, 1) := by decide +kernel
theorem dL_law_206 : decode cL_law 206 = .ok (.aload_n 0, 1) := by decide +kernel
theorem dL_law_207 : decode cL_law 207 = .ok (.iload_n 3, 1) := by decide +kernel
theorem dL_law_208 : decode cL_law 208 = .ok (.iconst 1, 1) := by decide +kernel
theorem dL_law_209 : decode cL_law 209 = .ok (.iadd, 1) := by decide +kernel
theorem dL_law_210 : decode cL_law 210 = .ok (.iaload, 1) := by decide +kernel
theorem dL_law_211 : decode cL_law 211 = .ok (.aload_n 0, 1) := by decide +kernel
theorem dL_law_212 : decode cL_law 212 = .ok (.iload_n 3, 1) := by decide +kernel
theorem dL_law_213 : decode cL_law 213 = .ok (.iconst 2, 1) := by decide +kernel
theorem dL_law_214 : decode cL_law 214 = .ok (.iadd, 1) := by decide +kernel
theorem dL_law_215 : decode cL_law 215 = .ok (.iaload, 1) := by decide +kernel
theorem dL_law_216 : decode cL_law 216 = .ok (.invokevirtual 22, 3) := by decide +kernel
theorem dL_law_219 : decode cL_law 219 = .ok (.if_icmp .eq 580, 3) := by decide +kernel
theorem dL_law_222 : decode cL_law 222 = .ok (.iconst 0, 1) := by decide +kernel
theorem dL_law_223 : decode cL_law 223 = .ok (.ireturn, 1) := by decide +kernel
theorem dL_law_224 : decode cL_law 224 = .ok (.aload_n 1, 1) := by decide +kernel
theorem dL_law_225 : decode cL_law 225 = .ok (.aload_n 0, 1) := by decide +kernel
theorem dL_law_226 : decode cL_law 226 = .ok (.iload_n 3, 1) := by decide +kernel
theorem dL_law_227 : decode cL_law 227 = .ok (.iconst 1, 1) := by decide +kernel
theorem dL_law_228 : decode cL_law 228 = .ok (.iadd, 1) := by decide +kernel
theorem dL_law_229 : decode cL_law 229 = .ok (.iaload, 1) := by decide +kernel
theorem dL_law_230 : decode cL_law 230 = .ok (.aload_n 0, 1) := by decide +kernel
theorem dL_law_231 : decode cL_law 231 = .ok (.iload_n 3, 1) := by decide +kernel
theorem dL_law_232 : decode cL_law 232 = .ok (.iconst 2, 1) := by decide +kernel
theorem dL_law_233 : decode cL_law 233 = .ok (.iadd, 1) := by decide +kernel
theorem dL_law_234 : decode cL_law 234 = .ok (.iaload, 1) := by decide +kernel
theorem dL_law_235 : decode cL_law 235 = .ok (.invokevirtual 23, 3) := by decide +kernel
theorem dL_law_238 : decode cL_law 238 = .ok (.aload_n 2, 1) := by decide +kernel
theorem dL_law_239 : decode cL_law 239 = .ok (.aload_n 0, 1) := by decide +kernel
theorem dL_law_240 : decode cL_law 240 = .ok (.iload_n 3, 1) := by decide +kernel
theorem dL_law_241 : decode cL_law 241 = .ok (.iconst 1, 1) := by decide +kernel
theorem dL_law_242 : decode cL_law 242 = .ok (.iadd, 1) := by decide +kernel
theorem dL_law_243 : decode cL_law 243 = .ok (.iaload, 1) := by decide +kernel
theorem dL_law_244 : decode cL_law 244 = .ok (.aload_n 0, 1) := by decide +kernel
theorem dL_law_245 : decode cL_law 245 = .ok (.iload_n 3, 1) := by decide +kernel
theorem dL_law_246 : decode cL_law 246 = .ok (.iconst 2, 1) := by decide +kernel
theorem dL_law_247 : decode cL_law 247 = .ok (.iadd, 1) := by decide +kernel
theorem dL_law_248 : decode cL_law 248 = .ok (.iaload, 1) := by decide +kernel
theorem dL_law_249 : decode cL_law 249 = .ok (.invokevirtual 26, 3) := by decide +kernel
theorem dL_law_252 : decode cL_law 252 = .ok (.if_icmp .eq 547, 3) := by decide +kernel
theorem dL_law_255 : decode cL_law 255 = .ok (.iconst 0, 1) := by decide +kernel
theorem dL_law_256 : decode cL_law 256 = .ok (.ireturn, 1) := by decide +kernel
theorem dL_law_257 : decode cL_law 257 = .ok (.aload_n 1, 1) := by decide +kernel
theorem dL_law_258 : decode cL_law 258 = .ok (.aload_n 0, 1) := by decide +kernel
theorem dL_law_259 : decode cL_law 259 = .ok (.iload_n 3, 1) := by decide +kernel
theorem dL_law_260 : decode cL_law 260 = .ok (.iconst 1, 1) := by decide +kernel
theorem dL_law_261 : decode cL_law 261 = .ok (.iadd, 1) := by decide +kernel
theorem dL_law_262 : decode cL_law 262 = .ok (.iaload, 1) := by decide +kernel
theorem dL_law_263 : decode cL_law 263 = .ok (.aload_n 0, 1) := by decide +kernel
theorem dL_law_264 : decode cL_law 264 = .ok (.iload_n 3, 1) := by decide +kernel
theorem dL_law_265 : decode cL_law 265 = .ok (.iconst 2, 1) := by decide +kernel
theorem dL_law_266 : decode cL_law 266 = .ok (.iadd, 1) := by decide +kernel
theorem dL_law_267 : decode cL_law 267 = .ok (.iaload, 1) := by decide +kernel
theorem dL_law_268 : decode cL_law 268 = .ok (.aload_n 0, 1) := by decide +kernel
theorem dL_law_269 : decode cL_law 269 = .ok (.iload_n 3, 1) := by decide +kernel
theorem dL_law_270 : decode cL_law 270 = .ok (.iconst 3, 1) := by decide +kernel
theorem dL_law_271 : decode cL_law 271 = .ok (.iadd, 1) := by decide +kernel
theorem dL_law_272 : decode cL_law 272 = .ok (.iaload, 1) := by decide +kernel
theorem dL_law_273 : decode cL_law 273 = .ok (.invokevirtual 27, 3) := by decide +kernel
theorem dL_law_276 : decode cL_law 276 = .ok (.aload_n 2, 1) := by decide +kernel
theorem dL_law_277 : decode cL_law 277 = .ok (.aload_n 0, 1) := by decide +kernel
theorem dL_law_278 : decode cL_law 278 = .ok (.iload_n 3, 1) := by decide +kernel
theorem dL_law_279 : decode cL_law 279 = .ok (.iconst 1, 1) := by decide +kernel
theorem dL_law_280 : decode cL_law 280 = .ok (.iadd, 1) := by decide +kernel
theorem dL_law_281 : decode cL_law 281 = .ok (.iaload, 1) := by decide +kernel
theorem dL_law_282 : decode cL_law 282 = .ok (.aload_n 0, 1) := by decide +kernel
theorem dL_law_283 : decode cL_law 283 = .ok (.iload_n 3, 1) := by decide +kernel
theorem dL_law_284 : decode cL_law 284 = .ok (.iconst 2, 1) := by decide +kernel
theorem dL_law_285 : decode cL_law 285 = .ok (.iadd, 1) := by decide +kernel
theorem dL_law_286 : decode cL_law 286 = .ok (.iaload, 1) := by decide +kernel
theorem dL_law_287 : decode cL_law 287 = .ok (.aload_n 0, 1) := by decide +kernel
theorem dL_law_288 : decode cL_law 288 = .ok (.iload_n 3, 1) := by decide +kernel
theorem dL_law_289 : decode cL_law 289 = .ok (.iconst 3, 1) := by decide +kernel
theorem dL_law_290 : decode cL_law 290 = .ok (.iadd, 1) := by decide +kernel
theorem dL_law_291 : decode cL_law 291 = .ok (.iaload, 1) := by decide +kernel
theorem dL_law_292 : decode cL_law 292 = .ok (.invokevirtual 31, 3) := by decide +kernel
theorem dL_law_295 : decode cL_law 295 = .ok (.if_icmp .eq 504, 3) := by decide +kernel
theorem dL_law_298 : decode cL_law 298 = .ok (.iconst 0, 1) := by decide +kernel
theorem dL_law_299 : decode cL_law 299 = .ok (.ireturn, 1) := by decide +kernel
theorem dL_law_300 : decode cL_law 300 = .ok (.aload_n 1, 1) := by decide +kernel
theorem dL_law_301 : decode cL_law 301 = .ok (.aload_n 0, 1) := by decide +kernel
theorem dL_law_302 : decode cL_law 302 = .ok (.iload_n 3, 1) := by decide +kernel
theorem dL_law_303 : decode cL_law 303 = .ok (.iconst 1, 1) := by decide +kernel
theorem dL_law_304 : decode cL_law 304 = .ok (.iadd, 1) := by decide +kernel
theorem dL_law_305 : decode cL_law 305 = .ok (.iaload, 1) := by decide +kernel
theorem dL_law_306 : decode cL_law 306 = .ok (.aload_n 0, 1) := by decide +kernel
theorem dL_law_307 : decode cL_law 307 = .ok (.iload_n 3, 1) := by decide +kernel
theorem dL_law_308 : decode cL_law 308 = .ok (.iconst 2, 1) := by decide +kernel
theorem dL_law_309 : decode cL_law 309 = .ok (.iadd, 1) := by decide +kernel
theorem dL_law_310 : decode cL_law 310 = .ok (.iaload, 1) := by decide +kernel
theorem dL_law_311 : decode cL_law 311 = .ok (.aload_n 0, 1) := by decide +kernel
theorem dL_law_312 : decode cL_law 312 = .ok (.iload_n 3, 1) := by decide +kernel
theorem dL_law_313 : decode cL_law 313 = .ok (.iconst 3, 1) := by decide +kernel
theorem dL_law_314 : decode cL_law 314 = .ok (.iadd, 1) := by decide +kernel
theorem dL_law_315 : decode cL_law 315 = .ok (.iaload, 1) := by decide +kernel
theorem dL_law_316 : decode cL_law 316 = .ok (.aload_n 0, 1) := by decide +kernel
theorem dL_law_317 : decode cL_law 317 = .ok (.iload_n 3, 1) := by decide +kernel
theorem dL_law_318 : decode cL_law 318 = .ok (.iconst 4, 1) := by decide +kernel
theorem dL_law_319 : decode cL_law 319 = .ok (.iadd, 1) := by decide +kernel
theorem dL_law_320 : decode cL_law 320 = .ok (.iaload, 1) := by decide +kernel
theorem dL_law_321 : decode cL_law 321 = .ok (.invokevirtual 32, 3) := by decide +kernel
theorem dL_law_324 : decode cL_law 324 = .ok (.aload_n 2, 1) := by decide +kernel
theorem dL_law_325 : decode cL_law 325 = .ok (.aload_n 0, 1) := by decide +kernel
theorem dL_law_326 : decode cL_law 326 = .ok (.iload_n 3, 1) := by decide +kernel
theorem dL_law_327 : decode cL_law 327 = .ok (.iconst 1, 1) := by decide +kernel
theorem dL_law_328 : decode cL_law 328 = .ok (.iadd, 1) := by decide +kernel
theorem dL_law_329 : decode cL_law 329 = .ok (.iaload, 1) := by decide +kernel
theorem dL_law_330 : decode cL_law 330 = .ok (.aload_n 0, 1) := by decide +kernel
theorem dL_law_331 : decode cL_law 331 = .ok (.iload_n 3, 1) := by decide +kernel
theorem dL_law_332 : decode cL_law 332 = .ok (.iconst 2, 1) := by decide +kernel
theorem dL_law_333 : decode cL_law 333 = .ok (.iadd, 1) := by decide +kernel
theorem dL_law_334 : decode cL_law 334 = .ok (.iaload, 1) := by decide +kernel
theorem dL_law_335 : decode cL_law 335 = .ok (.aload_n 0, 1) := by decide +kernel
theorem dL_law_336 : decode cL_law 336 = .ok (.iload_n 3, 1) := by decide +kernel
theorem dL_law_337 : decode cL_law 337 = .ok (.iconst 3, 1) := by decide +kernel
theorem dL_law_338 : decode cL_law 338 = .ok (.iadd, 1) := by decide +kernel
theorem dL_law_339 : decode cL_law 339 = .ok (.iaload, 1) := by decide +kernel
theorem dL_law_340 : decode cL_law 340 = .ok (.aload_n 0, 1) := by decide +kernel
theorem dL_law_341 : decode cL_law 341 = .ok (.iload_n 3, 1) := by decide +kernel
theorem dL_law_342 : decode cL_law 342 = .ok (.iconst 4, 1) := by decide +kernel
theorem dL_law_343 : decode cL_law 343 = .ok (.iadd, 1) := by decide +kernel
theorem dL_law_344 : decode cL_law 344 = .ok (.iaload, 1) := by decide +kernel
theorem dL_law_345 : decode cL_law 345 = .ok (.invokevirtual 36, 3) := by decide +kernel
theorem dL_law_348 : decode cL_law 348 = .ok (.if_icmp .eq 451, 3) := by decide +kernel
theorem dL_law_351 : decode cL_law 351 = .ok (.iconst 0, 1) := by decide +kernel
theorem dL_law_352 : decode cL_law 352 = .ok (.ireturn, 1) := by decide +kernel
theorem dL_law_353 : decode cL_law 353 = .ok (.aload_n 1, 1) := by decide +kernel
theorem dL_law_354 : decode cL_law 354 = .ok (.aload_n 0, 1) := by decide +kernel
theorem dL_law_355 : decode cL_law 355 = .ok (.iload_n 3, 1) := by decide +kernel
theorem dL_law_356 : decode cL_law 356 = .ok (.iconst 1, 1) := by decide +kernel
theorem dL_law_357 : decode cL_law 357 = .ok (.iadd, 1) := by decide +kernel
theorem dL_law_358 : decode cL_law 358 = .ok (.iaload, 1) := by decide +kernel
theorem dL_law_359 : decode cL_law 359 = .ok (.aload_n 0, 1) := by decide +kernel
theorem dL_law_360 : decode cL_law 360 = .ok (.iload_n 3, 1) := by decide +kernel
theorem dL_law_361 : decode cL_law 361 = .ok (.iconst 2, 1) := by decide +kernel
theorem dL_law_362 : decode cL_law 362 = .ok (.iadd, 1) := by decide +kernel
theorem dL_law_363 : decode cL_law 363 = .ok (.iaload, 1) := by decide +kernel
theorem dL_law_364 : decode cL_law 364 = .ok (.aload_n 0, 1) := by decide +kernel
theorem dL_law_365 : decode cL_law 365 = .ok (.iload_n 3, 1) := by decide +kernel
theorem dL_law_366 : decode cL_law 366 = .ok (.iconst 3, 1) := by decide +kernel
theorem dL_law_367 : decode cL_law 367 = .ok (.iadd, 1) := by decide +kernel
theorem dL_law_368 : decode cL_law 368 = .ok (.iaload, 1) := by decide +kernel
theorem dL_law_369 : decode cL_law 369 = .ok (.aload_n 0, 1) := by decide +kernel
theorem dL_law_370 : decode cL_law 370 = .ok (.iload_n 3, 1) := by decide +kernel
theorem dL_law_371 : decode cL_law 371 = .ok (.iconst 4, 1) := by decide +kernel
theorem dL_law_372 : decode cL_law 372 = .ok (.iadd, 1) := by decide +kernel
theorem dL_law_373 : decode cL_law 373 = .ok (.iaload, 1) := by decide +kernel
theorem dL_law_374 : decode cL_law 374 = .ok (.invokevirtual 37, 3) := by decide +kernel
theorem dL_law_377 : decode cL_law 377 = .ok (.aload_n 2, 1) := by decide +kernel
theorem dL_law_378 : decode cL_law 378 = .ok (.aload_n 0, 1) := by decide +kernel
theorem dL_law_379 : decode cL_law 379 = .ok (.iload_n 3, 1) := by decide +kernel
theorem dL_law_380 : decode cL_law 380 = .ok (.iconst 1, 1) := by decide +kernel
theorem dL_law_381 : decode cL_law 381 = .ok (.iadd, 1) := by decide +kernel
theorem dL_law_382 : decode cL_law 382 = .ok (.iaload, 1) := by decide +kernel
theorem dL_law_383 : decode cL_law 383 = .ok (.aload_n 0, 1) := by decide +kernel
theorem dL_law_384 : decode cL_law 384 = .ok (.iload_n 3, 1) := by decide +kernel
theorem dL_law_385 : decode cL_law 385 = .ok (.iconst 2, 1) := by decide +kernel
theorem dL_law_386 : decode cL_law 386 = .ok (.iadd, 1) := by decide +kernel
theorem dL_law_387 : decode cL_law 387 = .ok (.iaload, 1) := by decide +kernel
theorem dL_law_388 : decode cL_law 388 = .ok (.aload_n 0, 1) := by decide +kernel
theorem dL_law_389 : decode cL_law 389 = .ok (.iload_n 3, 1) := by decide +kernel
theorem dL_law_390 : decode cL_law 390 = .ok (.iconst 3, 1) := by decide +kernel
theorem dL_law_391 : decode cL_law 391 = .ok (.iadd, 1) := by decide +kernel
theorem dL_law_392 : decode cL_law 392 = .ok (.iaload, 1) := by decide +kernel
theorem dL_law_393 : decode cL_law 393 = .ok (.aload_n 0, 1) := by decide +kernel
theorem dL_law_394 : decode cL_law 394 = .ok (.iload_n 3, 1) := by decide +kernel
theorem dL_law_395 : decode cL_law 395 = .ok (.iconst 4, 1) := by decide +kernel
theorem dL_law_396 : decode cL_law 396 = .ok (.iadd, 1) := by decide +kernel
theorem dL_law_397 : decode cL_law 397 = .ok (.iaload, 1) := by decide +kernel
theorem dL_law_398 : decode cL_law 398 = .ok (.invokevirtual 40, 3) := by decide +kernel
theorem dL_law_401 : decode cL_law 401 = .ok (.if_icmp .eq 398, 3) := by decide +kernel
theorem dL_law_404 : decode cL_law 404 = .ok (.iconst 0, 1) := by decide +kernel
theorem dL_law_405 : decode cL_law 405 = .ok (.ireturn, 1) := by decide +kernel
theorem dL_law_406 : decode cL_law 406 = .ok (.aload_n 1, 1) := by decide +kernel
theorem dL_law_407 : decode cL_law 407 = .ok (.aload_n 0, 1) := by decide +kernel
theorem dL_law_408 : decode cL_law 408 = .ok (.iload_n 3, 1) := by decide +kernel
theorem dL_law_409 : decode cL_law 409 = .ok (.iconst 1, 1) := by decide +kernel
theorem dL_law_410 : decode cL_law 410 = .ok (.iadd, 1) := by decide +kernel
theorem dL_law_411 : decode cL_law 411 = .ok (.iaload, 1) := by decide +kernel
theorem dL_law_412 : decode cL_law 412 = .ok (.invokevirtual 41, 3) := by decide +kernel
theorem dL_law_415 : decode cL_law 415 = .ok (.aload_n 2, 1) := by decide +kernel
theorem dL_law_416 : decode cL_law 416 = .ok (.aload_n 0, 1) := by decide +kernel
theorem dL_law_417 : decode cL_law 417 = .ok (.iload_n 3, 1) := by decide +kernel
theorem dL_law_418 : decode cL_law 418 = .ok (.iconst 1, 1) := by decide +kernel
theorem dL_law_419 : decode cL_law 419 = .ok (.iadd, 1) := by decide +kernel
theorem dL_law_420 : decode cL_law 420 = .ok (.iaload, 1) := by decide +kernel
theorem dL_law_421 : decode cL_law 421 = .ok (.invokevirtual 45, 3) := by decide +kernel
theorem dL_law_424 : decode cL_law 424 = .ok (.if_icmp .eq 375, 3) := by decide +kernel
theorem dL_law_427 : decode cL_law 427 = .ok (.iconst 0, 1) := by decide +kernel
theorem dL_law_428 : decode cL_law 428 = .ok (.ireturn, 1) := by decide +kernel
theorem dL_law_429 : decode cL_law 429 = .ok (.aload_n 1, 1) := by decide +kernel
theorem dL_law_430 : decode cL_law 430 = .ok (.aload_n 0, 1) := by decide +kernel
theorem dL_law_431 : decode cL_law 431 = .ok (.iload_n 3, 1) := by decide +kernel
theorem dL_law_432 : decode cL_law 432 = .ok (.iconst 1, 1) := by decide +kernel
theorem dL_law_433 : decode cL_law 433 = .ok (.iadd, 1) := by decide +kernel
theorem dL_law_434 : decode cL_law 434 = .ok (.iaload, 1) := by decide +kernel
theorem dL_law_435 : decode cL_law 435 = .ok (.aload_n 0, 1) := by decide +kernel
theorem dL_law_436 : decode cL_law 436 = .ok (.iload_n 3, 1) := by decide +kernel
theorem dL_law_437 : decode cL_law 437 = .ok (.iconst 2, 1) := by decide +kernel
theorem dL_law_438 : decode cL_law 438 = .ok (.iadd, 1) := by decide +kernel
theorem dL_law_439 : decode cL_law 439 = .ok (.iaload, 1) := by decide +kernel
theorem dL_law_440 : decode cL_law 440 = .ok (.aload_n 0, 1) := by decide +kernel
theorem dL_law_441 : decode cL_law 441 = .ok (.iload_n 3, 1) := by decide +kernel
theorem dL_law_442 : decode cL_law 442 = .ok (.iconst 3, 1) := by decide +kernel
theorem dL_law_443 : decode cL_law 443 = .ok (.iadd, 1) := by decide +kernel
theorem dL_law_444 : decode cL_law 444 = .ok (.iaload, 1) := by decide +kernel
theorem dL_law_445 : decode cL_law 445 = .ok (.invokevirtual 46, 3) := by decide +kernel
theorem dL_law_448 : decode cL_law 448 = .ok (.aload_n 2, 1) := by decide +kernel
theorem dL_law_449 : decode cL_law 449 = .ok (.aload_n 0, 1) := by decide +kernel
theorem dL_law_450 : decode cL_law 450 = .ok (.iload_n 3, 1) := by decide +kernel
theorem dL_law_451 : decode cL_law 451 = .ok (.iconst 1, 1) := by decide +kernel
theorem dL_law_452 : decode cL_law 452 = .ok (.iadd, 1) := by decide +kernel
theorem dL_law_453 : decode cL_law 453 = .ok (.iaload, 1) := by decide +kernel
theorem dL_law_454 : decode cL_law 454 = .ok (.aload_n 0, 1) := by decide +kernel
theorem dL_law_455 : decode cL_law 455 = .ok (.iload_n 3, 1) := by decide +kernel
theorem dL_law_456 : decode cL_law 456 = .ok (.iconst 2, 1) := by decide +kernel
theorem dL_law_457 : decode cL_law 457 = .ok (.iadd, 1) := by decide +kernel
theorem dL_law_458 : decode cL_law 458 = .ok (.iaload, 1) := by decide +kernel
theorem dL_law_459 : decode cL_law 459 = .ok (.aload_n 0, 1) := by decide +kernel
theorem dL_law_460 : decode cL_law 460 = .ok (.iload_n 3, 1) := by decide +kernel
theorem dL_law_461 : decode cL_law 461 = .ok (.iconst 3, 1) := by decide +kernel
theorem dL_law_462 : decode cL_law 462 = .ok (.iadd, 1) := by decide +kernel
theorem dL_law_463 : decode cL_law 463 = .ok (.iaload, 1) := by decide +kernel
theorem dL_law_464 : decode cL_law 464 = .ok (.invokevirtual 50, 3) := by decide +kernel
theorem dL_law_467 : decode cL_law 467 = .ok (.if_icmp .eq 332, 3) := by decide +kernel
theorem dL_law_470 : decode cL_law 470 = .ok (.iconst 0, 1) := by decide +kernel
theorem dL_law_471 : decode cL_law 471 = .ok (.ireturn, 1) := by decide +kernel
theorem dL_law_472 : decode cL_law 472 = .ok (.aload_n 1, 1) := by decide +kernel
theorem dL_law_473 : decode cL_law 473 = .ok (.aload_n 0, 1) := by decide +kernel
theorem dL_law_474 : decode cL_law 474 = .ok (.iload_n 3, 1) := by decide +kernel
theorem dL_law_475 : decode cL_law 475 = .ok (.iconst 1, 1) := by decide +kernel
theorem dL_law_476 : decode cL_law 476 = .ok (.iadd, 1) := by decide +kernel
theorem dL_law_477 : decode cL_law 477 = .ok (.iaload, 1) := by decide +kernel
theorem dL_law_478 : decode cL_law 478 = .ok (.invokevirtual 51, 3) := by decide +kernel
theorem dL_law_481 : decode cL_law 481 = .ok (.aload_n 2, 1) := by decide +kernel
theorem dL_law_482 : decode cL_law 482 = .ok (.aload_n 0, 1) := by decide +kernel
theorem dL_law_483 : decode cL_law 483 = .ok (.iload_n 3, 1) := by decide +kernel
theorem dL_law_484 : decode cL_law 484 = .ok (.iconst 1, 1) := by decide +kernel
theorem dL_law_485 : decode cL_law 485 = .ok (.iadd, 1) := by decide +kernel
theorem dL_law_486 : decode cL_law 486 = .ok (.iaload, 1) := by decide +kernel
theorem dL_law_487 : decode cL_law 487 = .ok (.invokevirtual 54, 3) := by decide +kernel
theorem dL_law_490 : decode cL_law 490 = .ok (.if_icmp .eq 309, 3) := by decide +kernel
theorem dL_law_493 : decode cL_law 493 = .ok (.iconst 0, 1) := by decide +kernel
theorem dL_law_494 : decode cL_law 494 = .ok (.ireturn, 1) := by decide +kernel
theorem dL_law_495 : decode cL_law 495 = .ok (.aload_n 1, 1) := by decide +kernel
theorem dL_law_496 : decode cL_law 496 = .ok (.invokevirtual 55, 3) := by decide +kernel
theorem dL_law_499 : decode cL_law 499 = .ok (.aload_n 2, 1) := by decide +kernel
theorem dL_law_500 : decode cL_law 500 = .ok (.invokevirtual 59, 3) := by decide +kernel
theorem dL_law_503 : decode cL_law 503 = .ok (.if_icmp .eq 296, 3) := by decide +kernel
theorem dL_law_506 : decode cL_law 506 = .ok (.iconst 0, 1) := by decide +kernel
theorem dL_law_507 : decode cL_law 507 = .ok (.ireturn, 1) := by decide +kernel
theorem dL_law_508 : decode cL_law 508 = .ok (.aload_n 1, 1) := by decide +kernel
theorem dL_law_509 : decode cL_law 509 = .ok (.invokevirtual 60, 3) := by decide +kernel
theorem dL_law_512 : decode cL_law 512 = .ok (.aload_n 2, 1) := by decide +kernel
theorem dL_law_513 : decode cL_law 513 = .ok (.invokevirtual 63, 3) := by decide +kernel
theorem dL_law_516 : decode cL_law 516 = .ok (.if_icmp .eq 283, 3) := by decide +kernel
theorem dL_law_519 : decode cL_law 519 = .ok (.iconst 0, 1) := by decide +kernel
theorem dL_law_520 : decode cL_law 520 = .ok (.ireturn, 1) := by decide +kernel
theorem dL_law_521 : decode cL_law 521 = .ok (.aload_n 1, 1) := by decide +kernel
theorem dL_law_522 : decode cL_law 522 = .ok (.invokevirtual 64, 3) := by decide +kernel
theorem dL_law_525 : decode cL_law 525 = .ok (.aload_n 2, 1) := by decide +kernel
theorem dL_law_526 : decode cL_law 526 = .ok (.invokevirtual 67, 3) := by decide +kernel
theorem dL_law_529 : decode cL_law 529 = .ok (.if_icmp .eq 270, 3) := by decide +kernel
theorem dL_law_532 : decode cL_law 532 = .ok (.iconst 0, 1) := by decide +kernel
theorem dL_law_533 : decode cL_law 533 = .ok (.ireturn, 1) := by decide +kernel
theorem dL_law_534 : decode cL_law 534 = .ok (.aload_n 1, 1) := by decide +kernel
theorem dL_law_535 : decode cL_law 535 = .ok (.aload_n 0, 1) := by decide +kernel
theorem dL_law_536 : decode cL_law 536 = .ok (.iload_n 3, 1) := by decide +kernel
theorem dL_law_537 : decode cL_law 537 = .ok (.iconst 1, 1) := by decide +kernel
theorem dL_law_538 : decode cL_law 538 = .ok (.iadd, 1) := by decide +kernel
theorem dL_law_539 : decode cL_law 539 = .ok (.iaload, 1) := by decide +kernel
theorem dL_law_540 : decode cL_law 540 = .ok (.invokevirtual 68, 3) := by decide +kernel
theorem dL_law_543 : decode cL_law 543 = .ok (.aload_n 2, 1) := by decide +kernel
theorem dL_law_544 : decode cL_law 544 = .ok (.aload_n 0, 1) := by decide +kernel
theorem dL_law_545 : decode cL_law 545 = .ok (.iload_n 3, 1) := by decide +kernel
theorem dL_law_546 : decode cL_law 546 = .ok (.iconst 1, 1) := by decide +kernel
theorem dL_law_547 : decode cL_law 547 = .ok (.iadd, 1) := by decide +kernel
theorem dL_law_548 : decode cL_law 548 = .ok (.iaload, 1) := by decide +kernel
theorem dL_law_549 : decode cL_law 549 = .ok (.invokevirtual 72, 3) := by decide +kernel
theorem dL_law_552 : decode cL_law 552 = .ok (.if_icmp .eq 247, 3) := by decide +kernel
theorem dL_law_555 : decode cL_law 555 = .ok (.iconst 0, 1) := by decide +kernel
theorem dL_law_556 : decode cL_law 556 = .ok (.ireturn, 1) := by decide +kernel
theorem dL_law_557 : decode cL_law 557 = .ok (.aload_n 1, 1) := by decide +kernel
theorem dL_law_558 : decode cL_law 558 = .ok (.aload_n 0, 1) := by decide +kernel
theorem dL_law_559 : decode cL_law 559 = .ok (.iload_n 3, 1) := by decide +kernel
theorem dL_law_560 : decode cL_law 560 = .ok (.iconst 1, 1) := by decide +kernel
theorem dL_law_561 : decode cL_law 561 = .ok (.iadd, 1) := by decide +kernel
theorem dL_law_562 : decode cL_law 562 = .ok (.iaload, 1) := by decide +kernel
theorem dL_law_563 : decode cL_law 563 = .ok (.aload_n 0, 1) := by decide +kernel
theorem dL_law_564 : decode cL_law 564 = .ok (.iload_n 3, 1) := by decide +kernel
theorem dL_law_565 : decode cL_law 565 = .ok (.iconst 2, 1) := by decide +kernel
theorem dL_law_566 : decode cL_law 566 = .ok (.iadd, 1) := by decide +kernel
theorem dL_law_567 : decode cL_law 567 = .ok (.iaload, 1) := by decide +kernel
theorem dL_law_568 : decode cL_law 568 = .ok (.aload_n 0, 1) := by decide +kernel
theorem dL_law_569 : decode cL_law 569 = .ok (.iload_n 3, 1) := by decide +kernel
theorem dL_law_570 : decode cL_law 570 = .ok (.iconst 3, 1) := by decide +kernel
theorem dL_law_571 : decode cL_law 571 = .ok (.iadd, 1) := by decide +kernel
theorem dL_law_572 : decode cL_law 572 = .ok (.iaload, 1) := by decide +kernel
theorem dL_law_573 : decode cL_law 573 = .ok (.invokevirtual 73, 3) := by decide +kernel
theorem dL_law_576 : decode cL_law 576 = .ok (.aload_n 2, 1) := by decide +kernel
theorem dL_law_577 : decode cL_law 577 = .ok (.aload_n 0, 1) := by decide +kernel
theorem dL_law_578 : decode cL_law 578 = .ok (.iload_n 3, 1) := by decide +kernel
theorem dL_law_579 : decode cL_law 579 = .ok (.iconst 1, 1) := by decide +kernel
theorem dL_law_580 : decode cL_law 580 = .ok (.iadd, 1) := by decide +kernel
theorem dL_law_581 : decode cL_law 581 = .ok (.iaload, 1) := by decide +kernel
theorem dL_law_582 : decode cL_law 582 = .ok (.aload_n 0, 1) := by decide +kernel
theorem dL_law_583 : decode cL_law 583 = .ok (.iload_n 3, 1) := by decide +kernel
theorem dL_law_584 : decode cL_law 584 = .ok (.iconst 2, 1) := by decide +kernel
theorem dL_law_585 : decode cL_law 585 = .ok (.iadd, 1) := by decide +kernel
theorem dL_law_586 : decode cL_law 586 = .ok (.iaload, 1) := by decide +kernel
theorem dL_law_587 : decode cL_law 587 = .ok (.aload_n 0, 1) := by decide +kernel
theorem dL_law_588 : decode cL_law 588 = .ok (.iload_n 3, 1) := by decide +kernel
theorem dL_law_589 : decode cL_law 589 = .ok (.iconst 3, 1) := by decide +kernel
theorem dL_law_590 : decode cL_law 590 = .ok (.iadd, 1) := by decide +kernel
theorem dL_law_591 : decode cL_law 591 = .ok (.iaload, 1) := by decide +kernel
theorem dL_law_592 : decode cL_law 592 = .ok (.invokevirtual 76, 3) := by decide +kernel
theorem dL_law_595 : decode cL_law 595 = .ok (.if_icmp .eq 204, 3) := by decide +kernel
theorem dL_law_598 : decode cL_law 598 = .ok (.iconst 0, 1) := by decide +kernel
theorem dL_law_599 : decode cL_law 599 = .ok (.ireturn, 1) := by decide +kernel
theorem dL_law_600 : decode cL_law 600 = .ok (.aload_n 1, 1) := by decide +kernel
theorem dL_law_601 : decode cL_law 601 = .ok (.aload_n 0, 1) := by decide +kernel
theorem dL_law_602 : decode cL_law 602 = .ok (.iload_n 3, 1) := by decide +kernel
theorem dL_law_603 : decode cL_law 603 = .ok (.iconst 1, 1) := by decide +kernel
theorem dL_law_604 : decode cL_law 604 = .ok (.iadd, 1) := by decide +kernel
theorem dL_law_605 : decode cL_law 605 = .ok (.iaload, 1) := by decide +kernel
theorem dL_law_606 : decode cL_law 606 = .ok (.aload_n 0, 1) := by decide +kernel
theorem dL_law_607 : decode cL_law 607 = .ok (.iload_n 3, 1) := by decide +kernel
theorem dL_law_608 : decode cL_law 608 = .ok (.iconst 2, 1) := by decide +kernel
theorem dL_law_609 : decode cL_law 609 = .ok (.iadd, 1) := by decide +kernel
theorem dL_law_610 : decode cL_law 610 = .ok (.iaload, 1) := by decide +kernel
theorem dL_law_611 : decode cL_law 611 = .ok (.aload_n 0, 1) := by decide +kernel
theorem dL_law_612 : decode cL_law 612 = .ok (.iload_n 3, 1) := by decide +kernel
theorem dL_law_613 : decode cL_law 613 = .ok (.iconst 3, 1) := by decide +kernel
theorem dL_law_614 : decode cL_law 614 = .ok (.iadd, 1) := by decide +kernel
theorem dL_law_615 : decode cL_law 615 = .ok (.iaload, 1) := by decide +kernel
theorem dL_law_616 : decode cL_law 616 = .ok (.aload_n 0, 1) := by decide +kernel
theorem dL_law_617 : decode cL_law 617 = .ok (.iload_n 3, 1) := by decide +kernel
theorem dL_law_618 : decode cL_law 618 = .ok (.iconst 4, 1) := by decide +kernel
theorem dL_law_619 : decode cL_law 619 = .ok (.iadd, 1) := by decide +kernel
theorem dL_law_620 : decode cL_law 620 = .ok (.iaload, 1) := by decide +kernel
theorem dL_law_621 : decode cL_law 621 = .ok (.invokevirtual 77, 3) := by decide +kernel
theorem dL_law_624 : decode cL_law 624 = .ok (.aload_n 2, 1) := by decide +kernel
theorem dL_law_625 : decode cL_law 625 = .ok (.aload_n 0, 1) := by decide +kernel
theorem dL_law_626 : decode cL_law 626 = .ok (.iload_n 3, 1) := by decide +kernel
theorem dL_law_627 : decode cL_law 627 = .ok (.iconst 1, 1) := by decide +kernel
theorem dL_law_628 : decode cL_law 628 = .ok (.iadd, 1) := by decide +kernel
theorem dL_law_629 : decode cL_law 629 = .ok (.iaload, 1) := by decide +kernel
theorem dL_law_630 : decode cL_law 630 = .ok (.aload_n 0, 1) := by decide +kernel
theorem dL_law_631 : decode cL_law 631 = .ok (.iload_n 3, 1) := by decide +kernel
theorem dL_law_632 : decode cL_law 632 = .ok (.iconst 2, 1) := by decide +kernel
theorem dL_law_633 : decode cL_law 633 = .ok (.iadd, 1) := by decide +kernel
theorem dL_law_634 : decode cL_law 634 = .ok (.iaload, 1) := by decide +kernel
theorem dL_law_635 : decode cL_law 635 = .ok (.aload_n 0, 1) := by decide +kernel
theorem dL_law_636 : decode cL_law 636 = .ok (.iload_n 3, 1) := by decide +kernel
theorem dL_law_637 : decode cL_law 637 = .ok (.iconst 3, 1) := by decide +kernel
theorem dL_law_638 : decode cL_law 638 = .ok (.iadd, 1) := by decide +kernel
theorem dL_law_639 : decode cL_law 639 = .ok (.iaload, 1) := by decide +kernel
theorem dL_law_640 : decode cL_law 640 = .ok (.aload_n 0, 1) := by decide +kernel
theorem dL_law_641 : decode cL_law 641 = .ok (.iload_n 3, 1) := by decide +kernel
theorem dL_law_642 : decode cL_law 642 = .ok (.iconst 4, 1) := by decide +kernel
theorem dL_law_643 : decode cL_law 643 = .ok (.iadd, 1) := by decide +kernel
theorem dL_law_644 : decode cL_law 644 = .ok (.iaload, 1) := by decide +kernel
theorem dL_law_645 : decode cL_law 645 = .ok (.invokevirtual 80, 3) := by decide +kernel
theorem dL_law_648 : decode cL_law 648 = .ok (.if_icmp .eq 151, 3) := by decide +kernel
theorem dL_law_651 : decode cL_law 651 = .ok (.iconst 0, 1) := by decide +kernel
theorem dL_law_652 : decode cL_law 652 = .ok (.ireturn, 1) := by decide +kernel
theorem dL_law_653 : decode cL_law 653 = .ok (.aload_n 1, 1) := by decide +kernel
theorem dL_law_654 : decode cL_law 654 = .ok (.aload_n 0, 1) := by decide +kernel
theorem dL_law_655 : decode cL_law 655 = .ok (.iload_n 3, 1) := by decide +kernel
theorem dL_law_656 : decode cL_law 656 = .ok (.iconst 1, 1) := by decide +kernel
theorem dL_law_657 : decode cL_law 657 = .ok (.iadd, 1) := by decide +kernel
theorem dL_law_658 : decode cL_law 658 = .ok (.iaload, 1) := by decide +kernel
theorem dL_law_659 : decode cL_law 659 = .ok (.aload_n 0, 1) := by decide +kernel
theorem dL_law_660 : decode cL_law 660 = .ok (.iload_n 3, 1) := by decide +kernel
theorem dL_law_661 : decode cL_law 661 = .ok (.iconst 2, 1) := by decide +kernel
theorem dL_law_662 : decode cL_law 662 = .ok (.iadd, 1) := by decide +kernel
theorem dL_law_663 : decode cL_law 663 = .ok (.iaload, 1) := by decide +kernel
theorem dL_law_664 : decode cL_law 664 = .ok (.invokevirtual 81, 3) := by decide +kernel
theorem dL_law_667 : decode cL_law 667 = .ok (.aload_n 2, 1) := by decide +kernel
theorem dL_law_668 : decode cL_law 668 = .ok (.aload_n 0, 1) := by decide +kernel
theorem dL_law_669 : decode cL_law 669 = .ok (.iload_n 3, 1) := by decide +kernel
theorem dL_law_670 : decode cL_law 670 = .ok (.iconst 1, 1) := by decide +kernel
theorem dL_law_671 : decode cL_law 671 = .ok (.iadd, 1) := by decide +kernel
theorem dL_law_672 : decode cL_law 672 = .ok (.iaload, 1) := by decide +kernel
theorem dL_law_673 : decode cL_law 673 = .ok (.aload_n 0, 1) := by decide +kernel
theorem dL_law_674 : decode cL_law 674 = .ok (.iload_n 3, 1) := by decide +kernel
theorem dL_law_675 : decode cL_law 675 = .ok (.iconst 2, 1) := by decide +kernel
theorem dL_law_676 : decode cL_law 676 = .ok (.iadd, 1) := by decide +kernel
theorem dL_law_677 : decode cL_law 677 = .ok (.iaload, 1) := by decide +kernel
theorem dL_law_678 : decode cL_law 678 = .ok (.invokevirtual 85, 3) := by decide +kernel
theorem dL_law_681 : decode cL_law 681 = .ok (.if_icmp .eq 118, 3) := by decide +kernel
theorem dL_law_684 : decode cL_law 684 = .ok (.iconst 0, 1) := by decide +kernel
theorem dL_law_685 : decode cL_law 685 = .ok (.ireturn, 1) := by decide +kernel
theorem dL_law_686 : decode cL_law 686 = .ok (.aload_n 1, 1) := by decide +kernel
theorem dL_law_687 : decode cL_law 687 = .ok (.aload_n 0, 1) := by decide +kernel
theorem dL_law_688 : decode cL_law 688 = .ok (.iload_n 3, 1) := by decide +kernel
theorem dL_law_689 : decode cL_law 689 = .ok (.iconst 1, 1) := by decide +kernel
theorem dL_law_690 : decode cL_law 690 = .ok (.iadd, 1) := by decide +kernel
theorem dL_law_691 : decode cL_law 691 = .ok (.iaload, 1) := by decide +kernel
theorem dL_law_692 : decode cL_law 692 = .ok (.aload_n 0, 1) := by decide +kernel
theorem dL_law_693 : decode cL_law 693 = .ok (.iload_n 3, 1) := by decide +kernel
theorem dL_law_694 : decode cL_law 694 = .ok (.iconst 2, 1) := by decide +kernel
theorem dL_law_695 : decode cL_law 695 = .ok (.iadd, 1) := by decide +kernel
theorem dL_law_696 : decode cL_law 696 = .ok (.iaload, 1) := by decide +kernel
theorem dL_law_697 : decode cL_law 697 = .ok (.invokevirtual 86, 3) := by decide +kernel
theorem dL_law_700 : decode cL_law 700 = .ok (.aload_n 2, 1) := by decide +kernel
theorem dL_law_701 : decode cL_law 701 = .ok (.aload_n 0, 1) := by decide +kernel
theorem dL_law_702 : decode cL_law 702 = .ok (.iload_n 3, 1) := by decide +kernel
theorem dL_law_703 : decode cL_law 703 = .ok (.iconst 1, 1) := by decide +kernel
theorem dL_law_704 : decode cL_law 704 = .ok (.iadd, 1) := by decide +kernel
theorem dL_law_705 : decode cL_law 705 = .ok (.iaload, 1) := by decide +kernel
theorem dL_law_706 : decode cL_law 706 = .ok (.aload_n 0, 1) := by decide +kernel
theorem dL_law_707 : decode cL_law 707 = .ok (.iload_n 3, 1) := by decide +kernel
theorem dL_law_708 : decode cL_law 708 = .ok (.iconst 2, 1) := by decide +kernel
theorem dL_law_709 : decode cL_law 709 = .ok (.iadd, 1) := by decide +kernel
theorem dL_law_710 : decode cL_law 710 = .ok (.iaload, 1) := by decide +kernel
theorem dL_law_711 : decode cL_law 711 = .ok (.invokevirtual 89, 3) := by decide +kernel
theorem dL_law_714 : decode cL_law 714 = .ok (.if_icmp .eq 85, 3) := by decide +kernel
theorem dL_law_717 : decode cL_law 717 = .ok (.iconst 0, 1) := by decide +kernel
theorem dL_law_718 : decode cL_law 718 = .ok (.ireturn, 1) := by decide +kernel
theorem dL_law_719 : decode cL_law 719 = .ok (.aload_n 1, 1) := by decide +kernel
theorem dL_law_720 : decode cL_law 720 = .ok (.aload_n 0, 1) := by decide +kernel
theorem dL_law_721 : decode cL_law 721 = .ok (.iload_n 3, 1) := by decide +kernel
theorem dL_law_722 : decode cL_law 722 = .ok (.iconst 1, 1) := by decide +kernel
theorem dL_law_723 : decode cL_law 723 = .ok (.iadd, 1) := by decide +kernel
theorem dL_law_724 : decode cL_law 724 = .ok (.iaload, 1) := by decide +kernel
theorem dL_law_725 : decode cL_law 725 = .ok (.invokevirtual 90, 3) := by decide +kernel
theorem dL_law_728 : decode cL_law 728 = .ok (.aload_n 2, 1) := by decide +kernel
theorem dL_law_729 : decode cL_law 729 = .ok (.aload_n 0, 1) := by decide +kernel
theorem dL_law_730 : decode cL_law 730 = .ok (.iload_n 3, 1) := by decide +kernel
theorem dL_law_731 : decode cL_law 731 = .ok (.iconst 1, 1) := by decide +kernel
theorem dL_law_732 : decode cL_law 732 = .ok (.iadd, 1) := by decide +kernel
theorem dL_law_733 : decode cL_law 733 = .ok (.iaload, 1) := by decide +kernel
theorem dL_law_734 : decode cL_law 734 = .ok (.invokevirtual 94, 3) := by decide +kernel
theorem dL_law_737 : decode cL_law 737 = .ok (.lcmp, 1) := by decide +kernel
theorem dL_law_738 : decode cL_law 738 = .ok (.ifCond .eq 61, 3) := by decide +kernel
theorem dL_law_741 : decode cL_law 741 = .ok (.iconst 0, 1) := by decide +kernel
theorem dL_law_742 : decode cL_law 742 = .ok (.ireturn, 1) := by decide +kernel
theorem dL_law_743 : decode cL_law 743 = .ok (.aload_n 1, 1) := by decide +kernel
theorem dL_law_744 : decode cL_law 744 = .ok (.aload_n 0, 1) := by decide +kernel
theorem dL_law_745 : decode cL_law 745 = .ok (.iload_n 3, 1) := by decide +kernel
theorem dL_law_746 : decode cL_law 746 = .ok (.iconst 1, 1) := by decide +kernel
theorem dL_law_747 : decode cL_law 747 = .ok (.iadd, 1) := by decide +kernel
theorem dL_law_748 : decode cL_law 748 = .ok (.iaload, 1) := by decide +kernel
theorem dL_law_749 : decode cL_law 749 = .ok (.aload_n 0, 1) := by decide +kernel
theorem dL_law_750 : decode cL_law 750 = .ok (.iload_n 3, 1) := by decide +kernel
theorem dL_law_751 : decode cL_law 751 = .ok (.iconst 2, 1) := by decide +kernel
theorem dL_law_752 : decode cL_law 752 = .ok (.iadd, 1) := by decide +kernel
theorem dL_law_753 : decode cL_law 753 = .ok (.iaload, 1) := by decide +kernel
theorem dL_law_754 : decode cL_law 754 = .ok (.invokevirtual 95, 3) := by decide +kernel
theorem dL_law_757 : decode cL_law 757 = .ok (.aload_n 2, 1) := by decide +kernel
theorem dL_law_758 : decode cL_law 758 = .ok (.aload_n 0, 1) := by decide +kernel
theorem dL_law_759 : decode cL_law 759 = .ok (.iload_n 3, 1) := by decide +kernel
theorem dL_law_760 : decode cL_law 760 = .ok (.iconst 1, 1) := by decide +kernel
theorem dL_law_761 : decode cL_law 761 = .ok (.iadd, 1) := by decide +kernel
theorem dL_law_762 : decode cL_law 762 = .ok (.iaload, 1) := by decide +kernel
theorem dL_law_763 : decode cL_law 763 = .ok (.aload_n 0, 1) := by decide +kernel
theorem dL_law_764 : decode cL_law 764 = .ok (.iload_n 3, 1) := by decide +kernel
theorem dL_law_765 : decode cL_law 765 = .ok (.iconst 2, 1) := by decide +kernel
theorem dL_law_766 : decode cL_law 766 = .ok (.iadd, 1) := by decide +kernel
theorem dL_law_767 : decode cL_law 767 = .ok (.iaload, 1) := by decide +kernel
theorem dL_law_768 : decode cL_law 768 = .ok (.invokevirtual 98, 3) := by decide +kernel
theorem dL_law_771 : decode cL_law 771 = .ok (.if_icmp .eq 28, 3) := by decide +kernel
theorem dL_law_774 : decode cL_law 774 = .ok (.iconst 0, 1) := by decide +kernel
theorem dL_law_775 : decode cL_law 775 = .ok (.ireturn, 1) := by decide +kernel
theorem dL_law_776 : decode cL_law 776 = .ok (.aload_n 1, 1) := by decide +kernel
theorem dL_law_777 : decode cL_law 777 = .ok (.aload_n 0, 1) := by decide +kernel
theorem dL_law_778 : decode cL_law 778 = .ok (.iload_n 3, 1) := by decide +kernel
theorem dL_law_779 : decode cL_law 779 = .ok (.iconst 1, 1) := by decide +kernel
theorem dL_law_780 : decode cL_law 780 = .ok (.iadd, 1) := by decide +kernel
theorem dL_law_781 : decode cL_law 781 = .ok (.iaload, 1) := by decide +kernel
theorem dL_law_782 : decode cL_law 782 = .ok (.invokevirtual 99, 3) := by decide +kernel
theorem dL_law_785 : decode cL_law 785 = .ok (.aload_n 2, 1) := by decide +kernel
theorem dL_law_786 : decode cL_law 786 = .ok (.aload_n 0, 1) := by decide +kernel
theorem dL_law_787 : decode cL_law 787 = .ok (.iload_n 3, 1) := by decide +kernel
theorem dL_law_788 : decode cL_law 788 = .ok (.iconst 1, 1) := by decide +kernel
theorem dL_law_789 : decode cL_law 789 = .ok (.iadd, 1) := by decide +kernel
theorem dL_law_790 : decode cL_law 790 = .ok (.iaload, 1) := by decide +kernel
theorem dL_law_791 : decode cL_law 791 = .ok (.invokevirtual 102, 3) := by decide +kernel
theorem dL_law_794 : decode cL_law 794 = .ok (.if_icmp .eq 5, 3) := by decide +kernel
theorem dL_law_797 : decode cL_law 797 = .ok (.iconst 0, 1) := by decide +kernel
theorem dL_law_798 : decode cL_law 798 = .ok (.ireturn, 1) := by decide +kernel
theorem dL_law_799 : decode cL_law 799 = .ok (.iinc 3 6, 3) := by decide +kernel
theorem dL_law_802 : decode cL_law 802 = .ok (.goto (-784), 3) := by decide +kernel
theorem dL_law_805 : decode cL_law 805 = .ok (.iconst 1, 1) := by decide +kernel
theorem dL_law_806 : decode cL_law 806 = .ok (.ireturn, 1) := by decide +kernel
