theorem dX0_init_0 : decode cX0_init 0 = .ok (.aload_n 0, 1) := by decide +kernel
theorem dX0_init_1 : decode cX0_init 1 = .ok (.invokespecial 3, 3) := by decide +kernel
theorem dX0_init_4 : decode cX0_init 4 = .ok (.aload_n 0, 1) := by decide +kernel
theorem dX0_init_5 : decode cX0_init 5 = .ok (.iconst 0, 1) := by decide +kernel
theorem dX0_init_6 : decode cX0_init 6 = .ok (.putfield 9, 3) := by decide +kernel
theorem dX0_init_9 : decode cX0_init 9 = .ok (.aload_n 0, 1) := by decide +kernel
theorem dX0_init_10 : decode cX0_init 10 = .ok (.iconst (-1), 1) := by decide +kernel
theorem dX0_init_11 : decode cX0_init 11 = .ok (.putfield 15, 3) := by decide +kernel
theorem dX0_init_14 : decode cX0_init 14 = .ok (.aload_n 0, 1) := by decide +kernel
theorem dX0_init_15 : decode cX0_init 15 = .ok (.iconst (-1), 1) := by decide +kernel
theorem dX0_init_16 : decode cX0_init 16 = .ok (.putfield 19, 3) := by decide +kernel
theorem dX0_init_19 : decode cX0_init 19 = .ok (.aload_n 0, 1) := by decide +kernel
theorem dX0_init_20 : decode cX0_init 20 = .ok (.iconst (-1), 1) := by decide +kernel
theorem dX0_init_21 : decode cX0_init 21 = .ok (.putfield 22, 3) := by decide +kernel
theorem dX0_init_24 : decode cX0_init 24 = .ok (.aload_n 0, 1) := by decide +kernel
theorem dX0_init_25 : decode cX0_init 25 = .ok (.iconst (-1), 1) := by decide +kernel
theorem dX0_init_26 : decode cX0_init 26 = .ok (.putfield 25, 3) := by decide +kernel
theorem dX0_init_29 : decode cX0_init 29 = .ok (.return_, 1) := by decide +kernel
theorem dX0_clear_0 : decode cX0_clear 0 = .ok (.aload_n 0, 1) := by decide +kernel
theorem dX0_clear_1 : decode cX0_clear 1 = .ok (.iconst 0, 1) := by decide +kernel
theorem dX0_clear_2 : decode cX0_clear 2 = .ok (.putfield 9, 3) := by decide +kernel
theorem dX0_clear_5 : decode cX0_clear 5 = .ok (.aload_n 0, 1) := by decide +kernel
theorem dX0_clear_6 : decode cX0_clear 6 = .ok (.iconst (-1), 1) := by decide +kernel
theorem dX0_clear_7 : decode cX0_clear 7 = .ok (.putfield 15, 3) := by decide +kernel
theorem dX0_clear_10 : decode cX0_clear 10 = .ok (.aload_n 0, 1) := by decide +kernel
theorem dX0_clear_11 : decode cX0_clear 11 = .ok (.iconst (-1), 1) := by decide +kernel
theorem dX0_clear_12 : decode cX0_clear 12 = .ok (.putfield 19, 3) := by decide +kernel
theorem dX0_clear_15 : decode cX0_clear 15 = .ok (.aload_n 0, 1) := by decide +kernel
theorem dX0_clear_16 : decode cX0_clear 16 = .ok (.iconst (-1), 1) := by decide +kernel
theorem dX0_clear_17 : decode cX0_clear 17 = .ok (.putfield 22, 3) := by decide +kernel
theorem dX0_clear_20 : decode cX0_clear 20 = .ok (.aload_n 0, 1) := by decide +kernel
theorem dX0_clear_21 : decode cX0_clear 21 = .ok (.iconst (-1), 1) := by decide +kernel
theorem dX0_clear_22 : decode cX0_clear 22 = .ok (.putfield 25, 3) := by decide +kernel
theorem dX0_clear_25 : decode cX0_clear 25 = .ok (.return_, 1) := by decide +kernel
theorem dX0_offer_0 : decode cX0_offer 0 = .ok (.iload_n 3, 1) := by decide +kernel
theorem dX0_offer_1 : decode cX0_offer 1 = .ok (.aload_n 0, 1) := by decide +kernel
theorem dX0_offer_2 : decode cX0_offer 2 = .ok (.getfield 22, 3) := by decide +kernel
theorem dX0_offer_5 : decode cX0_offer 5 = .ok (.if_icmp .gt 20, 3) := by decide +kernel
theorem dX0_offer_8 : decode cX0_offer 8 = .ok (.iload_n 3, 1) := by decide +kernel
theorem dX0_offer_9 : decode cX0_offer 9 = .ok (.aload_n 0, 1) := by decide +kernel
theorem dX0_offer_10 : decode cX0_offer 10 = .ok (.getfield 22, 3) := by decide +kernel
theorem dX0_offer_13 : decode cX0_offer 13 = .ok (.if_icmp .ne 16, 3) := by decide +kernel
theorem dX0_offer_16 : decode cX0_offer 16 = .ok (.iload 4, 2) := by decide +kernel
theorem dX0_offer_18 : decode cX0_offer 18 = .ok (.aload_n 0, 1) := by decide +kernel
theorem dX0_offer_19 : decode cX0_offer 19 = .ok (.getfield 25, 3) := by decide +kernel
theorem dX0_offer_22 : decode cX0_offer 22 = .ok (.if_icmp .le 7, 3) := by decide +kernel
theorem dX0_offer_25 : decode cX0_offer 25 = .ok (.iconst 1, 1) := by decide +kernel
theorem dX0_offer_26 : decode cX0_offer 26 = .ok (.goto 4, 3) := by decide +kernel
theorem dX0_offer_29 : decode cX0_offer 29 = .ok (.iconst 0, 1) := by decide +kernel
theorem dX0_offer_30 : decode cX0_offer 30 = .ok (.istore 5, 2) := by decide +kernel
theorem dX0_offer_32 : decode cX0_offer 32 = .ok (.aload_n 0, 1) := by decide +kernel
theorem dX0_offer_33 : decode cX0_offer 33 = .ok (.getfield 9, 3) := by decide +kernel
theorem dX0_offer_36 : decode cX0_offer 36 = .ok (.ifCond .eq 9, 3) := by decide +kernel
theorem dX0_offer_39 : decode cX0_offer 39 = .ok (.iload 5, 2) := by decide +kernel
theorem dX0_offer_41 : decode cX0_offer 41 = .ok (.ifCond .ne 4, 3) := by decide +kernel
theorem dX0_offer_44 : decode cX0_offer 44 = .ok (.return_, 1) := by decide +kernel
theorem dX0_offer_45 : decode cX0_offer 45 = .ok (.aload_n 0, 1) := by decide +kernel
theorem dX0_offer_46 : decode cX0_offer 46 = .ok (.iconst 1, 1) := by decide +kernel
theorem dX0_offer_47 : decode cX0_offer 47 = .ok (.putfield 9, 3) := by decide +kernel
theorem dX0_offer_50 : decode cX0_offer 50 = .ok (.aload_n 0, 1) := by decide +kernel
theorem dX0_offer_51 : decode cX0_offer 51 = .ok (.iload_n 1, 1) := by decide +kernel
theorem dX0_offer_52 : decode cX0_offer 52 = .ok (.putfield 15, 3) := by decide +kernel
theorem dX0_offer_55 : decode cX0_offer 55 = .ok (.aload_n 0, 1) := by decide +kernel
theorem dX0_offer_56 : decode cX0_offer 56 = .ok (.iload_n 2, 1) := by decide +kernel
theorem dX0_offer_57 : decode cX0_offer 57 = .ok (.putfield 19, 3) := by decide +kernel
theorem dX0_offer_60 : decode cX0_offer 60 = .ok (.aload_n 0, 1) := by decide +kernel
theorem dX0_offer_61 : decode cX0_offer 61 = .ok (.iload_n 3, 1) := by decide +kernel
theorem dX0_offer_62 : decode cX0_offer 62 = .ok (.putfield 22, 3) := by decide +kernel
theorem dX0_offer_65 : decode cX0_offer 65 = .ok (.aload_n 0, 1) := by decide +kernel
theorem dX0_offer_66 : decode cX0_offer 66 = .ok (.iload 4, 2) := by decide +kernel
theorem dX0_offer_68 : decode cX0_offer 68 = .ok (.putfield 25, 3) := by decide +kernel
theorem dX0_offer_71 : decode cX0_offer 71 = .ok (.return_, 1) := by decide +kernel
theorem dX0_swapAnswer_0 : decode cX0_swapAnswer 0 = .ok (.iload_n 1, 1) := by decide +kernel
theorem dX0_swapAnswer_1 : decode cX0_swapAnswer 1 = .ok (.ifCond .ne 8, 3) := by decide +kernel
theorem dX0_swapAnswer_4 : decode cX0_swapAnswer 4 = .ok (.aload_n 0, 1) := by decide +kernel
theorem dX0_swapAnswer_5 : decode cX0_swapAnswer 5 = .ok (.getfield 15, 3) := by decide +kernel
theorem dX0_swapAnswer_8 : decode cX0_swapAnswer 8 = .ok (.ireturn, 1) := by decide +kernel
theorem dX0_swapAnswer_9 : decode cX0_swapAnswer 9 = .ok (.iload_n 1, 1) := by decide +kernel
theorem dX0_swapAnswer_10 : decode cX0_swapAnswer 10 = .ok (.iconst 1, 1) := by decide +kernel
theorem dX0_swapAnswer_11 : decode cX0_swapAnswer 11 = .ok (.if_icmp .ne 10, 3) := by decide +kernel
theorem dX0_swapAnswer_14 : decode cX0_swapAnswer 14 = .ok (.aload_n 0, 1) := by decide +kernel
theorem dX0_swapAnswer_15 : decode cX0_swapAnswer 15 = .ok (.getfield 19, 3) := by decide +kernel
theorem dX0_swapAnswer_18 : decode cX0_swapAnswer 18 = .ok (.goto 10, 3) := by decide +kernel
theorem dX0_swapAnswer_21 : decode cX0_swapAnswer 21 = .ok (.aload_n 0, 1) := by decide +kernel
theorem dX0_swapAnswer_22 : decode cX0_swapAnswer 22 = .ok (.iload_n 1, 1) := by decide +kernel
theorem dX0_swapAnswer_23 : decode cX0_swapAnswer 23 = .ok (.iconst 1, 1) := by decide +kernel
theorem dX0_swapAnswer_24 : decode cX0_swapAnswer 24 = .ok (.isub, 1) := by decide +kernel
theorem dX0_swapAnswer_25 : decode cX0_swapAnswer 25 = .ok (.invokevirtual 28, 3) := by decide +kernel
theorem dX0_swapAnswer_28 : decode cX0_swapAnswer 28 = .ok (.ireturn, 1) := by decide +kernel
theorem dX0_leaveAnswer_0 : decode cX0_leaveAnswer 0 = .ok (.iload_n 1, 1) := by decide +kernel
theorem dX0_leaveAnswer_1 : decode cX0_leaveAnswer 1 = .ok (.ifCond .ne 8, 3) := by decide +kernel
theorem dX0_leaveAnswer_4 : decode cX0_leaveAnswer 4 = .ok (.aload_n 0, 1) := by decide +kernel
theorem dX0_leaveAnswer_5 : decode cX0_leaveAnswer 5 = .ok (.getfield 15, 3) := by decide +kernel
theorem dX0_leaveAnswer_8 : decode cX0_leaveAnswer 8 = .ok (.ireturn, 1) := by decide +kernel
theorem dX0_leaveAnswer_9 : decode cX0_leaveAnswer 9 = .ok (.iload_n 1, 1) := by decide +kernel
theorem dX0_leaveAnswer_10 : decode cX0_leaveAnswer 10 = .ok (.iconst 1, 1) := by decide +kernel
theorem dX0_leaveAnswer_11 : decode cX0_leaveAnswer 11 = .ok (.if_icmp .ne 10, 3) := by decide +kernel
theorem dX0_leaveAnswer_14 : decode cX0_leaveAnswer 14 = .ok (.aload_n 0, 1) := by decide +kernel
theorem dX0_leaveAnswer_15 : decode cX0_leaveAnswer 15 = .ok (.getfield 22, 3) := by decide +kernel
theorem dX0_leaveAnswer_18 : decode cX0_leaveAnswer 18 = .ok (.goto 7, 3) := by decide +kernel
theorem dX0_leaveAnswer_21 : decode cX0_leaveAnswer 21 = .ok (.aload_n 0, 1) := by decide +kernel
theorem dX0_leaveAnswer_22 : decode cX0_leaveAnswer 22 = .ok (.getfield 25, 3) := by decide +kernel
theorem dX0_leaveAnswer_25 : decode cX0_leaveAnswer 25 = .ok (.ireturn, 1) := by decide +kernel
theorem dX0_spareAnswer_0 : decode cX0_spareAnswer 0 = .ok (.iload_n 1, 1) := by decide +kernel
theorem dX0_spareAnswer_1 : decode cX0_spareAnswer 1 = .ok (.ifCond .ne 8, 3) := by decide +kernel
theorem dX0_spareAnswer_4 : decode cX0_spareAnswer 4 = .ok (.aload_n 0, 1) := by decide +kernel
theorem dX0_spareAnswer_5 : decode cX0_spareAnswer 5 = .ok (.getfield 15, 3) := by decide +kernel
theorem dX0_spareAnswer_8 : decode cX0_spareAnswer 8 = .ok (.ireturn, 1) := by decide +kernel
theorem dX0_spareAnswer_9 : decode cX0_spareAnswer 9 = .ok (.iload_n 1, 1) := by decide +kernel
theorem dX0_spareAnswer_10 : decode cX0_spareAnswer 10 = .ok (.iconst 1, 1) := by decide +kernel
theorem dX0_spareAnswer_11 : decode cX0_spareAnswer 11 = .ok (.if_icmp .ne 8, 3) := by decide +kernel
theorem dX0_spareAnswer_14 : decode cX0_spareAnswer 14 = .ok (.aload_n 0, 1) := by decide +kernel
theorem dX0_spareAnswer_15 : decode cX0_spareAnswer 15 = .ok (.getfield 19, 3) := by decide +kernel
theorem dX0_spareAnswer_18 : decode cX0_spareAnswer 18 = .ok (.ireturn, 1) := by decide +kernel
theorem dX0_spareAnswer_19 : decode cX0_spareAnswer 19 = .ok (.aload_n 0, 1) := by decide +kernel
theorem dX0_spareAnswer_20 : decode cX0_spareAnswer 20 = .ok (.getfield 9, 3) := by decide +kernel
theorem dX0_spareAnswer_23 : decode cX0_spareAnswer 23 = .ok (.ifCond .ne 5, 3) := by decide +kernel
theorem dX0_spareAnswer_26 : decode cX0_spareAnswer 26 = .ok (.iconst (-1), 1) := by decide +kernel
theorem dX0_spareAnswer_27 : decode cX0_spareAnswer 27 = .ok (.ireturn, 1) := by decide +kernel
theorem dX0_spareAnswer_28 : decode cX0_spareAnswer 28 = .ok (.aload_n 0, 1) := by decide +kernel
theorem dX0_spareAnswer_29 : decode cX0_spareAnswer 29 = .ok (.getfield 15, 3) := by decide +kernel
theorem dX0_spareAnswer_32 : decode cX0_spareAnswer 32 = .ok (.iconst (-1), 1) := by decide +kernel
theorem dX0_spareAnswer_33 : decode cX0_spareAnswer 33 = .ok (.if_icmp .ne 7, 3) := by decide +kernel
theorem dX0_spareAnswer_36 : decode cX0_spareAnswer 36 = .ok (.iconst 0, 1) := by decide +kernel
theorem dX0_spareAnswer_37 : decode cX0_spareAnswer 37 = .ok (.goto 4, 3) := by decide +kernel
theorem dX0_spareAnswer_40 : decode cX0_spareAnswer 40 = .ok (.iconst 1, 1) := by decide +kernel
theorem dX0_spareAnswer_41 : decode cX0_spareAnswer 41 = .ok (.aload_n 0, 1) := by decide +kernel
theorem dX0_spareAnswer_42 : decode cX0_spareAnswer 42 = .ok (.getfield 19, 3) := by decide +kernel
theorem dX0_spareAnswer_45 : decode cX0_spareAnswer 45 = .ok (.iconst (-1), 1) := by decide +kernel
theorem dX0_spareAnswer_46 : decode cX0_spareAnswer 46 = .ok (.if_icmp .ne 7, 3) := by decide +kernel
theorem dX0_spareAnswer_49 : decode cX0_spareAnswer 49 = .ok (.iconst 0, 1) := by decide +kernel
theorem dX0_spareAnswer_50 : decode cX0_spareAnswer 50 = .ok (.goto 4, 3) := by decide +kernel
theorem dX0_spareAnswer_53 : decode cX0_spareAnswer 53 = .ok (.iconst 1, 1) := by decide +kernel
theorem dX0_spareAnswer_54 : decode cX0_spareAnswer 54 = .ok (.iadd, 1) := by decide +kernel
theorem dX0_spareAnswer_55 : decode cX0_spareAnswer 55 = .ok (.ireturn, 1) := by decide +kernel
theorem dX1_init_0 : decode cX1_init 0 = .ok (.aload_n 0, 1) := by decide +kernel
theorem dX1_init_1 : decode cX1_init 1 = .ok (.invokespecial 3, 3) := by decide +kernel
theorem dX1_init_4 : decode cX1_init 4 = .ok (.aload_n 0, 1) := by decide +kernel
theorem dX1_init_5 : decode cX1_init 5 = .ok (.bipush 8, 2) := by decide +kernel
theorem dX1_init_7 : decode cX1_init 7 = .ok (.newarray .int, 2) := by decide +kernel
theorem dX1_init_9 : decode cX1_init 9 = .ok (.putfield 9, 3) := by decide +kernel
theorem dX1_init_12 : decode cX1_init 12 = .ok (.aload_n 0, 1) := by decide +kernel
theorem dX1_init_13 : decode cX1_init 13 = .ok (.bipush 8, 2) := by decide +kernel
theorem dX1_init_15 : decode cX1_init 15 = .ok (.newarray .int, 2) := by decide +kernel
theorem dX1_init_17 : decode cX1_init 17 = .ok (.putfield 15, 3) := by decide +kernel
theorem dX1_init_20 : decode cX1_init 20 = .ok (.aload_n 0, 1) := by decide +kernel
theorem dX1_init_21 : decode cX1_init 21 = .ok (.bipush 8, 2) := by decide +kernel
theorem dX1_init_23 : decode cX1_init 23 = .ok (.newarray .int, 2) := by decide +kernel
theorem dX1_init_25 : decode cX1_init 25 = .ok (.putfield 18, 3) := by decide +kernel
theorem dX1_init_28 : decode cX1_init 28 = .ok (.aload_n 0, 1) := by decide +kernel
theorem dX1_init_29 : decode cX1_init 29 = .ok (.bipush 8, 2) := by decide +kernel
theorem dX1_init_31 : decode cX1_init 31 = .ok (.newarray .int, 2) := by decide +kernel
theorem dX1_init_33 : decode cX1_init 33 = .ok (.putfield 21, 3) := by decide +kernel
theorem dX1_init_36 : decode cX1_init 36 = .ok (.aload_n 0, 1) := by decide +kernel
theorem dX1_init_37 : decode cX1_init 37 = .ok (.bipush 96, 2) := by decide +kernel
theorem dX1_init_39 : decode cX1_init 39 = .ok (.newarray .int, 2) := by decide +kernel
theorem dX1_init_41 : decode cX1_init 41 = .ok (.putfield 24, 3) := by decide +kernel
theorem dX1_init_44 : decode cX1_init 44 = .ok (.aload_n 0, 1) := by decide +kernel
theorem dX1_init_45 : decode cX1_init 45 = .ok (.bipush 96, 2) := by decide +kernel
theorem dX1_init_47 : decode cX1_init 47 = .ok (.newarray .int, 2) := by decide +kernel
theorem dX1_init_49 : decode cX1_init 49 = .ok (.putfield 27, 3) := by decide +kernel
theorem dX1_init_52 : decode cX1_init 52 = .ok (.aload_n 0, 1) := by decide +kernel
theorem dX1_init_53 : decode cX1_init 53 = .ok (.sipush 144, 3) := by decide +kernel
theorem dX1_init_56 : decode cX1_init 56 = .ok (.newarray .int, 2) := by decide +kernel
theorem dX1_init_58 : decode cX1_init 58 = .ok (.putfield 30, 3) := by decide +kernel
theorem dX1_init_61 : decode cX1_init 61 = .ok (.aload_n 0, 1) := by decide +kernel
theorem dX1_init_62 : decode cX1_init 62 = .ok (.bipush 12, 2) := by decide +kernel
theorem dX1_init_64 : decode cX1_init 64 = .ok (.newarray .int, 2) := by decide +kernel
theorem dX1_init_66 : decode cX1_init 66 = .ok (.putfield 33, 3) := by decide +kernel
theorem dX1_init_69 : decode cX1_init 69 = .ok (.aload_n 0, 1) := by decide +kernel
theorem dX1_init_70 : decode cX1_init 70 = .ok (.bipush 12, 2) := by decide +kernel
theorem dX1_init_72 : decode cX1_init 72 = .ok (.newarray .int, 2) := by decide +kernel
theorem dX1_init_74 : decode cX1_init 74 = .ok (.putfield 36, 3) := by decide +kernel
theorem dX1_init_77 : decode cX1_init 77 = .ok (.aload_n 0, 1) := by decide +kernel
theorem dX1_init_78 : decode cX1_init 78 = .ok (.bipush 12, 2) := by decide +kernel
theorem dX1_init_80 : decode cX1_init 80 = .ok (.newarray .int, 2) := by decide +kernel
theorem dX1_init_82 : decode cX1_init 82 = .ok (.putfield 39, 3) := by decide +kernel
theorem dX1_init_85 : decode cX1_init 85 = .ok (.aload_n 0, 1) := by decide +kernel
theorem dX1_init_86 : decode cX1_init 86 = .ok (.bipush 12, 2) := by decide +kernel
theorem dX1_init_88 : decode cX1_init 88 = .ok (.newarray .int, 2) := by decide +kernel
theorem dX1_init_90 : decode cX1_init 90 = .ok (.putfield 42, 3) := by decide +kernel
theorem dX1_init_93 : decode cX1_init 93 = .ok (.aload_n 0, 1) := by decide +kernel
theorem dX1_init_94 : decode cX1_init 94 = .ok (.iconst 0, 1) := by decide +kernel
theorem dX1_init_95 : decode cX1_init 95 = .ok (.putfield 45, 3) := by decide +kernel
theorem dX1_init_98 : decode cX1_init 98 = .ok (.return_, 1) := by decide +kernel
theorem dX1_run_0 : decode cX1_run 0 = .ok (.aload_n 0, 1) := by decide +kernel
theorem dX1_run_1 : decode cX1_run 1 = .ok (.aload_n 1, 1) := by decide +kernel
theorem dX1_run_2 : decode cX1_run 2 = .ok (.invokevirtual 49, 3) := by decide +kernel
theorem dX1_run_5 : decode cX1_run 5 = .ok (.iconst 0, 1) := by decide +kernel
theorem dX1_run_6 : decode cX1_run 6 = .ok (.istore_n 2, 1) := by decide +kernel
theorem dX1_run_7 : decode cX1_run 7 = .ok (.iload_n 2, 1) := by decide +kernel
theorem dX1_run_8 : decode cX1_run 8 = .ok (.bipush 12, 2) := by decide +kernel
theorem dX1_run_10 : decode cX1_run 10 = .ok (.if_icmp .ge 73, 3) := by decide +kernel
theorem dX1_run_13 : decode cX1_run 13 = .ok (.iload_n 2, 1) := by decide +kernel
theorem dX1_run_14 : decode cX1_run 14 = .ok (.ifCond .le 11, 3) := by decide +kernel
theorem dX1_run_17 : decode cX1_run 17 = .ok (.aload_n 0, 1) := by decide +kernel
theorem dX1_run_18 : decode cX1_run 18 = .ok (.aload_n 1, 1) := by decide +kernel
theorem dX1_run_19 : decode cX1_run 19 = .ok (.getfield 53, 3) := by decide +kernel
theorem dX1_run_22 : decode cX1_run 22 = .ok (.invokevirtual 58, 3) := by decide +kernel
theorem dX1_run_25 : decode cX1_run 25 = .ok (.aload_n 1, 1) := by decide +kernel
theorem dX1_run_26 : decode cX1_run 26 = .ok (.getfield 62, 3) := by decide +kernel
theorem dX1_run_29 : decode cX1_run 29 = .ok (.iload_n 2, 1) := by decide +kernel
theorem dX1_run_30 : decode cX1_run 30 = .ok (.iaload, 1) := by decide +kernel
theorem dX1_run_31 : decode cX1_run 31 = .ok (.iconst 2, 1) := by decide +kernel
theorem dX1_run_32 : decode cX1_run 32 = .ok (.iand, 1) := by decide +kernel
theorem dX1_run_33 : decode cX1_run 33 = .ok (.ifCond .eq 11, 3) := by decide +kernel
theorem dX1_run_36 : decode cX1_run 36 = .ok (.aload_n 0, 1) := by decide +kernel
theorem dX1_run_37 : decode cX1_run 37 = .ok (.aload_n 1, 1) := by decide +kernel
theorem dX1_run_38 : decode cX1_run 38 = .ok (.getfield 53, 3) := by decide +kernel
theorem dX1_run_41 : decode cX1_run 41 = .ok (.invokevirtual 58, 3) := by decide +kernel
theorem dX1_run_44 : decode cX1_run 44 = .ok (.aload_n 1, 1) := by decide +kernel
theorem dX1_run_45 : decode cX1_run 45 = .ok (.getfield 62, 3) := by decide +kernel
theorem dX1_run_48 : decode cX1_run 48 = .ok (.iload_n 2, 1) := by decide +kernel
theorem dX1_run_49 : decode cX1_run 49 = .ok (.iaload, 1) := by decide +kernel
theorem dX1_run_50 : decode cX1_run 50 = .ok (.ifCond .ne 9, 3) := by decide +kernel
theorem dX1_run_53 : decode cX1_run 53 = .ok (.aload_n 0, 1) := by decide +kernel
theorem dX1_run_54 : decode cX1_run 54 = .ok (.aload_n 1, 1) := by decide +kernel
theorem dX1_run_55 : decode cX1_run 55 = .ok (.iload_n 2, 1) := by decide +kernel
theorem dX1_run_56 : decode cX1_run 56 = .ok (.invokevirtual 65, 3) := by decide +kernel
theorem dX1_run_59 : decode cX1_run 59 = .ok (.aload_n 0, 1) := by decide +kernel
theorem dX1_run_60 : decode cX1_run 60 = .ok (.getfield 9, 3) := by decide +kernel
theorem dX1_run_63 : decode cX1_run 63 = .ok (.iconst 0, 1) := by decide +kernel
theorem dX1_run_64 : decode cX1_run 64 = .ok (.aload_n 0, 1) := by decide +kernel
theorem dX1_run_65 : decode cX1_run 65 = .ok (.getfield 24, 3) := by decide +kernel
theorem dX1_run_68 : decode cX1_run 68 = .ok (.iload_n 2, 1) := by decide +kernel
theorem dX1_run_69 : decode cX1_run 69 = .ok (.bipush 8, 2) := by decide +kernel
theorem dX1_run_71 : decode cX1_run 71 = .ok (.imul, 1) := by decide +kernel
theorem dX1_run_72 : decode cX1_run 72 = .ok (.bipush 8, 2) := by decide +kernel
theorem dX1_run_74 : decode cX1_run 74 = .ok (.invokestatic 69, 3) := by decide +kernel
theorem dX1_run_77 : decode cX1_run 77 = .ok (.iinc 2 1, 3) := by decide +kernel
theorem dX1_run_80 : decode cX1_run 80 = .ok (.goto (-73), 3) := by decide +kernel
theorem dX1_run_83 : decode cX1_run 83 = .ok (.return_, 1) := by decide +kernel
theorem dX1_begin_0 : decode cX1_begin 0 = .ok (.aload_n 1, 1) := by decide +kernel
theorem dX1_begin_1 : decode cX1_begin 1 = .ok (.getfield 75, 3) := by decide +kernel
theorem dX1_begin_4 : decode cX1_begin 4 = .ok (.iconst 0, 1) := by decide +kernel
theorem dX1_begin_5 : decode cX1_begin 5 = .ok (.aload_n 0, 1) := by decide +kernel
theorem dX1_begin_6 : decode cX1_begin 6 = .ok (.getfield 9, 3) := by decide +kernel
theorem dX1_begin_9 : decode cX1_begin 9 = .ok (.iconst 0, 1) := by decide +kernel
theorem dX1_begin_10 : decode cX1_begin 10 = .ok (.bipush 8, 2) := by decide +kernel
theorem dX1_begin_12 : decode cX1_begin 12 = .ok (.invokestatic 69, 3) := by decide +kernel
theorem dX1_begin_15 : decode cX1_begin 15 = .ok (.aload_n 0, 1) := by decide +kernel
theorem dX1_begin_16 : decode cX1_begin 16 = .ok (.getfield 15, 3) := by decide +kernel
theorem dX1_begin_19 : decode cX1_begin 19 = .ok (.iconst (-1), 1) := by decide +kernel
theorem dX1_begin_20 : decode cX1_begin 20 = .ok (.invokestatic 78, 3) := by decide +kernel
theorem dX1_begin_23 : decode cX1_begin 23 = .ok (.aload_n 0, 1) := by decide +kernel
theorem dX1_begin_24 : decode cX1_begin 24 = .ok (.getfield 18, 3) := by decide +kernel
theorem dX1_begin_27 : decode cX1_begin 27 = .ok (.iconst (-1), 1) := by decide +kernel
theorem dX1_begin_28 : decode cX1_begin 28 = .ok (.invokestatic 78, 3) := by decide +kernel
theorem dX1_begin_31 : decode cX1_begin 31 = .ok (.aload_n 0, 1) := by decide +kernel
theorem dX1_begin_32 : decode cX1_begin 32 = .ok (.getfield 21, 3) := by decide +kernel
theorem dX1_begin_35 : decode cX1_begin 35 = .ok (.iconst 0, 1) := by decide +kernel
theorem dX1_begin_36 : decode cX1_begin 36 = .ok (.invokestatic 78, 3) := by decide +kernel
theorem dX1_begin_39 : decode cX1_begin 39 = .ok (.aload_n 0, 1) := by decide +kernel
theorem dX1_begin_40 : decode cX1_begin 40 = .ok (.getfield 27, 3) := by decide +kernel
theorem dX1_begin_43 : decode cX1_begin 43 = .ok (.iconst 0, 1) := by decide +kernel
theorem dX1_begin_44 : decode cX1_begin 44 = .ok (.invokestatic 78, 3) := by decide +kernel
theorem dX1_begin_47 : decode cX1_begin 47 = .ok (.aload_n 0, 1) := by decide +kernel
theorem dX1_begin_48 : decode cX1_begin 48 = .ok (.getfield 30, 3) := by decide +kernel
theorem dX1_begin_51 : decode cX1_begin 51 = .ok (.iconst (-1), 1) := by decide +kernel
theorem dX1_begin_52 : decode cX1_begin 52 = .ok (.invokestatic 78, 3) := by decide +kernel
theorem dX1_begin_55 : decode cX1_begin 55 = .ok (.aload_n 0, 1) := by decide +kernel
theorem dX1_begin_56 : decode cX1_begin 56 = .ok (.getfield 33, 3) := by decide +kernel
theorem dX1_begin_59 : decode cX1_begin 59 = .ok (.iconst 0, 1) := by decide +kernel
theorem dX1_begin_60 : decode cX1_begin 60 = .ok (.invokestatic 78, 3) := by decide +kernel
theorem dX1_begin_63 : decode cX1_begin 63 = .ok (.aload_n 0, 1) := by decide +kernel
theorem dX1_begin_64 : decode cX1_begin 64 = .ok (.getfield 36, 3) := by decide +kernel
theorem dX1_begin_67 : decode cX1_begin 67 = .ok (.iconst 0, 1) := by decide +kernel
theorem dX1_begin_68 : decode cX1_begin 68 = .ok (.invokestatic 78, 3) := by decide +kernel
theorem dX1_begin_71 : decode cX1_begin 71 = .ok (.aload_n 0, 1) := by decide +kernel
theorem dX1_begin_72 : decode cX1_begin 72 = .ok (.getfield 39, 3) := by decide +kernel
theorem dX1_begin_75 : decode cX1_begin 75 = .ok (.iconst 0, 1) := by decide +kernel
theorem dX1_begin_76 : decode cX1_begin 76 = .ok (.invokestatic 78, 3) := by decide +kernel
theorem dX1_begin_79 : decode cX1_begin 79 = .ok (.aload_n 0, 1) := by decide +kernel
theorem dX1_begin_80 : decode cX1_begin 80 = .ok (.getfield 42, 3) := by decide +kernel
theorem dX1_begin_83 : decode cX1_begin 83 = .ok (.iconst 0, 1) := by decide +kernel
theorem dX1_begin_84 : decode cX1_begin 84 = .ok (.invokestatic 78, 3) := by decide +kernel
theorem dX1_begin_87 : decode cX1_begin 87 = .ok (.aload_n 0, 1) := by decide +kernel
theorem dX1_begin_88 : decode cX1_begin 88 = .ok (.iconst 0, 1) := by decide +kernel
theorem dX1_begin_89 : decode cX1_begin 89 = .ok (.putfield 45, 3) := by decide +kernel
theorem dX1_begin_92 : decode cX1_begin 92 = .ok (.return_, 1) := by decide +kernel
theorem dX1_heatUp_0 : decode cX1_heatUp 0 = .ok (.iconst 0, 1) := by decide +kernel
theorem dX1_heatUp_1 : decode cX1_heatUp 1 = .ok (.istore_n 2, 1) := by decide +kernel
theorem dX1_heatUp_2 : decode cX1_heatUp 2 = .ok (.iload_n 2, 1) := by decide +kernel
theorem dX1_heatUp_3 : decode cX1_heatUp 3 = .ok (.iload_n 1, 1) := by decide +kernel
theorem dX1_heatUp_4 : decode cX1_heatUp 4 = .ok (.if_icmp .ge 40, 3) := by decide +kernel
theorem dX1_heatUp_7 : decode cX1_heatUp 7 = .ok (.aload_n 0, 1) := by decide +kernel
theorem dX1_heatUp_8 : decode cX1_heatUp 8 = .ok (.getfield 15, 3) := by decide +kernel
theorem dX1_heatUp_11 : decode cX1_heatUp 11 = .ok (.iload_n 2, 1) := by decide +kernel
theorem dX1_heatUp_12 : decode cX1_heatUp 12 = .ok (.iaload, 1) := by decide +kernel
theorem dX1_heatUp_13 : decode cX1_heatUp 13 = .ok (.iconst (-1), 1) := by decide +kernel
theorem dX1_heatUp_14 : decode cX1_heatUp 14 = .ok (.if_icmp .ne 24, 3) := by decide +kernel
theorem dX1_heatUp_17 : decode cX1_heatUp 17 = .ok (.aload_n 0, 1) := by decide +kernel
theorem dX1_heatUp_18 : decode cX1_heatUp 18 = .ok (.getfield 9, 3) := by decide +kernel
theorem dX1_heatUp_21 : decode cX1_heatUp 21 = .ok (.iload_n 2, 1) := by decide +kernel
theorem dX1_heatUp_22 : decode cX1_heatUp 22 = .ok (.iaload, 1) := by decide +kernel
theorem dX1_heatUp_23 : decode cX1_heatUp 23 = .ok (.bipush 9, 2) := by decide +kernel
theorem dX1_heatUp_25 : decode cX1_heatUp 25 = .ok (.if_icmp .ge 13, 3) := by decide +kernel
theorem dX1_heatUp_28 : decode cX1_heatUp 28 = .ok (.aload_n 0, 1) := by decide +kernel
theorem dX1_heatUp_29 : decode cX1_heatUp 29 = .ok (.getfield 9, 3) := by decide +kernel
theorem dX1_heatUp_32 : decode cX1_heatUp 32 = .ok (.iload_n 2, 1) := by decide +kernel
theorem dX1_heatUp_33 : decode cX1_heatUp 33 = .ok (.dup2, 1) := by decide +kernel
theorem dX1_heatUp_34 : decode cX1_heatUp 34 = .ok (.iaload, 1) := by decide +kernel
theorem dX1_heatUp_35 : decode cX1_heatUp 35 = .ok (.iconst 1, 1) := by decide +kernel
theorem dX1_heatUp_36 : decode cX1_heatUp 36 = .ok (.iadd, 1) := by decide +kernel
theorem dX1_heatUp_37 : decode cX1_heatUp 37 = .ok (.iastore, 1) := by decide +kernel
theorem dX1_heatUp_38 : decode cX1_heatUp 38 = .ok (.iinc 2 1, 3) := by decide +kernel
theorem dX1_heatUp_41 : decode cX1_heatUp 41 = .ok (.goto (-39), 3) := by decide +kernel
theorem dX1_heatUp_44 : decode cX1_heatUp 44 = .ok (.return_, 1) := by decide +kernel
theorem dX1_doHooks_0 : decode cX1_doHooks 0 = .ok (.aload_n 1, 1) := by decide +kernel
theorem dX1_doHooks_1 : decode cX1_doHooks 1 = .ok (.getfield 84, 3) := by decide +kernel
theorem dX1_doHooks_4 : decode cX1_doHooks 4 = .ok (.iload_n 2, 1) := by decide +kernel
theorem dX1_doHooks_5 : decode cX1_doHooks 5 = .ok (.iaload, 1) := by decide +kernel
theorem dX1_doHooks_6 : decode cX1_doHooks 6 = .ok (.iconst 1, 1) := by decide +kernel
theorem dX1_doHooks_7 : decode cX1_doHooks 7 = .ok (.aload_n 1, 1) := by decide +kernel
theorem dX1_doHooks_8 : decode cX1_doHooks 8 = .ok (.getfield 87, 3) := by decide +kernel
theorem dX1_doHooks_11 : decode cX1_doHooks 11 = .ok (.ishl, 1) := by decide +kernel
theorem dX1_doHooks_12 : decode cX1_doHooks 12 = .ok (.iconst 1, 1) := by decide +kernel
theorem dX1_doHooks_13 : decode cX1_doHooks 13 = .ok (.isub, 1) := by decide +kernel
theorem dX1_doHooks_14 : decode cX1_doHooks 14 = .ok (.iand, 1) := by decide +kernel
theorem dX1_doHooks_15 : decode cX1_doHooks 15 = .ok (.istore_n 3, 1) := by decide +kernel
theorem dX1_doHooks_16 : decode cX1_doHooks 16 = .ok (.aload_n 1, 1) := by decide +kernel
theorem dX1_doHooks_17 : decode cX1_doHooks 17 = .ok (.iload_n 3, 1) := by decide +kernel
theorem dX1_doHooks_18 : decode cX1_doHooks 18 = .ok (.invokestatic 90, 3) := by decide +kernel
theorem dX1_doHooks_21 : decode cX1_doHooks 21 = .ok (.istore 4, 2) := by decide +kernel
theorem dX1_doHooks_23 : decode cX1_doHooks 23 = .ok (.iconst 0, 1) := by decide +kernel
theorem dX1_doHooks_24 : decode cX1_doHooks 24 = .ok (.istore 5, 2) := by decide +kernel
theorem dX1_doHooks_26 : decode cX1_doHooks 26 = .ok (.iload 5, 2) := by decide +kernel
theorem dX1_doHooks_28 : decode cX1_doHooks 28 = .ok (.aload_n 1, 1) := by decide +kernel
theorem dX1_doHooks_29 : decode cX1_doHooks 29 = .ok (.getfield 87, 3) := by decide +kernel
theorem dX1_doHooks_32 : decode cX1_doHooks 32 = .ok (.if_icmp .ge 45, 3) := by decide +kernel
theorem dX1_doHooks_35 : decode cX1_doHooks 35 = .ok (.iload_n 3, 1) := by decide +kernel
theorem dX1_doHooks_36 : decode cX1_doHooks 36 = .ok (.iload 5, 2) := by decide +kernel
theorem dX1_doHooks_38 : decode cX1_doHooks 38 = .ok (.ishr, 1) := by decide +kernel
theorem dX1_doHooks_39 : decode cX1_doHooks 39 = .ok (.iconst 1, 1) := by decide +kernel
theorem dX1_doHooks_40 : decode cX1_doHooks 40 = .ok (.iand, 1) := by decide +kernel
theorem dX1_doHooks_41 : decode cX1_doHooks 41 = .ok (.ifCond .ne 30, 3) := by decide +kernel
theorem dX1_doHooks_44 : decode cX1_doHooks 44 = .ok (.aload_n 0, 1) := by decide +kernel
theorem dX1_doHooks_45 : decode cX1_doHooks 45 = .ok (.aload_n 1, 1) := by decide +kernel
theorem dX1_doHooks_46 : decode cX1_doHooks 46 = .ok (.iload_n 2, 1) := by decide +kernel
theorem dX1_doHooks_47 : decode cX1_doHooks 47 = .ok (.iload 5, 2) := by decide +kernel
theorem dX1_doHooks_49 : decode cX1_doHooks 49 = .ok (.aload_n 1, 1) := by decide +kernel
theorem dX1_doHooks_50 : decode cX1_doHooks 50 = .ok (.getfield 94, 3) := by decide +kernel
theorem dX1_doHooks_53 : decode cX1_doHooks 53 = .ok (.iload 5, 2) := by decide +kernel
theorem dX1_doHooks_55 : decode cX1_doHooks 55 = .ok (.iaload, 1) := by decide +kernel
theorem dX1_doHooks_56 : decode cX1_doHooks 56 = .ok (.iload 5, 2) := by decide +kernel
theorem dX1_doHooks_58 : decode cX1_doHooks 58 = .ok (.iload 4, 2) := by decide +kernel
theorem dX1_doHooks_60 : decode cX1_doHooks 60 = .ok (.if_icmp .ne 7, 3) := by decide +kernel
theorem dX1_doHooks_63 : decode cX1_doHooks 63 = .ok (.iconst 1, 1) := by decide +kernel
theorem dX1_doHooks_64 : decode cX1_doHooks 64 = .ok (.goto 4, 3) := by decide +kernel
theorem dX1_doHooks_67 : decode cX1_doHooks 67 = .ok (.iconst 0, 1) := by decide +kernel
theorem dX1_doHooks_68 : decode cX1_doHooks 68 = .ok (.invokevirtual 97, 3) := by decide +kernel
theorem dX1_doHooks_71 : decode cX1_doHooks 71 = .ok (.iinc 5 1, 3) := by decide +kernel
theorem dX1_doHooks_74 : decode cX1_doHooks 74 = .ok (.goto (-48), 3) := by decide +kernel
theorem dX1_doHooks_77 : decode cX1_doHooks 77 = .ok (.iconst 0, 1) := by decide +kernel
theorem dX1_doHooks_78 : decode cX1_doHooks 78 = .ok (.istore 5, 2) := by decide +kernel
theorem dX1_doHooks_80 : decode cX1_doHooks 80 = .ok (.iload 5, 2) := by decide +kernel
theorem dX1_doHooks_82 : decode cX1_doHooks 82 = .ok (.aload_n 1, 1) := by decide +kernel
theorem dX1_doHooks_83 : decode cX1_doHooks 83 = .ok (.getfield 87, 3) := by decide +kernel
theorem dX1_doHooks_86 : decode cX1_doHooks 86 = .ok (.if_icmp .ge 48, 3) := by decide +kernel
theorem dX1_doHooks_89 : decode cX1_doHooks 89 = .ok (.iload_n 3, 1) := by decide +kernel
theorem dX1_doHooks_90 : decode cX1_doHooks 90 = .ok (.iload 5, 2) := by decide +kernel
theorem dX1_doHooks_92 : decode cX1_doHooks 92 = .ok (.ishr, 1) := by decide +kernel
theorem dX1_doHooks_93 : decode cX1_doHooks 93 = .ok (.iconst 1, 1) := by decide +kernel
theorem dX1_doHooks_94 : decode cX1_doHooks 94 = .ok (.iand, 1) := by decide +kernel
theorem dX1_doHooks_95 : decode cX1_doHooks 95 = .ok (.iconst 1, 1) := by decide +kernel
theorem dX1_doHooks_96 : decode cX1_doHooks 96 = .ok (.if_icmp .ne 32, 3) := by decide +kernel
theorem dX1_doHooks_99 : decode cX1_doHooks 99 = .ok (.aload_n 0, 1) := by decide +kernel
theorem dX1_doHooks_100 : decode cX1_doHooks 100 = .ok (.aload_n 1, 1) := by decide +kernel
theorem dX1_doHooks_101 : decode cX1_doHooks 101 = .ok (.iload_n 2, 1) := by decide +kernel
theorem dX1_doHooks_102 : decode cX1_doHooks 102 = .ok (.iload 5, 2) := by decide +kernel
theorem dX1_doHooks_104 : decode cX1_doHooks 104 = .ok (.aload_n 1, 1) := by decide +kernel
theorem dX1_doHooks_105 : decode cX1_doHooks 105 = .ok (.getfield 94, 3) := by decide +kernel
theorem dX1_doHooks_108 : decode cX1_doHooks 108 = .ok (.iload 5, 2) := by decide +kernel
theorem dX1_doHooks_110 : decode cX1_doHooks 110 = .ok (.iaload, 1) := by decide +kernel
theorem dX1_doHooks_111 : decode cX1_doHooks 111 = .ok (.iconst 1, 1) := by decide +kernel
theorem dX1_doHooks_112 : decode cX1_doHooks 112 = .ok (.iadd, 1) := by decide +kernel
theorem dX1_doHooks_113 : decode cX1_doHooks 113 = .ok (.iload 5, 2) := by decide +kernel
theorem dX1_doHooks_115 : decode cX1_doHooks 115 = .ok (.iload 4, 2) := by decide +kernel
theorem dX1_doHooks_117 : decode cX1_doHooks 117 = .ok (.if_icmp .ne 7, 3) := by decide +kernel
theorem dX1_doHooks_120 : decode cX1_doHooks 120 = .ok (.iconst 1, 1) := by decide +kernel
theorem dX1_doHooks_121 : decode cX1_doHooks 121 = .ok (.goto 4, 3) := by decide +kernel
theorem dX1_doHooks_124 : decode cX1_doHooks 124 = .ok (.iconst 0, 1) := by decide +kernel
theorem dX1_doHooks_125 : decode cX1_doHooks 125 = .ok (.invokevirtual 97, 3) := by decide +kernel
theorem dX1_doHooks_128 : decode cX1_doHooks 128 = .ok (.iinc 5 1, 3) := by decide +kernel
theorem dX1_doHooks_131 : decode cX1_doHooks 131 = .ok (.goto (-51), 3) := by decide +kernel
theorem dX1_doHooks_134 : decode cX1_doHooks 134 = .ok (.return_, 1) := by decide +kernel
theorem dX1_lastHookDone_0 : decode cX1_lastHookDone 0 = .ok (.iconst (-1), 1) := by decide +kernel
theorem dX1_lastHookDone_1 : decode cX1_lastHookDone 1 = .ok (.istore_n 2, 1) := by decide +kernel
theorem dX1_lastHookDone_2 : decode cX1_lastHookDone 2 = .ok (.iconst 0, 1) := by decide +kernel
theorem dX1_lastHookDone_3 : decode cX1_lastHookDone 3 = .ok (.istore_n 3, 1) := by decide +kernel
theorem dX1_lastHookDone_4 : decode cX1_lastHookDone 4 = .ok (.iload_n 3, 1) := by decide +kernel
theorem dX1_lastHookDone_5 : decode cX1_lastHookDone 5 = .ok (.aload_n 0, 1) := by decide +kernel
theorem dX1_lastHookDone_6 : decode cX1_lastHookDone 6 = .ok (.getfield 87, 3) := by decide +kernel
theorem dX1_lastHookDone_9 : decode cX1_lastHookDone 9 = .ok (.if_icmp .ge 53, 3) := by decide +kernel
theorem dX1_lastHookDone_12 : decode cX1_lastHookDone 12 = .ok (.iload_n 1, 1) := by decide +kernel
theorem dX1_lastHookDone_13 : decode cX1_lastHookDone 13 = .ok (.ifCond .eq 20, 3) := by decide +kernel
theorem dX1_lastHookDone_16 : decode cX1_lastHookDone 16 = .ok (.iload_n 1, 1) := by decide +kernel
theorem dX1_lastHookDone_17 : decode cX1_lastHookDone 17 = .ok (.iload_n 3, 1) := by decide +kernel
theorem dX1_lastHookDone_18 : decode cX1_lastHookDone 18 = .ok (.ishr, 1) := by decide +kernel
theorem dX1_lastHookDone_19 : decode cX1_lastHookDone 19 = .ok (.iconst 1, 1) := by decide +kernel
theorem dX1_lastHookDone_20 : decode cX1_lastHookDone 20 = .ok (.iand, 1) := by decide +kernel
theorem dX1_lastHookDone_21 : decode cX1_lastHookDone 21 = .ok (.iconst 1, 1) := by decide +kernel
theorem dX1_lastHookDone_22 : decode cX1_lastHookDone 22 = .ok (.if_icmp .ne 7, 3) := by decide +kernel
theorem dX1_lastHookDone_25 : decode cX1_lastHookDone 25 = .ok (.iconst 1, 1) := by decide +kernel
theorem dX1_lastHookDone_26 : decode cX1_lastHookDone 26 = .ok (.goto 21, 3) := by decide +kernel
theorem dX1_lastHookDone_29 : decode cX1_lastHookDone 29 = .ok (.iconst 0, 1) := by decide +kernel
theorem dX1_lastHookDone_30 : decode cX1_lastHookDone 30 = .ok (.goto 17, 3) := by decide +kernel
theorem dX1_lastHookDone_33 : decode cX1_lastHookDone 33 = .ok (.aload_n 0, 1) := by decide +kernel
theorem dX1_lastHookDone_34 : decode cX1_lastHookDone 34 = .ok (.getfield 94, 3) := by decide +kernel
theorem dX1_lastHookDone_37 : decode cX1_lastHookDone 37 = .ok (.iload_n 3, 1) := by decide +kernel
theorem dX1_lastHookDone_38 : decode cX1_lastHookDone 38 = .ok (.iaload, 1) := by decide +kernel
theorem dX1_lastHookDone_39 : decode cX1_lastHookDone 39 = .ok (.ifCond .le 7, 3) := by decide +kernel
theorem dX1_lastHookDone_42 : decode cX1_lastHookDone 42 = .ok (.iconst 1, 1) := by decide +kernel
theorem dX1_lastHookDone_43 : decode cX1_lastHookDone 43 = .ok (.goto 4, 3) := by decide +kernel
theorem dX1_lastHookDone_46 : decode cX1_lastHookDone 46 = .ok (.iconst 0, 1) := by decide +kernel
theorem dX1_lastHookDone_47 : decode cX1_lastHookDone 47 = .ok (.istore 4, 2) := by decide +kernel
theorem dX1_lastHookDone_49 : decode cX1_lastHookDone 49 = .ok (.iload 4, 2) := by decide +kernel
theorem dX1_lastHookDone_51 : decode cX1_lastHookDone 51 = .ok (.ifCond .eq 5, 3) := by decide +kernel
theorem dX1_lastHookDone_54 : decode cX1_lastHookDone 54 = .ok (.iload_n 3, 1) := by decide +kernel
theorem dX1_lastHookDone_55 : decode cX1_lastHookDone 55 = .ok (.istore_n 2, 1) := by decide +kernel
theorem dX1_lastHookDone_56 : decode cX1_lastHookDone 56 = .ok (.iinc 3 1, 3) := by decide +kernel
theorem dX1_lastHookDone_59 : decode cX1_lastHookDone 59 = .ok (.goto (-55), 3) := by decide +kernel
theorem dX1_lastHookDone_62 : decode cX1_lastHookDone 62 = .ok (.iload_n 2, 1) := by decide +kernel
theorem dX1_lastHookDone_63 : decode cX1_lastHookDone 63 = .ok (.ireturn, 1) := by decide +kernel
theorem dX1_doHook_0 : decode cX1_doHook 0 = .ok (.iconst 0, 1) := by decide +kernel
theorem dX1_doHook_1 : decode cX1_doHook 1 = .ok (.istore 6, 2) := by decide +kernel
theorem dX1_doHook_3 : decode cX1_doHook 3 = .ok (.iload 6, 2) := by decide +kernel
theorem dX1_doHook_5 : decode cX1_doHook 5 = .ok (.iload 4, 2) := by decide +kernel
theorem dX1_doHook_7 : decode cX1_doHook 7 = .ok (.if_icmp .ge 142, 3) := by decide +kernel
theorem dX1_doHook_10 : decode cX1_doHook 10 = .ok (.aload_n 0, 1) := by decide +kernel
theorem dX1_doHook_11 : decode cX1_doHook 11 = .ok (.aload_n 1, 1) := by decide +kernel
theorem dX1_doHook_12 : decode cX1_doHook 12 = .ok (.iload_n 3, 1) := by decide +kernel
theorem dX1_doHook_13 : decode cX1_doHook 13 = .ok (.invokevirtual 101, 3) := by decide +kernel
theorem dX1_doHook_16 : decode cX1_doHook 16 = .ok (.istore 7, 2) := by decide +kernel
theorem dX1_doHook_18 : decode cX1_doHook 18 = .ok (.aload_n 0, 1) := by decide +kernel
theorem dX1_doHook_19 : decode cX1_doHook 19 = .ok (.getfield 33, 3) := by decide +kernel
theorem dX1_doHook_22 : decode cX1_doHook 22 = .ok (.iload_n 2, 1) := by decide +kernel
theorem dX1_doHook_23 : decode cX1_doHook 23 = .ok (.dup2, 1) := by decide +kernel
theorem dX1_doHook_24 : decode cX1_doHook 24 = .ok (.iaload, 1) := by decide +kernel
theorem dX1_doHook_25 : decode cX1_doHook 25 = .ok (.iconst 1, 1) := by decide +kernel
theorem dX1_doHook_26 : decode cX1_doHook 26 = .ok (.iadd, 1) := by decide +kernel
theorem dX1_doHook_27 : decode cX1_doHook 27 = .ok (.iastore, 1) := by decide +kernel
theorem dX1_doHook_28 : decode cX1_doHook 28 = .ok (.aload_n 0, 1) := by decide +kernel
theorem dX1_doHook_29 : decode cX1_doHook 29 = .ok (.getfield 30, 3) := by decide +kernel
theorem dX1_doHook_32 : decode cX1_doHook 32 = .ok (.iload_n 2, 1) := by decide +kernel
theorem dX1_doHook_33 : decode cX1_doHook 33 = .ok (.bipush 12, 2) := by decide +kernel
theorem dX1_doHook_35 : decode cX1_doHook 35 = .ok (.imul, 1) := by decide +kernel
theorem dX1_doHook_36 : decode cX1_doHook 36 = .ok (.iload_n 3, 1) := by decide +kernel
theorem dX1_doHook_37 : decode cX1_doHook 37 = .ok (.iadd, 1) := by decide +kernel
theorem dX1_doHook_38 : decode cX1_doHook 38 = .ok (.iload 7, 2) := by decide +kernel
theorem dX1_doHook_40 : decode cX1_doHook 40 = .ok (.iastore, 1) := by decide +kernel
theorem dX1_doHook_41 : decode cX1_doHook 41 = .ok (.iload 7, 2) := by decide +kernel
theorem dX1_doHook_43 : decode cX1_doHook 43 = .ok (.bipush 8, 2) := by decide +kernel
theorem dX1_doHook_45 : decode cX1_doHook 45 = .ok (.if_icmp .ne 16, 3) := by decide +kernel
theorem dX1_doHook_48 : decode cX1_doHook 48 = .ok (.aload_n 0, 1) := by decide +kernel
theorem dX1_doHook_49 : decode cX1_doHook 49 = .ok (.getfield 36, 3) := by decide +kernel
theorem dX1_doHook_52 : decode cX1_doHook 52 = .ok (.iload_n 2, 1) := by decide +kernel
theorem dX1_doHook_53 : decode cX1_doHook 53 = .ok (.dup2, 1) := by decide +kernel
theorem dX1_doHook_54 : decode cX1_doHook 54 = .ok (.iaload, 1) := by decide +kernel
theorem dX1_doHook_55 : decode cX1_doHook 55 = .ok (.iconst 1, 1) := by decide +kernel
theorem dX1_doHook_56 : decode cX1_doHook 56 = .ok (.iadd, 1) := by decide +kernel
theorem dX1_doHook_57 : decode cX1_doHook 57 = .ok (.iastore, 1) := by decide +kernel
theorem dX1_doHook_58 : decode cX1_doHook 58 = .ok (.goto 85, 3) := by decide +kernel
theorem dX1_doHook_61 : decode cX1_doHook 61 = .ok (.iload 7, 2) := by decide +kernel
theorem dX1_doHook_63 : decode cX1_doHook 63 = .ok (.bipush 9, 2) := by decide +kernel
theorem dX1_doHook_65 : decode cX1_doHook 65 = .ok (.if_icmp .ne 16, 3) := by decide +kernel
theorem dX1_doHook_68 : decode cX1_doHook 68 = .ok (.aload_n 0, 1) := by decide +kernel
theorem dX1_doHook_69 : decode cX1_doHook 69 = .ok (.getfield 39, 3) := by decide +kernel
theorem dX1_doHook_72 : decode cX1_doHook 72 = .ok (.iload_n 2, 1) := by decide +kernel
theorem dX1_doHook_73 : decode cX1_doHook 73 = .ok (.dup2, 1) := by decide +kernel
theorem dX1_doHook_74 : decode cX1_doHook 74 = .ok (.iaload, 1) := by decide +kernel
theorem dX1_doHook_75 : decode cX1_doHook 75 = .ok (.iconst 1, 1) := by decide +kernel
theorem dX1_doHook_76 : decode cX1_doHook 76 = .ok (.iadd, 1) := by decide +kernel
theorem dX1_doHook_77 : decode cX1_doHook 77 = .ok (.iastore, 1) := by decide +kernel
theorem dX1_doHook_78 : decode cX1_doHook 78 = .ok (.goto 65, 3) := by decide +kernel
theorem dX1_doHook_81 : decode cX1_doHook 81 = .ok (.aload_n 0, 1) := by decide +kernel
theorem dX1_doHook_82 : decode cX1_doHook 82 = .ok (.getfield 27, 3) := by decide +kernel
theorem dX1_doHook_85 : decode cX1_doHook 85 = .ok (.iload_n 2, 1) := by decide +kernel
theorem dX1_doHook_86 : decode cX1_doHook 86 = .ok (.bipush 8, 2) := by decide +kernel
theorem dX1_doHook_88 : decode cX1_doHook 88 = .ok (.imul, 1) := by decide +kernel
theorem dX1_doHook_89 : decode cX1_doHook 89 = .ok (.iload 7, 2) := by decide +kernel
theorem dX1_doHook_91 : decode cX1_doHook 91 = .ok (.iadd, 1) := by decide +kernel
theorem dX1_doHook_92 : decode cX1_doHook 92 = .ok (.dup2, 1) := by decide +kernel
theorem dX1_doHook_93 : decode cX1_doHook 93 = .ok (.iaload, 1) := by decide +kernel
theorem dX1_doHook_94 : decode cX1_doHook 94 = .ok (.iconst 1, 1) := by decide +kernel
theorem dX1_doHook_95 : decode cX1_doHook 95 = .ok (.iadd, 1) := by decide +kernel
theorem dX1_doHook_96 : decode cX1_doHook 96 = .ok (.iastore, 1) := by decide +kernel
theorem dX1_doHook_97 : decode cX1_doHook 97 = .ok (.aload_n 0, 1) := by decide +kernel
theorem dX1_doHook_98 : decode cX1_doHook 98 = .ok (.getfield 21, 3) := by decide +kernel
theorem dX1_doHook_101 : decode cX1_doHook 101 = .ok (.iload 7, 2) := by decide +kernel
theorem dX1_doHook_103 : decode cX1_doHook 103 = .ok (.dup2, 1) := by decide +kernel
theorem dX1_doHook_104 : decode cX1_doHook 104 = .ok (.iaload, 1) := by decide +kernel
theorem dX1_doHook_105 : decode cX1_doHook 105 = .ok (.iconst 1, 1) := by decide +kernel
theorem dX1_doHook_106 : decode cX1_doHook 106 = .ok (.iadd, 1) := by decide +kernel
theorem dX1_doHook_107 : decode cX1_doHook 107 = .ok (.iastore, 1) := by decide +kernel
theorem dX1_doHook_108 : decode cX1_doHook 108 = .ok (.iload_n 3, 1) := by decide +kernel
theorem dX1_doHook_109 : decode cX1_doHook 109 = .ok (.aload_n 0, 1) := by decide +kernel
theorem dX1_doHook_110 : decode cX1_doHook 110 = .ok (.getfield 18, 3) := by decide +kernel
theorem dX1_doHook_113 : decode cX1_doHook 113 = .ok (.iload 7, 2) := by decide +kernel
theorem dX1_doHook_115 : decode cX1_doHook 115 = .ok (.iaload, 1) := by decide +kernel
theorem dX1_doHook_116 : decode cX1_doHook 116 = .ok (.if_icmp .le 11, 3) := by decide +kernel
theorem dX1_doHook_119 : decode cX1_doHook 119 = .ok (.aload_n 0, 1) := by decide +kernel
theorem dX1_doHook_120 : decode cX1_doHook 120 = .ok (.getfield 18, 3) := by decide +kernel
theorem dX1_doHook_123 : decode cX1_doHook 123 = .ok (.iload 7, 2) := by decide +kernel
theorem dX1_doHook_125 : decode cX1_doHook 125 = .ok (.iload_n 3, 1) := by decide +kernel
theorem dX1_doHook_126 : decode cX1_doHook 126 = .ok (.iastore, 1) := by decide +kernel
theorem dX1_doHook_127 : decode cX1_doHook 127 = .ok (.aload_n 0, 1) := by decide +kernel
theorem dX1_doHook_128 : decode cX1_doHook 128 = .ok (.aload_n 1, 1) := by decide +kernel
theorem dX1_doHook_129 : decode cX1_doHook 129 = .ok (.getfield 104, 3) := by decide +kernel
theorem dX1_doHook_132 : decode cX1_doHook 132 = .ok (.iload 7, 2) := by decide +kernel
theorem dX1_doHook_134 : decode cX1_doHook 134 = .ok (.iaload, 1) := by decide +kernel
theorem dX1_doHook_135 : decode cX1_doHook 135 = .ok (.iload_n 2, 1) := by decide +kernel
theorem dX1_doHook_136 : decode cX1_doHook 136 = .ok (.iload 7, 2) := by decide +kernel
theorem dX1_doHook_138 : decode cX1_doHook 138 = .ok (.iload 5, 2) := by decide +kernel
theorem dX1_doHook_140 : decode cX1_doHook 140 = .ok (.invokevirtual 107, 3) := by decide +kernel
theorem dX1_doHook_143 : decode cX1_doHook 143 = .ok (.iinc 6 1, 3) := by decide +kernel
theorem dX1_doHook_146 : decode cX1_doHook 146 = .ok (.goto (-143), 3) := by decide +kernel
theorem dX1_doHook_149 : decode cX1_doHook 149 = .ok (.return_, 1) := by decide +kernel
theorem dX1_whatIsSaid_0 : decode cX1_whatIsSaid 0 = .ok (.aload_n 0, 1) := by decide +kernel
theorem dX1_whatIsSaid_1 : decode cX1_whatIsSaid 1 = .ok (.getfield 45, 3) := by decide +kernel
theorem dX1_whatIsSaid_4 : decode cX1_whatIsSaid 4 = .ok (.aload_n 1, 1) := by decide +kernel
theorem dX1_whatIsSaid_5 : decode cX1_whatIsSaid 5 = .ok (.getfield 53, 3) := by decide +kernel
theorem dX1_whatIsSaid_8 : decode cX1_whatIsSaid 8 = .ok (.if_icmp .ne 6, 3) := by decide +kernel
theorem dX1_whatIsSaid_11 : decode cX1_whatIsSaid 11 = .ok (.bipush 8, 2) := by decide +kernel
theorem dX1_whatIsSaid_13 : decode cX1_whatIsSaid 13 = .ok (.ireturn, 1) := by decide +kernel
theorem dX1_whatIsSaid_14 : decode cX1_whatIsSaid 14 = .ok (.iconst (-1), 1) := by decide +kernel
theorem dX1_whatIsSaid_15 : decode cX1_whatIsSaid 15 = .ok (.istore_n 3, 1) := by decide +kernel
theorem dX1_whatIsSaid_16 : decode cX1_whatIsSaid 16 = .ok (.iconst 0, 1) := by decide +kernel
theorem dX1_whatIsSaid_17 : decode cX1_whatIsSaid 17 = .ok (.istore 4, 2) := by decide +kernel
theorem dX1_whatIsSaid_19 : decode cX1_whatIsSaid 19 = .ok (.iload 4, 2) := by decide +kernel
theorem dX1_whatIsSaid_21 : decode cX1_whatIsSaid 21 = .ok (.aload_n 1, 1) := by decide +kernel
theorem dX1_whatIsSaid_22 : decode cX1_whatIsSaid 22 = .ok (.getfield 53, 3) := by decide +kernel
theorem dX1_whatIsSaid_25 : decode cX1_whatIsSaid 25 = .ok (.if_icmp .ge 88, 3) := by decide +kernel
theorem dX1_whatIsSaid_28 : decode cX1_whatIsSaid 28 = .ok (.aload_n 0, 1) := by decide +kernel
theorem dX1_whatIsSaid_29 : decode cX1_whatIsSaid 29 = .ok (.getfield 15, 3) := by decide +kernel
theorem dX1_whatIsSaid_32 : decode cX1_whatIsSaid 32 = .ok (.iload 4, 2) := by decide +kernel
theorem dX1_whatIsSaid_34 : decode cX1_whatIsSaid 34 = .ok (.iaload, 1) := by decide +kernel
theorem dX1_whatIsSaid_35 : decode cX1_whatIsSaid 35 = .ok (.iconst (-1), 1) := by decide +kernel
theorem dX1_whatIsSaid_36 : decode cX1_whatIsSaid 36 = .ok (.if_icmp .eq 6, 3) := by decide +kernel
theorem dX1_whatIsSaid_39 : decode cX1_whatIsSaid 39 = .ok (.goto 68, 3) := by decide +kernel
theorem dX1_whatIsSaid_42 : decode cX1_whatIsSaid 42 = .ok (.aload_n 1, 1) := by decide +kernel
theorem dX1_whatIsSaid_43 : decode cX1_whatIsSaid 43 = .ok (.getfield 104, 3) := by decide +kernel
theorem dX1_whatIsSaid_46 : decode cX1_whatIsSaid 46 = .ok (.iload 4, 2) := by decide +kernel
theorem dX1_whatIsSaid_48 : decode cX1_whatIsSaid 48 = .ok (.iaload, 1) := by decide +kernel
theorem dX1_whatIsSaid_49 : decode cX1_whatIsSaid 49 = .ok (.iconst 2, 1) := by decide +kernel
theorem dX1_whatIsSaid_50 : decode cX1_whatIsSaid 50 = .ok (.if_icmp .ne 18, 3) := by decide +kernel
theorem dX1_whatIsSaid_53 : decode cX1_whatIsSaid 53 = .ok (.iload_n 3, 1) := by decide +kernel
theorem dX1_whatIsSaid_54 : decode cX1_whatIsSaid 54 = .ok (.iconst (-1), 1) := by decide +kernel
theorem dX1_whatIsSaid_55 : decode cX1_whatIsSaid 55 = .ok (.if_icmp .ne 8, 3) := by decide +kernel
theorem dX1_whatIsSaid_58 : decode cX1_whatIsSaid 58 = .ok (.iload 4, 2) := by decide +kernel
theorem dX1_whatIsSaid_60 : decode cX1_whatIsSaid 60 = .ok (.goto 4, 3) := by decide +kernel
theorem dX1_whatIsSaid_63 : decode cX1_whatIsSaid 63 = .ok (.iload_n 3, 1) := by decide +kernel
theorem dX1_whatIsSaid_64 : decode cX1_whatIsSaid 64 = .ok (.istore_n 3, 1) := by decide +kernel
theorem dX1_whatIsSaid_65 : decode cX1_whatIsSaid 65 = .ok (.goto 42, 3) := by decide +kernel
theorem dX1_whatIsSaid_68 : decode cX1_whatIsSaid 68 = .ok (.aload_n 1, 1) := by decide +kernel
theorem dX1_whatIsSaid_69 : decode cX1_whatIsSaid 69 = .ok (.getfield 104, 3) := by decide +kernel
theorem dX1_whatIsSaid_72 : decode cX1_whatIsSaid 72 = .ok (.iload 4, 2) := by decide +kernel
theorem dX1_whatIsSaid_74 : decode cX1_whatIsSaid 74 = .ok (.iaload, 1) := by decide +kernel
theorem dX1_whatIsSaid_75 : decode cX1_whatIsSaid 75 = .ok (.iconst 1, 1) := by decide +kernel
theorem dX1_whatIsSaid_76 : decode cX1_whatIsSaid 76 = .ok (.if_icmp .ne 17, 3) := by decide +kernel
theorem dX1_whatIsSaid_79 : decode cX1_whatIsSaid 79 = .ok (.iload_n 2, 1) := by decide +kernel
theorem dX1_whatIsSaid_80 : decode cX1_whatIsSaid 80 = .ok (.aload_n 1, 1) := by decide +kernel
theorem dX1_whatIsSaid_81 : decode cX1_whatIsSaid 81 = .ok (.getfield 111, 3) := by decide +kernel
theorem dX1_whatIsSaid_84 : decode cX1_whatIsSaid 84 = .ok (.iload 4, 2) := by decide +kernel
theorem dX1_whatIsSaid_86 : decode cX1_whatIsSaid 86 = .ok (.iaload, 1) := by decide +kernel
theorem dX1_whatIsSaid_87 : decode cX1_whatIsSaid 87 = .ok (.if_icmp .lt 20, 3) := by decide +kernel
theorem dX1_whatIsSaid_90 : decode cX1_whatIsSaid 90 = .ok (.goto 14, 3) := by decide +kernel
theorem dX1_whatIsSaid_93 : decode cX1_whatIsSaid 93 = .ok (.iload_n 2, 1) := by decide +kernel
theorem dX1_whatIsSaid_94 : decode cX1_whatIsSaid 94 = .ok (.aload_n 1, 1) := by decide +kernel
theorem dX1_whatIsSaid_95 : decode cX1_whatIsSaid 95 = .ok (.getfield 111, 3) := by decide +kernel
theorem dX1_whatIsSaid_98 : decode cX1_whatIsSaid 98 = .ok (.iload 4, 2) := by decide +kernel
theorem dX1_whatIsSaid_100 : decode cX1_whatIsSaid 100 = .ok (.iaload, 1) := by decide +kernel
theorem dX1_whatIsSaid_101 : decode cX1_whatIsSaid 101 = .ok (.if_icmp .gt 6, 3) := by decide +kernel
theorem dX1_whatIsSaid_104 : decode cX1_whatIsSaid 104 = .ok (.iload 4, 2) := by decide +kernel
theorem dX1_whatIsSaid_106 : decode cX1_whatIsSaid 106 = .ok (.ireturn, 1) := by decide +kernel
theorem dX1_whatIsSaid_107 : decode cX1_whatIsSaid 107 = .ok (.iinc 4 1, 3) := by decide +kernel
theorem dX1_whatIsSaid_110 : decode cX1_whatIsSaid 110 = .ok (.goto (-91), 3) := by decide +kernel
theorem dX1_whatIsSaid_113 : decode cX1_whatIsSaid 113 = .ok (.iload_n 3, 1) := by decide +kernel
theorem dX1_whatIsSaid_114 : decode cX1_whatIsSaid 114 = .ok (.iconst (-1), 1) := by decide +kernel
theorem dX1_whatIsSaid_115 : decode cX1_whatIsSaid 115 = .ok (.if_icmp .ne 8, 3) := by decide +kernel
theorem dX1_whatIsSaid_118 : decode cX1_whatIsSaid 118 = .ok (.bipush 9, 2) := by decide +kernel
theorem dX1_whatIsSaid_120 : decode cX1_whatIsSaid 120 = .ok (.goto 4, 3) := by decide +kernel
theorem dX1_whatIsSaid_123 : decode cX1_whatIsSaid 123 = .ok (.iload_n 3, 1) := by decide +kernel
theorem dX1_whatIsSaid_124 : decode cX1_whatIsSaid 124 = .ok (.ireturn, 1) := by decide +kernel
theorem dX1_soften_0 : decode cX1_soften 0 = .ok (.iconst 1, 1) := by decide +kernel
theorem dX1_soften_1 : decode cX1_soften 1 = .ok (.istore 5, 2) := by decide +kernel
theorem dX1_soften_3 : decode cX1_soften 3 = .ok (.iload_n 1, 1) := by decide +kernel
theorem dX1_soften_4 : decode cX1_soften 4 = .ok (.iconst 1, 1) := by decide +kernel
theorem dX1_soften_5 : decode cX1_soften 5 = .ok (.if_icmp .ne 18, 3) := by decide +kernel
theorem dX1_soften_8 : decode cX1_soften 8 = .ok (.aload_n 0, 1) := by decide +kernel
theorem dX1_soften_9 : decode cX1_soften 9 = .ok (.getfield 42, 3) := by decide +kernel
theorem dX1_soften_12 : decode cX1_soften 12 = .ok (.iload_n 2, 1) := by decide +kernel
theorem dX1_soften_13 : decode cX1_soften 13 = .ok (.iaload, 1) := by decide +kernel
theorem dX1_soften_14 : decode cX1_soften 14 = .ok (.ifCond .le 9, 3) := by decide +kernel
theorem dX1_soften_17 : decode cX1_soften 17 = .ok (.iconst 2, 1) := by decide +kernel
theorem dX1_soften_18 : decode cX1_soften 18 = .ok (.istore 5, 2) := by decide +kernel
theorem dX1_soften_20 : decode cX1_soften 20 = .ok (.goto 16, 3) := by decide +kernel
theorem dX1_soften_23 : decode cX1_soften 23 = .ok (.iload_n 1, 1) := by decide +kernel
theorem dX1_soften_24 : decode cX1_soften 24 = .ok (.iconst 2, 1) := by decide +kernel
theorem dX1_soften_25 : decode cX1_soften 25 = .ok (.if_icmp .ne 11, 3) := by decide +kernel
theorem dX1_soften_28 : decode cX1_soften 28 = .ok (.iload 4, 2) := by decide +kernel
theorem dX1_soften_30 : decode cX1_soften 30 = .ok (.ifCond .eq 6, 3) := by decide +kernel
theorem dX1_soften_33 : decode cX1_soften 33 = .ok (.iconst 3, 1) := by decide +kernel
theorem dX1_soften_34 : decode cX1_soften 34 = .ok (.istore 5, 2) := by decide +kernel
theorem dX1_soften_36 : decode cX1_soften 36 = .ok (.aload_n 0, 1) := by decide +kernel
theorem dX1_soften_37 : decode cX1_soften 37 = .ok (.getfield 9, 3) := by decide +kernel
theorem dX1_soften_40 : decode cX1_soften 40 = .ok (.iload_n 3, 1) := by decide +kernel
theorem dX1_soften_41 : decode cX1_soften 41 = .ok (.dup2, 1) := by decide +kernel
theorem dX1_soften_42 : decode cX1_soften 42 = .ok (.iaload, 1) := by decide +kernel
theorem dX1_soften_43 : decode cX1_soften 43 = .ok (.iload 5, 2) := by decide +kernel
theorem dX1_soften_45 : decode cX1_soften 45 = .ok (.isub, 1) := by decide +kernel
theorem dX1_soften_46 : decode cX1_soften 46 = .ok (.iastore, 1) := by decide +kernel
theorem dX1_soften_47 : decode cX1_soften 47 = .ok (.aload_n 0, 1) := by decide +kernel
theorem dX1_soften_48 : decode cX1_soften 48 = .ok (.getfield 9, 3) := by decide +kernel
theorem dX1_soften_51 : decode cX1_soften 51 = .ok (.iload_n 3, 1) := by decide +kernel
theorem dX1_soften_52 : decode cX1_soften 52 = .ok (.iaload, 1) := by decide +kernel
theorem dX1_soften_53 : decode cX1_soften 53 = .ok (.ifCond .gt 37, 3) := by decide +kernel
theorem dX1_soften_56 : decode cX1_soften 56 = .ok (.aload_n 0, 1) := by decide +kernel
theorem dX1_soften_57 : decode cX1_soften 57 = .ok (.getfield 9, 3) := by decide +kernel
theorem dX1_soften_60 : decode cX1_soften 60 = .ok (.iload_n 3, 1) := by decide +kernel
theorem dX1_soften_61 : decode cX1_soften 61 = .ok (.iconst 0, 1) := by decide +kernel
theorem dX1_soften_62 : decode cX1_soften 62 = .ok (.iastore, 1) := by decide +kernel
theorem dX1_soften_63 : decode cX1_soften 63 = .ok (.aload_n 0, 1) := by decide +kernel
theorem dX1_soften_64 : decode cX1_soften 64 = .ok (.getfield 15, 3) := by decide +kernel
theorem dX1_soften_67 : decode cX1_soften 67 = .ok (.iload_n 3, 1) := by decide +kernel
theorem dX1_soften_68 : decode cX1_soften 68 = .ok (.iload_n 2, 1) := by decide +kernel
theorem dX1_soften_69 : decode cX1_soften 69 = .ok (.iastore, 1) := by decide +kernel
theorem dX1_soften_70 : decode cX1_soften 70 = .ok (.aload_n 0, 1) := by decide +kernel
theorem dX1_soften_71 : decode cX1_soften 71 = .ok (.getfield 42, 3) := by decide +kernel
theorem dX1_soften_74 : decode cX1_soften 74 = .ok (.iload_n 2, 1) := by decide +kernel
theorem dX1_soften_75 : decode cX1_soften 75 = .ok (.dup2, 1) := by decide +kernel
theorem dX1_soften_76 : decode cX1_soften 76 = .ok (.iaload, 1) := by decide +kernel
theorem dX1_soften_77 : decode cX1_soften 77 = .ok (.iconst 1, 1) := by decide +kernel
theorem dX1_soften_78 : decode cX1_soften 78 = .ok (.iadd, 1) := by decide +kernel
theorem dX1_soften_79 : decode cX1_soften 79 = .ok (.iastore, 1) := by decide +kernel
theorem dX1_soften_80 : decode cX1_soften 80 = .ok (.aload_n 0, 1) := by decide +kernel
theorem dX1_soften_81 : decode cX1_soften 81 = .ok (.dup, 1) := by decide +kernel
theorem dX1_soften_82 : decode cX1_soften 82 = .ok (.getfield 45, 3) := by decide +kernel
theorem dX1_soften_85 : decode cX1_soften 85 = .ok (.iconst 1, 1) := by decide +kernel
theorem dX1_soften_86 : decode cX1_soften 86 = .ok (.iadd, 1) := by decide +kernel
theorem dX1_soften_87 : decode cX1_soften 87 = .ok (.putfield 45, 3) := by decide +kernel
theorem dX1_soften_90 : decode cX1_soften 90 = .ok (.return_, 1) := by decide +kernel
theorem dX1_settledBehind_0 : decode cX1_settledBehind 0 = .ok (.iconst 0, 1) := by decide +kernel
theorem dX1_settledBehind_1 : decode cX1_settledBehind 1 = .ok (.istore_n 2, 1) := by decide +kernel
theorem dX1_settledBehind_2 : decode cX1_settledBehind 2 = .ok (.iconst 0, 1) := by decide +kernel
theorem dX1_settledBehind_3 : decode cX1_settledBehind 3 = .ok (.istore_n 3, 1) := by decide +kernel
theorem dX1_settledBehind_4 : decode cX1_settledBehind 4 = .ok (.iload_n 3, 1) := by decide +kernel
theorem dX1_settledBehind_5 : decode cX1_settledBehind 5 = .ok (.bipush 8, 2) := by decide +kernel
theorem dX1_settledBehind_7 : decode cX1_settledBehind 7 = .ok (.if_icmp .ge 35, 3) := by decide +kernel
theorem dX1_settledBehind_10 : decode cX1_settledBehind 10 = .ok (.aload_n 0, 1) := by decide +kernel
theorem dX1_settledBehind_11 : decode cX1_settledBehind 11 = .ok (.getfield 15, 3) := by decide +kernel
theorem dX1_settledBehind_14 : decode cX1_settledBehind 14 = .ok (.iload_n 3, 1) := by decide +kernel
theorem dX1_settledBehind_15 : decode cX1_settledBehind 15 = .ok (.iaload, 1) := by decide +kernel
theorem dX1_settledBehind_16 : decode cX1_settledBehind 16 = .ok (.iconst (-1), 1) := by decide +kernel
theorem dX1_settledBehind_17 : decode cX1_settledBehind 17 = .ok (.if_icmp .eq 19, 3) := by decide +kernel
theorem dX1_settledBehind_20 : decode cX1_settledBehind 20 = .ok (.aload_n 0, 1) := by decide +kernel
theorem dX1_settledBehind_21 : decode cX1_settledBehind 21 = .ok (.getfield 15, 3) := by decide +kernel
theorem dX1_settledBehind_24 : decode cX1_settledBehind 24 = .ok (.iload_n 3, 1) := by decide +kernel
theorem dX1_settledBehind_25 : decode cX1_settledBehind 25 = .ok (.iaload, 1) := by decide +kernel
theorem dX1_settledBehind_26 : decode cX1_settledBehind 26 = .ok (.iload_n 1, 1) := by decide +kernel
theorem dX1_settledBehind_27 : decode cX1_settledBehind 27 = .ok (.if_icmp .gt 9, 3) := by decide +kernel
theorem dX1_settledBehind_30 : decode cX1_settledBehind 30 = .ok (.iload_n 2, 1) := by decide +kernel
theorem dX1_settledBehind_31 : decode cX1_settledBehind 31 = .ok (.iconst 1, 1) := by decide +kernel
theorem dX1_settledBehind_32 : decode cX1_settledBehind 32 = .ok (.iload_n 3, 1) := by decide +kernel
theorem dX1_settledBehind_33 : decode cX1_settledBehind 33 = .ok (.ishl, 1) := by decide +kernel
theorem dX1_settledBehind_34 : decode cX1_settledBehind 34 = .ok (.ior, 1) := by decide +kernel
theorem dX1_settledBehind_35 : decode cX1_settledBehind 35 = .ok (.istore_n 2, 1) := by decide +kernel
theorem dX1_settledBehind_36 : decode cX1_settledBehind 36 = .ok (.iinc 3 1, 3) := by decide +kernel
theorem dX1_settledBehind_39 : decode cX1_settledBehind 39 = .ok (.goto (-35), 3) := by decide +kernel
theorem dX1_settledBehind_42 : decode cX1_settledBehind 42 = .ok (.iload_n 2, 1) := by decide +kernel
theorem dX1_settledBehind_43 : decode cX1_settledBehind 43 = .ok (.ireturn, 1) := by decide +kernel
theorem dX1_firstPeace_0 : decode cX1_firstPeace 0 = .ok (.iconst 0, 1) := by decide +kernel
theorem dX1_firstPeace_1 : decode cX1_firstPeace 1 = .ok (.istore_n 2, 1) := by decide +kernel
theorem dX1_firstPeace_2 : decode cX1_firstPeace 2 = .ok (.iload_n 2, 1) := by decide +kernel
theorem dX1_firstPeace_3 : decode cX1_firstPeace 3 = .ok (.bipush 12, 2) := by decide +kernel
theorem dX1_firstPeace_5 : decode cX1_firstPeace 5 = .ok (.if_icmp .ge 20, 3) := by decide +kernel
theorem dX1_firstPeace_8 : decode cX1_firstPeace 8 = .ok (.aload_n 0, 1) := by decide +kernel
theorem dX1_firstPeace_9 : decode cX1_firstPeace 9 = .ok (.iload_n 2, 1) := by decide +kernel
theorem dX1_firstPeace_10 : decode cX1_firstPeace 10 = .ok (.invokevirtual 114, 3) := by decide +kernel
theorem dX1_firstPeace_13 : decode cX1_firstPeace 13 = .ok (.iload_n 1, 1) := by decide +kernel
theorem dX1_firstPeace_14 : decode cX1_firstPeace 14 = .ok (.if_icmp .ne 5, 3) := by decide +kernel
theorem dX1_firstPeace_17 : decode cX1_firstPeace 17 = .ok (.iload_n 2, 1) := by decide +kernel
theorem dX1_firstPeace_18 : decode cX1_firstPeace 18 = .ok (.ireturn, 1) := by decide +kernel
theorem dX1_firstPeace_19 : decode cX1_firstPeace 19 = .ok (.iinc 2 1, 3) := by decide +kernel
theorem dX1_firstPeace_22 : decode cX1_firstPeace 22 = .ok (.goto (-20), 3) := by decide +kernel
theorem dX1_firstPeace_25 : decode cX1_firstPeace 25 = .ok (.iconst (-1), 1) := by decide +kernel
theorem dX1_firstPeace_26 : decode cX1_firstPeace 26 = .ok (.ireturn, 1) := by decide +kernel
theorem dX1_thingSaidMost_0 : decode cX1_thingSaidMost 0 = .ok (.iconst (-1), 1) := by decide +kernel
theorem dX1_thingSaidMost_1 : decode cX1_thingSaidMost 1 = .ok (.istore_n 1, 1) := by decide +kernel
theorem dX1_thingSaidMost_2 : decode cX1_thingSaidMost 2 = .ok (.iconst 0, 1) := by decide +kernel
theorem dX1_thingSaidMost_3 : decode cX1_thingSaidMost 3 = .ok (.istore_n 2, 1) := by decide +kernel
theorem dX1_thingSaidMost_4 : decode cX1_thingSaidMost 4 = .ok (.iconst 0, 1) := by decide +kernel
theorem dX1_thingSaidMost_5 : decode cX1_thingSaidMost 5 = .ok (.istore_n 3, 1) := by decide +kernel
theorem dX1_thingSaidMost_6 : decode cX1_thingSaidMost 6 = .ok (.iload_n 3, 1) := by decide +kernel
theorem dX1_thingSaidMost_7 : decode cX1_thingSaidMost 7 = .ok (.bipush 8, 2) := by decide +kernel
theorem dX1_thingSaidMost_9 : decode cX1_thingSaidMost 9 = .ok (.if_icmp .ge 28, 3) := by decide +kernel
theorem dX1_thingSaidMost_12 : decode cX1_thingSaidMost 12 = .ok (.aload_n 0, 1) := by decide +kernel
theorem dX1_thingSaidMost_13 : decode cX1_thingSaidMost 13 = .ok (.getfield 21, 3) := by decide +kernel
theorem dX1_thingSaidMost_16 : decode cX1_thingSaidMost 16 = .ok (.iload_n 3, 1) := by decide +kernel
theorem dX1_thingSaidMost_17 : decode cX1_thingSaidMost 17 = .ok (.iaload, 1) := by decide +kernel
theorem dX1_thingSaidMost_18 : decode cX1_thingSaidMost 18 = .ok (.iload_n 2, 1) := by decide +kernel
theorem dX1_thingSaidMost_19 : decode cX1_thingSaidMost 19 = .ok (.if_icmp .le 12, 3) := by decide +kernel
theorem dX1_thingSaidMost_22 : decode cX1_thingSaidMost 22 = .ok (.aload_n 0, 1) := by decide +kernel
theorem dX1_thingSaidMost_23 : decode cX1_thingSaidMost 23 = .ok (.getfield 21, 3) := by decide +kernel
theorem dX1_thingSaidMost_26 : decode cX1_thingSaidMost 26 = .ok (.iload_n 3, 1) := by decide +kernel
theorem dX1_thingSaidMost_27 : decode cX1_thingSaidMost 27 = .ok (.iaload, 1) := by decide +kernel
theorem dX1_thingSaidMost_28 : decode cX1_thingSaidMost 28 = .ok (.istore_n 2, 1) := by decide +kernel
theorem dX1_thingSaidMost_29 : decode cX1_thingSaidMost 29 = .ok (.iload_n 3, 1) := by decide +kernel
theorem dX1_thingSaidMost_30 : decode cX1_thingSaidMost 30 = .ok (.istore_n 1, 1) := by decide +kernel
theorem dX1_thingSaidMost_31 : decode cX1_thingSaidMost 31 = .ok (.iinc 3 1, 3) := by decide +kernel
theorem dX1_thingSaidMost_34 : decode cX1_thingSaidMost 34 = .ok (.goto (-28), 3) := by decide +kernel
theorem dX1_thingSaidMost_37 : decode cX1_thingSaidMost 37 = .ok (.iload_n 1, 1) := by decide +kernel
theorem dX1_thingSaidMost_38 : decode cX1_thingSaidMost 38 = .ok (.ireturn, 1) := by decide +kernel
theorem dX1_eveningAnswer_0 : decode cX1_eveningAnswer 0 = .ok (.iload_n 2, 1) := by decide +kernel
theorem dX1_eveningAnswer_1 : decode cX1_eveningAnswer 1 = .ok (.tableswitch 48 0 2 #[27, 34, 41], 27) := by decide +kernel
theorem dX1_eveningAnswer_28 : decode cX1_eveningAnswer 28 = .ok (.aload_n 0, 1) := by decide +kernel
theorem dX1_eveningAnswer_29 : decode cX1_eveningAnswer 29 = .ok (.getfield 33, 3) := by decide +kernel
theorem dX1_eveningAnswer_32 : decode cX1_eveningAnswer 32 = .ok (.iload_n 1, 1) := by decide +kernel
theorem dX1_eveningAnswer_33 : decode cX1_eveningAnswer 33 = .ok (.iaload, 1) := by decide +kernel
theorem dX1_eveningAnswer_34 : decode cX1_eveningAnswer 34 = .ok (.ireturn, 1) := by decide +kernel
theorem dX1_eveningAnswer_35 : decode cX1_eveningAnswer 35 = .ok (.aload_n 0, 1) := by decide +kernel
theorem dX1_eveningAnswer_36 : decode cX1_eveningAnswer 36 = .ok (.getfield 36, 3) := by decide +kernel
theorem dX1_eveningAnswer_39 : decode cX1_eveningAnswer 39 = .ok (.iload_n 1, 1) := by decide +kernel
theorem dX1_eveningAnswer_40 : decode cX1_eveningAnswer 40 = .ok (.iaload, 1) := by decide +kernel
theorem dX1_eveningAnswer_41 : decode cX1_eveningAnswer 41 = .ok (.ireturn, 1) := by decide +kernel
theorem dX1_eveningAnswer_42 : decode cX1_eveningAnswer 42 = .ok (.aload_n 0, 1) := by decide +kernel
theorem dX1_eveningAnswer_43 : decode cX1_eveningAnswer 43 = .ok (.getfield 39, 3) := by decide +kernel
theorem dX1_eveningAnswer_46 : decode cX1_eveningAnswer 46 = .ok (.iload_n 1, 1) := by decide +kernel
theorem dX1_eveningAnswer_47 : decode cX1_eveningAnswer 47 = .ok (.iaload, 1) := by decide +kernel
theorem dX1_eveningAnswer_48 : decode cX1_eveningAnswer 48 = .ok (.ireturn, 1) := by decide +kernel
theorem dX1_eveningAnswer_49 : decode cX1_eveningAnswer 49 = .ok (.aload_n 0, 1) := by decide +kernel
theorem dX1_eveningAnswer_50 : decode cX1_eveningAnswer 50 = .ok (.getfield 42, 3) := by decide +kernel
theorem dX1_eveningAnswer_53 : decode cX1_eveningAnswer 53 = .ok (.iload_n 1, 1) := by decide +kernel
theorem dX1_eveningAnswer_54 : decode cX1_eveningAnswer 54 = .ok (.iaload, 1) := by decide +kernel
theorem dX1_eveningAnswer_55 : decode cX1_eveningAnswer 55 = .ok (.ireturn, 1) := by decide +kernel
theorem dX1_sumAnswer_0 : decode cX1_sumAnswer 0 = .ok (.iload_n 1, 1) := by decide +kernel
theorem dX1_sumAnswer_1 : decode cX1_sumAnswer 1 = .ok (.tableswitch 48 0 2 #[27, 32, 40], 27) := by decide +kernel
theorem dX1_sumAnswer_28 : decode cX1_sumAnswer 28 = .ok (.aload_n 0, 1) := by decide +kernel
theorem dX1_sumAnswer_29 : decode cX1_sumAnswer 29 = .ok (.getfield 45, 3) := by decide +kernel
theorem dX1_sumAnswer_32 : decode cX1_sumAnswer 32 = .ok (.ireturn, 1) := by decide +kernel
theorem dX1_sumAnswer_33 : decode cX1_sumAnswer 33 = .ok (.aload_n 0, 1) := by decide +kernel
theorem dX1_sumAnswer_34 : decode cX1_sumAnswer 34 = .ok (.getfield 33, 3) := by decide +kernel
theorem dX1_sumAnswer_37 : decode cX1_sumAnswer 37 = .ok (.invokestatic 118, 3) := by decide +kernel
theorem dX1_sumAnswer_40 : decode cX1_sumAnswer 40 = .ok (.ireturn, 1) := by decide +kernel
theorem dX1_sumAnswer_41 : decode cX1_sumAnswer 41 = .ok (.aload_n 0, 1) := by decide +kernel
theorem dX1_sumAnswer_42 : decode cX1_sumAnswer 42 = .ok (.getfield 36, 3) := by decide +kernel
theorem dX1_sumAnswer_45 : decode cX1_sumAnswer 45 = .ok (.invokestatic 118, 3) := by decide +kernel
theorem dX1_sumAnswer_48 : decode cX1_sumAnswer 48 = .ok (.ireturn, 1) := by decide +kernel
theorem dX1_sumAnswer_49 : decode cX1_sumAnswer 49 = .ok (.aload_n 0, 1) := by decide +kernel
theorem dX1_sumAnswer_50 : decode cX1_sumAnswer 50 = .ok (.getfield 39, 3) := by decide +kernel
theorem dX1_sumAnswer_53 : decode cX1_sumAnswer 53 = .ok (.invokestatic 118, 3) := by decide +kernel
theorem dX1_sumAnswer_56 : decode cX1_sumAnswer 56 = .ok (.ireturn, 1) := by decide +kernel
theorem dX2_init_0 : decode cX2_init 0 = .ok (.aload_n 0, 1) := by decide +kernel
theorem dX2_init_1 : decode cX2_init 1 = .ok (.invokespecial 3, 3) := by decide +kernel
theorem dX2_init_4 : decode cX2_init 4 = .ok (.aload_n 0, 1) := by decide +kernel
theorem dX2_init_5 : decode cX2_init 5 = .ok (.iconst 0, 1) := by decide +kernel
theorem dX2_init_6 : decode cX2_init 6 = .ok (.putfield 9, 3) := by decide +kernel
theorem dX2_init_9 : decode cX2_init 9 = .ok (.aload_n 0, 1) := by decide +kernel
theorem dX2_init_10 : decode cX2_init 10 = .ok (.bipush 120, 2) := by decide +kernel
theorem dX2_init_12 : decode cX2_init 12 = .ok (.newarray .int, 2) := by decide +kernel
theorem dX2_init_14 : decode cX2_init 14 = .ok (.putfield 15, 3) := by decide +kernel
theorem dX2_init_17 : decode cX2_init 17 = .ok (.return_, 1) := by decide +kernel
theorem dX2_eveningToAsk_0 : decode cX2_eveningToAsk 0 = .ok (.iconst 0, 1) := by decide +kernel
theorem dX2_eveningToAsk_1 : decode cX2_eveningToAsk 1 = .ok (.istore_n 1, 1) := by decide +kernel
theorem dX2_eveningToAsk_2 : decode cX2_eveningToAsk 2 = .ok (.aload_n 0, 1) := by decide +kernel
theorem dX2_eveningToAsk_3 : decode cX2_eveningToAsk 3 = .ok (.iconst 0, 1) := by decide +kernel
theorem dX2_eveningToAsk_4 : decode cX2_eveningToAsk 4 = .ok (.invokevirtual 19, 3) := by decide +kernel
theorem dX2_eveningToAsk_7 : decode cX2_eveningToAsk 7 = .ok (.istore_n 2, 1) := by decide +kernel
theorem dX2_eveningToAsk_8 : decode cX2_eveningToAsk 8 = .ok (.iconst 1, 1) := by decide +kernel
theorem dX2_eveningToAsk_9 : decode cX2_eveningToAsk 9 = .ok (.istore_n 3, 1) := by decide +kernel
theorem dX2_eveningToAsk_10 : decode cX2_eveningToAsk 10 = .ok (.iload_n 3, 1) := by decide +kernel
theorem dX2_eveningToAsk_11 : decode cX2_eveningToAsk 11 = .ok (.bipush 12, 2) := by decide +kernel
theorem dX2_eveningToAsk_13 : decode cX2_eveningToAsk 13 = .ok (.if_icmp .ge 27, 3) := by decide +kernel
theorem dX2_eveningToAsk_16 : decode cX2_eveningToAsk 16 = .ok (.aload_n 0, 1) := by decide +kernel
theorem dX2_eveningToAsk_17 : decode cX2_eveningToAsk 17 = .ok (.iload_n 3, 1) := by decide +kernel
theorem dX2_eveningToAsk_18 : decode cX2_eveningToAsk 18 = .ok (.invokevirtual 19, 3) := by decide +kernel
theorem dX2_eveningToAsk_21 : decode cX2_eveningToAsk 21 = .ok (.istore 4, 2) := by decide +kernel
theorem dX2_eveningToAsk_23 : decode cX2_eveningToAsk 23 = .ok (.iload 4, 2) := by decide +kernel
theorem dX2_eveningToAsk_25 : decode cX2_eveningToAsk 25 = .ok (.iload_n 2, 1) := by decide +kernel
theorem dX2_eveningToAsk_26 : decode cX2_eveningToAsk 26 = .ok (.if_icmp .ge 8, 3) := by decide +kernel
theorem dX2_eveningToAsk_29 : decode cX2_eveningToAsk 29 = .ok (.iload 4, 2) := by decide +kernel
theorem dX2_eveningToAsk_31 : decode cX2_eveningToAsk 31 = .ok (.istore_n 2, 1) := by decide +kernel
theorem dX2_eveningToAsk_32 : decode cX2_eveningToAsk 32 = .ok (.iload_n 3, 1) := by decide +kernel
theorem dX2_eveningToAsk_33 : decode cX2_eveningToAsk 33 = .ok (.istore_n 1, 1) := by decide +kernel
theorem dX2_eveningToAsk_34 : decode cX2_eveningToAsk 34 = .ok (.iinc 3 1, 3) := by decide +kernel
theorem dX2_eveningToAsk_37 : decode cX2_eveningToAsk 37 = .ok (.goto (-27), 3) := by decide +kernel
theorem dX2_eveningToAsk_40 : decode cX2_eveningToAsk 40 = .ok (.iload_n 1, 1) := by decide +kernel
theorem dX2_eveningToAsk_41 : decode cX2_eveningToAsk 41 = .ok (.ireturn, 1) := by decide +kernel
theorem dX2_greatestLikeness_0 : decode cX2_greatestLikeness 0 = .ok (.iconst 0, 1) := by decide +kernel
theorem dX2_greatestLikeness_1 : decode cX2_greatestLikeness 1 = .ok (.istore_n 2, 1) := by decide +kernel
theorem dX2_greatestLikeness_2 : decode cX2_greatestLikeness 2 = .ok (.iconst 1, 1) := by decide +kernel
theorem dX2_greatestLikeness_3 : decode cX2_greatestLikeness 3 = .ok (.istore_n 3, 1) := by decide +kernel
theorem dX2_greatestLikeness_4 : decode cX2_greatestLikeness 4 = .ok (.iload_n 3, 1) := by decide +kernel
theorem dX2_greatestLikeness_5 : decode cX2_greatestLikeness 5 = .ok (.bipush 9, 2) := by decide +kernel
theorem dX2_greatestLikeness_7 : decode cX2_greatestLikeness 7 = .ok (.if_icmp .gt 32, 3) := by decide +kernel
theorem dX2_greatestLikeness_10 : decode cX2_greatestLikeness 10 = .ok (.aload_n 0, 1) := by decide +kernel
theorem dX2_greatestLikeness_11 : decode cX2_greatestLikeness 11 = .ok (.getfield 9, 3) := by decide +kernel
theorem dX2_greatestLikeness_14 : decode cX2_greatestLikeness 14 = .ok (.iload_n 3, 1) := by decide +kernel
theorem dX2_greatestLikeness_15 : decode cX2_greatestLikeness 15 = .ok (.ishr, 1) := by decide +kernel
theorem dX2_greatestLikeness_16 : decode cX2_greatestLikeness 16 = .ok (.iconst 1, 1) := by decide +kernel
theorem dX2_greatestLikeness_17 : decode cX2_greatestLikeness 17 = .ok (.iand, 1) := by decide +kernel
theorem dX2_greatestLikeness_18 : decode cX2_greatestLikeness 18 = .ok (.iconst 1, 1) := by decide +kernel
theorem dX2_greatestLikeness_19 : decode cX2_greatestLikeness 19 = .ok (.if_icmp .ne 14, 3) := by decide +kernel
theorem dX2_greatestLikeness_22 : decode cX2_greatestLikeness 22 = .ok (.iload_n 2, 1) := by decide +kernel
theorem dX2_greatestLikeness_23 : decode cX2_greatestLikeness 23 = .ok (.aload_n 0, 1) := by decide +kernel
theorem dX2_greatestLikeness_24 : decode cX2_greatestLikeness 24 = .ok (.iload_n 3, 1) := by decide +kernel
theorem dX2_greatestLikeness_25 : decode cX2_greatestLikeness 25 = .ok (.iload_n 1, 1) := by decide +kernel
theorem dX2_greatestLikeness_26 : decode cX2_greatestLikeness 26 = .ok (.invokevirtual 23, 3) := by decide +kernel
theorem dX2_greatestLikeness_29 : decode cX2_greatestLikeness 29 = .ok (.invokestatic 27, 3) := by decide +kernel
theorem dX2_greatestLikeness_32 : decode cX2_greatestLikeness 32 = .ok (.istore_n 2, 1) := by decide +kernel
theorem dX2_greatestLikeness_33 : decode cX2_greatestLikeness 33 = .ok (.iinc 3 1, 3) := by decide +kernel
theorem dX2_greatestLikeness_36 : decode cX2_greatestLikeness 36 = .ok (.goto (-32), 3) := by decide +kernel
theorem dX2_greatestLikeness_39 : decode cX2_greatestLikeness 39 = .ok (.iload_n 2, 1) := by decide +kernel
theorem dX2_greatestLikeness_40 : decode cX2_greatestLikeness 40 = .ok (.ireturn, 1) := by decide +kernel
theorem dX2_likenessOf_0 : decode cX2_likenessOf 0 = .ok (.iconst 0, 1) := by decide +kernel
theorem dX2_likenessOf_1 : decode cX2_likenessOf 1 = .ok (.istore_n 3, 1) := by decide +kernel
theorem dX2_likenessOf_2 : decode cX2_likenessOf 2 = .ok (.aload_n 0, 1) := by decide +kernel
theorem dX2_likenessOf_3 : decode cX2_likenessOf 3 = .ok (.getfield 15, 3) := by decide +kernel
theorem dX2_likenessOf_6 : decode cX2_likenessOf 6 = .ok (.iload_n 1, 1) := by decide +kernel
theorem dX2_likenessOf_7 : decode cX2_likenessOf 7 = .ok (.bipush 12, 2) := by decide +kernel
theorem dX2_likenessOf_9 : decode cX2_likenessOf 9 = .ok (.imul, 1) := by decide +kernel
theorem dX2_likenessOf_10 : decode cX2_likenessOf 10 = .ok (.iload_n 2, 1) := by decide +kernel
theorem dX2_likenessOf_11 : decode cX2_likenessOf 11 = .ok (.iadd, 1) := by decide +kernel
theorem dX2_likenessOf_12 : decode cX2_likenessOf 12 = .ok (.iaload, 1) := by decide +kernel
theorem dX2_likenessOf_13 : decode cX2_likenessOf 13 = .ok (.istore 4, 2) := by decide +kernel
theorem dX2_likenessOf_15 : decode cX2_likenessOf 15 = .ok (.iconst 1, 1) := by decide +kernel
theorem dX2_likenessOf_16 : decode cX2_likenessOf 16 = .ok (.istore 5, 2) := by decide +kernel
theorem dX2_likenessOf_18 : decode cX2_likenessOf 18 = .ok (.iload 5, 2) := by decide +kernel
theorem dX2_likenessOf_20 : decode cX2_likenessOf 20 = .ok (.bipush 9, 2) := by decide +kernel
theorem dX2_likenessOf_22 : decode cX2_likenessOf 22 = .ok (.if_icmp .gt 42, 3) := by decide +kernel
theorem dX2_likenessOf_25 : decode cX2_likenessOf 25 = .ok (.aload_n 0, 1) := by decide +kernel
theorem dX2_likenessOf_26 : decode cX2_likenessOf 26 = .ok (.getfield 9, 3) := by decide +kernel
theorem dX2_likenessOf_29 : decode cX2_likenessOf 29 = .ok (.iload 5, 2) := by decide +kernel
theorem dX2_likenessOf_31 : decode cX2_likenessOf 31 = .ok (.ishr, 1) := by decide +kernel
theorem dX2_likenessOf_32 : decode cX2_likenessOf 32 = .ok (.iconst 1, 1) := by decide +kernel
theorem dX2_likenessOf_33 : decode cX2_likenessOf 33 = .ok (.iand, 1) := by decide +kernel
theorem dX2_likenessOf_34 : decode cX2_likenessOf 34 = .ok (.iconst 1, 1) := by decide +kernel
theorem dX2_likenessOf_35 : decode cX2_likenessOf 35 = .ok (.if_icmp .ne 23, 3) := by decide +kernel
theorem dX2_likenessOf_38 : decode cX2_likenessOf 38 = .ok (.aload_n 0, 1) := by decide +kernel
theorem dX2_likenessOf_39 : decode cX2_likenessOf 39 = .ok (.getfield 15, 3) := by decide +kernel
theorem dX2_likenessOf_42 : decode cX2_likenessOf 42 = .ok (.iload 5, 2) := by decide +kernel
theorem dX2_likenessOf_44 : decode cX2_likenessOf 44 = .ok (.bipush 12, 2) := by decide +kernel
theorem dX2_likenessOf_46 : decode cX2_likenessOf 46 = .ok (.imul, 1) := by decide +kernel
theorem dX2_likenessOf_47 : decode cX2_likenessOf 47 = .ok (.iload_n 2, 1) := by decide +kernel
theorem dX2_likenessOf_48 : decode cX2_likenessOf 48 = .ok (.iadd, 1) := by decide +kernel
theorem dX2_likenessOf_49 : decode cX2_likenessOf 49 = .ok (.iaload, 1) := by decide +kernel
theorem dX2_likenessOf_50 : decode cX2_likenessOf 50 = .ok (.iload 4, 2) := by decide +kernel
theorem dX2_likenessOf_52 : decode cX2_likenessOf 52 = .ok (.if_icmp .ne 6, 3) := by decide +kernel
theorem dX2_likenessOf_55 : decode cX2_likenessOf 55 = .ok (.iinc 3 1, 3) := by decide +kernel
theorem dX2_likenessOf_58 : decode cX2_likenessOf 58 = .ok (.iinc 5 1, 3) := by decide +kernel
theorem dX2_likenessOf_61 : decode cX2_likenessOf 61 = .ok (.goto (-43), 3) := by decide +kernel
theorem dX2_likenessOf_64 : decode cX2_likenessOf 64 = .ok (.iload_n 3, 1) := by decide +kernel
theorem dX2_likenessOf_65 : decode cX2_likenessOf 65 = .ok (.ireturn, 1) := by decide +kernel
theorem dX3_init_0 : decode cX3_init 0 = .ok (.aload_n 0, 1) := by decide +kernel
theorem dX3_init_1 : decode cX3_init 1 = .ok (.invokespecial 1, 3) := by decide +kernel
theorem dX3_init_4 : decode cX3_init 4 = .ok (.aload_n 0, 1) := by decide +kernel
theorem dX3_init_5 : decode cX3_init 5 = .ok (.iconst 0, 1) := by decide +kernel
theorem dX3_init_6 : decode cX3_init 6 = .ok (.putfield 7, 3) := by decide +kernel
theorem dX3_init_9 : decode cX3_init 9 = .ok (.return_, 1) := by decide +kernel
theorem dX3_draw_0 : decode cX3_draw 0 = .ok (.aload_n 0, 1) := by decide +kernel
theorem dX3_draw_1 : decode cX3_draw 1 = .ok (.ldc 13, 2) := by decide +kernel
theorem dX3_draw_3 : decode cX3_draw 3 = .ok (.aload_n 0, 1) := by decide +kernel
theorem dX3_draw_4 : decode cX3_draw 4 = .ok (.getfield 7, 3) := by decide +kernel
theorem dX3_draw_7 : decode cX3_draw 7 = .ok (.imul, 1) := by decide +kernel
theorem dX3_draw_8 : decode cX3_draw 8 = .ok (.sipush 12345, 3) := by decide +kernel
theorem dX3_draw_11 : decode cX3_draw 11 = .ok (.iadd, 1) := by decide +kernel
theorem dX3_draw_12 : decode cX3_draw 12 = .ok (.putfield 7, 3) := by decide +kernel
theorem dX3_draw_15 : decode cX3_draw 15 = .ok (.iload_n 1, 1) := by decide +kernel
theorem dX3_draw_16 : decode cX3_draw 16 = .ok (.ifCond .le 15, 3) := by decide +kernel
theorem dX3_draw_19 : decode cX3_draw 19 = .ok (.aload_n 0, 1) := by decide +kernel
theorem dX3_draw_20 : decode cX3_draw 20 = .ok (.getfield 7, 3) := by decide +kernel
theorem dX3_draw_23 : decode cX3_draw 23 = .ok (.bipush 16, 2) := by decide +kernel
theorem dX3_draw_25 : decode cX3_draw 25 = .ok (.iushr, 1) := by decide +kernel
theorem dX3_draw_26 : decode cX3_draw 26 = .ok (.iload_n 1, 1) := by decide +kernel
theorem dX3_draw_27 : decode cX3_draw 27 = .ok (.irem, 1) := by decide +kernel
theorem dX3_draw_28 : decode cX3_draw 28 = .ok (.goto 4, 3) := by decide +kernel
theorem dX3_draw_31 : decode cX3_draw 31 = .ok (.iconst 0, 1) := by decide +kernel
theorem dX3_draw_32 : decode cX3_draw 32 = .ok (.ireturn, 1) := by decide +kernel
theorem dX4_init_0 : decode cX4_init 0 = .ok (.aload_n 0, 1) := by decide +kernel
theorem dX4_init_1 : decode cX4_init 1 = .ok (.invokespecial 3, 3) := by decide +kernel
theorem dX4_init_4 : decode cX4_init 4 = .ok (.aload_n 0, 1) := by decide +kernel
theorem dX4_init_5 : decode cX4_init 5 = .ok (.iconst 0, 1) := by decide +kernel
theorem dX4_init_6 : decode cX4_init 6 = .ok (.putfield 9, 3) := by decide +kernel
theorem dX4_init_9 : decode cX4_init 9 = .ok (.aload_n 0, 1) := by decide +kernel
theorem dX4_init_10 : decode cX4_init 10 = .ok (.iconst 0, 1) := by decide +kernel
theorem dX4_init_11 : decode cX4_init 11 = .ok (.putfield 15, 3) := by decide +kernel
theorem dX4_init_14 : decode cX4_init 14 = .ok (.aload_n 0, 1) := by decide +kernel
theorem dX4_init_15 : decode cX4_init 15 = .ok (.bipush 12, 2) := by decide +kernel
theorem dX4_init_17 : decode cX4_init 17 = .ok (.newarray .int, 2) := by decide +kernel
theorem dX4_init_19 : decode cX4_init 19 = .ok (.putfield 18, 3) := by decide +kernel
theorem dX4_init_22 : decode cX4_init 22 = .ok (.aload_n 0, 1) := by decide +kernel
theorem dX4_init_23 : decode cX4_init 23 = .ok (.bipush 8, 2) := by decide +kernel
theorem dX4_init_25 : decode cX4_init 25 = .ok (.newarray .int, 2) := by decide +kernel
theorem dX4_init_27 : decode cX4_init 27 = .ok (.putfield 22, 3) := by decide +kernel
theorem dX4_init_30 : decode cX4_init 30 = .ok (.aload_n 0, 1) := by decide +kernel
theorem dX4_init_31 : decode cX4_init 31 = .ok (.bipush 8, 2) := by decide +kernel
theorem dX4_init_33 : decode cX4_init 33 = .ok (.newarray .int, 2) := by decide +kernel
theorem dX4_init_35 : decode cX4_init 35 = .ok (.putfield 25, 3) := by decide +kernel
theorem dX4_init_38 : decode cX4_init 38 = .ok (.aload_n 0, 1) := by decide +kernel
theorem dX4_init_39 : decode cX4_init 39 = .ok (.bipush 8, 2) := by decide +kernel
theorem dX4_init_41 : decode cX4_init 41 = .ok (.newarray .int, 2) := by decide +kernel
theorem dX4_init_43 : decode cX4_init 43 = .ok (.putfield 28, 3) := by decide +kernel
theorem dX4_init_46 : decode cX4_init 46 = .ok (.aload_n 0, 1) := by decide +kernel
theorem dX4_init_47 : decode cX4_init 47 = .ok (.bipush 12, 2) := by decide +kernel
theorem dX4_init_49 : decode cX4_init 49 = .ok (.newarray .int, 2) := by decide +kernel
theorem dX4_init_51 : decode cX4_init 51 = .ok (.putfield 31, 3) := by decide +kernel
theorem dX4_init_54 : decode cX4_init 54 = .ok (.aload_n 0, 1) := by decide +kernel
theorem dX4_init_55 : decode cX4_init 55 = .ok (.bipush 12, 2) := by decide +kernel
theorem dX4_init_57 : decode cX4_init 57 = .ok (.newarray .int, 2) := by decide +kernel
theorem dX4_init_59 : decode cX4_init 59 = .ok (.putfield 34, 3) := by decide +kernel
theorem dX4_init_62 : decode cX4_init 62 = .ok (.return_, 1) := by decide +kernel
theorem dX4_takeHooks_0 : decode cX4_takeHooks 0 = .ok (.aload_n 0, 1) := by decide +kernel
theorem dX4_takeHooks_1 : decode cX4_takeHooks 1 = .ok (.aload_n 1, 1) := by decide +kernel
theorem dX4_takeHooks_2 : decode cX4_takeHooks 2 = .ok (.invokevirtual 37, 3) := by decide +kernel
theorem dX4_takeHooks_5 : decode cX4_takeHooks 5 = .ok (.iconst (-1), 1) := by decide +kernel
theorem dX4_takeHooks_6 : decode cX4_takeHooks 6 = .ok (.if_icmp .ne 10, 3) := by decide +kernel
theorem dX4_takeHooks_9 : decode cX4_takeHooks 9 = .ok (.aload_n 1, 1) := by decide +kernel
theorem dX4_takeHooks_10 : decode cX4_takeHooks 10 = .ok (.getfield 43, 3) := by decide +kernel
theorem dX4_takeHooks_13 : decode cX4_takeHooks 13 = .ok (.goto 4, 3) := by decide +kernel
theorem dX4_takeHooks_16 : decode cX4_takeHooks 16 = .ok (.iconst 0, 1) := by decide +kernel
theorem dX4_takeHooks_17 : decode cX4_takeHooks 17 = .ok (.putfield 9, 3) := by decide +kernel
theorem dX4_takeHooks_20 : decode cX4_takeHooks 20 = .ok (.iconst 0, 1) := by decide +kernel
theorem dX4_takeHooks_21 : decode cX4_takeHooks 21 = .ok (.istore_n 2, 1) := by decide +kernel
theorem dX4_takeHooks_22 : decode cX4_takeHooks 22 = .ok (.iload_n 2, 1) := by decide +kernel
theorem dX4_takeHooks_23 : decode cX4_takeHooks 23 = .ok (.aload_n 0, 1) := by decide +kernel
theorem dX4_takeHooks_24 : decode cX4_takeHooks 24 = .ok (.getfield 9, 3) := by decide +kernel
theorem dX4_takeHooks_27 : decode cX4_takeHooks 27 = .ok (.if_icmp .ge 24, 3) := by decide +kernel
theorem dX4_takeHooks_30 : decode cX4_takeHooks 30 = .ok (.aload_n 0, 1) := by decide +kernel
theorem dX4_takeHooks_31 : decode cX4_takeHooks 31 = .ok (.getfield 18, 3) := by decide +kernel
theorem dX4_takeHooks_34 : decode cX4_takeHooks 34 = .ok (.iload_n 2, 1) := by decide +kernel
theorem dX4_takeHooks_35 : decode cX4_takeHooks 35 = .ok (.aload_n 1, 1) := by decide +kernel
theorem dX4_takeHooks_36 : decode cX4_takeHooks 36 = .ok (.getfield 46, 3) := by decide +kernel
theorem dX4_takeHooks_39 : decode cX4_takeHooks 39 = .ok (.iload_n 2, 1) := by decide +kernel
theorem dX4_takeHooks_40 : decode cX4_takeHooks 40 = .ok (.iaload, 1) := by decide +kernel
theorem dX4_takeHooks_41 : decode cX4_takeHooks 41 = .ok (.invokestatic 49, 3) := by decide +kernel
theorem dX4_takeHooks_44 : decode cX4_takeHooks 44 = .ok (.iastore, 1) := by decide +kernel
theorem dX4_takeHooks_45 : decode cX4_takeHooks 45 = .ok (.iinc 2 1, 3) := by decide +kernel
theorem dX4_takeHooks_48 : decode cX4_takeHooks 48 = .ok (.goto (-26), 3) := by decide +kernel
theorem dX4_takeHooks_51 : decode cX4_takeHooks 51 = .ok (.return_, 1) := by decide +kernel
theorem dX4_takeThings_0 : decode cX4_takeThings 0 = .ok (.aload_n 0, 1) := by decide +kernel
theorem dX4_takeThings_1 : decode cX4_takeThings 1 = .ok (.aload_n 1, 1) := by decide +kernel
theorem dX4_takeThings_2 : decode cX4_takeThings 2 = .ok (.invokevirtual 53, 3) := by decide +kernel
theorem dX4_takeThings_5 : decode cX4_takeThings 5 = .ok (.iconst (-1), 1) := by decide +kernel
theorem dX4_takeThings_6 : decode cX4_takeThings 6 = .ok (.if_icmp .ne 14, 3) := by decide +kernel
theorem dX4_takeThings_9 : decode cX4_takeThings 9 = .ok (.aload_n 1, 1) := by decide +kernel
theorem dX4_takeThings_10 : decode cX4_takeThings 10 = .ok (.getfield 43, 3) := by decide +kernel
theorem dX4_takeThings_13 : decode cX4_takeThings 13 = .ok (.iconst 1, 1) := by decide +kernel
theorem dX4_takeThings_14 : decode cX4_takeThings 14 = .ok (.iadd, 1) := by decide +kernel
theorem dX4_takeThings_15 : decode cX4_takeThings 15 = .ok (.iconst 4, 1) := by decide +kernel
theorem dX4_takeThings_16 : decode cX4_takeThings 16 = .ok (.idiv, 1) := by decide +kernel
theorem dX4_takeThings_17 : decode cX4_takeThings 17 = .ok (.goto 4, 3) := by decide +kernel
theorem dX4_takeThings_20 : decode cX4_takeThings 20 = .ok (.iconst 0, 1) := by decide +kernel
theorem dX4_takeThings_21 : decode cX4_takeThings 21 = .ok (.putfield 15, 3) := by decide +kernel
theorem dX4_takeThings_24 : decode cX4_takeThings 24 = .ok (.iconst 0, 1) := by decide +kernel
theorem dX4_takeThings_25 : decode cX4_takeThings 25 = .ok (.istore_n 2, 1) := by decide +kernel
theorem dX4_takeThings_26 : decode cX4_takeThings 26 = .ok (.iload_n 2, 1) := by decide +kernel
theorem dX4_takeThings_27 : decode cX4_takeThings 27 = .ok (.aload_n 0, 1) := by decide +kernel
theorem dX4_takeThings_28 : decode cX4_takeThings 28 = .ok (.getfield 15, 3) := by decide +kernel
theorem dX4_takeThings_31 : decode cX4_takeThings 31 = .ok (.if_icmp .ge 64, 3) := by decide +kernel
theorem dX4_takeThings_34 : decode cX4_takeThings 34 = .ok (.aload_n 0, 1) := by decide +kernel
theorem dX4_takeThings_35 : decode cX4_takeThings 35 = .ok (.getfield 22, 3) := by decide +kernel
theorem dX4_takeThings_38 : decode cX4_takeThings 38 = .ok (.iload_n 2, 1) := by decide +kernel
theorem dX4_takeThings_39 : decode cX4_takeThings 39 = .ok (.aload_n 1, 1) := by decide +kernel
theorem dX4_takeThings_40 : decode cX4_takeThings 40 = .ok (.getfield 46, 3) := by decide +kernel
theorem dX4_takeThings_43 : decode cX4_takeThings 43 = .ok (.iconst 4, 1) := by decide +kernel
theorem dX4_takeThings_44 : decode cX4_takeThings 44 = .ok (.iload_n 2, 1) := by decide +kernel
theorem dX4_takeThings_45 : decode cX4_takeThings 45 = .ok (.imul, 1) := by decide +kernel
theorem dX4_takeThings_46 : decode cX4_takeThings 46 = .ok (.iaload, 1) := by decide +kernel
theorem dX4_takeThings_47 : decode cX4_takeThings 47 = .ok (.invokestatic 56, 3) := by decide +kernel
theorem dX4_takeThings_50 : decode cX4_takeThings 50 = .ok (.iastore, 1) := by decide +kernel
theorem dX4_takeThings_51 : decode cX4_takeThings 51 = .ok (.aload_n 0, 1) := by decide +kernel
theorem dX4_takeThings_52 : decode cX4_takeThings 52 = .ok (.getfield 25, 3) := by decide +kernel
theorem dX4_takeThings_55 : decode cX4_takeThings 55 = .ok (.iload_n 2, 1) := by decide +kernel
theorem dX4_takeThings_56 : decode cX4_takeThings 56 = .ok (.aload_n 1, 1) := by decide +kernel
theorem dX4_takeThings_57 : decode cX4_takeThings 57 = .ok (.getfield 46, 3) := by decide +kernel
theorem dX4_takeThings_60 : decode cX4_takeThings 60 = .ok (.iconst 4, 1) := by decide +kernel
theorem dX4_takeThings_61 : decode cX4_takeThings 61 = .ok (.iload_n 2, 1) := by decide +kernel
theorem dX4_takeThings_62 : decode cX4_takeThings 62 = .ok (.imul, 1) := by decide +kernel
theorem dX4_takeThings_63 : decode cX4_takeThings 63 = .ok (.iconst 1, 1) := by decide +kernel
theorem dX4_takeThings_64 : decode cX4_takeThings 64 = .ok (.iadd, 1) := by decide +kernel
theorem dX4_takeThings_65 : decode cX4_takeThings 65 = .ok (.iaload, 1) := by decide +kernel
theorem dX4_takeThings_66 : decode cX4_takeThings 66 = .ok (.bipush 48, 2) := by decide +kernel
theorem dX4_takeThings_68 : decode cX4_takeThings 68 = .ok (.isub, 1) := by decide +kernel
theorem dX4_takeThings_69 : decode cX4_takeThings 69 = .ok (.iastore, 1) := by decide +kernel
theorem dX4_takeThings_70 : decode cX4_takeThings 70 = .ok (.aload_n 0, 1) := by decide +kernel
theorem dX4_takeThings_71 : decode cX4_takeThings 71 = .ok (.getfield 28, 3) := by decide +kernel
theorem dX4_takeThings_74 : decode cX4_takeThings 74 = .ok (.iload_n 2, 1) := by decide +kernel
theorem dX4_takeThings_75 : decode cX4_takeThings 75 = .ok (.aload_n 1, 1) := by decide +kernel
theorem dX4_takeThings_76 : decode cX4_takeThings 76 = .ok (.getfield 46, 3) := by decide +kernel
theorem dX4_takeThings_79 : decode cX4_takeThings 79 = .ok (.iconst 4, 1) := by decide +kernel
theorem dX4_takeThings_80 : decode cX4_takeThings 80 = .ok (.iload_n 2, 1) := by decide +kernel
theorem dX4_takeThings_81 : decode cX4_takeThings 81 = .ok (.imul, 1) := by decide +kernel
theorem dX4_takeThings_82 : decode cX4_takeThings 82 = .ok (.iconst 2, 1) := by decide +kernel
theorem dX4_takeThings_83 : decode cX4_takeThings 83 = .ok (.iadd, 1) := by decide +kernel
theorem dX4_takeThings_84 : decode cX4_takeThings 84 = .ok (.iaload, 1) := by decide +kernel
theorem dX4_takeThings_85 : decode cX4_takeThings 85 = .ok (.bipush 48, 2) := by decide +kernel
theorem dX4_takeThings_87 : decode cX4_takeThings 87 = .ok (.isub, 1) := by decide +kernel
theorem dX4_takeThings_88 : decode cX4_takeThings 88 = .ok (.iastore, 1) := by decide +kernel
theorem dX4_takeThings_89 : decode cX4_takeThings 89 = .ok (.iinc 2 1, 3) := by decide +kernel
theorem dX4_takeThings_92 : decode cX4_takeThings 92 = .ok (.goto (-66), 3) := by decide +kernel
theorem dX4_takeThings_95 : decode cX4_takeThings 95 = .ok (.return_, 1) := by decide +kernel
theorem dX4_takeEvents_0 : decode cX4_takeEvents 0 = .ok (.aload_n 0, 1) := by decide +kernel
theorem dX4_takeEvents_1 : decode cX4_takeEvents 1 = .ok (.getfield 31, 3) := by decide +kernel
theorem dX4_takeEvents_4 : decode cX4_takeEvents 4 = .ok (.iconst 0, 1) := by decide +kernel
theorem dX4_takeEvents_5 : decode cX4_takeEvents 5 = .ok (.invokestatic 59, 3) := by decide +kernel
theorem dX4_takeEvents_8 : decode cX4_takeEvents 8 = .ok (.aload_n 0, 1) := by decide +kernel
theorem dX4_takeEvents_9 : decode cX4_takeEvents 9 = .ok (.getfield 34, 3) := by decide +kernel
theorem dX4_takeEvents_12 : decode cX4_takeEvents 12 = .ok (.iconst 0, 1) := by decide +kernel
theorem dX4_takeEvents_13 : decode cX4_takeEvents 13 = .ok (.invokestatic 59, 3) := by decide +kernel
theorem dX4_takeEvents_16 : decode cX4_takeEvents 16 = .ok (.iconst 0, 1) := by decide +kernel
theorem dX4_takeEvents_17 : decode cX4_takeEvents 17 = .ok (.istore_n 3, 1) := by decide +kernel
theorem dX4_takeEvents_18 : decode cX4_takeEvents 18 = .ok (.iload_n 3, 1) := by decide +kernel
theorem dX4_takeEvents_19 : decode cX4_takeEvents 19 = .ok (.aload_n 1, 1) := by decide +kernel
theorem dX4_takeEvents_20 : decode cX4_takeEvents 20 = .ok (.getfield 65, 3) := by decide +kernel
theorem dX4_takeEvents_23 : decode cX4_takeEvents 23 = .ok (.if_icmp .ge 40, 3) := by decide +kernel
theorem dX4_takeEvents_26 : decode cX4_takeEvents 26 = .ok (.iload_n 2, 1) := by decide +kernel
theorem dX4_takeEvents_27 : decode cX4_takeEvents 27 = .ok (.iload_n 3, 1) := by decide +kernel
theorem dX4_takeEvents_28 : decode cX4_takeEvents 28 = .ok (.ishr, 1) := by decide +kernel
theorem dX4_takeEvents_29 : decode cX4_takeEvents 29 = .ok (.iconst 1, 1) := by decide +kernel
theorem dX4_takeEvents_30 : decode cX4_takeEvents 30 = .ok (.iand, 1) := by decide +kernel
theorem dX4_takeEvents_31 : decode cX4_takeEvents 31 = .ok (.iconst 1, 1) := by decide +kernel
theorem dX4_takeEvents_32 : decode cX4_takeEvents 32 = .ok (.if_icmp .ne 25, 3) := by decide +kernel
theorem dX4_takeEvents_35 : decode cX4_takeEvents 35 = .ok (.aload_n 0, 1) := by decide +kernel
theorem dX4_takeEvents_36 : decode cX4_takeEvents 36 = .ok (.aload_n 1, 1) := by decide +kernel
theorem dX4_takeEvents_37 : decode cX4_takeEvents 37 = .ok (.getfield 70, 3) := by decide +kernel
theorem dX4_takeEvents_40 : decode cX4_takeEvents 40 = .ok (.iload_n 3, 1) := by decide +kernel
theorem dX4_takeEvents_41 : decode cX4_takeEvents 41 = .ok (.iaload, 1) := by decide +kernel
theorem dX4_takeEvents_42 : decode cX4_takeEvents 42 = .ok (.aload_n 1, 1) := by decide +kernel
theorem dX4_takeEvents_43 : decode cX4_takeEvents 43 = .ok (.getfield 73, 3) := by decide +kernel
theorem dX4_takeEvents_46 : decode cX4_takeEvents 46 = .ok (.iload_n 3, 1) := by decide +kernel
theorem dX4_takeEvents_47 : decode cX4_takeEvents 47 = .ok (.iaload, 1) := by decide +kernel
theorem dX4_takeEvents_48 : decode cX4_takeEvents 48 = .ok (.aload_n 1, 1) := by decide +kernel
theorem dX4_takeEvents_49 : decode cX4_takeEvents 49 = .ok (.getfield 76, 3) := by decide +kernel
theorem dX4_takeEvents_52 : decode cX4_takeEvents 52 = .ok (.iload_n 3, 1) := by decide +kernel
theorem dX4_takeEvents_53 : decode cX4_takeEvents 53 = .ok (.iaload, 1) := by decide +kernel
theorem dX4_takeEvents_54 : decode cX4_takeEvents 54 = .ok (.invokevirtual 79, 3) := by decide +kernel
theorem dX4_takeEvents_57 : decode cX4_takeEvents 57 = .ok (.iinc 3 1, 3) := by decide +kernel
theorem dX4_takeEvents_60 : decode cX4_takeEvents 60 = .ok (.goto (-42), 3) := by decide +kernel
theorem dX4_takeEvents_63 : decode cX4_takeEvents 63 = .ok (.return_, 1) := by decide +kernel
theorem dX4_takeEvent_0 : decode cX4_takeEvent 0 = .ok (.iload_n 1, 1) := by decide +kernel
theorem dX4_takeEvent_1 : decode cX4_takeEvent 1 = .ok (.ifCond .eq 8, 3) := by decide +kernel
theorem dX4_takeEvent_4 : decode cX4_takeEvent 4 = .ok (.iload_n 1, 1) := by decide +kernel
theorem dX4_takeEvent_5 : decode cX4_takeEvent 5 = .ok (.iconst 1, 1) := by decide +kernel
theorem dX4_takeEvent_6 : decode cX4_takeEvent 6 = .ok (.if_icmp .ne 18, 3) := by decide +kernel
theorem dX4_takeEvent_9 : decode cX4_takeEvent 9 = .ok (.aload_n 0, 1) := by decide +kernel
theorem dX4_takeEvent_10 : decode cX4_takeEvent 10 = .ok (.getfield 34, 3) := by decide +kernel
theorem dX4_takeEvent_13 : decode cX4_takeEvent 13 = .ok (.iload_n 2, 1) := by decide +kernel
theorem dX4_takeEvent_14 : decode cX4_takeEvent 14 = .ok (.dup2, 1) := by decide +kernel
theorem dX4_takeEvent_15 : decode cX4_takeEvent 15 = .ok (.iaload, 1) := by decide +kernel
theorem dX4_takeEvent_16 : decode cX4_takeEvent 16 = .ok (.iconst 1, 1) := by decide +kernel
theorem dX4_takeEvent_17 : decode cX4_takeEvent 17 = .ok (.iload_n 1, 1) := by decide +kernel
theorem dX4_takeEvent_18 : decode cX4_takeEvent 18 = .ok (.ishl, 1) := by decide +kernel
theorem dX4_takeEvent_19 : decode cX4_takeEvent 19 = .ok (.ior, 1) := by decide +kernel
theorem dX4_takeEvent_20 : decode cX4_takeEvent 20 = .ok (.iastore, 1) := by decide +kernel
theorem dX4_takeEvent_21 : decode cX4_takeEvent 21 = .ok (.goto 15, 3) := by decide +kernel
theorem dX4_takeEvent_24 : decode cX4_takeEvent 24 = .ok (.aload_n 0, 1) := by decide +kernel
theorem dX4_takeEvent_25 : decode cX4_takeEvent 25 = .ok (.getfield 31, 3) := by decide +kernel
theorem dX4_takeEvent_28 : decode cX4_takeEvent 28 = .ok (.iload_n 2, 1) := by decide +kernel
theorem dX4_takeEvent_29 : decode cX4_takeEvent 29 = .ok (.dup2, 1) := by decide +kernel
theorem dX4_takeEvent_30 : decode cX4_takeEvent 30 = .ok (.iaload, 1) := by decide +kernel
theorem dX4_takeEvent_31 : decode cX4_takeEvent 31 = .ok (.iconst 1, 1) := by decide +kernel
theorem dX4_takeEvent_32 : decode cX4_takeEvent 32 = .ok (.iload_n 3, 1) := by decide +kernel
theorem dX4_takeEvent_33 : decode cX4_takeEvent 33 = .ok (.ishl, 1) := by decide +kernel
theorem dX4_takeEvent_34 : decode cX4_takeEvent 34 = .ok (.ior, 1) := by decide +kernel
theorem dX4_takeEvent_35 : decode cX4_takeEvent 35 = .ok (.iastore, 1) := by decide +kernel
theorem dX4_takeEvent_36 : decode cX4_takeEvent 36 = .ok (.return_, 1) := by decide +kernel
theorem dX4_copyFrom_0 : decode cX4_copyFrom 0 = .ok (.aload_n 0, 1) := by decide +kernel
theorem dX4_copyFrom_1 : decode cX4_copyFrom 1 = .ok (.aload_n 1, 1) := by decide +kernel
theorem dX4_copyFrom_2 : decode cX4_copyFrom 2 = .ok (.getfield 9, 3) := by decide +kernel
theorem dX4_copyFrom_5 : decode cX4_copyFrom 5 = .ok (.putfield 9, 3) := by decide +kernel
theorem dX4_copyFrom_8 : decode cX4_copyFrom 8 = .ok (.aload_n 0, 1) := by decide +kernel
theorem dX4_copyFrom_9 : decode cX4_copyFrom 9 = .ok (.aload_n 1, 1) := by decide +kernel
theorem dX4_copyFrom_10 : decode cX4_copyFrom 10 = .ok (.getfield 15, 3) := by decide +kernel
theorem dX4_copyFrom_13 : decode cX4_copyFrom 13 = .ok (.putfield 15, 3) := by decide +kernel
theorem dX4_copyFrom_16 : decode cX4_copyFrom 16 = .ok (.aload_n 1, 1) := by decide +kernel
theorem dX4_copyFrom_17 : decode cX4_copyFrom 17 = .ok (.getfield 18, 3) := by decide +kernel
theorem dX4_copyFrom_20 : decode cX4_copyFrom 20 = .ok (.iconst 0, 1) := by decide +kernel
theorem dX4_copyFrom_21 : decode cX4_copyFrom 21 = .ok (.aload_n 0, 1) := by decide +kernel
theorem dX4_copyFrom_22 : decode cX4_copyFrom 22 = .ok (.getfield 18, 3) := by decide +kernel
theorem dX4_copyFrom_25 : decode cX4_copyFrom 25 = .ok (.iconst 0, 1) := by decide +kernel
theorem dX4_copyFrom_26 : decode cX4_copyFrom 26 = .ok (.bipush 12, 2) := by decide +kernel
theorem dX4_copyFrom_28 : decode cX4_copyFrom 28 = .ok (.invokestatic 83, 3) := by decide +kernel
theorem dX4_copyFrom_31 : decode cX4_copyFrom 31 = .ok (.aload_n 1, 1) := by decide +kernel
theorem dX4_copyFrom_32 : decode cX4_copyFrom 32 = .ok (.getfield 22, 3) := by decide +kernel
theorem dX4_copyFrom_35 : decode cX4_copyFrom 35 = .ok (.iconst 0, 1) := by decide +kernel
theorem dX4_copyFrom_36 : decode cX4_copyFrom 36 = .ok (.aload_n 0, 1) := by decide +kernel
theorem dX4_copyFrom_37 : decode cX4_copyFrom 37 = .ok (.getfield 22, 3) := by decide +kernel
theorem dX4_copyFrom_40 : decode cX4_copyFrom 40 = .ok (.iconst 0, 1) := by decide +kernel
theorem dX4_copyFrom_41 : decode cX4_copyFrom 41 = .ok (.bipush 8, 2) := by decide +kernel
theorem dX4_copyFrom_43 : decode cX4_copyFrom 43 = .ok (.invokestatic 83, 3) := by decide +kernel
theorem dX4_copyFrom_46 : decode cX4_copyFrom 46 = .ok (.aload_n 1, 1) := by decide +kernel
theorem dX4_copyFrom_47 : decode cX4_copyFrom 47 = .ok (.getfield 25, 3) := by decide +kernel
theorem dX4_copyFrom_50 : decode cX4_copyFrom 50 = .ok (.iconst 0, 1) := by decide +kernel
theorem dX4_copyFrom_51 : decode cX4_copyFrom 51 = .ok (.aload_n 0, 1) := by decide +kernel
theorem dX4_copyFrom_52 : decode cX4_copyFrom 52 = .ok (.getfield 25, 3) := by decide +kernel
theorem dX4_copyFrom_55 : decode cX4_copyFrom 55 = .ok (.iconst 0, 1) := by decide +kernel
theorem dX4_copyFrom_56 : decode cX4_copyFrom 56 = .ok (.bipush 8, 2) := by decide +kernel
theorem dX4_copyFrom_58 : decode cX4_copyFrom 58 = .ok (.invokestatic 83, 3) := by decide +kernel
theorem dX4_copyFrom_61 : decode cX4_copyFrom 61 = .ok (.aload_n 1, 1) := by decide +kernel
theorem dX4_copyFrom_62 : decode cX4_copyFrom 62 = .ok (.getfield 28, 3) := by decide +kernel
theorem dX4_copyFrom_65 : decode cX4_copyFrom 65 = .ok (.iconst 0, 1) := by decide +kernel
theorem dX4_copyFrom_66 : decode cX4_copyFrom 66 = .ok (.aload_n 0, 1) := by decide +kernel
theorem dX4_copyFrom_67 : decode cX4_copyFrom 67 = .ok (.getfield 28, 3) := by decide +kernel
theorem dX4_copyFrom_70 : decode cX4_copyFrom 70 = .ok (.iconst 0, 1) := by decide +kernel
theorem dX4_copyFrom_71 : decode cX4_copyFrom 71 = .ok (.bipush 8, 2) := by decide +kernel
theorem dX4_copyFrom_73 : decode cX4_copyFrom 73 = .ok (.invokestatic 83, 3) := by decide +kernel
theorem dX4_copyFrom_76 : decode cX4_copyFrom 76 = .ok (.aload_n 1, 1) := by decide +kernel
theorem dX4_copyFrom_77 : decode cX4_copyFrom 77 = .ok (.getfield 31, 3) := by decide +kernel
theorem dX4_copyFrom_80 : decode cX4_copyFrom 80 = .ok (.iconst 0, 1) := by decide +kernel
theorem dX4_copyFrom_81 : decode cX4_copyFrom 81 = .ok (.aload_n 0, 1) := by decide +kernel
theorem dX4_copyFrom_82 : decode cX4_copyFrom 82 = .ok (.getfield 31, 3) := by decide +kernel
theorem dX4_copyFrom_85 : decode cX4_copyFrom 85 = .ok (.iconst 0, 1) := by decide +kernel
theorem dX4_copyFrom_86 : decode cX4_copyFrom 86 = .ok (.bipush 12, 2) := by decide +kernel
theorem dX4_copyFrom_88 : decode cX4_copyFrom 88 = .ok (.invokestatic 83, 3) := by decide +kernel
theorem dX4_copyFrom_91 : decode cX4_copyFrom 91 = .ok (.aload_n 1, 1) := by decide +kernel
theorem dX4_copyFrom_92 : decode cX4_copyFrom 92 = .ok (.getfield 34, 3) := by decide +kernel
theorem dX4_copyFrom_95 : decode cX4_copyFrom 95 = .ok (.iconst 0, 1) := by decide +kernel
theorem dX4_copyFrom_96 : decode cX4_copyFrom 96 = .ok (.aload_n 0, 1) := by decide +kernel
theorem dX4_copyFrom_97 : decode cX4_copyFrom 97 = .ok (.getfield 34, 3) := by decide +kernel
theorem dX4_copyFrom_100 : decode cX4_copyFrom 100 = .ok (.iconst 0, 1) := by decide +kernel
theorem dX4_copyFrom_101 : decode cX4_copyFrom 101 = .ok (.bipush 12, 2) := by decide +kernel
theorem dX4_copyFrom_103 : decode cX4_copyFrom 103 = .ok (.invokestatic 83, 3) := by decide +kernel
theorem dX4_copyFrom_106 : decode cX4_copyFrom 106 = .ok (.return_, 1) := by decide +kernel
theorem dX4_allThings_0 : decode cX4_allThings 0 = .ok (.iconst 1, 1) := by decide +kernel
theorem dX4_allThings_1 : decode cX4_allThings 1 = .ok (.aload_n 0, 1) := by decide +kernel
theorem dX4_allThings_2 : decode cX4_allThings 2 = .ok (.getfield 15, 3) := by decide +kernel
theorem dX4_allThings_5 : decode cX4_allThings 5 = .ok (.ishl, 1) := by decide +kernel
theorem dX4_allThings_6 : decode cX4_allThings 6 = .ok (.iconst 1, 1) := by decide +kernel
theorem dX4_allThings_7 : decode cX4_allThings 7 = .ok (.isub, 1) := by decide +kernel
theorem dX4_allThings_8 : decode cX4_allThings 8 = .ok (.ireturn, 1) := by decide +kernel
theorem dX4_exchange_0 : decode cX4_exchange 0 = .ok (.aload_n 0, 1) := by decide +kernel
theorem dX4_exchange_1 : decode cX4_exchange 1 = .ok (.getfield 22, 3) := by decide +kernel
theorem dX4_exchange_4 : decode cX4_exchange 4 = .ok (.iload_n 1, 1) := by decide +kernel
theorem dX4_exchange_5 : decode cX4_exchange 5 = .ok (.iload_n 2, 1) := by decide +kernel
theorem dX4_exchange_6 : decode cX4_exchange 6 = .ok (.invokestatic 89, 3) := by decide +kernel
theorem dX4_exchange_9 : decode cX4_exchange 9 = .ok (.aload_n 0, 1) := by decide +kernel
theorem dX4_exchange_10 : decode cX4_exchange 10 = .ok (.getfield 25, 3) := by decide +kernel
theorem dX4_exchange_13 : decode cX4_exchange 13 = .ok (.iload_n 1, 1) := by decide +kernel
theorem dX4_exchange_14 : decode cX4_exchange 14 = .ok (.iload_n 2, 1) := by decide +kernel
theorem dX4_exchange_15 : decode cX4_exchange 15 = .ok (.invokestatic 89, 3) := by decide +kernel
theorem dX4_exchange_18 : decode cX4_exchange 18 = .ok (.aload_n 0, 1) := by decide +kernel
theorem dX4_exchange_19 : decode cX4_exchange 19 = .ok (.getfield 28, 3) := by decide +kernel
theorem dX4_exchange_22 : decode cX4_exchange 22 = .ok (.iload_n 1, 1) := by decide +kernel
theorem dX4_exchange_23 : decode cX4_exchange 23 = .ok (.iload_n 2, 1) := by decide +kernel
theorem dX4_exchange_24 : decode cX4_exchange 24 = .ok (.invokestatic 89, 3) := by decide +kernel
theorem dX4_exchange_27 : decode cX4_exchange 27 = .ok (.return_, 1) := by decide +kernel
theorem dX4_exchangeIn_0 : decode cX4_exchangeIn 0 = .ok (.aload_n 0, 1) := by decide +kernel
theorem dX4_exchangeIn_1 : decode cX4_exchangeIn 1 = .ok (.iload_n 1, 1) := by decide +kernel
theorem dX4_exchangeIn_2 : decode cX4_exchangeIn 2 = .ok (.iaload, 1) := by decide +kernel
theorem dX4_exchangeIn_3 : decode cX4_exchangeIn 3 = .ok (.istore_n 3, 1) := by decide +kernel
theorem dX4_exchangeIn_4 : decode cX4_exchangeIn 4 = .ok (.aload_n 0, 1) := by decide +kernel
theorem dX4_exchangeIn_5 : decode cX4_exchangeIn 5 = .ok (.iload_n 1, 1) := by decide +kernel
theorem dX4_exchangeIn_6 : decode cX4_exchangeIn 6 = .ok (.aload_n 0, 1) := by decide +kernel
theorem dX4_exchangeIn_7 : decode cX4_exchangeIn 7 = .ok (.iload_n 2, 1) := by decide +kernel
theorem dX4_exchangeIn_8 : decode cX4_exchangeIn 8 = .ok (.iaload, 1) := by decide +kernel
theorem dX4_exchangeIn_9 : decode cX4_exchangeIn 9 = .ok (.iastore, 1) := by decide +kernel
theorem dX4_exchangeIn_10 : decode cX4_exchangeIn 10 = .ok (.aload_n 0, 1) := by decide +kernel
theorem dX4_exchangeIn_11 : decode cX4_exchangeIn 11 = .ok (.iload_n 2, 1) := by decide +kernel
theorem dX4_exchangeIn_12 : decode cX4_exchangeIn 12 = .ok (.iload_n 3, 1) := by decide +kernel
theorem dX4_exchangeIn_13 : decode cX4_exchangeIn 13 = .ok (.iastore, 1) := by decide +kernel
theorem dX4_exchangeIn_14 : decode cX4_exchangeIn 14 = .ok (.return_, 1) := by decide +kernel
theorem dX5_init_0 : decode cX5_init 0 = .ok (.aload_n 0, 1) := by decide +kernel
theorem dX5_init_1 : decode cX5_init 1 = .ok (.invokespecial 3, 3) := by decide +kernel
theorem dX5_init_4 : decode cX5_init 4 = .ok (.aload_n 0, 1) := by decide +kernel
theorem dX5_init_5 : decode cX5_init 5 = .ok (.iconst 0, 1) := by decide +kernel
theorem dX5_init_6 : decode cX5_init 6 = .ok (.putfield 9, 3) := by decide +kernel
theorem dX5_init_9 : decode cX5_init 9 = .ok (.aload_n 0, 1) := by decide +kernel
theorem dX5_init_10 : decode cX5_init 10 = .ok (.iconst (-1), 1) := by decide +kernel
theorem dX5_init_11 : decode cX5_init 11 = .ok (.putfield 15, 3) := by decide +kernel
theorem dX5_init_14 : decode cX5_init 14 = .ok (.aload_n 0, 1) := by decide +kernel
theorem dX5_init_15 : decode cX5_init 15 = .ok (.bipush 60, 2) := by decide +kernel
theorem dX5_init_17 : decode cX5_init 17 = .ok (.newarray .int, 2) := by decide +kernel
theorem dX5_init_19 : decode cX5_init 19 = .ok (.putfield 18, 3) := by decide +kernel
theorem dX5_init_22 : decode cX5_init 22 = .ok (.return_, 1) := by decide +kernel
theorem dX5_isLost_0 : decode cX5_isLost 0 = .ok (.aload_n 0, 1) := by decide +kernel
theorem dX5_isLost_1 : decode cX5_isLost 1 = .ok (.getfield 15, 3) := by decide +kernel
theorem dX5_isLost_4 : decode cX5_isLost 4 = .ok (.ifCond .ge 7, 3) := by decide +kernel
theorem dX5_isLost_7 : decode cX5_isLost 7 = .ok (.iconst 1, 1) := by decide +kernel
theorem dX5_isLost_8 : decode cX5_isLost 8 = .ok (.goto 4, 3) := by decide +kernel
theorem dX5_isLost_11 : decode cX5_isLost 11 = .ok (.iconst 0, 1) := by decide +kernel
theorem dX5_isLost_12 : decode cX5_isLost 12 = .ok (.ireturn, 1) := by decide +kernel
theorem dX5_lay_0 : decode cX5_lay 0 = .ok (.aload_n 0, 1) := by decide +kernel
theorem dX5_lay_1 : decode cX5_lay 1 = .ok (.iload_n 1, 1) := by decide +kernel
theorem dX5_lay_2 : decode cX5_lay 2 = .ok (.putfield 9, 3) := by decide +kernel
theorem dX5_lay_5 : decode cX5_lay 5 = .ok (.aload_n 0, 1) := by decide +kernel
theorem dX5_lay_6 : decode cX5_lay 6 = .ok (.iload_n 2, 1) := by decide +kernel
theorem dX5_lay_7 : decode cX5_lay 7 = .ok (.putfield 15, 3) := by decide +kernel
theorem dX5_lay_10 : decode cX5_lay 10 = .ok (.aload_n 0, 1) := by decide +kernel
theorem dX5_lay_11 : decode cX5_lay 11 = .ok (.getfield 18, 3) := by decide +kernel
theorem dX5_lay_14 : decode cX5_lay 14 = .ok (.iconst 0, 1) := by decide +kernel
theorem dX5_lay_15 : decode cX5_lay 15 = .ok (.invokestatic 22, 3) := by decide +kernel
theorem dX5_lay_18 : decode cX5_lay 18 = .ok (.return_, 1) := by decide +kernel
theorem dX5_findingAt_0 : decode cX5_findingAt 0 = .ok (.aload_n 0, 1) := by decide +kernel
theorem dX5_findingAt_1 : decode cX5_findingAt 1 = .ok (.invokevirtual 28, 3) := by decide +kernel
theorem dX5_findingAt_4 : decode cX5_findingAt 4 = .ok (.ifCond .eq 5, 3) := by decide +kernel
theorem dX5_findingAt_7 : decode cX5_findingAt 7 = .ok (.iconst 1, 1) := by decide +kernel
theorem dX5_findingAt_8 : decode cX5_findingAt 8 = .ok (.ireturn, 1) := by decide +kernel
theorem dX5_findingAt_9 : decode cX5_findingAt 9 = .ok (.aload_n 0, 1) := by decide +kernel
theorem dX5_findingAt_10 : decode cX5_findingAt 10 = .ok (.getfield 9, 3) := by decide +kernel
theorem dX5_findingAt_13 : decode cX5_findingAt 13 = .ok (.iload_n 1, 1) := by decide +kernel
theorem dX5_findingAt_14 : decode cX5_findingAt 14 = .ok (.if_icmp .eq 5, 3) := by decide +kernel
theorem dX5_findingAt_17 : decode cX5_findingAt 17 = .ok (.iconst 3, 1) := by decide +kernel
theorem dX5_findingAt_18 : decode cX5_findingAt 18 = .ok (.ireturn, 1) := by decide +kernel
theorem dX5_findingAt_19 : decode cX5_findingAt 19 = .ok (.iload_n 2, 1) := by decide +kernel
theorem dX5_findingAt_20 : decode cX5_findingAt 20 = .ok (.aload_n 0, 1) := by decide +kernel
theorem dX5_findingAt_21 : decode cX5_findingAt 21 = .ok (.getfield 15, 3) := by decide +kernel
theorem dX5_findingAt_24 : decode cX5_findingAt 24 = .ok (.invokestatic 32, 3) := by decide +kernel
theorem dX5_findingAt_27 : decode cX5_findingAt 27 = .ok (.ifCond .eq 7, 3) := by decide +kernel
theorem dX5_findingAt_30 : decode cX5_findingAt 30 = .ok (.iconst 0, 1) := by decide +kernel
theorem dX5_findingAt_31 : decode cX5_findingAt 31 = .ok (.goto 4, 3) := by decide +kernel
theorem dX5_findingAt_34 : decode cX5_findingAt 34 = .ok (.iconst 2, 1) := by decide +kernel
theorem dX5_findingAt_35 : decode cX5_findingAt 35 = .ok (.ireturn, 1) := by decide +kernel
theorem dX5_hasStretch_0 : decode cX5_hasStretch 0 = .ok (.iload_n 1, 1) := by decide +kernel
theorem dX5_hasStretch_1 : decode cX5_hasStretch 1 = .ok (.ifCond .lt 29, 3) := by decide +kernel
theorem dX5_hasStretch_4 : decode cX5_hasStretch 4 = .ok (.iload_n 2, 1) := by decide +kernel
theorem dX5_hasStretch_5 : decode cX5_hasStretch 5 = .ok (.ifCond .lt 25, 3) := by decide +kernel
theorem dX5_hasStretch_8 : decode cX5_hasStretch 8 = .ok (.iload_n 1, 1) := by decide +kernel
theorem dX5_hasStretch_9 : decode cX5_hasStretch 9 = .ok (.aload_n 0, 1) := by decide +kernel
theorem dX5_hasStretch_10 : decode cX5_hasStretch 10 = .ok (.getfield 15, 3) := by decide +kernel
theorem dX5_hasStretch_13 : decode cX5_hasStretch 13 = .ok (.if_icmp .gt 17, 3) := by decide +kernel
theorem dX5_hasStretch_16 : decode cX5_hasStretch 16 = .ok (.iload_n 2, 1) := by decide +kernel
theorem dX5_hasStretch_17 : decode cX5_hasStretch 17 = .ok (.aload_n 0, 1) := by decide +kernel
theorem dX5_hasStretch_18 : decode cX5_hasStretch 18 = .ok (.getfield 15, 3) := by decide +kernel
theorem dX5_hasStretch_21 : decode cX5_hasStretch 21 = .ok (.iload_n 1, 1) := by decide +kernel
theorem dX5_hasStretch_22 : decode cX5_hasStretch 22 = .ok (.isub, 1) := by decide +kernel
theorem dX5_hasStretch_23 : decode cX5_hasStretch 23 = .ok (.if_icmp .gt 7, 3) := by decide +kernel
theorem dX5_hasStretch_26 : decode cX5_hasStretch 26 = .ok (.iconst 1, 1) := by decide +kernel
theorem dX5_hasStretch_27 : decode cX5_hasStretch 27 = .ok (.goto 4, 3) := by decide +kernel
theorem dX5_hasStretch_30 : decode cX5_hasStretch 30 = .ok (.iconst 0, 1) := by decide +kernel
theorem dX5_hasStretch_31 : decode cX5_hasStretch 31 = .ok (.ireturn, 1) := by decide +kernel
theorem dX5_lowestBits_0 : decode cX5_lowestBits 0 = .ok (.aload_n 0, 1) := by decide +kernel
theorem dX5_lowestBits_1 : decode cX5_lowestBits 1 = .ok (.getfield 9, 3) := by decide +kernel
theorem dX5_lowestBits_4 : decode cX5_lowestBits 4 = .ok (.ifCond .ne 6, 3) := by decide +kernel
theorem dX5_lowestBits_7 : decode cX5_lowestBits 7 = .ok (.iload_n 1, 1) := by decide +kernel
theorem dX5_lowestBits_8 : decode cX5_lowestBits 8 = .ok (.i2b, 1) := by decide +kernel
theorem dX5_lowestBits_9 : decode cX5_lowestBits 9 = .ok (.ireturn, 1) := by decide +kernel
theorem dX5_lowestBits_10 : decode cX5_lowestBits 10 = .ok (.aload_n 0, 1) := by decide +kernel
theorem dX5_lowestBits_11 : decode cX5_lowestBits 11 = .ok (.getfield 9, 3) := by decide +kernel
theorem dX5_lowestBits_14 : decode cX5_lowestBits 14 = .ok (.iconst 1, 1) := by decide +kernel
theorem dX5_lowestBits_15 : decode cX5_lowestBits 15 = .ok (.if_icmp .ne 8, 3) := by decide +kernel
theorem dX5_lowestBits_18 : decode cX5_lowestBits 18 = .ok (.iload_n 1, 1) := by decide +kernel
theorem dX5_lowestBits_19 : decode cX5_lowestBits 19 = .ok (.i2s, 1) := by decide +kernel
theorem dX5_lowestBits_20 : decode cX5_lowestBits 20 = .ok (.goto 4, 3) := by decide +kernel
theorem dX5_lowestBits_23 : decode cX5_lowestBits 23 = .ok (.iload_n 1, 1) := by decide +kernel
theorem dX5_lowestBits_24 : decode cX5_lowestBits 24 = .ok (.ireturn, 1) := by decide +kernel
theorem dX6_init_0 : decode cX6_init 0 = .ok (.aload_n 0, 1) := by decide +kernel
theorem dX6_init_1 : decode cX6_init 1 = .ok (.invokespecial 3, 3) := by decide +kernel
theorem dX6_init_4 : decode cX6_init 4 = .ok (.aload_n 0, 1) := by decide +kernel
theorem dX6_init_5 : decode cX6_init 5 = .ok (.bipush 31, 2) := by decide +kernel
theorem dX6_init_7 : decode cX6_init 7 = .ok (.newarray .int, 2) := by decide +kernel
theorem dX6_init_9 : decode cX6_init 9 = .ok (.putfield 9, 3) := by decide +kernel
theorem dX6_init_12 : decode cX6_init 12 = .ok (.aload_n 0, 1) := by decide +kernel
theorem dX6_init_13 : decode cX6_init 13 = .ok (.iconst 0, 1) := by decide +kernel
theorem dX6_init_14 : decode cX6_init 14 = .ok (.putfield 15, 3) := by decide +kernel
theorem dX6_init_17 : decode cX6_init 17 = .ok (.aload_n 0, 1) := by decide +kernel
theorem dX6_init_18 : decode cX6_init 18 = .ok (.iload_n 1, 1) := by decide +kernel
theorem dX6_init_19 : decode cX6_init 19 = .ok (.bipush 31, 2) := by decide +kernel
theorem dX6_init_21 : decode cX6_init 21 = .ok (.invokestatic 19, 3) := by decide +kernel
theorem dX6_init_24 : decode cX6_init 24 = .ok (.putfield 25, 3) := by decide +kernel
theorem dX6_init_27 : decode cX6_init 27 = .ok (.return_, 1) := by decide +kernel
theorem dX6_faultOfHooks_0 : decode cX6_faultOfHooks 0 = .ok (.iconst 0, 1) := by decide +kernel
theorem dX6_faultOfHooks_1 : decode cX6_faultOfHooks 1 = .ok (.istore_n 1, 1) := by decide +kernel
theorem dX6_faultOfHooks_2 : decode cX6_faultOfHooks 2 = .ok (.iload_n 1, 1) := by decide +kernel
theorem dX6_faultOfHooks_3 : decode cX6_faultOfHooks 3 = .ok (.aload_n 0, 1) := by decide +kernel
theorem dX6_faultOfHooks_4 : decode cX6_faultOfHooks 4 = .ok (.getfield 15, 3) := by decide +kernel
theorem dX6_faultOfHooks_7 : decode cX6_faultOfHooks 7 = .ok (.if_icmp .ge 24, 3) := by decide +kernel
theorem dX6_faultOfHooks_10 : decode cX6_faultOfHooks 10 = .ok (.aload_n 0, 1) := by decide +kernel
theorem dX6_faultOfHooks_11 : decode cX6_faultOfHooks 11 = .ok (.getfield 9, 3) := by decide +kernel
theorem dX6_faultOfHooks_14 : decode cX6_faultOfHooks 14 = .ok (.iload_n 1, 1) := by decide +kernel
theorem dX6_faultOfHooks_15 : decode cX6_faultOfHooks 15 = .ok (.iaload, 1) := by decide +kernel
theorem dX6_faultOfHooks_16 : decode cX6_faultOfHooks 16 = .ok (.invokestatic 28, 3) := by decide +kernel
theorem dX6_faultOfHooks_19 : decode cX6_faultOfHooks 19 = .ok (.iconst (-1), 1) := by decide +kernel
theorem dX6_faultOfHooks_20 : decode cX6_faultOfHooks 20 = .ok (.if_icmp .ne 5, 3) := by decide +kernel
theorem dX6_faultOfHooks_23 : decode cX6_faultOfHooks 23 = .ok (.iload_n 1, 1) := by decide +kernel
theorem dX6_faultOfHooks_24 : decode cX6_faultOfHooks 24 = .ok (.ireturn, 1) := by decide +kernel
theorem dX6_faultOfHooks_25 : decode cX6_faultOfHooks 25 = .ok (.iinc 1 1, 3) := by decide +kernel
theorem dX6_faultOfHooks_28 : decode cX6_faultOfHooks 28 = .ok (.goto (-26), 3) := by decide +kernel
theorem dX6_faultOfHooks_31 : decode cX6_faultOfHooks 31 = .ok (.iconst (-1), 1) := by decide +kernel
theorem dX6_faultOfHooks_32 : decode cX6_faultOfHooks 32 = .ok (.ireturn, 1) := by decide +kernel
theorem dX6_faultOfThings_0 : decode cX6_faultOfThings 0 = .ok (.iconst 0, 1) := by decide +kernel
theorem dX6_faultOfThings_1 : decode cX6_faultOfThings 1 = .ok (.istore_n 1, 1) := by decide +kernel
theorem dX6_faultOfThings_2 : decode cX6_faultOfThings 2 = .ok (.iload_n 1, 1) := by decide +kernel
theorem dX6_faultOfThings_3 : decode cX6_faultOfThings 3 = .ok (.aload_n 0, 1) := by decide +kernel
theorem dX6_faultOfThings_4 : decode cX6_faultOfThings 4 = .ok (.getfield 15, 3) := by decide +kernel
theorem dX6_faultOfThings_7 : decode cX6_faultOfThings 7 = .ok (.if_icmp .ge 24, 3) := by decide +kernel
theorem dX6_faultOfThings_10 : decode cX6_faultOfThings 10 = .ok (.iload_n 1, 1) := by decide +kernel
theorem dX6_faultOfThings_11 : decode cX6_faultOfThings 11 = .ok (.aload_n 0, 1) := by decide +kernel
theorem dX6_faultOfThings_12 : decode cX6_faultOfThings 12 = .ok (.getfield 9, 3) := by decide +kernel
theorem dX6_faultOfThings_15 : decode cX6_faultOfThings 15 = .ok (.iload_n 1, 1) := by decide +kernel
theorem dX6_faultOfThings_16 : decode cX6_faultOfThings 16 = .ok (.iaload, 1) := by decide +kernel
theorem dX6_faultOfThings_17 : decode cX6_faultOfThings 17 = .ok (.invokestatic 32, 3) := by decide +kernel
theorem dX6_faultOfThings_20 : decode cX6_faultOfThings 20 = .ok (.ifCond .ne 5, 3) := by decide +kernel
theorem dX6_faultOfThings_23 : decode cX6_faultOfThings 23 = .ok (.iload_n 1, 1) := by decide +kernel
theorem dX6_faultOfThings_24 : decode cX6_faultOfThings 24 = .ok (.ireturn, 1) := by decide +kernel
theorem dX6_faultOfThings_25 : decode cX6_faultOfThings 25 = .ok (.iinc 1 1, 3) := by decide +kernel
theorem dX6_faultOfThings_28 : decode cX6_faultOfThings 28 = .ok (.goto (-26), 3) := by decide +kernel
theorem dX6_faultOfThings_31 : decode cX6_faultOfThings 31 = .ok (.aload_n 0, 1) := by decide +kernel
theorem dX6_faultOfThings_32 : decode cX6_faultOfThings 32 = .ok (.getfield 15, 3) := by decide +kernel
theorem dX6_faultOfThings_35 : decode cX6_faultOfThings 35 = .ok (.ifCond .eq 13, 3) := by decide +kernel
theorem dX6_faultOfThings_38 : decode cX6_faultOfThings 38 = .ok (.aload_n 0, 1) := by decide +kernel
theorem dX6_faultOfThings_39 : decode cX6_faultOfThings 39 = .ok (.getfield 15, 3) := by decide +kernel
theorem dX6_faultOfThings_42 : decode cX6_faultOfThings 42 = .ok (.iconst 4, 1) := by decide +kernel
theorem dX6_faultOfThings_43 : decode cX6_faultOfThings 43 = .ok (.irem, 1) := by decide +kernel
theorem dX6_faultOfThings_44 : decode cX6_faultOfThings 44 = .ok (.iconst 3, 1) := by decide +kernel
theorem dX6_faultOfThings_45 : decode cX6_faultOfThings 45 = .ok (.if_icmp .ne 7, 3) := by decide +kernel
theorem dX6_faultOfThings_48 : decode cX6_faultOfThings 48 = .ok (.iconst (-1), 1) := by decide +kernel
theorem dX6_faultOfThings_49 : decode cX6_faultOfThings 49 = .ok (.goto 7, 3) := by decide +kernel
theorem dX6_faultOfThings_52 : decode cX6_faultOfThings 52 = .ok (.aload_n 0, 1) := by decide +kernel
theorem dX6_faultOfThings_53 : decode cX6_faultOfThings 53 = .ok (.getfield 15, 3) := by decide +kernel
theorem dX6_faultOfThings_56 : decode cX6_faultOfThings 56 = .ok (.ireturn, 1) := by decide +kernel
theorem dX6_mayStand_0 : decode cX6_mayStand 0 = .ok (.iload_n 0, 1) := by decide +kernel
theorem dX6_mayStand_1 : decode cX6_mayStand 1 = .ok (.iconst 4, 1) := by decide +kernel
theorem dX6_mayStand_2 : decode cX6_mayStand 2 = .ok (.irem, 1) := by decide +kernel
theorem dX6_mayStand_3 : decode cX6_mayStand 3 = .ok (.tableswitch 75 0 2 #[25, 39, 57], 25) := by decide +kernel
theorem dX6_mayStand_28 : decode cX6_mayStand 28 = .ok (.iload_n 1, 1) := by decide +kernel
theorem dX6_mayStand_29 : decode cX6_mayStand 29 = .ok (.invokestatic 36, 3) := by decide +kernel
theorem dX6_mayStand_32 : decode cX6_mayStand 32 = .ok (.iconst (-1), 1) := by decide +kernel
theorem dX6_mayStand_33 : decode cX6_mayStand 33 = .ok (.if_icmp .eq 7, 3) := by decide +kernel
theorem dX6_mayStand_36 : decode cX6_mayStand 36 = .ok (.iconst 1, 1) := by decide +kernel
theorem dX6_mayStand_37 : decode cX6_mayStand 37 = .ok (.goto 4, 3) := by decide +kernel
theorem dX6_mayStand_40 : decode cX6_mayStand 40 = .ok (.iconst 0, 1) := by decide +kernel
theorem dX6_mayStand_41 : decode cX6_mayStand 41 = .ok (.ireturn, 1) := by decide +kernel
theorem dX6_mayStand_42 : decode cX6_mayStand 42 = .ok (.iload_n 1, 1) := by decide +kernel
theorem dX6_mayStand_43 : decode cX6_mayStand 43 = .ok (.bipush 49, 2) := by decide +kernel
theorem dX6_mayStand_45 : decode cX6_mayStand 45 = .ok (.if_icmp .lt 13, 3) := by decide +kernel
theorem dX6_mayStand_48 : decode cX6_mayStand 48 = .ok (.iload_n 1, 1) := by decide +kernel
theorem dX6_mayStand_49 : decode cX6_mayStand 49 = .ok (.bipush 57, 2) := by decide +kernel
theorem dX6_mayStand_51 : decode cX6_mayStand 51 = .ok (.if_icmp .gt 7, 3) := by decide +kernel
theorem dX6_mayStand_54 : decode cX6_mayStand 54 = .ok (.iconst 1, 1) := by decide +kernel
theorem dX6_mayStand_55 : decode cX6_mayStand 55 = .ok (.goto 4, 3) := by decide +kernel
theorem dX6_mayStand_58 : decode cX6_mayStand 58 = .ok (.iconst 0, 1) := by decide +kernel
theorem dX6_mayStand_59 : decode cX6_mayStand 59 = .ok (.ireturn, 1) := by decide +kernel
theorem dX6_mayStand_60 : decode cX6_mayStand 60 = .ok (.iload_n 1, 1) := by decide +kernel
theorem dX6_mayStand_61 : decode cX6_mayStand 61 = .ok (.bipush 48, 2) := by decide +kernel
theorem dX6_mayStand_63 : decode cX6_mayStand 63 = .ok (.if_icmp .lt 13, 3) := by decide +kernel
theorem dX6_mayStand_66 : decode cX6_mayStand 66 = .ok (.iload_n 1, 1) := by decide +kernel
theorem dX6_mayStand_67 : decode cX6_mayStand 67 = .ok (.bipush 57, 2) := by decide +kernel
theorem dX6_mayStand_69 : decode cX6_mayStand 69 = .ok (.if_icmp .gt 7, 3) := by decide +kernel
theorem dX6_mayStand_72 : decode cX6_mayStand 72 = .ok (.iconst 1, 1) := by decide +kernel
theorem dX6_mayStand_73 : decode cX6_mayStand 73 = .ok (.goto 4, 3) := by decide +kernel
theorem dX6_mayStand_76 : decode cX6_mayStand 76 = .ok (.iconst 0, 1) := by decide +kernel
theorem dX6_mayStand_77 : decode cX6_mayStand 77 = .ok (.ireturn, 1) := by decide +kernel
theorem dX6_mayStand_78 : decode cX6_mayStand 78 = .ok (.iload_n 1, 1) := by decide +kernel
theorem dX6_mayStand_79 : decode cX6_mayStand 79 = .ok (.bipush 59, 2) := by decide +kernel
theorem dX6_mayStand_81 : decode cX6_mayStand 81 = .ok (.if_icmp .ne 7, 3) := by decide +kernel
theorem dX6_mayStand_84 : decode cX6_mayStand 84 = .ok (.iconst 1, 1) := by decide +kernel
theorem dX6_mayStand_85 : decode cX6_mayStand 85 = .ok (.goto 4, 3) := by decide +kernel
theorem dX6_mayStand_88 : decode cX6_mayStand 88 = .ok (.iconst 0, 1) := by decide +kernel
theorem dX6_mayStand_89 : decode cX6_mayStand 89 = .ok (.ireturn, 1) := by decide +kernel
theorem dX6_minutesOf_0 : decode cX6_minutesOf 0 = .ok (.iload_n 0, 1) := by decide +kernel
theorem dX6_minutesOf_1 : decode cX6_minutesOf 1 = .ok (.lookupswitch 41 #[(103, 35), (104, 37), (115, 39)], 35) := by decide +kernel
theorem dX6_minutesOf_36 : decode cX6_minutesOf 36 = .ok (.iconst 0, 1) := by decide +kernel
theorem dX6_minutesOf_37 : decode cX6_minutesOf 37 = .ok (.ireturn, 1) := by decide +kernel
theorem dX6_minutesOf_38 : decode cX6_minutesOf 38 = .ok (.iconst 1, 1) := by decide +kernel
theorem dX6_minutesOf_39 : decode cX6_minutesOf 39 = .ok (.ireturn, 1) := by decide +kernel
theorem dX6_minutesOf_40 : decode cX6_minutesOf 40 = .ok (.iconst 2, 1) := by decide +kernel
theorem dX6_minutesOf_41 : decode cX6_minutesOf 41 = .ok (.ireturn, 1) := by decide +kernel
theorem dX6_minutesOf_42 : decode cX6_minutesOf 42 = .ok (.iconst (-1), 1) := by decide +kernel
theorem dX6_minutesOf_43 : decode cX6_minutesOf 43 = .ok (.ireturn, 1) := by decide +kernel
theorem dX6_sortOf_0 : decode cX6_sortOf 0 = .ok (.iload_n 0, 1) := by decide +kernel
theorem dX6_sortOf_1 : decode cX6_sortOf 1 = .ok (.lookupswitch 41 #[(109, 35), (113, 39), (119, 37)], 35) := by decide +kernel
theorem dX6_sortOf_36 : decode cX6_sortOf 36 = .ok (.iconst 0, 1) := by decide +kernel
theorem dX6_sortOf_37 : decode cX6_sortOf 37 = .ok (.ireturn, 1) := by decide +kernel
theorem dX6_sortOf_38 : decode cX6_sortOf 38 = .ok (.iconst 1, 1) := by decide +kernel
theorem dX6_sortOf_39 : decode cX6_sortOf 39 = .ok (.ireturn, 1) := by decide +kernel
theorem dX6_sortOf_40 : decode cX6_sortOf 40 = .ok (.iconst 2, 1) := by decide +kernel
theorem dX6_sortOf_41 : decode cX6_sortOf 41 = .ok (.ireturn, 1) := by decide +kernel
theorem dX6_sortOf_42 : decode cX6_sortOf 42 = .ok (.iconst (-1), 1) := by decide +kernel
theorem dX6_sortOf_43 : decode cX6_sortOf 43 = .ok (.ireturn, 1) := by decide +kernel
theorem dX7_init_0 : decode cX7_init 0 = .ok (.aload_n 0, 1) := by decide +kernel
theorem dX7_init_1 : decode cX7_init 1 = .ok (.invokespecial 3, 3) := by decide +kernel
theorem dX7_init_4 : decode cX7_init 4 = .ok (.aload_n 0, 1) := by decide +kernel
theorem dX7_init_5 : decode cX7_init 5 = .ok (.bipush 8, 2) := by decide +kernel
theorem dX7_init_7 : decode cX7_init 7 = .ok (.newarray .int, 2) := by decide +kernel
theorem dX7_init_9 : decode cX7_init 9 = .ok (.putfield 9, 3) := by decide +kernel
theorem dX7_init_12 : decode cX7_init 12 = .ok (.aload_n 0, 1) := by decide +kernel
theorem dX7_init_13 : decode cX7_init 13 = .ok (.bipush 8, 2) := by decide +kernel
theorem dX7_init_15 : decode cX7_init 15 = .ok (.newarray .int, 2) := by decide +kernel
theorem dX7_init_17 : decode cX7_init 17 = .ok (.putfield 15, 3) := by decide +kernel
theorem dX7_init_20 : decode cX7_init 20 = .ok (.aload_n 0, 1) := by decide +kernel
theorem dX7_init_21 : decode cX7_init 21 = .ok (.bipush 8, 2) := by decide +kernel
theorem dX7_init_23 : decode cX7_init 23 = .ok (.newarray .int, 2) := by decide +kernel
theorem dX7_init_25 : decode cX7_init 25 = .ok (.putfield 18, 3) := by decide +kernel
theorem dX7_init_28 : decode cX7_init 28 = .ok (.aload_n 0, 1) := by decide +kernel
theorem dX7_init_29 : decode cX7_init 29 = .ok (.iconst 0, 1) := by decide +kernel
theorem dX7_init_30 : decode cX7_init 30 = .ok (.putfield 21, 3) := by decide +kernel
theorem dX7_init_33 : decode cX7_init 33 = .ok (.return_, 1) := by decide +kernel
theorem dX7_isFull_0 : decode cX7_isFull 0 = .ok (.aload_n 0, 1) := by decide +kernel
theorem dX7_isFull_1 : decode cX7_isFull 1 = .ok (.getfield 21, 3) := by decide +kernel
theorem dX7_isFull_4 : decode cX7_isFull 4 = .ok (.bipush 8, 2) := by decide +kernel
theorem dX7_isFull_6 : decode cX7_isFull 6 = .ok (.if_icmp .lt 7, 3) := by decide +kernel
theorem dX7_isFull_9 : decode cX7_isFull 9 = .ok (.iconst 1, 1) := by decide +kernel
theorem dX7_isFull_10 : decode cX7_isFull 10 = .ok (.goto 4, 3) := by decide +kernel
theorem dX7_isFull_13 : decode cX7_isFull 13 = .ok (.iconst 0, 1) := by decide +kernel
theorem dX7_isFull_14 : decode cX7_isFull 14 = .ok (.ireturn, 1) := by decide +kernel
theorem dX7_append_0 : decode cX7_append 0 = .ok (.aload_n 0, 1) := by decide +kernel
theorem dX7_append_1 : decode cX7_append 1 = .ok (.invokevirtual 25, 3) := by decide +kernel
theorem dX7_append_4 : decode cX7_append 4 = .ok (.ifCond .eq 4, 3) := by decide +kernel
theorem dX7_append_7 : decode cX7_append 7 = .ok (.return_, 1) := by decide +kernel
theorem dX7_append_8 : decode cX7_append 8 = .ok (.aload_n 0, 1) := by decide +kernel
theorem dX7_append_9 : decode cX7_append 9 = .ok (.getfield 9, 3) := by decide +kernel
theorem dX7_append_12 : decode cX7_append 12 = .ok (.aload_n 0, 1) := by decide +kernel
theorem dX7_append_13 : decode cX7_append 13 = .ok (.getfield 21, 3) := by decide +kernel
theorem dX7_append_16 : decode cX7_append 16 = .ok (.iload_n 1, 1) := by decide +kernel
theorem dX7_append_17 : decode cX7_append 17 = .ok (.iastore, 1) := by decide +kernel
theorem dX7_append_18 : decode cX7_append 18 = .ok (.aload_n 0, 1) := by decide +kernel
theorem dX7_append_19 : decode cX7_append 19 = .ok (.getfield 15, 3) := by decide +kernel
theorem dX7_append_22 : decode cX7_append 22 = .ok (.aload_n 0, 1) := by decide +kernel
theorem dX7_append_23 : decode cX7_append 23 = .ok (.getfield 21, 3) := by decide +kernel
theorem dX7_append_26 : decode cX7_append 26 = .ok (.iload_n 2, 1) := by decide +kernel
theorem dX7_append_27 : decode cX7_append 27 = .ok (.iastore, 1) := by decide +kernel
theorem dX7_append_28 : decode cX7_append 28 = .ok (.aload_n 0, 1) := by decide +kernel
theorem dX7_append_29 : decode cX7_append 29 = .ok (.getfield 18, 3) := by decide +kernel
theorem dX7_append_32 : decode cX7_append 32 = .ok (.aload_n 0, 1) := by decide +kernel
theorem dX7_append_33 : decode cX7_append 33 = .ok (.getfield 21, 3) := by decide +kernel
theorem dX7_append_36 : decode cX7_append 36 = .ok (.iload_n 3, 1) := by decide +kernel
theorem dX7_append_37 : decode cX7_append 37 = .ok (.iastore, 1) := by decide +kernel
theorem dX7_append_38 : decode cX7_append 38 = .ok (.aload_n 0, 1) := by decide +kernel
theorem dX7_append_39 : decode cX7_append 39 = .ok (.dup, 1) := by decide +kernel
theorem dX7_append_40 : decode cX7_append 40 = .ok (.getfield 21, 3) := by decide +kernel
theorem dX7_append_43 : decode cX7_append 43 = .ok (.iconst 1, 1) := by decide +kernel
theorem dX7_append_44 : decode cX7_append 44 = .ok (.iadd, 1) := by decide +kernel
theorem dX7_append_45 : decode cX7_append 45 = .ok (.putfield 21, 3) := by decide +kernel
theorem dX7_append_48 : decode cX7_append 48 = .ok (.return_, 1) := by decide +kernel
theorem dJ_fill_0 : decode cJ_fill 0 = .ok (.iconst 0, 1) := by decide +kernel
theorem dJ_fill_1 : decode cJ_fill 1 = .ok (.istore_n 2, 1) := by decide +kernel
theorem dJ_fill_2 : decode cJ_fill 2 = .ok (.aload_n 0, 1) := by decide +kernel
theorem dJ_fill_3 : decode cJ_fill 3 = .ok (.arraylength, 1) := by decide +kernel
theorem dJ_fill_4 : decode cJ_fill 4 = .ok (.istore_n 3, 1) := by decide +kernel
theorem dJ_fill_5 : decode cJ_fill 5 = .ok (.iload_n 2, 1) := by decide +kernel
theorem dJ_fill_6 : decode cJ_fill 6 = .ok (.iload_n 3, 1) := by decide +kernel
theorem dJ_fill_7 : decode cJ_fill 7 = .ok (.if_icmp .ge 13, 3) := by decide +kernel
theorem dJ_fill_10 : decode cJ_fill 10 = .ok (.aload_n 0, 1) := by decide +kernel
theorem dJ_fill_11 : decode cJ_fill 11 = .ok (.iload_n 2, 1) := by decide +kernel
theorem dJ_fill_12 : decode cJ_fill 12 = .ok (.iload_n 1, 1) := by decide +kernel
theorem dJ_fill_13 : decode cJ_fill 13 = .ok (.iastore, 1) := by decide +kernel
theorem dJ_fill_14 : decode cJ_fill 14 = .ok (.iinc 2 1, 3) := by decide +kernel
theorem dJ_fill_17 : decode cJ_fill 17 = .ok (.goto (-12), 3) := by decide +kernel
theorem dJ_fill_20 : decode cJ_fill 20 = .ok (.return_, 1) := by decide +kernel
