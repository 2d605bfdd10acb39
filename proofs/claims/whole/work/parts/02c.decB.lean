theorem dX8_init_0 : decode cX8_init 0 = .ok (.aload_n 0, 1) := by decide +kernel
theorem dX8_init_1 : decode cX8_init 1 = .ok (.invokespecial 3, 3) := by decide +kernel
theorem dX8_init_4 : decode cX8_init 4 = .ok (.aload_n 0, 1) := by decide +kernel
theorem dX8_init_5 : decode cX8_init 5 = .ok (.new 9, 3) := by decide +kernel
theorem dX8_init_8 : decode cX8_init 8 = .ok (.dup, 1) := by decide +kernel
theorem dX8_init_9 : decode cX8_init 9 = .ok (.bipush 12, 2) := by decide +kernel
theorem dX8_init_11 : decode cX8_init 11 = .ok (.invokespecial 11, 3) := by decide +kernel
theorem dX8_init_14 : decode cX8_init 14 = .ok (.putfield 14, 3) := by decide +kernel
theorem dX8_init_17 : decode cX8_init 17 = .ok (.aload_n 0, 1) := by decide +kernel
theorem dX8_init_18 : decode cX8_init 18 = .ok (.new 9, 3) := by decide +kernel
theorem dX8_init_21 : decode cX8_init 21 = .ok (.dup, 1) := by decide +kernel
theorem dX8_init_22 : decode cX8_init 22 = .ok (.bipush 31, 2) := by decide +kernel
theorem dX8_init_24 : decode cX8_init 24 = .ok (.invokespecial 11, 3) := by decide +kernel
theorem dX8_init_27 : decode cX8_init 27 = .ok (.putfield 18, 3) := by decide +kernel
theorem dX8_init_30 : decode cX8_init 30 = .ok (.aload_n 0, 1) := by decide +kernel
theorem dX8_init_31 : decode cX8_init 31 = .ok (.new 21, 3) := by decide +kernel
theorem dX8_init_34 : decode cX8_init 34 = .ok (.dup, 1) := by decide +kernel
theorem dX8_init_35 : decode cX8_init 35 = .ok (.invokespecial 23, 3) := by decide +kernel
theorem dX8_init_38 : decode cX8_init 38 = .ok (.putfield 24, 3) := by decide +kernel
theorem dX8_init_41 : decode cX8_init 41 = .ok (.aload_n 0, 1) := by decide +kernel
theorem dX8_init_42 : decode cX8_init 42 = .ok (.new 21, 3) := by decide +kernel
theorem dX8_init_45 : decode cX8_init 45 = .ok (.dup, 1) := by decide +kernel
theorem dX8_init_46 : decode cX8_init 46 = .ok (.invokespecial 23, 3) := by decide +kernel
theorem dX8_init_49 : decode cX8_init 49 = .ok (.putfield 28, 3) := by decide +kernel
theorem dX8_init_52 : decode cX8_init 52 = .ok (.aload_n 0, 1) := by decide +kernel
theorem dX8_init_53 : decode cX8_init 53 = .ok (.iconst 4, 1) := by decide +kernel
theorem dX8_init_54 : decode cX8_init 54 = .ok (.anewarray 31, 3) := by decide +kernel
theorem dX8_init_57 : decode cX8_init 57 = .ok (.putfield 33, 3) := by decide +kernel
theorem dX8_init_60 : decode cX8_init 60 = .ok (.aload_n 0, 1) := by decide +kernel
theorem dX8_init_61 : decode cX8_init 61 = .ok (.new 37, 3) := by decide +kernel
theorem dX8_init_64 : decode cX8_init 64 = .ok (.dup, 1) := by decide +kernel
theorem dX8_init_65 : decode cX8_init 65 = .ok (.invokespecial 39, 3) := by decide +kernel
theorem dX8_init_68 : decode cX8_init 68 = .ok (.putfield 40, 3) := by decide +kernel
theorem dX8_init_71 : decode cX8_init 71 = .ok (.aload_n 0, 1) := by decide +kernel
theorem dX8_init_72 : decode cX8_init 72 = .ok (.new 37, 3) := by decide +kernel
theorem dX8_init_75 : decode cX8_init 75 = .ok (.dup, 1) := by decide +kernel
theorem dX8_init_76 : decode cX8_init 76 = .ok (.invokespecial 39, 3) := by decide +kernel
theorem dX8_init_79 : decode cX8_init 79 = .ok (.putfield 44, 3) := by decide +kernel
theorem dX8_init_82 : decode cX8_init 82 = .ok (.aload_n 0, 1) := by decide +kernel
theorem dX8_init_83 : decode cX8_init 83 = .ok (.new 47, 3) := by decide +kernel
theorem dX8_init_86 : decode cX8_init 86 = .ok (.dup, 1) := by decide +kernel
theorem dX8_init_87 : decode cX8_init 87 = .ok (.invokespecial 49, 3) := by decide +kernel
theorem dX8_init_90 : decode cX8_init 90 = .ok (.putfield 50, 3) := by decide +kernel
theorem dX8_init_93 : decode cX8_init 93 = .ok (.aload_n 0, 1) := by decide +kernel
theorem dX8_init_94 : decode cX8_init 94 = .ok (.new 47, 3) := by decide +kernel
theorem dX8_init_97 : decode cX8_init 97 = .ok (.dup, 1) := by decide +kernel
theorem dX8_init_98 : decode cX8_init 98 = .ok (.invokespecial 49, 3) := by decide +kernel
theorem dX8_init_101 : decode cX8_init 101 = .ok (.putfield 54, 3) := by decide +kernel
theorem dX8_init_104 : decode cX8_init 104 = .ok (.aload_n 0, 1) := by decide +kernel
theorem dX8_init_105 : decode cX8_init 105 = .ok (.new 57, 3) := by decide +kernel
theorem dX8_init_108 : decode cX8_init 108 = .ok (.dup, 1) := by decide +kernel
theorem dX8_init_109 : decode cX8_init 109 = .ok (.invokespecial 59, 3) := by decide +kernel
theorem dX8_init_112 : decode cX8_init 112 = .ok (.putfield 60, 3) := by decide +kernel
theorem dX8_init_115 : decode cX8_init 115 = .ok (.aload_n 0, 1) := by decide +kernel
theorem dX8_init_116 : decode cX8_init 116 = .ok (.new 64, 3) := by decide +kernel
theorem dX8_init_119 : decode cX8_init 119 = .ok (.dup, 1) := by decide +kernel
theorem dX8_init_120 : decode cX8_init 120 = .ok (.invokespecial 66, 3) := by decide +kernel
theorem dX8_init_123 : decode cX8_init 123 = .ok (.putfield 67, 3) := by decide +kernel
theorem dX8_init_126 : decode cX8_init 126 = .ok (.aload_n 0, 1) := by decide +kernel
theorem dX8_init_127 : decode cX8_init 127 = .ok (.new 71, 3) := by decide +kernel
theorem dX8_init_130 : decode cX8_init 130 = .ok (.dup, 1) := by decide +kernel
theorem dX8_init_131 : decode cX8_init 131 = .ok (.invokespecial 73, 3) := by decide +kernel
theorem dX8_init_134 : decode cX8_init 134 = .ok (.putfield 74, 3) := by decide +kernel
theorem dX8_init_137 : decode cX8_init 137 = .ok (.aload_n 0, 1) := by decide +kernel
theorem dX8_init_138 : decode cX8_init 138 = .ok (.sipush 256, 3) := by decide +kernel
theorem dX8_init_141 : decode cX8_init 141 = .ok (.newarray .int, 2) := by decide +kernel
theorem dX8_init_143 : decode cX8_init 143 = .ok (.putfield 78, 3) := by decide +kernel
theorem dX8_init_146 : decode cX8_init 146 = .ok (.aload_n 0, 1) := by decide +kernel
theorem dX8_init_147 : decode cX8_init 147 = .ok (.iconst 1, 1) := by decide +kernel
theorem dX8_init_148 : decode cX8_init 148 = .ok (.putfield 82, 3) := by decide +kernel
theorem dX8_init_151 : decode cX8_init 151 = .ok (.aload_n 0, 1) := by decide +kernel
theorem dX8_init_152 : decode cX8_init 152 = .ok (.iconst 1, 1) := by decide +kernel
theorem dX8_init_153 : decode cX8_init 153 = .ok (.putfield 86, 3) := by decide +kernel
theorem dX8_init_156 : decode cX8_init 156 = .ok (.aload_n 0, 1) := by decide +kernel
theorem dX8_init_157 : decode cX8_init 157 = .ok (.iconst 0, 1) := by decide +kernel
theorem dX8_init_158 : decode cX8_init 158 = .ok (.putfield 89, 3) := by decide +kernel
theorem dX8_init_161 : decode cX8_init 161 = .ok (.iconst 0, 1) := by decide +kernel
theorem dX8_init_162 : decode cX8_init 162 = .ok (.istore_n 1, 1) := by decide +kernel
theorem dX8_init_163 : decode cX8_init 163 = .ok (.iload_n 1, 1) := by decide +kernel
theorem dX8_init_164 : decode cX8_init 164 = .ok (.iconst 4, 1) := by decide +kernel
theorem dX8_init_165 : decode cX8_init 165 = .ok (.if_icmp .ge 22, 3) := by decide +kernel
theorem dX8_init_168 : decode cX8_init 168 = .ok (.aload_n 0, 1) := by decide +kernel
theorem dX8_init_169 : decode cX8_init 169 = .ok (.getfield 33, 3) := by decide +kernel
theorem dX8_init_172 : decode cX8_init 172 = .ok (.iload_n 1, 1) := by decide +kernel
theorem dX8_init_173 : decode cX8_init 173 = .ok (.new 31, 3) := by decide +kernel
theorem dX8_init_176 : decode cX8_init 176 = .ok (.dup, 1) := by decide +kernel
theorem dX8_init_177 : decode cX8_init 177 = .ok (.invokespecial 93, 3) := by decide +kernel
theorem dX8_init_180 : decode cX8_init 180 = .ok (.aastore, 1) := by decide +kernel
theorem dX8_init_181 : decode cX8_init 181 = .ok (.iinc 1 1, 3) := by decide +kernel
theorem dX8_init_184 : decode cX8_init 184 = .ok (.goto (-21), 3) := by decide +kernel
theorem dX8_init_187 : decode cX8_init 187 = .ok (.return_, 1) := by decide +kernel
theorem dX8_type_0 : decode cX8_type 0 = .ok (.iload_n 1, 1) := by decide +kernel
theorem dX8_type_1 : decode cX8_type 1 = .ok (.invokestatic 94, 3) := by decide +kernel
theorem dX8_type_4 : decode cX8_type 4 = .ok (.ifCond .eq 14, 3) := by decide +kernel
theorem dX8_type_7 : decode cX8_type 7 = .ok (.iload_n 2, 1) := by decide +kernel
theorem dX8_type_8 : decode cX8_type 8 = .ok (.ifCond .lt 10, 3) := by decide +kernel
theorem dX8_type_11 : decode cX8_type 11 = .ok (.iload_n 2, 1) := by decide +kernel
theorem dX8_type_12 : decode cX8_type 12 = .ok (.sipush 255, 3) := by decide +kernel
theorem dX8_type_15 : decode cX8_type 15 = .ok (.if_icmp .le 6, 3) := by decide +kernel
theorem dX8_type_18 : decode cX8_type 18 = .ok (.bipush (-2), 2) := by decide +kernel
theorem dX8_type_20 : decode cX8_type 20 = .ok (.ireturn, 1) := by decide +kernel
theorem dX8_type_21 : decode cX8_type 21 = .ok (.aload_n 0, 1) := by decide +kernel
theorem dX8_type_22 : decode cX8_type 22 = .ok (.iload_n 1, 1) := by decide +kernel
theorem dX8_type_23 : decode cX8_type 23 = .ok (.invokevirtual 98, 3) := by decide +kernel
theorem dX8_type_26 : decode cX8_type 26 = .ok (.astore_n 3, 1) := by decide +kernel
theorem dX8_type_27 : decode cX8_type 27 = .ok (.aload_n 3, 1) := by decide +kernel
theorem dX8_type_28 : decode cX8_type 28 = .ok (.getfield 102, 3) := by decide +kernel
theorem dX8_type_31 : decode cX8_type 31 = .ok (.aload_n 3, 1) := by decide +kernel
theorem dX8_type_32 : decode cX8_type 32 = .ok (.getfield 105, 3) := by decide +kernel
theorem dX8_type_35 : decode cX8_type 35 = .ok (.if_icmp .lt 6, 3) := by decide +kernel
theorem dX8_type_38 : decode cX8_type 38 = .ok (.bipush (-4), 2) := by decide +kernel
theorem dX8_type_40 : decode cX8_type 40 = .ok (.ireturn, 1) := by decide +kernel
theorem dX8_type_41 : decode cX8_type 41 = .ok (.aload_n 3, 1) := by decide +kernel
theorem dX8_type_42 : decode cX8_type 42 = .ok (.getfield 108, 3) := by decide +kernel
theorem dX8_type_45 : decode cX8_type 45 = .ok (.aload_n 3, 1) := by decide +kernel
theorem dX8_type_46 : decode cX8_type 46 = .ok (.getfield 102, 3) := by decide +kernel
theorem dX8_type_49 : decode cX8_type 49 = .ok (.iload_n 2, 1) := by decide +kernel
theorem dX8_type_50 : decode cX8_type 50 = .ok (.iastore, 1) := by decide +kernel
theorem dX8_type_51 : decode cX8_type 51 = .ok (.aload_n 3, 1) := by decide +kernel
theorem dX8_type_52 : decode cX8_type 52 = .ok (.dup, 1) := by decide +kernel
theorem dX8_type_53 : decode cX8_type 53 = .ok (.getfield 102, 3) := by decide +kernel
theorem dX8_type_56 : decode cX8_type 56 = .ok (.iconst 1, 1) := by decide +kernel
theorem dX8_type_57 : decode cX8_type 57 = .ok (.iadd, 1) := by decide +kernel
theorem dX8_type_58 : decode cX8_type 58 = .ok (.putfield 102, 3) := by decide +kernel
theorem dX8_type_61 : decode cX8_type 61 = .ok (.aload_n 0, 1) := by decide +kernel
theorem dX8_type_62 : decode cX8_type 62 = .ok (.invokevirtual 111, 3) := by decide +kernel
theorem dX8_type_65 : decode cX8_type 65 = .ok (.aload_n 3, 1) := by decide +kernel
theorem dX8_type_66 : decode cX8_type 66 = .ok (.getfield 102, 3) := by decide +kernel
theorem dX8_type_69 : decode cX8_type 69 = .ok (.ireturn, 1) := by decide +kernel
theorem dX8_wipe_0 : decode cX8_wipe 0 = .ok (.iload_n 1, 1) := by decide +kernel
theorem dX8_wipe_1 : decode cX8_wipe 1 = .ok (.invokestatic 94, 3) := by decide +kernel
theorem dX8_wipe_4 : decode cX8_wipe 4 = .ok (.ifCond .ne 6, 3) := by decide +kernel
theorem dX8_wipe_7 : decode cX8_wipe 7 = .ok (.bipush (-2), 2) := by decide +kernel
theorem dX8_wipe_9 : decode cX8_wipe 9 = .ok (.ireturn, 1) := by decide +kernel
theorem dX8_wipe_10 : decode cX8_wipe 10 = .ok (.aload_n 0, 1) := by decide +kernel
theorem dX8_wipe_11 : decode cX8_wipe 11 = .ok (.iload_n 1, 1) := by decide +kernel
theorem dX8_wipe_12 : decode cX8_wipe 12 = .ok (.invokevirtual 98, 3) := by decide +kernel
theorem dX8_wipe_15 : decode cX8_wipe 15 = .ok (.astore_n 2, 1) := by decide +kernel
theorem dX8_wipe_16 : decode cX8_wipe 16 = .ok (.aload_n 2, 1) := by decide +kernel
theorem dX8_wipe_17 : decode cX8_wipe 17 = .ok (.getfield 102, 3) := by decide +kernel
theorem dX8_wipe_20 : decode cX8_wipe 20 = .ok (.istore_n 3, 1) := by decide +kernel
theorem dX8_wipe_21 : decode cX8_wipe 21 = .ok (.aload_n 2, 1) := by decide +kernel
theorem dX8_wipe_22 : decode cX8_wipe 22 = .ok (.iconst 0, 1) := by decide +kernel
theorem dX8_wipe_23 : decode cX8_wipe 23 = .ok (.putfield 102, 3) := by decide +kernel
theorem dX8_wipe_26 : decode cX8_wipe 26 = .ok (.aload_n 0, 1) := by decide +kernel
theorem dX8_wipe_27 : decode cX8_wipe 27 = .ok (.invokevirtual 111, 3) := by decide +kernel
theorem dX8_wipe_30 : decode cX8_wipe 30 = .ok (.iload_n 3, 1) := by decide +kernel
theorem dX8_wipe_31 : decode cX8_wipe 31 = .ok (.ireturn, 1) := by decide +kernel
theorem dX8_undo_0 : decode cX8_undo 0 = .ok (.iload_n 1, 1) := by decide +kernel
theorem dX8_undo_1 : decode cX8_undo 1 = .ok (.invokestatic 94, 3) := by decide +kernel
theorem dX8_undo_4 : decode cX8_undo 4 = .ok (.ifCond .ne 6, 3) := by decide +kernel
theorem dX8_undo_7 : decode cX8_undo 7 = .ok (.bipush (-2), 2) := by decide +kernel
theorem dX8_undo_9 : decode cX8_undo 9 = .ok (.ireturn, 1) := by decide +kernel
theorem dX8_undo_10 : decode cX8_undo 10 = .ok (.aload_n 0, 1) := by decide +kernel
theorem dX8_undo_11 : decode cX8_undo 11 = .ok (.iload_n 1, 1) := by decide +kernel
theorem dX8_undo_12 : decode cX8_undo 12 = .ok (.invokevirtual 98, 3) := by decide +kernel
theorem dX8_undo_15 : decode cX8_undo 15 = .ok (.astore_n 2, 1) := by decide +kernel
theorem dX8_undo_16 : decode cX8_undo 16 = .ok (.aload_n 2, 1) := by decide +kernel
theorem dX8_undo_17 : decode cX8_undo 17 = .ok (.getfield 102, 3) := by decide +kernel
theorem dX8_undo_20 : decode cX8_undo 20 = .ok (.ifCond .ne 6, 3) := by decide +kernel
theorem dX8_undo_23 : decode cX8_undo 23 = .ok (.bipush (-3), 2) := by decide +kernel
theorem dX8_undo_25 : decode cX8_undo 25 = .ok (.ireturn, 1) := by decide +kernel
theorem dX8_undo_26 : decode cX8_undo 26 = .ok (.aload_n 2, 1) := by decide +kernel
theorem dX8_undo_27 : decode cX8_undo 27 = .ok (.dup, 1) := by decide +kernel
theorem dX8_undo_28 : decode cX8_undo 28 = .ok (.getfield 102, 3) := by decide +kernel
theorem dX8_undo_31 : decode cX8_undo 31 = .ok (.iconst 1, 1) := by decide +kernel
theorem dX8_undo_32 : decode cX8_undo 32 = .ok (.isub, 1) := by decide +kernel
theorem dX8_undo_33 : decode cX8_undo 33 = .ok (.putfield 102, 3) := by decide +kernel
theorem dX8_undo_36 : decode cX8_undo 36 = .ok (.aload_n 0, 1) := by decide +kernel
theorem dX8_undo_37 : decode cX8_undo 37 = .ok (.invokevirtual 111, 3) := by decide +kernel
theorem dX8_undo_40 : decode cX8_undo 40 = .ok (.aload_n 2, 1) := by decide +kernel
theorem dX8_undo_41 : decode cX8_undo 41 = .ok (.getfield 102, 3) := by decide +kernel
theorem dX8_undo_44 : decode cX8_undo 44 = .ok (.ireturn, 1) := by decide +kernel
theorem dX8_fault_0 : decode cX8_fault 0 = .ok (.iload_n 1, 1) := by decide +kernel
theorem dX8_fault_1 : decode cX8_fault 1 = .ok (.invokestatic 94, 3) := by decide +kernel
theorem dX8_fault_4 : decode cX8_fault 4 = .ok (.ifCond .ne 6, 3) := by decide +kernel
theorem dX8_fault_7 : decode cX8_fault 7 = .ok (.bipush (-2), 2) := by decide +kernel
theorem dX8_fault_9 : decode cX8_fault 9 = .ok (.ireturn, 1) := by decide +kernel
theorem dX8_fault_10 : decode cX8_fault 10 = .ok (.iload_n 1, 1) := by decide +kernel
theorem dX8_fault_11 : decode cX8_fault 11 = .ok (.ifCond .ne 13, 3) := by decide +kernel
theorem dX8_fault_14 : decode cX8_fault 14 = .ok (.aload_n 0, 1) := by decide +kernel
theorem dX8_fault_15 : decode cX8_fault 15 = .ok (.getfield 14, 3) := by decide +kernel
theorem dX8_fault_18 : decode cX8_fault 18 = .ok (.invokevirtual 114, 3) := by decide +kernel
theorem dX8_fault_21 : decode cX8_fault 21 = .ok (.goto 10, 3) := by decide +kernel
theorem dX8_fault_24 : decode cX8_fault 24 = .ok (.aload_n 0, 1) := by decide +kernel
theorem dX8_fault_25 : decode cX8_fault 25 = .ok (.getfield 18, 3) := by decide +kernel
theorem dX8_fault_28 : decode cX8_fault 28 = .ok (.invokevirtual 118, 3) := by decide +kernel
theorem dX8_fault_31 : decode cX8_fault 31 = .ok (.ireturn, 1) := by decide +kernel
theorem dX8_hook_0 : decode cX8_hook 0 = .ok (.aload_n 0, 1) := by decide +kernel
theorem dX8_hook_1 : decode cX8_hook 1 = .ok (.invokevirtual 121, 3) := by decide +kernel
theorem dX8_hook_4 : decode cX8_hook 4 = .ok (.aload_n 0, 1) := by decide +kernel
theorem dX8_hook_5 : decode cX8_hook 5 = .ok (.iload_n 1, 1) := by decide +kernel
theorem dX8_hook_6 : decode cX8_hook 6 = .ok (.invokevirtual 124, 3) := by decide +kernel
theorem dX8_hook_9 : decode cX8_hook 9 = .ok (.ifCond .eq 15, 3) := by decide +kernel
theorem dX8_hook_12 : decode cX8_hook 12 = .ok (.aload_n 0, 1) := by decide +kernel
theorem dX8_hook_13 : decode cX8_hook 13 = .ok (.getfield 40, 3) := by decide +kernel
theorem dX8_hook_16 : decode cX8_hook 16 = .ok (.getfield 127, 3) := by decide +kernel
theorem dX8_hook_19 : decode cX8_hook 19 = .ok (.iload_n 1, 1) := by decide +kernel
theorem dX8_hook_20 : decode cX8_hook 20 = .ok (.iaload, 1) := by decide +kernel
theorem dX8_hook_21 : decode cX8_hook 21 = .ok (.goto 5, 3) := by decide +kernel
theorem dX8_hook_24 : decode cX8_hook 24 = .ok (.bipush (-2), 2) := by decide +kernel
theorem dX8_hook_26 : decode cX8_hook 26 = .ok (.ireturn, 1) := by decide +kernel
theorem dX8_thing_0 : decode cX8_thing 0 = .ok (.aload_n 0, 1) := by decide +kernel
theorem dX8_thing_1 : decode cX8_thing 1 = .ok (.invokevirtual 121, 3) := by decide +kernel
theorem dX8_thing_4 : decode cX8_thing 4 = .ok (.aload_n 0, 1) := by decide +kernel
theorem dX8_thing_5 : decode cX8_thing 5 = .ok (.iload_n 1, 1) := by decide +kernel
theorem dX8_thing_6 : decode cX8_thing 6 = .ok (.invokevirtual 130, 3) := by decide +kernel
theorem dX8_thing_9 : decode cX8_thing 9 = .ok (.ifCond .eq 11, 3) := by decide +kernel
theorem dX8_thing_12 : decode cX8_thing 12 = .ok (.iload_n 2, 1) := by decide +kernel
theorem dX8_thing_13 : decode cX8_thing 13 = .ok (.iconst 3, 1) := by decide +kernel
theorem dX8_thing_14 : decode cX8_thing 14 = .ok (.invokestatic 133, 3) := by decide +kernel
theorem dX8_thing_17 : decode cX8_thing 17 = .ok (.ifCond .ne 6, 3) := by decide +kernel
theorem dX8_thing_20 : decode cX8_thing 20 = .ok (.bipush (-2), 2) := by decide +kernel
theorem dX8_thing_22 : decode cX8_thing 22 = .ok (.ireturn, 1) := by decide +kernel
theorem dX8_thing_23 : decode cX8_thing 23 = .ok (.iload_n 2, 1) := by decide +kernel
theorem dX8_thing_24 : decode cX8_thing 24 = .ok (.ifCond .ne 13, 3) := by decide +kernel
theorem dX8_thing_27 : decode cX8_thing 27 = .ok (.aload_n 0, 1) := by decide +kernel
theorem dX8_thing_28 : decode cX8_thing 28 = .ok (.getfield 40, 3) := by decide +kernel
theorem dX8_thing_31 : decode cX8_thing 31 = .ok (.getfield 137, 3) := by decide +kernel
theorem dX8_thing_34 : decode cX8_thing 34 = .ok (.iload_n 1, 1) := by decide +kernel
theorem dX8_thing_35 : decode cX8_thing 35 = .ok (.iaload, 1) := by decide +kernel
theorem dX8_thing_36 : decode cX8_thing 36 = .ok (.ireturn, 1) := by decide +kernel
theorem dX8_thing_37 : decode cX8_thing 37 = .ok (.iload_n 2, 1) := by decide +kernel
theorem dX8_thing_38 : decode cX8_thing 38 = .ok (.iconst 1, 1) := by decide +kernel
theorem dX8_thing_39 : decode cX8_thing 39 = .ok (.if_icmp .ne 15, 3) := by decide +kernel
theorem dX8_thing_42 : decode cX8_thing 42 = .ok (.aload_n 0, 1) := by decide +kernel
theorem dX8_thing_43 : decode cX8_thing 43 = .ok (.getfield 40, 3) := by decide +kernel
theorem dX8_thing_46 : decode cX8_thing 46 = .ok (.getfield 140, 3) := by decide +kernel
theorem dX8_thing_49 : decode cX8_thing 49 = .ok (.iload_n 1, 1) := by decide +kernel
theorem dX8_thing_50 : decode cX8_thing 50 = .ok (.iaload, 1) := by decide +kernel
theorem dX8_thing_51 : decode cX8_thing 51 = .ok (.goto 12, 3) := by decide +kernel
theorem dX8_thing_54 : decode cX8_thing 54 = .ok (.aload_n 0, 1) := by decide +kernel
theorem dX8_thing_55 : decode cX8_thing 55 = .ok (.getfield 40, 3) := by decide +kernel
theorem dX8_thing_58 : decode cX8_thing 58 = .ok (.getfield 143, 3) := by decide +kernel
theorem dX8_thing_61 : decode cX8_thing 61 = .ok (.iload_n 1, 1) := by decide +kernel
theorem dX8_thing_62 : decode cX8_thing 62 = .ok (.iaload, 1) := by decide +kernel
theorem dX8_thing_63 : decode cX8_thing 63 = .ok (.ireturn, 1) := by decide +kernel
theorem dX8_event_0 : decode cX8_event 0 = .ok (.iload_n 1, 1) := by decide +kernel
theorem dX8_event_1 : decode cX8_event 1 = .ok (.iload_n 2, 1) := by decide +kernel
theorem dX8_event_2 : decode cX8_event 2 = .ok (.iload_n 3, 1) := by decide +kernel
theorem dX8_event_3 : decode cX8_event 3 = .ok (.invokestatic 146, 3) := by decide +kernel
theorem dX8_event_6 : decode cX8_event 6 = .ok (.ifCond .ne 6, 3) := by decide +kernel
theorem dX8_event_9 : decode cX8_event 9 = .ok (.bipush (-2), 2) := by decide +kernel
theorem dX8_event_11 : decode cX8_event 11 = .ok (.ireturn, 1) := by decide +kernel
theorem dX8_event_12 : decode cX8_event 12 = .ok (.aload_n 0, 1) := by decide +kernel
theorem dX8_event_13 : decode cX8_event 13 = .ok (.getfield 24, 3) := by decide +kernel
theorem dX8_event_16 : decode cX8_event 16 = .ok (.invokevirtual 150, 3) := by decide +kernel
theorem dX8_event_19 : decode cX8_event 19 = .ok (.ifCond .eq 6, 3) := by decide +kernel
theorem dX8_event_22 : decode cX8_event 22 = .ok (.bipush (-4), 2) := by decide +kernel
theorem dX8_event_24 : decode cX8_event 24 = .ok (.ireturn, 1) := by decide +kernel
theorem dX8_event_25 : decode cX8_event 25 = .ok (.aload_n 0, 1) := by decide +kernel
theorem dX8_event_26 : decode cX8_event 26 = .ok (.getfield 24, 3) := by decide +kernel
theorem dX8_event_29 : decode cX8_event 29 = .ok (.iload_n 1, 1) := by decide +kernel
theorem dX8_event_30 : decode cX8_event 30 = .ok (.iload_n 2, 1) := by decide +kernel
theorem dX8_event_31 : decode cX8_event 31 = .ok (.iload_n 3, 1) := by decide +kernel
theorem dX8_event_32 : decode cX8_event 32 = .ok (.invokevirtual 154, 3) := by decide +kernel
theorem dX8_event_35 : decode cX8_event 35 = .ok (.aload_n 0, 1) := by decide +kernel
theorem dX8_event_36 : decode cX8_event 36 = .ok (.invokevirtual 111, 3) := by decide +kernel
theorem dX8_event_39 : decode cX8_event 39 = .ok (.aload_n 0, 1) := by decide +kernel
theorem dX8_event_40 : decode cX8_event 40 = .ok (.getfield 24, 3) := by decide +kernel
theorem dX8_event_43 : decode cX8_event 43 = .ok (.getfield 158, 3) := by decide +kernel
theorem dX8_event_46 : decode cX8_event 46 = .ok (.ireturn, 1) := by decide +kernel
theorem dX8_back_0 : decode cX8_back 0 = .ok (.aload_n 0, 1) := by decide +kernel
theorem dX8_back_1 : decode cX8_back 1 = .ok (.getfield 24, 3) := by decide +kernel
theorem dX8_back_4 : decode cX8_back 4 = .ok (.getfield 158, 3) := by decide +kernel
theorem dX8_back_7 : decode cX8_back 7 = .ok (.ifCond .ne 6, 3) := by decide +kernel
theorem dX8_back_10 : decode cX8_back 10 = .ok (.bipush (-3), 2) := by decide +kernel
theorem dX8_back_12 : decode cX8_back 12 = .ok (.ireturn, 1) := by decide +kernel
theorem dX8_back_13 : decode cX8_back 13 = .ok (.aload_n 0, 1) := by decide +kernel
theorem dX8_back_14 : decode cX8_back 14 = .ok (.getfield 24, 3) := by decide +kernel
theorem dX8_back_17 : decode cX8_back 17 = .ok (.dup, 1) := by decide +kernel
theorem dX8_back_18 : decode cX8_back 18 = .ok (.getfield 158, 3) := by decide +kernel
theorem dX8_back_21 : decode cX8_back 21 = .ok (.iconst 1, 1) := by decide +kernel
theorem dX8_back_22 : decode cX8_back 22 = .ok (.isub, 1) := by decide +kernel
theorem dX8_back_23 : decode cX8_back 23 = .ok (.putfield 158, 3) := by decide +kernel
theorem dX8_back_26 : decode cX8_back 26 = .ok (.aload_n 0, 1) := by decide +kernel
theorem dX8_back_27 : decode cX8_back 27 = .ok (.invokevirtual 111, 3) := by decide +kernel
theorem dX8_back_30 : decode cX8_back 30 = .ok (.aload_n 0, 1) := by decide +kernel
theorem dX8_back_31 : decode cX8_back 31 = .ok (.getfield 24, 3) := by decide +kernel
theorem dX8_back_34 : decode cX8_back 34 = .ok (.getfield 158, 3) := by decide +kernel
theorem dX8_back_37 : decode cX8_back 37 = .ok (.ireturn, 1) := by decide +kernel
theorem dX8_read_0 : decode cX8_read 0 = .ok (.iload_n 1, 1) := by decide +kernel
theorem dX8_read_1 : decode cX8_read 1 = .ok (.invokestatic 161, 3) := by decide +kernel
theorem dX8_read_4 : decode cX8_read 4 = .ok (.ifCond .ne 6, 3) := by decide +kernel
theorem dX8_read_7 : decode cX8_read 7 = .ok (.bipush (-2), 2) := by decide +kernel
theorem dX8_read_9 : decode cX8_read 9 = .ok (.ireturn, 1) := by decide +kernel
theorem dX8_read_10 : decode cX8_read 10 = .ok (.aload_n 0, 1) := by decide +kernel
theorem dX8_read_11 : decode cX8_read 11 = .ok (.getfield 33, 3) := by decide +kernel
theorem dX8_read_14 : decode cX8_read 14 = .ok (.iload_n 1, 1) := by decide +kernel
theorem dX8_read_15 : decode cX8_read 15 = .ok (.aaload, 1) := by decide +kernel
theorem dX8_read_16 : decode cX8_read 16 = .ok (.astore_n 2, 1) := by decide +kernel
theorem dX8_read_17 : decode cX8_read 17 = .ok (.aload_n 2, 1) := by decide +kernel
theorem dX8_read_18 : decode cX8_read 18 = .ok (.invokevirtual 164, 3) := by decide +kernel
theorem dX8_read_21 : decode cX8_read 21 = .ok (.ifCond .eq 9, 3) := by decide +kernel
theorem dX8_read_24 : decode cX8_read 24 = .ok (.aload_n 0, 1) := by decide +kernel
theorem dX8_read_25 : decode cX8_read 25 = .ok (.iconst 1, 1) := by decide +kernel
theorem dX8_read_26 : decode cX8_read 26 = .ok (.invokevirtual 167, 3) := by decide +kernel
theorem dX8_read_29 : decode cX8_read 29 = .ok (.ireturn, 1) := by decide +kernel
theorem dX8_read_30 : decode cX8_read 30 = .ok (.iconst 0, 1) := by decide +kernel
theorem dX8_read_31 : decode cX8_read 31 = .ok (.istore_n 3, 1) := by decide +kernel
theorem dX8_read_32 : decode cX8_read 32 = .ok (.iconst 0, 1) := by decide +kernel
theorem dX8_read_33 : decode cX8_read 33 = .ok (.istore 4, 2) := by decide +kernel
theorem dX8_read_35 : decode cX8_read 35 = .ok (.iload 4, 2) := by decide +kernel
theorem dX8_read_37 : decode cX8_read 37 = .ok (.iconst 2, 1) := by decide +kernel
theorem dX8_read_38 : decode cX8_read 38 = .ok (.iadd, 1) := by decide +kernel
theorem dX8_read_39 : decode cX8_read 39 = .ok (.aload_n 2, 1) := by decide +kernel
theorem dX8_read_40 : decode cX8_read 40 = .ok (.getfield 171, 3) := by decide +kernel
theorem dX8_read_43 : decode cX8_read 43 = .ok (.if_icmp .ge 47, 3) := by decide +kernel
theorem dX8_read_46 : decode cX8_read 46 = .ok (.aload_n 0, 1) := by decide +kernel
theorem dX8_read_47 : decode cX8_read 47 = .ok (.aload_n 2, 1) := by decide +kernel
theorem dX8_read_48 : decode cX8_read 48 = .ok (.getfield 172, 3) := by decide +kernel
theorem dX8_read_51 : decode cX8_read 51 = .ok (.iload 4, 2) := by decide +kernel
theorem dX8_read_53 : decode cX8_read 53 = .ok (.iaload, 1) := by decide +kernel
theorem dX8_read_54 : decode cX8_read 54 = .ok (.aload_n 2, 1) := by decide +kernel
theorem dX8_read_55 : decode cX8_read 55 = .ok (.getfield 172, 3) := by decide +kernel
theorem dX8_read_58 : decode cX8_read 58 = .ok (.iload 4, 2) := by decide +kernel
theorem dX8_read_60 : decode cX8_read 60 = .ok (.iconst 1, 1) := by decide +kernel
theorem dX8_read_61 : decode cX8_read 61 = .ok (.iadd, 1) := by decide +kernel
theorem dX8_read_62 : decode cX8_read 62 = .ok (.iaload, 1) := by decide +kernel
theorem dX8_read_63 : decode cX8_read 63 = .ok (.aload_n 2, 1) := by decide +kernel
theorem dX8_read_64 : decode cX8_read 64 = .ok (.getfield 172, 3) := by decide +kernel
theorem dX8_read_67 : decode cX8_read 67 = .ok (.iload 4, 2) := by decide +kernel
theorem dX8_read_69 : decode cX8_read 69 = .ok (.iconst 2, 1) := by decide +kernel
theorem dX8_read_70 : decode cX8_read 70 = .ok (.iadd, 1) := by decide +kernel
theorem dX8_read_71 : decode cX8_read 71 = .ok (.iaload, 1) := by decide +kernel
theorem dX8_read_72 : decode cX8_read 72 = .ok (.invokevirtual 175, 3) := by decide +kernel
theorem dX8_read_75 : decode cX8_read 75 = .ok (.ifCond .ge 6, 3) := by decide +kernel
theorem dX8_read_78 : decode cX8_read 78 = .ok (.goto 12, 3) := by decide +kernel
theorem dX8_read_81 : decode cX8_read 81 = .ok (.iinc 3 1, 3) := by decide +kernel
theorem dX8_read_84 : decode cX8_read 84 = .ok (.iinc 4 3, 3) := by decide +kernel
theorem dX8_read_87 : decode cX8_read 87 = .ok (.goto (-52), 3) := by decide +kernel
theorem dX8_read_90 : decode cX8_read 90 = .ok (.iload_n 3, 1) := by decide +kernel
theorem dX8_read_91 : decode cX8_read 91 = .ok (.ireturn, 1) := by decide +kernel
theorem dX8_heat_0 : decode cX8_heat 0 = .ok (.aload_n 0, 1) := by decide +kernel
theorem dX8_heat_1 : decode cX8_heat 1 = .ok (.invokevirtual 121, 3) := by decide +kernel
theorem dX8_heat_4 : decode cX8_heat 4 = .ok (.iload_n 1, 1) := by decide +kernel
theorem dX8_heat_5 : decode cX8_heat 5 = .ok (.invokestatic 179, 3) := by decide +kernel
theorem dX8_heat_8 : decode cX8_heat 8 = .ok (.ifCond .eq 19, 3) := by decide +kernel
theorem dX8_heat_11 : decode cX8_heat 11 = .ok (.aload_n 0, 1) := by decide +kernel
theorem dX8_heat_12 : decode cX8_heat 12 = .ok (.iload_n 2, 1) := by decide +kernel
theorem dX8_heat_13 : decode cX8_heat 13 = .ok (.invokevirtual 130, 3) := by decide +kernel
theorem dX8_heat_16 : decode cX8_heat 16 = .ok (.ifCond .eq 11, 3) := by decide +kernel
theorem dX8_heat_19 : decode cX8_heat 19 = .ok (.iload_n 3, 1) := by decide +kernel
theorem dX8_heat_20 : decode cX8_heat 20 = .ok (.iconst 2, 1) := by decide +kernel
theorem dX8_heat_21 : decode cX8_heat 21 = .ok (.invokestatic 133, 3) := by decide +kernel
theorem dX8_heat_24 : decode cX8_heat 24 = .ok (.ifCond .ne 6, 3) := by decide +kernel
theorem dX8_heat_27 : decode cX8_heat 27 = .ok (.bipush (-2), 2) := by decide +kernel
theorem dX8_heat_29 : decode cX8_heat 29 = .ok (.ireturn, 1) := by decide +kernel
theorem dX8_heat_30 : decode cX8_heat 30 = .ok (.iload_n 1, 1) := by decide +kernel
theorem dX8_heat_31 : decode cX8_heat 31 = .ok (.bipush 8, 2) := by decide +kernel
theorem dX8_heat_33 : decode cX8_heat 33 = .ok (.imul, 1) := by decide +kernel
theorem dX8_heat_34 : decode cX8_heat 34 = .ok (.iload_n 2, 1) := by decide +kernel
theorem dX8_heat_35 : decode cX8_heat 35 = .ok (.iadd, 1) := by decide +kernel
theorem dX8_heat_36 : decode cX8_heat 36 = .ok (.istore 4, 2) := by decide +kernel
theorem dX8_heat_38 : decode cX8_heat 38 = .ok (.iload_n 3, 1) := by decide +kernel
theorem dX8_heat_39 : decode cX8_heat 39 = .ok (.ifCond .ne 16, 3) := by decide +kernel
theorem dX8_heat_42 : decode cX8_heat 42 = .ok (.aload_n 0, 1) := by decide +kernel
theorem dX8_heat_43 : decode cX8_heat 43 = .ok (.getfield 50, 3) := by decide +kernel
theorem dX8_heat_46 : decode cX8_heat 46 = .ok (.getfield 182, 3) := by decide +kernel
theorem dX8_heat_49 : decode cX8_heat 49 = .ok (.iload 4, 2) := by decide +kernel
theorem dX8_heat_51 : decode cX8_heat 51 = .ok (.iaload, 1) := by decide +kernel
theorem dX8_heat_52 : decode cX8_heat 52 = .ok (.goto 13, 3) := by decide +kernel
theorem dX8_heat_55 : decode cX8_heat 55 = .ok (.aload_n 0, 1) := by decide +kernel
theorem dX8_heat_56 : decode cX8_heat 56 = .ok (.getfield 50, 3) := by decide +kernel
theorem dX8_heat_59 : decode cX8_heat 59 = .ok (.getfield 185, 3) := by decide +kernel
theorem dX8_heat_62 : decode cX8_heat 62 = .ok (.iload 4, 2) := by decide +kernel
theorem dX8_heat_64 : decode cX8_heat 64 = .ok (.iaload, 1) := by decide +kernel
theorem dX8_heat_65 : decode cX8_heat 65 = .ok (.ireturn, 1) := by decide +kernel
theorem dX8_said_0 : decode cX8_said 0 = .ok (.aload_n 0, 1) := by decide +kernel
theorem dX8_said_1 : decode cX8_said 1 = .ok (.invokevirtual 121, 3) := by decide +kernel
theorem dX8_said_4 : decode cX8_said 4 = .ok (.iload_n 1, 1) := by decide +kernel
theorem dX8_said_5 : decode cX8_said 5 = .ok (.invokestatic 179, 3) := by decide +kernel
theorem dX8_said_8 : decode cX8_said 8 = .ok (.ifCond .eq 11, 3) := by decide +kernel
theorem dX8_said_11 : decode cX8_said 11 = .ok (.aload_n 0, 1) := by decide +kernel
theorem dX8_said_12 : decode cX8_said 12 = .ok (.iload_n 2, 1) := by decide +kernel
theorem dX8_said_13 : decode cX8_said 13 = .ok (.invokevirtual 124, 3) := by decide +kernel
theorem dX8_said_16 : decode cX8_said 16 = .ok (.ifCond .ne 6, 3) := by decide +kernel
theorem dX8_said_19 : decode cX8_said 19 = .ok (.bipush (-2), 2) := by decide +kernel
theorem dX8_said_21 : decode cX8_said 21 = .ok (.ireturn, 1) := by decide +kernel
theorem dX8_said_22 : decode cX8_said 22 = .ok (.aload_n 0, 1) := by decide +kernel
theorem dX8_said_23 : decode cX8_said 23 = .ok (.getfield 50, 3) := by decide +kernel
theorem dX8_said_26 : decode cX8_said 26 = .ok (.getfield 188, 3) := by decide +kernel
theorem dX8_said_29 : decode cX8_said 29 = .ok (.iload_n 1, 1) := by decide +kernel
theorem dX8_said_30 : decode cX8_said 30 = .ok (.bipush 12, 2) := by decide +kernel
theorem dX8_said_32 : decode cX8_said 32 = .ok (.imul, 1) := by decide +kernel
theorem dX8_said_33 : decode cX8_said 33 = .ok (.iload_n 2, 1) := by decide +kernel
theorem dX8_said_34 : decode cX8_said 34 = .ok (.iadd, 1) := by decide +kernel
theorem dX8_said_35 : decode cX8_said 35 = .ok (.iaload, 1) := by decide +kernel
theorem dX8_said_36 : decode cX8_said 36 = .ok (.ireturn, 1) := by decide +kernel
theorem dX8_at_0 : decode cX8_at 0 = .ok (.aload_n 0, 1) := by decide +kernel
theorem dX8_at_1 : decode cX8_at 1 = .ok (.invokevirtual 121, 3) := by decide +kernel
theorem dX8_at_4 : decode cX8_at 4 = .ok (.iload_n 1, 1) := by decide +kernel
theorem dX8_at_5 : decode cX8_at 5 = .ok (.invokestatic 179, 3) := by decide +kernel
theorem dX8_at_8 : decode cX8_at 8 = .ok (.ifCond .eq 11, 3) := by decide +kernel
theorem dX8_at_11 : decode cX8_at 11 = .ok (.iload_n 2, 1) := by decide +kernel
theorem dX8_at_12 : decode cX8_at 12 = .ok (.iconst 4, 1) := by decide +kernel
theorem dX8_at_13 : decode cX8_at 13 = .ok (.invokestatic 133, 3) := by decide +kernel
theorem dX8_at_16 : decode cX8_at 16 = .ok (.ifCond .ne 6, 3) := by decide +kernel
theorem dX8_at_19 : decode cX8_at 19 = .ok (.bipush (-2), 2) := by decide +kernel
theorem dX8_at_21 : decode cX8_at 21 = .ok (.ireturn, 1) := by decide +kernel
theorem dX8_at_22 : decode cX8_at 22 = .ok (.aload_n 0, 1) := by decide +kernel
theorem dX8_at_23 : decode cX8_at 23 = .ok (.getfield 50, 3) := by decide +kernel
theorem dX8_at_26 : decode cX8_at 26 = .ok (.iload_n 1, 1) := by decide +kernel
theorem dX8_at_27 : decode cX8_at 27 = .ok (.iload_n 2, 1) := by decide +kernel
theorem dX8_at_28 : decode cX8_at 28 = .ok (.invokevirtual 191, 3) := by decide +kernel
theorem dX8_at_31 : decode cX8_at 31 = .ok (.ireturn, 1) := by decide +kernel
theorem dX8_settled_0 : decode cX8_settled 0 = .ok (.aload_n 0, 1) := by decide +kernel
theorem dX8_settled_1 : decode cX8_settled 1 = .ok (.invokevirtual 121, 3) := by decide +kernel
theorem dX8_settled_4 : decode cX8_settled 4 = .ok (.aload_n 0, 1) := by decide +kernel
theorem dX8_settled_5 : decode cX8_settled 5 = .ok (.iload_n 1, 1) := by decide +kernel
theorem dX8_settled_6 : decode cX8_settled 6 = .ok (.invokevirtual 130, 3) := by decide +kernel
theorem dX8_settled_9 : decode cX8_settled 9 = .ok (.ifCond .eq 15, 3) := by decide +kernel
theorem dX8_settled_12 : decode cX8_settled 12 = .ok (.aload_n 0, 1) := by decide +kernel
theorem dX8_settled_13 : decode cX8_settled 13 = .ok (.getfield 50, 3) := by decide +kernel
theorem dX8_settled_16 : decode cX8_settled 16 = .ok (.getfield 195, 3) := by decide +kernel
theorem dX8_settled_19 : decode cX8_settled 19 = .ok (.iload_n 1, 1) := by decide +kernel
theorem dX8_settled_20 : decode cX8_settled 20 = .ok (.iaload, 1) := by decide +kernel
theorem dX8_settled_21 : decode cX8_settled 21 = .ok (.goto 5, 3) := by decide +kernel
theorem dX8_settled_24 : decode cX8_settled 24 = .ok (.bipush (-2), 2) := by decide +kernel
theorem dX8_settled_26 : decode cX8_settled 26 = .ok (.ireturn, 1) := by decide +kernel
theorem dX8_sum_0 : decode cX8_sum 0 = .ok (.aload_n 0, 1) := by decide +kernel
theorem dX8_sum_1 : decode cX8_sum 1 = .ok (.invokevirtual 121, 3) := by decide +kernel
theorem dX8_sum_4 : decode cX8_sum 4 = .ok (.iload_n 1, 1) := by decide +kernel
theorem dX8_sum_5 : decode cX8_sum 5 = .ok (.iconst 4, 1) := by decide +kernel
theorem dX8_sum_6 : decode cX8_sum 6 = .ok (.invokestatic 133, 3) := by decide +kernel
theorem dX8_sum_9 : decode cX8_sum 9 = .ok (.ifCond .eq 14, 3) := by decide +kernel
theorem dX8_sum_12 : decode cX8_sum 12 = .ok (.aload_n 0, 1) := by decide +kernel
theorem dX8_sum_13 : decode cX8_sum 13 = .ok (.getfield 50, 3) := by decide +kernel
theorem dX8_sum_16 : decode cX8_sum 16 = .ok (.iload_n 1, 1) := by decide +kernel
theorem dX8_sum_17 : decode cX8_sum 17 = .ok (.invokevirtual 198, 3) := by decide +kernel
theorem dX8_sum_20 : decode cX8_sum 20 = .ok (.goto 5, 3) := by decide +kernel
theorem dX8_sum_23 : decode cX8_sum 23 = .ok (.bipush (-2), 2) := by decide +kernel
theorem dX8_sum_25 : decode cX8_sum 25 = .ok (.ireturn, 1) := by decide +kernel
theorem dX8_peace_0 : decode cX8_peace 0 = .ok (.aload_n 0, 1) := by decide +kernel
theorem dX8_peace_1 : decode cX8_peace 1 = .ok (.invokevirtual 121, 3) := by decide +kernel
theorem dX8_peace_4 : decode cX8_peace 4 = .ok (.aload_n 0, 1) := by decide +kernel
theorem dX8_peace_5 : decode cX8_peace 5 = .ok (.getfield 50, 3) := by decide +kernel
theorem dX8_peace_8 : decode cX8_peace 8 = .ok (.aload_n 0, 1) := by decide +kernel
theorem dX8_peace_9 : decode cX8_peace 9 = .ok (.getfield 40, 3) := by decide +kernel
theorem dX8_peace_12 : decode cX8_peace 12 = .ok (.invokevirtual 201, 3) := by decide +kernel
theorem dX8_peace_15 : decode cX8_peace 15 = .ok (.invokevirtual 204, 3) := by decide +kernel
theorem dX8_peace_18 : decode cX8_peace 18 = .ok (.ireturn, 1) := by decide +kernel
theorem dX8_longest_0 : decode cX8_longest 0 = .ok (.aload_n 0, 1) := by decide +kernel
theorem dX8_longest_1 : decode cX8_longest 1 = .ok (.invokevirtual 121, 3) := by decide +kernel
theorem dX8_longest_4 : decode cX8_longest 4 = .ok (.aload_n 0, 1) := by decide +kernel
theorem dX8_longest_5 : decode cX8_longest 5 = .ok (.getfield 50, 3) := by decide +kernel
theorem dX8_longest_8 : decode cX8_longest 8 = .ok (.invokevirtual 207, 3) := by decide +kernel
theorem dX8_longest_11 : decode cX8_longest 11 = .ok (.ireturn, 1) := by decide +kernel
theorem dX8_highest_0 : decode cX8_highest 0 = .ok (.aload_n 0, 1) := by decide +kernel
theorem dX8_highest_1 : decode cX8_highest 1 = .ok (.invokevirtual 121, 3) := by decide +kernel
theorem dX8_highest_4 : decode cX8_highest 4 = .ok (.aload_n 0, 1) := by decide +kernel
theorem dX8_highest_5 : decode cX8_highest 5 = .ok (.iload_n 1, 1) := by decide +kernel
theorem dX8_highest_6 : decode cX8_highest 6 = .ok (.invokevirtual 130, 3) := by decide +kernel
theorem dX8_highest_9 : decode cX8_highest 9 = .ok (.ifCond .eq 15, 3) := by decide +kernel
theorem dX8_highest_12 : decode cX8_highest 12 = .ok (.aload_n 0, 1) := by decide +kernel
theorem dX8_highest_13 : decode cX8_highest 13 = .ok (.getfield 50, 3) := by decide +kernel
theorem dX8_highest_16 : decode cX8_highest 16 = .ok (.getfield 210, 3) := by decide +kernel
theorem dX8_highest_19 : decode cX8_highest 19 = .ok (.iload_n 1, 1) := by decide +kernel
theorem dX8_highest_20 : decode cX8_highest 20 = .ok (.iaload, 1) := by decide +kernel
theorem dX8_highest_21 : decode cX8_highest 21 = .ok (.goto 5, 3) := by decide +kernel
theorem dX8_highest_24 : decode cX8_highest 24 = .ok (.bipush (-2), 2) := by decide +kernel
theorem dX8_highest_26 : decode cX8_highest 26 = .ok (.ireturn, 1) := by decide +kernel
theorem dX8_sore_0 : decode cX8_sore 0 = .ok (.aload_n 0, 1) := by decide +kernel
theorem dX8_sore_1 : decode cX8_sore 1 = .ok (.invokevirtual 121, 3) := by decide +kernel
theorem dX8_sore_4 : decode cX8_sore 4 = .ok (.aload_n 0, 1) := by decide +kernel
theorem dX8_sore_5 : decode cX8_sore 5 = .ok (.invokevirtual 213, 3) := by decide +kernel
theorem dX8_sore_8 : decode cX8_sore 8 = .ok (.ireturn, 1) := by decide +kernel
theorem dX8_swap_0 : decode cX8_swap 0 = .ok (.iload_n 1, 1) := by decide +kernel
theorem dX8_swap_1 : decode cX8_swap 1 = .ok (.iconst 4, 1) := by decide +kernel
theorem dX8_swap_2 : decode cX8_swap 2 = .ok (.invokestatic 133, 3) := by decide +kernel
theorem dX8_swap_5 : decode cX8_swap 5 = .ok (.ifCond .ne 6, 3) := by decide +kernel
theorem dX8_swap_8 : decode cX8_swap 8 = .ok (.bipush (-2), 2) := by decide +kernel
theorem dX8_swap_10 : decode cX8_swap 10 = .ok (.ireturn, 1) := by decide +kernel
theorem dX8_swap_11 : decode cX8_swap 11 = .ok (.aload_n 0, 1) := by decide +kernel
theorem dX8_swap_12 : decode cX8_swap 12 = .ok (.invokevirtual 121, 3) := by decide +kernel
theorem dX8_swap_15 : decode cX8_swap 15 = .ok (.aload_n 0, 1) := by decide +kernel
theorem dX8_swap_16 : decode cX8_swap 16 = .ok (.invokevirtual 216, 3) := by decide +kernel
theorem dX8_swap_19 : decode cX8_swap 19 = .ok (.aload_n 0, 1) := by decide +kernel
theorem dX8_swap_20 : decode cX8_swap 20 = .ok (.getfield 60, 3) := by decide +kernel
theorem dX8_swap_23 : decode cX8_swap 23 = .ok (.iload_n 1, 1) := by decide +kernel
theorem dX8_swap_24 : decode cX8_swap 24 = .ok (.invokevirtual 219, 3) := by decide +kernel
theorem dX8_swap_27 : decode cX8_swap 27 = .ok (.ireturn, 1) := by decide +kernel
theorem dX8_fit_0 : decode cX8_fit 0 = .ok (.aload_n 0, 1) := by decide +kernel
theorem dX8_fit_1 : decode cX8_fit 1 = .ok (.invokevirtual 121, 3) := by decide +kernel
theorem dX8_fit_4 : decode cX8_fit 4 = .ok (.aload_n 0, 1) := by decide +kernel
theorem dX8_fit_5 : decode cX8_fit 5 = .ok (.invokevirtual 222, 3) := by decide +kernel
theorem dX8_fit_8 : decode cX8_fit 8 = .ok (.ireturn, 1) := by decide +kernel
theorem dX8_leave_0 : decode cX8_leave 0 = .ok (.iload_n 1, 1) := by decide +kernel
theorem dX8_leave_1 : decode cX8_leave 1 = .ok (.invokestatic 179, 3) := by decide +kernel
theorem dX8_leave_4 : decode cX8_leave 4 = .ok (.ifCond .eq 11, 3) := by decide +kernel
theorem dX8_leave_7 : decode cX8_leave 7 = .ok (.iload_n 2, 1) := by decide +kernel
theorem dX8_leave_8 : decode cX8_leave 8 = .ok (.iconst 3, 1) := by decide +kernel
theorem dX8_leave_9 : decode cX8_leave 9 = .ok (.invokestatic 133, 3) := by decide +kernel
theorem dX8_leave_12 : decode cX8_leave 12 = .ok (.ifCond .ne 6, 3) := by decide +kernel
theorem dX8_leave_15 : decode cX8_leave 15 = .ok (.bipush (-2), 2) := by decide +kernel
theorem dX8_leave_17 : decode cX8_leave 17 = .ok (.ireturn, 1) := by decide +kernel
theorem dX8_leave_18 : decode cX8_leave 18 = .ok (.aload_n 0, 1) := by decide +kernel
theorem dX8_leave_19 : decode cX8_leave 19 = .ok (.invokevirtual 121, 3) := by decide +kernel
theorem dX8_leave_22 : decode cX8_leave 22 = .ok (.aload_n 0, 1) := by decide +kernel
theorem dX8_leave_23 : decode cX8_leave 23 = .ok (.iload_n 1, 1) := by decide +kernel
theorem dX8_leave_24 : decode cX8_leave 24 = .ok (.invokevirtual 225, 3) := by decide +kernel
theorem dX8_leave_27 : decode cX8_leave 27 = .ok (.aload_n 0, 1) := by decide +kernel
theorem dX8_leave_28 : decode cX8_leave 28 = .ok (.getfield 60, 3) := by decide +kernel
theorem dX8_leave_31 : decode cX8_leave 31 = .ok (.iload_n 2, 1) := by decide +kernel
theorem dX8_leave_32 : decode cX8_leave 32 = .ok (.invokevirtual 228, 3) := by decide +kernel
theorem dX8_leave_35 : decode cX8_leave 35 = .ok (.ireturn, 1) := by decide +kernel
theorem dX8_spare_0 : decode cX8_spare 0 = .ok (.iload_n 1, 1) := by decide +kernel
theorem dX8_spare_1 : decode cX8_spare 1 = .ok (.iconst (-1), 1) := by decide +kernel
theorem dX8_spare_2 : decode cX8_spare 2 = .ok (.if_icmp .lt 8, 3) := by decide +kernel
theorem dX8_spare_5 : decode cX8_spare 5 = .ok (.iload_n 1, 1) := by decide +kernel
theorem dX8_spare_6 : decode cX8_spare 6 = .ok (.iconst 1, 1) := by decide +kernel
theorem dX8_spare_7 : decode cX8_spare 7 = .ok (.if_icmp .le 6, 3) := by decide +kernel
theorem dX8_spare_10 : decode cX8_spare 10 = .ok (.bipush (-2), 2) := by decide +kernel
theorem dX8_spare_12 : decode cX8_spare 12 = .ok (.ireturn, 1) := by decide +kernel
theorem dX8_spare_13 : decode cX8_spare 13 = .ok (.aload_n 0, 1) := by decide +kernel
theorem dX8_spare_14 : decode cX8_spare 14 = .ok (.invokevirtual 121, 3) := by decide +kernel
theorem dX8_spare_17 : decode cX8_spare 17 = .ok (.aload_n 0, 1) := by decide +kernel
theorem dX8_spare_18 : decode cX8_spare 18 = .ok (.invokevirtual 231, 3) := by decide +kernel
theorem dX8_spare_21 : decode cX8_spare 21 = .ok (.aload_n 0, 1) := by decide +kernel
theorem dX8_spare_22 : decode cX8_spare 22 = .ok (.invokevirtual 234, 3) := by decide +kernel
theorem dX8_spare_25 : decode cX8_spare 25 = .ok (.aload_n 0, 1) := by decide +kernel
theorem dX8_spare_26 : decode cX8_spare 26 = .ok (.getfield 60, 3) := by decide +kernel
theorem dX8_spare_29 : decode cX8_spare 29 = .ok (.iload_n 1, 1) := by decide +kernel
theorem dX8_spare_30 : decode cX8_spare 30 = .ok (.invokevirtual 237, 3) := by decide +kernel
theorem dX8_spare_33 : decode cX8_spare 33 = .ok (.ireturn, 1) := by decide +kernel
theorem dX8_seen_0 : decode cX8_seen 0 = .ok (.iload_n 1, 1) := by decide +kernel
theorem dX8_seen_1 : decode cX8_seen 1 = .ok (.invokestatic 179, 3) := by decide +kernel
theorem dX8_seen_4 : decode cX8_seen 4 = .ok (.ifCond .eq 20, 3) := by decide +kernel
theorem dX8_seen_7 : decode cX8_seen 7 = .ok (.iload_n 2, 1) := by decide +kernel
theorem dX8_seen_8 : decode cX8_seen 8 = .ok (.bipush 8, 2) := by decide +kernel
theorem dX8_seen_10 : decode cX8_seen 10 = .ok (.invokestatic 133, 3) := by decide +kernel
theorem dX8_seen_13 : decode cX8_seen 13 = .ok (.ifCond .eq 11, 3) := by decide +kernel
theorem dX8_seen_16 : decode cX8_seen 16 = .ok (.iload_n 3, 1) := by decide +kernel
theorem dX8_seen_17 : decode cX8_seen 17 = .ok (.iconst 2, 1) := by decide +kernel
theorem dX8_seen_18 : decode cX8_seen 18 = .ok (.invokestatic 133, 3) := by decide +kernel
theorem dX8_seen_21 : decode cX8_seen 21 = .ok (.ifCond .ne 6, 3) := by decide +kernel
theorem dX8_seen_24 : decode cX8_seen 24 = .ok (.bipush (-2), 2) := by decide +kernel
theorem dX8_seen_26 : decode cX8_seen 26 = .ok (.ireturn, 1) := by decide +kernel
theorem dX8_seen_27 : decode cX8_seen 27 = .ok (.aload_n 0, 1) := by decide +kernel
theorem dX8_seen_28 : decode cX8_seen 28 = .ok (.getfield 28, 3) := by decide +kernel
theorem dX8_seen_31 : decode cX8_seen 31 = .ok (.invokevirtual 150, 3) := by decide +kernel
theorem dX8_seen_34 : decode cX8_seen 34 = .ok (.ifCond .eq 6, 3) := by decide +kernel
theorem dX8_seen_37 : decode cX8_seen 37 = .ok (.bipush (-4), 2) := by decide +kernel
theorem dX8_seen_39 : decode cX8_seen 39 = .ok (.ireturn, 1) := by decide +kernel
theorem dX8_seen_40 : decode cX8_seen 40 = .ok (.aload_n 0, 1) := by decide +kernel
theorem dX8_seen_41 : decode cX8_seen 41 = .ok (.getfield 28, 3) := by decide +kernel
theorem dX8_seen_44 : decode cX8_seen 44 = .ok (.iload_n 1, 1) := by decide +kernel
theorem dX8_seen_45 : decode cX8_seen 45 = .ok (.iload_n 2, 1) := by decide +kernel
theorem dX8_seen_46 : decode cX8_seen 46 = .ok (.iload_n 3, 1) := by decide +kernel
theorem dX8_seen_47 : decode cX8_seen 47 = .ok (.invokevirtual 154, 3) := by decide +kernel
theorem dX8_seen_50 : decode cX8_seen 50 = .ok (.aload_n 0, 1) := by decide +kernel
theorem dX8_seen_51 : decode cX8_seen 51 = .ok (.getfield 28, 3) := by decide +kernel
theorem dX8_seen_54 : decode cX8_seen 54 = .ok (.getfield 158, 3) := by decide +kernel
theorem dX8_seen_57 : decode cX8_seen 57 = .ok (.ireturn, 1) := by decide +kernel
theorem dX8_forget_0 : decode cX8_forget 0 = .ok (.aload_n 0, 1) := by decide +kernel
theorem dX8_forget_1 : decode cX8_forget 1 = .ok (.getfield 28, 3) := by decide +kernel
theorem dX8_forget_4 : decode cX8_forget 4 = .ok (.getfield 158, 3) := by decide +kernel
theorem dX8_forget_7 : decode cX8_forget 7 = .ok (.istore_n 1, 1) := by decide +kernel
theorem dX8_forget_8 : decode cX8_forget 8 = .ok (.aload_n 0, 1) := by decide +kernel
theorem dX8_forget_9 : decode cX8_forget 9 = .ok (.getfield 28, 3) := by decide +kernel
theorem dX8_forget_12 : decode cX8_forget 12 = .ok (.iconst 0, 1) := by decide +kernel
theorem dX8_forget_13 : decode cX8_forget 13 = .ok (.putfield 158, 3) := by decide +kernel
theorem dX8_forget_16 : decode cX8_forget 16 = .ok (.iload_n 1, 1) := by decide +kernel
theorem dX8_forget_17 : decode cX8_forget 17 = .ok (.ireturn, 1) := by decide +kernel
theorem dX8_never_0 : decode cX8_never 0 = .ok (.aload_n 0, 1) := by decide +kernel
theorem dX8_never_1 : decode cX8_never 1 = .ok (.invokevirtual 121, 3) := by decide +kernel
theorem dX8_never_4 : decode cX8_never 4 = .ok (.aload_n 0, 1) := by decide +kernel
theorem dX8_never_5 : decode cX8_never 5 = .ok (.invokevirtual 240, 3) := by decide +kernel
theorem dX8_never_8 : decode cX8_never 8 = .ok (.ireturn, 1) := by decide +kernel
theorem dX8_was_0 : decode cX8_was 0 = .ok (.aload_n 0, 1) := by decide +kernel
theorem dX8_was_1 : decode cX8_was 1 = .ok (.invokevirtual 121, 3) := by decide +kernel
theorem dX8_was_4 : decode cX8_was 4 = .ok (.aload_n 0, 1) := by decide +kernel
theorem dX8_was_5 : decode cX8_was 5 = .ok (.iload_n 1, 1) := by decide +kernel
theorem dX8_was_6 : decode cX8_was 6 = .ok (.invokevirtual 130, 3) := by decide +kernel
theorem dX8_was_9 : decode cX8_was 9 = .ok (.ifCond .eq 11, 3) := by decide +kernel
theorem dX8_was_12 : decode cX8_was 12 = .ok (.iload_n 2, 1) := by decide +kernel
theorem dX8_was_13 : decode cX8_was 13 = .ok (.iconst 2, 1) := by decide +kernel
theorem dX8_was_14 : decode cX8_was 14 = .ok (.invokestatic 133, 3) := by decide +kernel
theorem dX8_was_17 : decode cX8_was 17 = .ok (.ifCond .ne 6, 3) := by decide +kernel
theorem dX8_was_20 : decode cX8_was 20 = .ok (.bipush (-2), 2) := by decide +kernel
theorem dX8_was_22 : decode cX8_was 22 = .ok (.ireturn, 1) := by decide +kernel
theorem dX8_was_23 : decode cX8_was 23 = .ok (.iload_n 2, 1) := by decide +kernel
theorem dX8_was_24 : decode cX8_was 24 = .ok (.iconst 1, 1) := by decide +kernel
theorem dX8_was_25 : decode cX8_was 25 = .ok (.if_icmp .ne 9, 3) := by decide +kernel
theorem dX8_was_28 : decode cX8_was 28 = .ok (.aload_n 0, 1) := by decide +kernel
theorem dX8_was_29 : decode cX8_was 29 = .ok (.iload_n 1, 1) := by decide +kernel
theorem dX8_was_30 : decode cX8_was 30 = .ok (.invokevirtual 243, 3) := by decide +kernel
theorem dX8_was_33 : decode cX8_was 33 = .ok (.ireturn, 1) := by decide +kernel
theorem dX8_was_34 : decode cX8_was 34 = .ok (.aload_n 0, 1) := by decide +kernel
theorem dX8_was_35 : decode cX8_was 35 = .ok (.iload_n 1, 1) := by decide +kernel
theorem dX8_was_36 : decode cX8_was 36 = .ok (.invokevirtual 246, 3) := by decide +kernel
theorem dX8_was_39 : decode cX8_was 39 = .ok (.aload_n 0, 1) := by decide +kernel
theorem dX8_was_40 : decode cX8_was 40 = .ok (.getfield 67, 3) := by decide +kernel
theorem dX8_was_43 : decode cX8_was 43 = .ok (.getfield 249, 3) := by decide +kernel
theorem dX8_was_46 : decode cX8_was 46 = .ok (.ireturn, 1) := by decide +kernel
theorem dX8_ask_0 : decode cX8_ask 0 = .ok (.aload_n 0, 1) := by decide +kernel
theorem dX8_ask_1 : decode cX8_ask 1 = .ok (.invokevirtual 121, 3) := by decide +kernel
theorem dX8_ask_4 : decode cX8_ask 4 = .ok (.aload_n 0, 1) := by decide +kernel
theorem dX8_ask_5 : decode cX8_ask 5 = .ok (.iload_n 1, 1) := by decide +kernel
theorem dX8_ask_6 : decode cX8_ask 6 = .ok (.invokevirtual 130, 3) := by decide +kernel
theorem dX8_ask_9 : decode cX8_ask 9 = .ok (.ifCond .ne 6, 3) := by decide +kernel
theorem dX8_ask_12 : decode cX8_ask 12 = .ok (.bipush (-2), 2) := by decide +kernel
theorem dX8_ask_14 : decode cX8_ask 14 = .ok (.ireturn, 1) := by decide +kernel
theorem dX8_ask_15 : decode cX8_ask 15 = .ok (.aload_n 0, 1) := by decide +kernel
theorem dX8_ask_16 : decode cX8_ask 16 = .ok (.iload_n 1, 1) := by decide +kernel
theorem dX8_ask_17 : decode cX8_ask 17 = .ok (.invokevirtual 246, 3) := by decide +kernel
theorem dX8_ask_20 : decode cX8_ask 20 = .ok (.aload_n 0, 1) := by decide +kernel
theorem dX8_ask_21 : decode cX8_ask 21 = .ok (.getfield 67, 3) := by decide +kernel
theorem dX8_ask_24 : decode cX8_ask 24 = .ok (.invokevirtual 252, 3) := by decide +kernel
theorem dX8_ask_27 : decode cX8_ask 27 = .ok (.ireturn, 1) := by decide +kernel
theorem dX8_chance_0 : decode cX8_chance 0 = .ok (.aload_n 0, 1) := by decide +kernel
theorem dX8_chance_1 : decode cX8_chance 1 = .ok (.invokevirtual 121, 3) := by decide +kernel
theorem dX8_chance_4 : decode cX8_chance 4 = .ok (.iload_n 1, 1) := by decide +kernel
theorem dX8_chance_5 : decode cX8_chance 5 = .ok (.ifCond .lt 25, 3) := by decide +kernel
theorem dX8_chance_8 : decode cX8_chance 8 = .ok (.iload_n 1, 1) := by decide +kernel
theorem dX8_chance_9 : decode cX8_chance 9 = .ok (.bipush 16, 2) := by decide +kernel
theorem dX8_chance_11 : decode cX8_chance 11 = .ok (.if_icmp .gt 19, 3) := by decide +kernel
theorem dX8_chance_14 : decode cX8_chance 14 = .ok (.aload_n 0, 1) := by decide +kernel
theorem dX8_chance_15 : decode cX8_chance 15 = .ok (.iload_n 2, 1) := by decide +kernel
theorem dX8_chance_16 : decode cX8_chance 16 = .ok (.invokevirtual 130, 3) := by decide +kernel
theorem dX8_chance_19 : decode cX8_chance 19 = .ok (.ifCond .eq 11, 3) := by decide +kernel
theorem dX8_chance_22 : decode cX8_chance 22 = .ok (.iload_n 3, 1) := by decide +kernel
theorem dX8_chance_23 : decode cX8_chance 23 = .ok (.iconst 2, 1) := by decide +kernel
theorem dX8_chance_24 : decode cX8_chance 24 = .ok (.invokestatic 133, 3) := by decide +kernel
theorem dX8_chance_27 : decode cX8_chance 27 = .ok (.ifCond .ne 7, 3) := by decide +kernel
theorem dX8_chance_30 : decode cX8_chance 30 = .ok (.ldc2_w 255, 3) := by decide +kernel
theorem dX8_chance_33 : decode cX8_chance 33 = .ok (.lreturn, 1) := by decide +kernel
theorem dX8_chance_34 : decode cX8_chance 34 = .ok (.aload_n 0, 1) := by decide +kernel
theorem dX8_chance_35 : decode cX8_chance 35 = .ok (.invokevirtual 231, 3) := by decide +kernel
theorem dX8_chance_38 : decode cX8_chance 38 = .ok (.aload_n 0, 1) := by decide +kernel
theorem dX8_chance_39 : decode cX8_chance 39 = .ok (.iload_n 1, 1) := by decide +kernel
theorem dX8_chance_40 : decode cX8_chance 40 = .ok (.iload_n 2, 1) := by decide +kernel
theorem dX8_chance_41 : decode cX8_chance 41 = .ok (.iload_n 3, 1) := by decide +kernel
theorem dX8_chance_42 : decode cX8_chance 42 = .ok (.invokevirtual 257, 3) := by decide +kernel
theorem dX8_chance_45 : decode cX8_chance 45 = .ok (.lreturn, 1) := by decide +kernel
theorem dX8_seasons_0 : decode cX8_seasons 0 = .ok (.iload_n 2, 1) := by decide +kernel
theorem dX8_seasons_1 : decode cX8_seasons 1 = .ok (.ifCond .lt 17, 3) := by decide +kernel
theorem dX8_seasons_4 : decode cX8_seasons 4 = .ok (.iload_n 2, 1) := by decide +kernel
theorem dX8_seasons_5 : decode cX8_seasons 5 = .ok (.bipush 8, 2) := by decide +kernel
theorem dX8_seasons_7 : decode cX8_seasons 7 = .ok (.if_icmp .gt 11, 3) := by decide +kernel
theorem dX8_seasons_10 : decode cX8_seasons 10 = .ok (.iload_n 3, 1) := by decide +kernel
theorem dX8_seasons_11 : decode cX8_seasons 11 = .ok (.iconst 2, 1) := by decide +kernel
theorem dX8_seasons_12 : decode cX8_seasons 12 = .ok (.invokestatic 133, 3) := by decide +kernel
theorem dX8_seasons_15 : decode cX8_seasons 15 = .ok (.ifCond .ne 6, 3) := by decide +kernel
theorem dX8_seasons_18 : decode cX8_seasons 18 = .ok (.bipush (-2), 2) := by decide +kernel
theorem dX8_seasons_20 : decode cX8_seasons 20 = .ok (.ireturn, 1) := by decide +kernel
theorem dX8_seasons_21 : decode cX8_seasons 21 = .ok (.aload_n 0, 1) := by decide +kernel
theorem dX8_seasons_22 : decode cX8_seasons 22 = .ok (.invokevirtual 121, 3) := by decide +kernel
theorem dX8_seasons_25 : decode cX8_seasons 25 = .ok (.aload_n 0, 1) := by decide +kernel
theorem dX8_seasons_26 : decode cX8_seasons 26 = .ok (.iload_n 1, 1) := by decide +kernel
theorem dX8_seasons_27 : decode cX8_seasons 27 = .ok (.iload_n 2, 1) := by decide +kernel
theorem dX8_seasons_28 : decode cX8_seasons 28 = .ok (.invokevirtual 261, 3) := by decide +kernel
theorem dX8_seasons_31 : decode cX8_seasons 31 = .ok (.iload_n 3, 1) := by decide +kernel
theorem dX8_seasons_32 : decode cX8_seasons 32 = .ok (.ifCond .ne 13, 3) := by decide +kernel
theorem dX8_seasons_35 : decode cX8_seasons 35 = .ok (.aload_n 0, 1) := by decide +kernel
theorem dX8_seasons_36 : decode cX8_seasons 36 = .ok (.getfield 54, 3) := by decide +kernel
theorem dX8_seasons_39 : decode cX8_seasons 39 = .ok (.getfield 265, 3) := by decide +kernel
theorem dX8_seasons_42 : decode cX8_seasons 42 = .ok (.goto 13, 3) := by decide +kernel
theorem dX8_seasons_45 : decode cX8_seasons 45 = .ok (.aload_n 0, 1) := by decide +kernel
theorem dX8_seasons_46 : decode cX8_seasons 46 = .ok (.getfield 54, 3) := by decide +kernel
theorem dX8_seasons_49 : decode cX8_seasons 49 = .ok (.getfield 268, 3) := by decide +kernel
theorem dX8_seasons_52 : decode cX8_seasons 52 = .ok (.invokestatic 271, 3) := by decide +kernel
theorem dX8_seasons_55 : decode cX8_seasons 55 = .ok (.ireturn, 1) := by decide +kernel
theorem dX8_sheet_0 : decode cX8_sheet 0 = .ok (.iload_n 1, 1) := by decide +kernel
theorem dX8_sheet_1 : decode cX8_sheet 1 = .ok (.invokestatic 161, 3) := by decide +kernel
theorem dX8_sheet_4 : decode cX8_sheet 4 = .ok (.ifCond .eq 17, 3) := by decide +kernel
theorem dX8_sheet_7 : decode cX8_sheet 7 = .ok (.iload_n 2, 1) := by decide +kernel
theorem dX8_sheet_8 : decode cX8_sheet 8 = .ok (.iconst 3, 1) := by decide +kernel
theorem dX8_sheet_9 : decode cX8_sheet 9 = .ok (.invokestatic 133, 3) := by decide +kernel
theorem dX8_sheet_12 : decode cX8_sheet 12 = .ok (.ifCond .eq 9, 3) := by decide +kernel
theorem dX8_sheet_15 : decode cX8_sheet 15 = .ok (.iload_n 3, 1) := by decide +kernel
theorem dX8_sheet_16 : decode cX8_sheet 16 = .ok (.bipush 60, 2) := by decide +kernel
theorem dX8_sheet_18 : decode cX8_sheet 18 = .ok (.if_icmp .le 6, 3) := by decide +kernel
theorem dX8_sheet_21 : decode cX8_sheet 21 = .ok (.bipush (-2), 2) := by decide +kernel
theorem dX8_sheet_23 : decode cX8_sheet 23 = .ok (.ireturn, 1) := by decide +kernel
theorem dX8_sheet_24 : decode cX8_sheet 24 = .ok (.iload_n 3, 1) := by decide +kernel
theorem dX8_sheet_25 : decode cX8_sheet 25 = .ok (.ifCond .ge 9, 3) := by decide +kernel
theorem dX8_sheet_28 : decode cX8_sheet 28 = .ok (.aload_n 0, 1) := by decide +kernel
theorem dX8_sheet_29 : decode cX8_sheet 29 = .ok (.iconst 5, 1) := by decide +kernel
theorem dX8_sheet_30 : decode cX8_sheet 30 = .ok (.invokevirtual 167, 3) := by decide +kernel
theorem dX8_sheet_33 : decode cX8_sheet 33 = .ok (.ireturn, 1) := by decide +kernel
theorem dX8_sheet_34 : decode cX8_sheet 34 = .ok (.aload_n 0, 1) := by decide +kernel
theorem dX8_sheet_35 : decode cX8_sheet 35 = .ok (.getfield 33, 3) := by decide +kernel
theorem dX8_sheet_38 : decode cX8_sheet 38 = .ok (.iload_n 1, 1) := by decide +kernel
theorem dX8_sheet_39 : decode cX8_sheet 39 = .ok (.aaload, 1) := by decide +kernel
theorem dX8_sheet_40 : decode cX8_sheet 40 = .ok (.iload_n 2, 1) := by decide +kernel
theorem dX8_sheet_41 : decode cX8_sheet 41 = .ok (.iload_n 3, 1) := by decide +kernel
theorem dX8_sheet_42 : decode cX8_sheet 42 = .ok (.invokevirtual 275, 3) := by decide +kernel
theorem dX8_sheet_45 : decode cX8_sheet 45 = .ok (.iload_n 3, 1) := by decide +kernel
theorem dX8_sheet_46 : decode cX8_sheet 46 = .ok (.ireturn, 1) := by decide +kernel
theorem dX8_lose_0 : decode cX8_lose 0 = .ok (.iload_n 1, 1) := by decide +kernel
theorem dX8_lose_1 : decode cX8_lose 1 = .ok (.invokestatic 161, 3) := by decide +kernel
theorem dX8_lose_4 : decode cX8_lose 4 = .ok (.ifCond .ne 6, 3) := by decide +kernel
theorem dX8_lose_7 : decode cX8_lose 7 = .ok (.bipush (-2), 2) := by decide +kernel
theorem dX8_lose_9 : decode cX8_lose 9 = .ok (.ireturn, 1) := by decide +kernel
theorem dX8_lose_10 : decode cX8_lose 10 = .ok (.aload_n 0, 1) := by decide +kernel
theorem dX8_lose_11 : decode cX8_lose 11 = .ok (.getfield 33, 3) := by decide +kernel
theorem dX8_lose_14 : decode cX8_lose 14 = .ok (.iload_n 1, 1) := by decide +kernel
theorem dX8_lose_15 : decode cX8_lose 15 = .ok (.aaload, 1) := by decide +kernel
theorem dX8_lose_16 : decode cX8_lose 16 = .ok (.invokevirtual 164, 3) := by decide +kernel
theorem dX8_lose_19 : decode cX8_lose 19 = .ok (.ifCond .eq 9, 3) := by decide +kernel
theorem dX8_lose_22 : decode cX8_lose 22 = .ok (.aload_n 0, 1) := by decide +kernel
theorem dX8_lose_23 : decode cX8_lose 23 = .ok (.iconst 1, 1) := by decide +kernel
theorem dX8_lose_24 : decode cX8_lose 24 = .ok (.invokevirtual 167, 3) := by decide +kernel
theorem dX8_lose_27 : decode cX8_lose 27 = .ok (.ireturn, 1) := by decide +kernel
theorem dX8_lose_28 : decode cX8_lose 28 = .ok (.aload_n 0, 1) := by decide +kernel
theorem dX8_lose_29 : decode cX8_lose 29 = .ok (.getfield 33, 3) := by decide +kernel
theorem dX8_lose_32 : decode cX8_lose 32 = .ok (.iload_n 1, 1) := by decide +kernel
theorem dX8_lose_33 : decode cX8_lose 33 = .ok (.aaload, 1) := by decide +kernel
theorem dX8_lose_34 : decode cX8_lose 34 = .ok (.getfield 171, 3) := by decide +kernel
theorem dX8_lose_37 : decode cX8_lose 37 = .ok (.istore_n 2, 1) := by decide +kernel
theorem dX8_lose_38 : decode cX8_lose 38 = .ok (.aload_n 0, 1) := by decide +kernel
theorem dX8_lose_39 : decode cX8_lose 39 = .ok (.getfield 33, 3) := by decide +kernel
theorem dX8_lose_42 : decode cX8_lose 42 = .ok (.iload_n 1, 1) := by decide +kernel
theorem dX8_lose_43 : decode cX8_lose 43 = .ok (.aaload, 1) := by decide +kernel
theorem dX8_lose_44 : decode cX8_lose 44 = .ok (.iconst (-1), 1) := by decide +kernel
theorem dX8_lose_45 : decode cX8_lose 45 = .ok (.putfield 171, 3) := by decide +kernel
theorem dX8_lose_48 : decode cX8_lose 48 = .ok (.iload_n 2, 1) := by decide +kernel
theorem dX8_lose_49 : decode cX8_lose 49 = .ok (.ireturn, 1) := by decide +kernel
theorem dX8_put_0 : decode cX8_put 0 = .ok (.iload_n 1, 1) := by decide +kernel
theorem dX8_put_1 : decode cX8_put 1 = .ok (.invokestatic 161, 3) := by decide +kernel
theorem dX8_put_4 : decode cX8_put 4 = .ok (.ifCond .eq 11, 3) := by decide +kernel
theorem dX8_put_7 : decode cX8_put 7 = .ok (.iload_n 2, 1) := by decide +kernel
theorem dX8_put_8 : decode cX8_put 8 = .ok (.iconst 3, 1) := by decide +kernel
theorem dX8_put_9 : decode cX8_put 9 = .ok (.invokestatic 133, 3) := by decide +kernel
theorem dX8_put_12 : decode cX8_put 12 = .ok (.ifCond .ne 6, 3) := by decide +kernel
theorem dX8_put_15 : decode cX8_put 15 = .ok (.bipush (-2), 2) := by decide +kernel
theorem dX8_put_17 : decode cX8_put 17 = .ok (.ireturn, 1) := by decide +kernel
theorem dX8_put_18 : decode cX8_put 18 = .ok (.aload_n 0, 1) := by decide +kernel
theorem dX8_put_19 : decode cX8_put 19 = .ok (.getfield 33, 3) := by decide +kernel
theorem dX8_put_22 : decode cX8_put 22 = .ok (.iload_n 1, 1) := by decide +kernel
theorem dX8_put_23 : decode cX8_put 23 = .ok (.aaload, 1) := by decide +kernel
theorem dX8_put_24 : decode cX8_put 24 = .ok (.iload_n 2, 1) := by decide +kernel
theorem dX8_put_25 : decode cX8_put 25 = .ok (.iload_n 3, 1) := by decide +kernel
theorem dX8_put_26 : decode cX8_put 26 = .ok (.invokevirtual 278, 3) := by decide +kernel
theorem dX8_put_29 : decode cX8_put 29 = .ok (.istore 5, 2) := by decide +kernel
theorem dX8_put_31 : decode cX8_put 31 = .ok (.iload 5, 2) := by decide +kernel
theorem dX8_put_33 : decode cX8_put 33 = .ok (.ifCond .eq 10, 3) := by decide +kernel
theorem dX8_put_36 : decode cX8_put 36 = .ok (.aload_n 0, 1) := by decide +kernel
theorem dX8_put_37 : decode cX8_put 37 = .ok (.iload 5, 2) := by decide +kernel
theorem dX8_put_39 : decode cX8_put 39 = .ok (.invokevirtual 167, 3) := by decide +kernel
theorem dX8_put_42 : decode cX8_put 42 = .ok (.ireturn, 1) := by decide +kernel
theorem dX8_put_43 : decode cX8_put 43 = .ok (.aload_n 0, 1) := by decide +kernel
theorem dX8_put_44 : decode cX8_put 44 = .ok (.getfield 33, 3) := by decide +kernel
theorem dX8_put_47 : decode cX8_put 47 = .ok (.iload_n 1, 1) := by decide +kernel
theorem dX8_put_48 : decode cX8_put 48 = .ok (.aaload, 1) := by decide +kernel
theorem dX8_put_49 : decode cX8_put 49 = .ok (.getfield 172, 3) := by decide +kernel
theorem dX8_put_52 : decode cX8_put 52 = .ok (.iload_n 3, 1) := by decide +kernel
theorem dX8_put_53 : decode cX8_put 53 = .ok (.aload_n 0, 1) := by decide +kernel
theorem dX8_put_54 : decode cX8_put 54 = .ok (.getfield 33, 3) := by decide +kernel
theorem dX8_put_57 : decode cX8_put 57 = .ok (.iload_n 1, 1) := by decide +kernel
theorem dX8_put_58 : decode cX8_put 58 = .ok (.aaload, 1) := by decide +kernel
theorem dX8_put_59 : decode cX8_put 59 = .ok (.iload 4, 2) := by decide +kernel
theorem dX8_put_61 : decode cX8_put 61 = .ok (.invokevirtual 281, 3) := by decide +kernel
theorem dX8_put_64 : decode cX8_put 64 = .ok (.iastore, 1) := by decide +kernel
theorem dX8_put_65 : decode cX8_put 65 = .ok (.iconst 1, 1) := by decide +kernel
theorem dX8_put_66 : decode cX8_put 66 = .ok (.ireturn, 1) := by decide +kernel
theorem dX8_get_0 : decode cX8_get 0 = .ok (.iload_n 1, 1) := by decide +kernel
theorem dX8_get_1 : decode cX8_get 1 = .ok (.invokestatic 161, 3) := by decide +kernel
theorem dX8_get_4 : decode cX8_get 4 = .ok (.ifCond .eq 11, 3) := by decide +kernel
theorem dX8_get_7 : decode cX8_get 7 = .ok (.iload_n 2, 1) := by decide +kernel
theorem dX8_get_8 : decode cX8_get 8 = .ok (.iconst 3, 1) := by decide +kernel
theorem dX8_get_9 : decode cX8_get 9 = .ok (.invokestatic 133, 3) := by decide +kernel
theorem dX8_get_12 : decode cX8_get 12 = .ok (.ifCond .ne 7, 3) := by decide +kernel
theorem dX8_get_15 : decode cX8_get 15 = .ok (.ldc_w 284, 3) := by decide +kernel
theorem dX8_get_18 : decode cX8_get 18 = .ok (.ireturn, 1) := by decide +kernel
theorem dX8_get_19 : decode cX8_get 19 = .ok (.aload_n 0, 1) := by decide +kernel
theorem dX8_get_20 : decode cX8_get 20 = .ok (.getfield 33, 3) := by decide +kernel
theorem dX8_get_23 : decode cX8_get 23 = .ok (.iload_n 1, 1) := by decide +kernel
theorem dX8_get_24 : decode cX8_get 24 = .ok (.aaload, 1) := by decide +kernel
theorem dX8_get_25 : decode cX8_get 25 = .ok (.iload_n 2, 1) := by decide +kernel
theorem dX8_get_26 : decode cX8_get 26 = .ok (.iload_n 3, 1) := by decide +kernel
theorem dX8_get_27 : decode cX8_get 27 = .ok (.invokevirtual 278, 3) := by decide +kernel
theorem dX8_get_30 : decode cX8_get 30 = .ok (.istore 4, 2) := by decide +kernel
theorem dX8_get_32 : decode cX8_get 32 = .ok (.iload 4, 2) := by decide +kernel
theorem dX8_get_34 : decode cX8_get 34 = .ok (.ifCond .eq 13, 3) := by decide +kernel
theorem dX8_get_37 : decode cX8_get 37 = .ok (.aload_n 0, 1) := by decide +kernel
theorem dX8_get_38 : decode cX8_get 38 = .ok (.iload 4, 2) := by decide +kernel
theorem dX8_get_40 : decode cX8_get 40 = .ok (.putfield 89, 3) := by decide +kernel
theorem dX8_get_43 : decode cX8_get 43 = .ok (.ldc_w 284, 3) := by decide +kernel
theorem dX8_get_46 : decode cX8_get 46 = .ok (.ireturn, 1) := by decide +kernel
theorem dX8_get_47 : decode cX8_get 47 = .ok (.aload_n 0, 1) := by decide +kernel
theorem dX8_get_48 : decode cX8_get 48 = .ok (.getfield 33, 3) := by decide +kernel
theorem dX8_get_51 : decode cX8_get 51 = .ok (.iload_n 1, 1) := by decide +kernel
theorem dX8_get_52 : decode cX8_get 52 = .ok (.aaload, 1) := by decide +kernel
theorem dX8_get_53 : decode cX8_get 53 = .ok (.getfield 172, 3) := by decide +kernel
theorem dX8_get_56 : decode cX8_get 56 = .ok (.iload_n 3, 1) := by decide +kernel
theorem dX8_get_57 : decode cX8_get 57 = .ok (.iaload, 1) := by decide +kernel
theorem dX8_get_58 : decode cX8_get 58 = .ok (.ireturn, 1) := by decide +kernel
theorem dX8_copy_0 : decode cX8_copy 0 = .ok (.iload_n 1, 1) := by decide +kernel
theorem dX8_copy_1 : decode cX8_copy 1 = .ok (.invokestatic 161, 3) := by decide +kernel
theorem dX8_copy_4 : decode cX8_copy 4 = .ok (.ifCond .eq 10, 3) := by decide +kernel
theorem dX8_copy_7 : decode cX8_copy 7 = .ok (.iload_n 3, 1) := by decide +kernel
theorem dX8_copy_8 : decode cX8_copy 8 = .ok (.invokestatic 161, 3) := by decide +kernel
theorem dX8_copy_11 : decode cX8_copy 11 = .ok (.ifCond .ne 6, 3) := by decide +kernel
theorem dX8_copy_14 : decode cX8_copy 14 = .ok (.bipush (-2), 2) := by decide +kernel
theorem dX8_copy_16 : decode cX8_copy 16 = .ok (.ireturn, 1) := by decide +kernel
theorem dX8_copy_17 : decode cX8_copy 17 = .ok (.aload_n 0, 1) := by decide +kernel
theorem dX8_copy_18 : decode cX8_copy 18 = .ok (.getfield 33, 3) := by decide +kernel
theorem dX8_copy_21 : decode cX8_copy 21 = .ok (.iload_n 1, 1) := by decide +kernel
theorem dX8_copy_22 : decode cX8_copy 22 = .ok (.aaload, 1) := by decide +kernel
theorem dX8_copy_23 : decode cX8_copy 23 = .ok (.astore 6, 2) := by decide +kernel
theorem dX8_copy_25 : decode cX8_copy 25 = .ok (.aload_n 0, 1) := by decide +kernel
theorem dX8_copy_26 : decode cX8_copy 26 = .ok (.getfield 33, 3) := by decide +kernel
theorem dX8_copy_29 : decode cX8_copy 29 = .ok (.iload_n 3, 1) := by decide +kernel
theorem dX8_copy_30 : decode cX8_copy 30 = .ok (.aaload, 1) := by decide +kernel
theorem dX8_copy_31 : decode cX8_copy 31 = .ok (.astore 7, 2) := by decide +kernel
theorem dX8_copy_33 : decode cX8_copy 33 = .ok (.aload 6, 2) := by decide +kernel
theorem dX8_copy_35 : decode cX8_copy 35 = .ok (.invokevirtual 164, 3) := by decide +kernel
theorem dX8_copy_38 : decode cX8_copy 38 = .ok (.ifCond .ne 11, 3) := by decide +kernel
theorem dX8_copy_41 : decode cX8_copy 41 = .ok (.aload 7, 2) := by decide +kernel
theorem dX8_copy_43 : decode cX8_copy 43 = .ok (.invokevirtual 164, 3) := by decide +kernel
theorem dX8_copy_46 : decode cX8_copy 46 = .ok (.ifCond .eq 9, 3) := by decide +kernel
theorem dX8_copy_49 : decode cX8_copy 49 = .ok (.aload_n 0, 1) := by decide +kernel
theorem dX8_copy_50 : decode cX8_copy 50 = .ok (.iconst 1, 1) := by decide +kernel
theorem dX8_copy_51 : decode cX8_copy 51 = .ok (.invokevirtual 167, 3) := by decide +kernel
theorem dX8_copy_54 : decode cX8_copy 54 = .ok (.ireturn, 1) := by decide +kernel
theorem dX8_copy_55 : decode cX8_copy 55 = .ok (.aload 6, 2) := by decide +kernel
theorem dX8_copy_57 : decode cX8_copy 57 = .ok (.getfield 285, 3) := by decide +kernel
theorem dX8_copy_60 : decode cX8_copy 60 = .ok (.aload 7, 2) := by decide +kernel
theorem dX8_copy_62 : decode cX8_copy 62 = .ok (.getfield 285, 3) := by decide +kernel
theorem dX8_copy_65 : decode cX8_copy 65 = .ok (.if_icmp .eq 9, 3) := by decide +kernel
theorem dX8_copy_68 : decode cX8_copy 68 = .ok (.aload_n 0, 1) := by decide +kernel
theorem dX8_copy_69 : decode cX8_copy 69 = .ok (.iconst 4, 1) := by decide +kernel
theorem dX8_copy_70 : decode cX8_copy 70 = .ok (.invokevirtual 167, 3) := by decide +kernel
theorem dX8_copy_73 : decode cX8_copy 73 = .ok (.ireturn, 1) := by decide +kernel
theorem dX8_copy_74 : decode cX8_copy 74 = .ok (.aload 6, 2) := by decide +kernel
theorem dX8_copy_76 : decode cX8_copy 76 = .ok (.iload_n 2, 1) := by decide +kernel
theorem dX8_copy_77 : decode cX8_copy 77 = .ok (.iload 5, 2) := by decide +kernel
theorem dX8_copy_79 : decode cX8_copy 79 = .ok (.invokevirtual 288, 3) := by decide +kernel
theorem dX8_copy_82 : decode cX8_copy 82 = .ok (.ifCond .eq 15, 3) := by decide +kernel
theorem dX8_copy_85 : decode cX8_copy 85 = .ok (.aload 7, 2) := by decide +kernel
theorem dX8_copy_87 : decode cX8_copy 87 = .ok (.iload 4, 2) := by decide +kernel
theorem dX8_copy_89 : decode cX8_copy 89 = .ok (.iload 5, 2) := by decide +kernel
theorem dX8_copy_91 : decode cX8_copy 91 = .ok (.invokevirtual 288, 3) := by decide +kernel
theorem dX8_copy_94 : decode cX8_copy 94 = .ok (.ifCond .ne 9, 3) := by decide +kernel
theorem dX8_copy_97 : decode cX8_copy 97 = .ok (.aload_n 0, 1) := by decide +kernel
theorem dX8_copy_98 : decode cX8_copy 98 = .ok (.iconst 2, 1) := by decide +kernel
theorem dX8_copy_99 : decode cX8_copy 99 = .ok (.invokevirtual 167, 3) := by decide +kernel
theorem dX8_copy_102 : decode cX8_copy 102 = .ok (.ireturn, 1) := by decide +kernel
theorem dX8_copy_103 : decode cX8_copy 103 = .ok (.aload 6, 2) := by decide +kernel
theorem dX8_copy_105 : decode cX8_copy 105 = .ok (.getfield 172, 3) := by decide +kernel
theorem dX8_copy_108 : decode cX8_copy 108 = .ok (.iload_n 2, 1) := by decide +kernel
theorem dX8_copy_109 : decode cX8_copy 109 = .ok (.aload 7, 2) := by decide +kernel
theorem dX8_copy_111 : decode cX8_copy 111 = .ok (.getfield 172, 3) := by decide +kernel
theorem dX8_copy_114 : decode cX8_copy 114 = .ok (.iload 4, 2) := by decide +kernel
theorem dX8_copy_116 : decode cX8_copy 116 = .ok (.iload 5, 2) := by decide +kernel
theorem dX8_copy_118 : decode cX8_copy 118 = .ok (.invokestatic 291, 3) := by decide +kernel
theorem dX8_copy_121 : decode cX8_copy 121 = .ok (.iconst 1, 1) := by decide +kernel
theorem dX8_copy_122 : decode cX8_copy 122 = .ok (.ireturn, 1) := by decide +kernel
theorem dX8_write_0 : decode cX8_write 0 = .ok (.iload_n 1, 1) := by decide +kernel
theorem dX8_write_1 : decode cX8_write 1 = .ok (.invokestatic 179, 3) := by decide +kernel
theorem dX8_write_4 : decode cX8_write 4 = .ok (.ifCond .eq 10, 3) := by decide +kernel
theorem dX8_write_7 : decode cX8_write 7 = .ok (.iload_n 2, 1) := by decide +kernel
theorem dX8_write_8 : decode cX8_write 8 = .ok (.invokestatic 161, 3) := by decide +kernel
theorem dX8_write_11 : decode cX8_write 11 = .ok (.ifCond .ne 6, 3) := by decide +kernel
theorem dX8_write_14 : decode cX8_write 14 = .ok (.bipush (-2), 2) := by decide +kernel
theorem dX8_write_16 : decode cX8_write 16 = .ok (.ireturn, 1) := by decide +kernel
theorem dX8_write_17 : decode cX8_write 17 = .ok (.aload_n 0, 1) := by decide +kernel
theorem dX8_write_18 : decode cX8_write 18 = .ok (.getfield 33, 3) := by decide +kernel
theorem dX8_write_21 : decode cX8_write 21 = .ok (.iload_n 2, 1) := by decide +kernel
theorem dX8_write_22 : decode cX8_write 22 = .ok (.aaload, 1) := by decide +kernel
theorem dX8_write_23 : decode cX8_write 23 = .ok (.astore_n 3, 1) := by decide +kernel
theorem dX8_write_24 : decode cX8_write 24 = .ok (.aload_n 3, 1) := by decide +kernel
theorem dX8_write_25 : decode cX8_write 25 = .ok (.invokevirtual 164, 3) := by decide +kernel
theorem dX8_write_28 : decode cX8_write 28 = .ok (.ifCond .eq 9, 3) := by decide +kernel
theorem dX8_write_31 : decode cX8_write 31 = .ok (.aload_n 0, 1) := by decide +kernel
theorem dX8_write_32 : decode cX8_write 32 = .ok (.iconst 1, 1) := by decide +kernel
theorem dX8_write_33 : decode cX8_write 33 = .ok (.invokevirtual 167, 3) := by decide +kernel
theorem dX8_write_36 : decode cX8_write 36 = .ok (.ireturn, 1) := by decide +kernel
theorem dX8_write_37 : decode cX8_write 37 = .ok (.aload_n 0, 1) := by decide +kernel
theorem dX8_write_38 : decode cX8_write 38 = .ok (.invokevirtual 121, 3) := by decide +kernel
theorem dX8_write_41 : decode cX8_write 41 = .ok (.aload_n 3, 1) := by decide +kernel
theorem dX8_write_42 : decode cX8_write 42 = .ok (.getfield 171, 3) := by decide +kernel
theorem dX8_write_45 : decode cX8_write 45 = .ok (.aload_n 0, 1) := by decide +kernel
theorem dX8_write_46 : decode cX8_write 46 = .ok (.getfield 40, 3) := by decide +kernel
theorem dX8_write_49 : decode cX8_write 49 = .ok (.getfield 297, 3) := by decide +kernel
theorem dX8_write_52 : decode cX8_write 52 = .ok (.invokestatic 300, 3) := by decide +kernel
theorem dX8_write_55 : decode cX8_write 55 = .ok (.istore 4, 2) := by decide +kernel
theorem dX8_write_57 : decode cX8_write 57 = .ok (.iconst 0, 1) := by decide +kernel
theorem dX8_write_58 : decode cX8_write 58 = .ok (.istore 5, 2) := by decide +kernel
theorem dX8_write_60 : decode cX8_write 60 = .ok (.iload 5, 2) := by decide +kernel
theorem dX8_write_62 : decode cX8_write 62 = .ok (.iload 4, 2) := by decide +kernel
theorem dX8_write_64 : decode cX8_write 64 = .ok (.if_icmp .ge 31, 3) := by decide +kernel
theorem dX8_write_67 : decode cX8_write 67 = .ok (.aload_n 3, 1) := by decide +kernel
theorem dX8_write_68 : decode cX8_write 68 = .ok (.getfield 172, 3) := by decide +kernel
theorem dX8_write_71 : decode cX8_write 71 = .ok (.iload 5, 2) := by decide +kernel
theorem dX8_write_73 : decode cX8_write 73 = .ok (.aload_n 0, 1) := by decide +kernel
theorem dX8_write_74 : decode cX8_write 74 = .ok (.getfield 50, 3) := by decide +kernel
theorem dX8_write_77 : decode cX8_write 77 = .ok (.getfield 188, 3) := by decide +kernel
theorem dX8_write_80 : decode cX8_write 80 = .ok (.iload_n 1, 1) := by decide +kernel
theorem dX8_write_81 : decode cX8_write 81 = .ok (.bipush 12, 2) := by decide +kernel
theorem dX8_write_83 : decode cX8_write 83 = .ok (.imul, 1) := by decide +kernel
theorem dX8_write_84 : decode cX8_write 84 = .ok (.iload 5, 2) := by decide +kernel
theorem dX8_write_86 : decode cX8_write 86 = .ok (.iadd, 1) := by decide +kernel
theorem dX8_write_87 : decode cX8_write 87 = .ok (.iaload, 1) := by decide +kernel
theorem dX8_write_88 : decode cX8_write 88 = .ok (.iastore, 1) := by decide +kernel
theorem dX8_write_89 : decode cX8_write 89 = .ok (.iinc 5 1, 3) := by decide +kernel
theorem dX8_write_92 : decode cX8_write 92 = .ok (.goto (-32), 3) := by decide +kernel
theorem dX8_write_95 : decode cX8_write 95 = .ok (.iload 4, 2) := by decide +kernel
theorem dX8_write_97 : decode cX8_write 97 = .ok (.ireturn, 1) := by decide +kernel
theorem dX8_count_0 : decode cX8_count 0 = .ok (.aload_n 0, 1) := by decide +kernel
theorem dX8_count_1 : decode cX8_count 1 = .ok (.invokevirtual 121, 3) := by decide +kernel
theorem dX8_count_4 : decode cX8_count 4 = .ok (.iload_n 1, 1) := by decide +kernel
theorem dX8_count_5 : decode cX8_count 5 = .ok (.tableswitch 123 0 8 #[51, 59, 67, 75, 83, 91, 99, 110, 118], 51) := by decide +kernel
theorem dX8_count_56 : decode cX8_count 56 = .ok (.aload_n 0, 1) := by decide +kernel
theorem dX8_count_57 : decode cX8_count 57 = .ok (.getfield 40, 3) := by decide +kernel
theorem dX8_count_60 : decode cX8_count 60 = .ok (.getfield 297, 3) := by decide +kernel
theorem dX8_count_63 : decode cX8_count 63 = .ok (.ireturn, 1) := by decide +kernel
theorem dX8_count_64 : decode cX8_count 64 = .ok (.aload_n 0, 1) := by decide +kernel
theorem dX8_count_65 : decode cX8_count 65 = .ok (.getfield 40, 3) := by decide +kernel
theorem dX8_count_68 : decode cX8_count 68 = .ok (.getfield 305, 3) := by decide +kernel
theorem dX8_count_71 : decode cX8_count 71 = .ok (.ireturn, 1) := by decide +kernel
theorem dX8_count_72 : decode cX8_count 72 = .ok (.aload_n 0, 1) := by decide +kernel
theorem dX8_count_73 : decode cX8_count 73 = .ok (.getfield 14, 3) := by decide +kernel
theorem dX8_count_76 : decode cX8_count 76 = .ok (.getfield 102, 3) := by decide +kernel
theorem dX8_count_79 : decode cX8_count 79 = .ok (.ireturn, 1) := by decide +kernel
theorem dX8_count_80 : decode cX8_count 80 = .ok (.aload_n 0, 1) := by decide +kernel
theorem dX8_count_81 : decode cX8_count 81 = .ok (.getfield 18, 3) := by decide +kernel
theorem dX8_count_84 : decode cX8_count 84 = .ok (.getfield 102, 3) := by decide +kernel
theorem dX8_count_87 : decode cX8_count 87 = .ok (.ireturn, 1) := by decide +kernel
theorem dX8_count_88 : decode cX8_count 88 = .ok (.aload_n 0, 1) := by decide +kernel
theorem dX8_count_89 : decode cX8_count 89 = .ok (.getfield 24, 3) := by decide +kernel
theorem dX8_count_92 : decode cX8_count 92 = .ok (.getfield 158, 3) := by decide +kernel
theorem dX8_count_95 : decode cX8_count 95 = .ok (.ireturn, 1) := by decide +kernel
theorem dX8_count_96 : decode cX8_count 96 = .ok (.aload_n 0, 1) := by decide +kernel
theorem dX8_count_97 : decode cX8_count 97 = .ok (.getfield 50, 3) := by decide +kernel
theorem dX8_count_100 : decode cX8_count 100 = .ok (.getfield 265, 3) := by decide +kernel
theorem dX8_count_103 : decode cX8_count 103 = .ok (.ireturn, 1) := by decide +kernel
theorem dX8_count_104 : decode cX8_count 104 = .ok (.aload_n 0, 1) := by decide +kernel
theorem dX8_count_105 : decode cX8_count 105 = .ok (.getfield 50, 3) := by decide +kernel
theorem dX8_count_108 : decode cX8_count 108 = .ok (.getfield 268, 3) := by decide +kernel
theorem dX8_count_111 : decode cX8_count 111 = .ok (.invokestatic 271, 3) := by decide +kernel
theorem dX8_count_114 : decode cX8_count 114 = .ok (.ireturn, 1) := by decide +kernel
theorem dX8_count_115 : decode cX8_count 115 = .ok (.aload_n 0, 1) := by decide +kernel
theorem dX8_count_116 : decode cX8_count 116 = .ok (.getfield 28, 3) := by decide +kernel
theorem dX8_count_119 : decode cX8_count 119 = .ok (.getfield 158, 3) := by decide +kernel
theorem dX8_count_122 : decode cX8_count 122 = .ok (.ireturn, 1) := by decide +kernel
theorem dX8_count_123 : decode cX8_count 123 = .ok (.aload_n 0, 1) := by decide +kernel
theorem dX8_count_124 : decode cX8_count 124 = .ok (.getfield 89, 3) := by decide +kernel
theorem dX8_count_127 : decode cX8_count 127 = .ok (.ireturn, 1) := by decide +kernel
theorem dX8_count_128 : decode cX8_count 128 = .ok (.bipush (-2), 2) := by decide +kernel
theorem dX8_count_130 : decode cX8_count 130 = .ok (.ireturn, 1) := by decide +kernel
theorem dX8_digest_0 : decode cX8_digest 0 = .ok (.aload_n 0, 1) := by decide +kernel
theorem dX8_digest_1 : decode cX8_digest 1 = .ok (.invokevirtual 121, 3) := by decide +kernel
theorem dX8_digest_4 : decode cX8_digest 4 = .ok (.aload_n 0, 1) := by decide +kernel
theorem dX8_digest_5 : decode cX8_digest 5 = .ok (.invokevirtual 231, 3) := by decide +kernel
theorem dX8_digest_8 : decode cX8_digest 8 = .ok (.ldc2_w 308, 3) := by decide +kernel
theorem dX8_digest_11 : decode cX8_digest 11 = .ok (.lstore_n 1, 1) := by decide +kernel
theorem dX8_digest_12 : decode cX8_digest 12 = .ok (.iconst 0, 1) := by decide +kernel
theorem dX8_digest_13 : decode cX8_digest 13 = .ok (.istore_n 3, 1) := by decide +kernel
theorem dX8_digest_14 : decode cX8_digest 14 = .ok (.iload_n 3, 1) := by decide +kernel
theorem dX8_digest_15 : decode cX8_digest 15 = .ok (.bipush 7, 2) := by decide +kernel
theorem dX8_digest_17 : decode cX8_digest 17 = .ok (.if_icmp .gt 22, 3) := by decide +kernel
theorem dX8_digest_20 : decode cX8_digest 20 = .ok (.ldc2_w 310, 3) := by decide +kernel
theorem dX8_digest_23 : decode cX8_digest 23 = .ok (.lload_n 1, 1) := by decide +kernel
theorem dX8_digest_24 : decode cX8_digest 24 = .ok (.lmul, 1) := by decide +kernel
theorem dX8_digest_25 : decode cX8_digest 25 = .ok (.aload_n 0, 1) := by decide +kernel
theorem dX8_digest_26 : decode cX8_digest 26 = .ok (.iload_n 3, 1) := by decide +kernel
theorem dX8_digest_27 : decode cX8_digest 27 = .ok (.invokevirtual 312, 3) := by decide +kernel
theorem dX8_digest_30 : decode cX8_digest 30 = .ok (.i2l, 1) := by decide +kernel
theorem dX8_digest_31 : decode cX8_digest 31 = .ok (.ladd, 1) := by decide +kernel
theorem dX8_digest_32 : decode cX8_digest 32 = .ok (.lstore_n 1, 1) := by decide +kernel
theorem dX8_digest_33 : decode cX8_digest 33 = .ok (.iinc 3 1, 3) := by decide +kernel
theorem dX8_digest_36 : decode cX8_digest 36 = .ok (.goto (-22), 3) := by decide +kernel
theorem dX8_digest_39 : decode cX8_digest 39 = .ok (.ldc2_w 310, 3) := by decide +kernel
theorem dX8_digest_42 : decode cX8_digest 42 = .ok (.lload_n 1, 1) := by decide +kernel
theorem dX8_digest_43 : decode cX8_digest 43 = .ok (.lmul, 1) := by decide +kernel
theorem dX8_digest_44 : decode cX8_digest 44 = .ok (.aload_n 0, 1) := by decide +kernel
theorem dX8_digest_45 : decode cX8_digest 45 = .ok (.iconst 0, 1) := by decide +kernel
theorem dX8_digest_46 : decode cX8_digest 46 = .ok (.invokevirtual 315, 3) := by decide +kernel
theorem dX8_digest_49 : decode cX8_digest 49 = .ok (.i2l, 1) := by decide +kernel
theorem dX8_digest_50 : decode cX8_digest 50 = .ok (.ladd, 1) := by decide +kernel
theorem dX8_digest_51 : decode cX8_digest 51 = .ok (.lstore_n 1, 1) := by decide +kernel
theorem dX8_digest_52 : decode cX8_digest 52 = .ok (.ldc2_w 310, 3) := by decide +kernel
theorem dX8_digest_55 : decode cX8_digest 55 = .ok (.lload_n 1, 1) := by decide +kernel
theorem dX8_digest_56 : decode cX8_digest 56 = .ok (.lmul, 1) := by decide +kernel
theorem dX8_digest_57 : decode cX8_digest 57 = .ok (.aload_n 0, 1) := by decide +kernel
theorem dX8_digest_58 : decode cX8_digest 58 = .ok (.iconst 1, 1) := by decide +kernel
theorem dX8_digest_59 : decode cX8_digest 59 = .ok (.invokevirtual 315, 3) := by decide +kernel
theorem dX8_digest_62 : decode cX8_digest 62 = .ok (.i2l, 1) := by decide +kernel
theorem dX8_digest_63 : decode cX8_digest 63 = .ok (.ladd, 1) := by decide +kernel
theorem dX8_digest_64 : decode cX8_digest 64 = .ok (.lstore_n 1, 1) := by decide +kernel
theorem dX8_digest_65 : decode cX8_digest 65 = .ok (.iconst 0, 1) := by decide +kernel
theorem dX8_digest_66 : decode cX8_digest 66 = .ok (.istore_n 3, 1) := by decide +kernel
theorem dX8_digest_67 : decode cX8_digest 67 = .ok (.iload_n 3, 1) := by decide +kernel
theorem dX8_digest_68 : decode cX8_digest 68 = .ok (.aload_n 0, 1) := by decide +kernel
theorem dX8_digest_69 : decode cX8_digest 69 = .ok (.getfield 40, 3) := by decide +kernel
theorem dX8_digest_72 : decode cX8_digest 72 = .ok (.getfield 297, 3) := by decide +kernel
theorem dX8_digest_75 : decode cX8_digest 75 = .ok (.if_icmp .ge 16, 3) := by decide +kernel
theorem dX8_digest_78 : decode cX8_digest 78 = .ok (.aload_n 0, 1) := by decide +kernel
theorem dX8_digest_79 : decode cX8_digest 79 = .ok (.lload_n 1, 1) := by decide +kernel
theorem dX8_digest_80 : decode cX8_digest 80 = .ok (.iload_n 3, 1) := by decide +kernel
theorem dX8_digest_81 : decode cX8_digest 81 = .ok (.invokevirtual 318, 3) := by decide +kernel
theorem dX8_digest_84 : decode cX8_digest 84 = .ok (.lstore_n 1, 1) := by decide +kernel
theorem dX8_digest_85 : decode cX8_digest 85 = .ok (.iinc 3 1, 3) := by decide +kernel
theorem dX8_digest_88 : decode cX8_digest 88 = .ok (.goto (-21), 3) := by decide +kernel
theorem dX8_digest_91 : decode cX8_digest 91 = .ok (.iconst 0, 1) := by decide +kernel
theorem dX8_digest_92 : decode cX8_digest 92 = .ok (.istore_n 3, 1) := by decide +kernel
theorem dX8_digest_93 : decode cX8_digest 93 = .ok (.iload_n 3, 1) := by decide +kernel
theorem dX8_digest_94 : decode cX8_digest 94 = .ok (.bipush 12, 2) := by decide +kernel
theorem dX8_digest_96 : decode cX8_digest 96 = .ok (.if_icmp .ge 16, 3) := by decide +kernel
theorem dX8_digest_99 : decode cX8_digest 99 = .ok (.aload_n 0, 1) := by decide +kernel
theorem dX8_digest_100 : decode cX8_digest 100 = .ok (.lload_n 1, 1) := by decide +kernel
theorem dX8_digest_101 : decode cX8_digest 101 = .ok (.iload_n 3, 1) := by decide +kernel
theorem dX8_digest_102 : decode cX8_digest 102 = .ok (.invokevirtual 322, 3) := by decide +kernel
theorem dX8_digest_105 : decode cX8_digest 105 = .ok (.lstore_n 1, 1) := by decide +kernel
theorem dX8_digest_106 : decode cX8_digest 106 = .ok (.iinc 3 1, 3) := by decide +kernel
theorem dX8_digest_109 : decode cX8_digest 109 = .ok (.goto (-16), 3) := by decide +kernel
theorem dX8_digest_112 : decode cX8_digest 112 = .ok (.iconst 0, 1) := by decide +kernel
theorem dX8_digest_113 : decode cX8_digest 113 = .ok (.istore_n 3, 1) := by decide +kernel
theorem dX8_digest_114 : decode cX8_digest 114 = .ok (.iload_n 3, 1) := by decide +kernel
theorem dX8_digest_115 : decode cX8_digest 115 = .ok (.aload_n 0, 1) := by decide +kernel
theorem dX8_digest_116 : decode cX8_digest 116 = .ok (.getfield 40, 3) := by decide +kernel
theorem dX8_digest_119 : decode cX8_digest 119 = .ok (.getfield 305, 3) := by decide +kernel
theorem dX8_digest_122 : decode cX8_digest 122 = .ok (.if_icmp .ge 16, 3) := by decide +kernel
theorem dX8_digest_125 : decode cX8_digest 125 = .ok (.aload_n 0, 1) := by decide +kernel
theorem dX8_digest_126 : decode cX8_digest 126 = .ok (.lload_n 1, 1) := by decide +kernel
theorem dX8_digest_127 : decode cX8_digest 127 = .ok (.iload_n 3, 1) := by decide +kernel
theorem dX8_digest_128 : decode cX8_digest 128 = .ok (.invokevirtual 325, 3) := by decide +kernel
theorem dX8_digest_131 : decode cX8_digest 131 = .ok (.lstore_n 1, 1) := by decide +kernel
theorem dX8_digest_132 : decode cX8_digest 132 = .ok (.iinc 3 1, 3) := by decide +kernel
theorem dX8_digest_135 : decode cX8_digest 135 = .ok (.goto (-21), 3) := by decide +kernel
theorem dX8_digest_138 : decode cX8_digest 138 = .ok (.aload_n 0, 1) := by decide +kernel
theorem dX8_digest_139 : decode cX8_digest 139 = .ok (.lload_n 1, 1) := by decide +kernel
theorem dX8_digest_140 : decode cX8_digest 140 = .ok (.invokevirtual 328, 3) := by decide +kernel
theorem dX8_digest_143 : decode cX8_digest 143 = .ok (.lstore_n 1, 1) := by decide +kernel
theorem dX8_digest_144 : decode cX8_digest 144 = .ok (.aload_n 0, 1) := by decide +kernel
theorem dX8_digest_145 : decode cX8_digest 145 = .ok (.lload_n 1, 1) := by decide +kernel
theorem dX8_digest_146 : decode cX8_digest 146 = .ok (.invokevirtual 332, 3) := by decide +kernel
theorem dX8_digest_149 : decode cX8_digest 149 = .ok (.lreturn, 1) := by decide +kernel
theorem dX8_foldHook_0 : decode cX8_foldHook 0 = .ok (.ldc2_w 310, 3) := by decide +kernel
theorem dX8_foldHook_3 : decode cX8_foldHook 3 = .ok (.lload_n 1, 1) := by decide +kernel
theorem dX8_foldHook_4 : decode cX8_foldHook 4 = .ok (.lmul, 1) := by decide +kernel
theorem dX8_foldHook_5 : decode cX8_foldHook 5 = .ok (.aload_n 0, 1) := by decide +kernel
theorem dX8_foldHook_6 : decode cX8_foldHook 6 = .ok (.getfield 40, 3) := by decide +kernel
theorem dX8_foldHook_9 : decode cX8_foldHook 9 = .ok (.getfield 127, 3) := by decide +kernel
theorem dX8_foldHook_12 : decode cX8_foldHook 12 = .ok (.iload_n 3, 1) := by decide +kernel
theorem dX8_foldHook_13 : decode cX8_foldHook 13 = .ok (.iaload, 1) := by decide +kernel
theorem dX8_foldHook_14 : decode cX8_foldHook 14 = .ok (.i2l, 1) := by decide +kernel
theorem dX8_foldHook_15 : decode cX8_foldHook 15 = .ok (.ladd, 1) := by decide +kernel
theorem dX8_foldHook_16 : decode cX8_foldHook 16 = .ok (.lstore 4, 2) := by decide +kernel
theorem dX8_foldHook_18 : decode cX8_foldHook 18 = .ok (.ldc2_w 310, 3) := by decide +kernel
theorem dX8_foldHook_21 : decode cX8_foldHook 21 = .ok (.lload 4, 2) := by decide +kernel
theorem dX8_foldHook_23 : decode cX8_foldHook 23 = .ok (.lmul, 1) := by decide +kernel
theorem dX8_foldHook_24 : decode cX8_foldHook 24 = .ok (.aload_n 0, 1) := by decide +kernel
theorem dX8_foldHook_25 : decode cX8_foldHook 25 = .ok (.getfield 50, 3) := by decide +kernel
theorem dX8_foldHook_28 : decode cX8_foldHook 28 = .ok (.getfield 188, 3) := by decide +kernel
theorem dX8_foldHook_31 : decode cX8_foldHook 31 = .ok (.iload_n 3, 1) := by decide +kernel
theorem dX8_foldHook_32 : decode cX8_foldHook 32 = .ok (.iaload, 1) := by decide +kernel
theorem dX8_foldHook_33 : decode cX8_foldHook 33 = .ok (.i2l, 1) := by decide +kernel
theorem dX8_foldHook_34 : decode cX8_foldHook 34 = .ok (.ladd, 1) := by decide +kernel
theorem dX8_foldHook_35 : decode cX8_foldHook 35 = .ok (.lstore 4, 2) := by decide +kernel
theorem dX8_foldHook_37 : decode cX8_foldHook 37 = .ok (.ldc2_w 310, 3) := by decide +kernel
theorem dX8_foldHook_40 : decode cX8_foldHook 40 = .ok (.lload 4, 2) := by decide +kernel
theorem dX8_foldHook_42 : decode cX8_foldHook 42 = .ok (.lmul, 1) := by decide +kernel
theorem dX8_foldHook_43 : decode cX8_foldHook 43 = .ok (.aload_n 0, 1) := by decide +kernel
theorem dX8_foldHook_44 : decode cX8_foldHook 44 = .ok (.getfield 50, 3) := by decide +kernel
theorem dX8_foldHook_47 : decode cX8_foldHook 47 = .ok (.getfield 188, 3) := by decide +kernel
theorem dX8_foldHook_50 : decode cX8_foldHook 50 = .ok (.bipush 36, 2) := by decide +kernel
theorem dX8_foldHook_52 : decode cX8_foldHook 52 = .ok (.iload_n 3, 1) := by decide +kernel
theorem dX8_foldHook_53 : decode cX8_foldHook 53 = .ok (.iadd, 1) := by decide +kernel
theorem dX8_foldHook_54 : decode cX8_foldHook 54 = .ok (.iaload, 1) := by decide +kernel
theorem dX8_foldHook_55 : decode cX8_foldHook 55 = .ok (.i2l, 1) := by decide +kernel
theorem dX8_foldHook_56 : decode cX8_foldHook 56 = .ok (.ladd, 1) := by decide +kernel
theorem dX8_foldHook_57 : decode cX8_foldHook 57 = .ok (.lstore 4, 2) := by decide +kernel
theorem dX8_foldHook_59 : decode cX8_foldHook 59 = .ok (.ldc2_w 310, 3) := by decide +kernel
theorem dX8_foldHook_62 : decode cX8_foldHook 62 = .ok (.lload 4, 2) := by decide +kernel
theorem dX8_foldHook_64 : decode cX8_foldHook 64 = .ok (.lmul, 1) := by decide +kernel
theorem dX8_foldHook_65 : decode cX8_foldHook 65 = .ok (.aload_n 0, 1) := by decide +kernel
theorem dX8_foldHook_66 : decode cX8_foldHook 66 = .ok (.getfield 50, 3) := by decide +kernel
theorem dX8_foldHook_69 : decode cX8_foldHook 69 = .ok (.getfield 188, 3) := by decide +kernel
theorem dX8_foldHook_72 : decode cX8_foldHook 72 = .ok (.sipush 132, 3) := by decide +kernel
theorem dX8_foldHook_75 : decode cX8_foldHook 75 = .ok (.iload_n 3, 1) := by decide +kernel
theorem dX8_foldHook_76 : decode cX8_foldHook 76 = .ok (.iadd, 1) := by decide +kernel
theorem dX8_foldHook_77 : decode cX8_foldHook 77 = .ok (.iaload, 1) := by decide +kernel
theorem dX8_foldHook_78 : decode cX8_foldHook 78 = .ok (.i2l, 1) := by decide +kernel
theorem dX8_foldHook_79 : decode cX8_foldHook 79 = .ok (.ladd, 1) := by decide +kernel
theorem dX8_foldHook_80 : decode cX8_foldHook 80 = .ok (.lreturn, 1) := by decide +kernel
theorem dX8_foldEvening_0 : decode cX8_foldEvening 0 = .ok (.lload_n 1, 1) := by decide +kernel
theorem dX8_foldEvening_1 : decode cX8_foldEvening 1 = .ok (.lstore 4, 2) := by decide +kernel
theorem dX8_foldEvening_3 : decode cX8_foldEvening 3 = .ok (.iconst 0, 1) := by decide +kernel
theorem dX8_foldEvening_4 : decode cX8_foldEvening 4 = .ok (.istore 6, 2) := by decide +kernel
theorem dX8_foldEvening_6 : decode cX8_foldEvening 6 = .ok (.iload 6, 2) := by decide +kernel
theorem dX8_foldEvening_8 : decode cX8_foldEvening 8 = .ok (.iconst 4, 1) := by decide +kernel
theorem dX8_foldEvening_9 : decode cX8_foldEvening 9 = .ok (.if_icmp .ge 29, 3) := by decide +kernel
theorem dX8_foldEvening_12 : decode cX8_foldEvening 12 = .ok (.ldc2_w 310, 3) := by decide +kernel
theorem dX8_foldEvening_15 : decode cX8_foldEvening 15 = .ok (.lload 4, 2) := by decide +kernel
theorem dX8_foldEvening_17 : decode cX8_foldEvening 17 = .ok (.lmul, 1) := by decide +kernel
theorem dX8_foldEvening_18 : decode cX8_foldEvening 18 = .ok (.aload_n 0, 1) := by decide +kernel
theorem dX8_foldEvening_19 : decode cX8_foldEvening 19 = .ok (.getfield 50, 3) := by decide +kernel
theorem dX8_foldEvening_22 : decode cX8_foldEvening 22 = .ok (.iload_n 3, 1) := by decide +kernel
theorem dX8_foldEvening_23 : decode cX8_foldEvening 23 = .ok (.iload 6, 2) := by decide +kernel
theorem dX8_foldEvening_25 : decode cX8_foldEvening 25 = .ok (.invokevirtual 191, 3) := by decide +kernel
theorem dX8_foldEvening_28 : decode cX8_foldEvening 28 = .ok (.i2l, 1) := by decide +kernel
theorem dX8_foldEvening_29 : decode cX8_foldEvening 29 = .ok (.ladd, 1) := by decide +kernel
theorem dX8_foldEvening_30 : decode cX8_foldEvening 30 = .ok (.lstore 4, 2) := by decide +kernel
theorem dX8_foldEvening_32 : decode cX8_foldEvening 32 = .ok (.iinc 6 1, 3) := by decide +kernel
theorem dX8_foldEvening_35 : decode cX8_foldEvening 35 = .ok (.goto (-29), 3) := by decide +kernel
theorem dX8_foldEvening_38 : decode cX8_foldEvening 38 = .ok (.aload_n 0, 1) := by decide +kernel
theorem dX8_foldEvening_39 : decode cX8_foldEvening 39 = .ok (.iload_n 3, 1) := by decide +kernel
theorem dX8_foldEvening_40 : decode cX8_foldEvening 40 = .ok (.invokevirtual 225, 3) := by decide +kernel
theorem dX8_foldEvening_43 : decode cX8_foldEvening 43 = .ok (.iconst 0, 1) := by decide +kernel
theorem dX8_foldEvening_44 : decode cX8_foldEvening 44 = .ok (.istore 6, 2) := by decide +kernel
theorem dX8_foldEvening_46 : decode cX8_foldEvening 46 = .ok (.iload 6, 2) := by decide +kernel
theorem dX8_foldEvening_48 : decode cX8_foldEvening 48 = .ok (.iconst 3, 1) := by decide +kernel
theorem dX8_foldEvening_49 : decode cX8_foldEvening 49 = .ok (.if_icmp .ge 28, 3) := by decide +kernel
theorem dX8_foldEvening_52 : decode cX8_foldEvening 52 = .ok (.ldc2_w 310, 3) := by decide +kernel
theorem dX8_foldEvening_55 : decode cX8_foldEvening 55 = .ok (.lload 4, 2) := by decide +kernel
theorem dX8_foldEvening_57 : decode cX8_foldEvening 57 = .ok (.lmul, 1) := by decide +kernel
theorem dX8_foldEvening_58 : decode cX8_foldEvening 58 = .ok (.aload_n 0, 1) := by decide +kernel
theorem dX8_foldEvening_59 : decode cX8_foldEvening 59 = .ok (.getfield 60, 3) := by decide +kernel
theorem dX8_foldEvening_62 : decode cX8_foldEvening 62 = .ok (.iload 6, 2) := by decide +kernel
theorem dX8_foldEvening_64 : decode cX8_foldEvening 64 = .ok (.invokevirtual 228, 3) := by decide +kernel
theorem dX8_foldEvening_67 : decode cX8_foldEvening 67 = .ok (.i2l, 1) := by decide +kernel
theorem dX8_foldEvening_68 : decode cX8_foldEvening 68 = .ok (.ladd, 1) := by decide +kernel
theorem dX8_foldEvening_69 : decode cX8_foldEvening 69 = .ok (.lstore 4, 2) := by decide +kernel
theorem dX8_foldEvening_71 : decode cX8_foldEvening 71 = .ok (.iinc 6 1, 3) := by decide +kernel
theorem dX8_foldEvening_74 : decode cX8_foldEvening 74 = .ok (.goto (-28), 3) := by decide +kernel
theorem dX8_foldEvening_77 : decode cX8_foldEvening 77 = .ok (.lload 4, 2) := by decide +kernel
theorem dX8_foldEvening_79 : decode cX8_foldEvening 79 = .ok (.lreturn, 1) := by decide +kernel
theorem dX8_foldThing_0 : decode cX8_foldThing 0 = .ok (.ldc2_w 310, 3) := by decide +kernel
theorem dX8_foldThing_3 : decode cX8_foldThing 3 = .ok (.lload_n 1, 1) := by decide +kernel
theorem dX8_foldThing_4 : decode cX8_foldThing 4 = .ok (.lmul, 1) := by decide +kernel
theorem dX8_foldThing_5 : decode cX8_foldThing 5 = .ok (.aload_n 0, 1) := by decide +kernel
theorem dX8_foldThing_6 : decode cX8_foldThing 6 = .ok (.getfield 40, 3) := by decide +kernel
theorem dX8_foldThing_9 : decode cX8_foldThing 9 = .ok (.getfield 137, 3) := by decide +kernel
theorem dX8_foldThing_12 : decode cX8_foldThing 12 = .ok (.iload_n 3, 1) := by decide +kernel
theorem dX8_foldThing_13 : decode cX8_foldThing 13 = .ok (.iaload, 1) := by decide +kernel
theorem dX8_foldThing_14 : decode cX8_foldThing 14 = .ok (.i2l, 1) := by decide +kernel
theorem dX8_foldThing_15 : decode cX8_foldThing 15 = .ok (.ladd, 1) := by decide +kernel
theorem dX8_foldThing_16 : decode cX8_foldThing 16 = .ok (.lstore 4, 2) := by decide +kernel
theorem dX8_foldThing_18 : decode cX8_foldThing 18 = .ok (.ldc2_w 310, 3) := by decide +kernel
theorem dX8_foldThing_21 : decode cX8_foldThing 21 = .ok (.lload 4, 2) := by decide +kernel
theorem dX8_foldThing_23 : decode cX8_foldThing 23 = .ok (.lmul, 1) := by decide +kernel
theorem dX8_foldThing_24 : decode cX8_foldThing 24 = .ok (.aload_n 0, 1) := by decide +kernel
theorem dX8_foldThing_25 : decode cX8_foldThing 25 = .ok (.getfield 40, 3) := by decide +kernel
theorem dX8_foldThing_28 : decode cX8_foldThing 28 = .ok (.getfield 140, 3) := by decide +kernel
theorem dX8_foldThing_31 : decode cX8_foldThing 31 = .ok (.iload_n 3, 1) := by decide +kernel
theorem dX8_foldThing_32 : decode cX8_foldThing 32 = .ok (.iaload, 1) := by decide +kernel
theorem dX8_foldThing_33 : decode cX8_foldThing 33 = .ok (.i2l, 1) := by decide +kernel
theorem dX8_foldThing_34 : decode cX8_foldThing 34 = .ok (.ladd, 1) := by decide +kernel
theorem dX8_foldThing_35 : decode cX8_foldThing 35 = .ok (.lstore 4, 2) := by decide +kernel
theorem dX8_foldThing_37 : decode cX8_foldThing 37 = .ok (.ldc2_w 310, 3) := by decide +kernel
theorem dX8_foldThing_40 : decode cX8_foldThing 40 = .ok (.lload 4, 2) := by decide +kernel
theorem dX8_foldThing_42 : decode cX8_foldThing 42 = .ok (.lmul, 1) := by decide +kernel
theorem dX8_foldThing_43 : decode cX8_foldThing 43 = .ok (.aload_n 0, 1) := by decide +kernel
theorem dX8_foldThing_44 : decode cX8_foldThing 44 = .ok (.getfield 40, 3) := by decide +kernel
theorem dX8_foldThing_47 : decode cX8_foldThing 47 = .ok (.getfield 143, 3) := by decide +kernel
theorem dX8_foldThing_50 : decode cX8_foldThing 50 = .ok (.iload_n 3, 1) := by decide +kernel
theorem dX8_foldThing_51 : decode cX8_foldThing 51 = .ok (.iaload, 1) := by decide +kernel
theorem dX8_foldThing_52 : decode cX8_foldThing 52 = .ok (.i2l, 1) := by decide +kernel
theorem dX8_foldThing_53 : decode cX8_foldThing 53 = .ok (.ladd, 1) := by decide +kernel
theorem dX8_foldThing_54 : decode cX8_foldThing 54 = .ok (.lstore 4, 2) := by decide +kernel
theorem dX8_foldThing_56 : decode cX8_foldThing 56 = .ok (.aload_n 0, 1) := by decide +kernel
theorem dX8_foldThing_57 : decode cX8_foldThing 57 = .ok (.lload 4, 2) := by decide +kernel
theorem dX8_foldThing_59 : decode cX8_foldThing 59 = .ok (.iload_n 3, 1) := by decide +kernel
theorem dX8_foldThing_60 : decode cX8_foldThing 60 = .ok (.invokevirtual 335, 3) := by decide +kernel
theorem dX8_foldThing_63 : decode cX8_foldThing 63 = .ok (.lstore 4, 2) := by decide +kernel
theorem dX8_foldThing_65 : decode cX8_foldThing 65 = .ok (.aload_n 0, 1) := by decide +kernel
theorem dX8_foldThing_66 : decode cX8_foldThing 66 = .ok (.lload 4, 2) := by decide +kernel
theorem dX8_foldThing_68 : decode cX8_foldThing 68 = .ok (.bipush 32, 2) := by decide +kernel
theorem dX8_foldThing_70 : decode cX8_foldThing 70 = .ok (.iload_n 3, 1) := by decide +kernel
theorem dX8_foldThing_71 : decode cX8_foldThing 71 = .ok (.iadd, 1) := by decide +kernel
theorem dX8_foldThing_72 : decode cX8_foldThing 72 = .ok (.invokevirtual 335, 3) := by decide +kernel
theorem dX8_foldThing_75 : decode cX8_foldThing 75 = .ok (.lstore 4, 2) := by decide +kernel
theorem dX8_foldThing_77 : decode cX8_foldThing 77 = .ok (.aload_n 0, 1) := by decide +kernel
theorem dX8_foldThing_78 : decode cX8_foldThing 78 = .ok (.lload 4, 2) := by decide +kernel
theorem dX8_foldThing_80 : decode cX8_foldThing 80 = .ok (.bipush 88, 2) := by decide +kernel
theorem dX8_foldThing_82 : decode cX8_foldThing 82 = .ok (.iload_n 3, 1) := by decide +kernel
theorem dX8_foldThing_83 : decode cX8_foldThing 83 = .ok (.iadd, 1) := by decide +kernel
theorem dX8_foldThing_84 : decode cX8_foldThing 84 = .ok (.invokevirtual 335, 3) := by decide +kernel
theorem dX8_foldThing_87 : decode cX8_foldThing 87 = .ok (.lstore 4, 2) := by decide +kernel
theorem dX8_foldThing_89 : decode cX8_foldThing 89 = .ok (.ldc2_w 310, 3) := by decide +kernel
theorem dX8_foldThing_92 : decode cX8_foldThing 92 = .ok (.lload 4, 2) := by decide +kernel
theorem dX8_foldThing_94 : decode cX8_foldThing 94 = .ok (.lmul, 1) := by decide +kernel
theorem dX8_foldThing_95 : decode cX8_foldThing 95 = .ok (.aload_n 0, 1) := by decide +kernel
theorem dX8_foldThing_96 : decode cX8_foldThing 96 = .ok (.getfield 50, 3) := by decide +kernel
theorem dX8_foldThing_99 : decode cX8_foldThing 99 = .ok (.getfield 195, 3) := by decide +kernel
theorem dX8_foldThing_102 : decode cX8_foldThing 102 = .ok (.iload_n 3, 1) := by decide +kernel
theorem dX8_foldThing_103 : decode cX8_foldThing 103 = .ok (.iaload, 1) := by decide +kernel
theorem dX8_foldThing_104 : decode cX8_foldThing 104 = .ok (.i2l, 1) := by decide +kernel
theorem dX8_foldThing_105 : decode cX8_foldThing 105 = .ok (.ladd, 1) := by decide +kernel
theorem dX8_foldThing_106 : decode cX8_foldThing 106 = .ok (.lstore 4, 2) := by decide +kernel
theorem dX8_foldThing_108 : decode cX8_foldThing 108 = .ok (.ldc2_w 310, 3) := by decide +kernel
theorem dX8_foldThing_111 : decode cX8_foldThing 111 = .ok (.lload 4, 2) := by decide +kernel
theorem dX8_foldThing_113 : decode cX8_foldThing 113 = .ok (.lmul, 1) := by decide +kernel
theorem dX8_foldThing_114 : decode cX8_foldThing 114 = .ok (.aload_n 0, 1) := by decide +kernel
theorem dX8_foldThing_115 : decode cX8_foldThing 115 = .ok (.getfield 50, 3) := by decide +kernel
theorem dX8_foldThing_118 : decode cX8_foldThing 118 = .ok (.getfield 210, 3) := by decide +kernel
theorem dX8_foldThing_121 : decode cX8_foldThing 121 = .ok (.iload_n 3, 1) := by decide +kernel
theorem dX8_foldThing_122 : decode cX8_foldThing 122 = .ok (.iaload, 1) := by decide +kernel
theorem dX8_foldThing_123 : decode cX8_foldThing 123 = .ok (.i2l, 1) := by decide +kernel
theorem dX8_foldThing_124 : decode cX8_foldThing 124 = .ok (.ladd, 1) := by decide +kernel
theorem dX8_foldThing_125 : decode cX8_foldThing 125 = .ok (.lstore 4, 2) := by decide +kernel
theorem dX8_foldThing_127 : decode cX8_foldThing 127 = .ok (.aload_n 0, 1) := by decide +kernel
theorem dX8_foldThing_128 : decode cX8_foldThing 128 = .ok (.iload_n 3, 1) := by decide +kernel
theorem dX8_foldThing_129 : decode cX8_foldThing 129 = .ok (.invokevirtual 246, 3) := by decide +kernel
theorem dX8_foldThing_132 : decode cX8_foldThing 132 = .ok (.ldc2_w 310, 3) := by decide +kernel
theorem dX8_foldThing_135 : decode cX8_foldThing 135 = .ok (.lload 4, 2) := by decide +kernel
theorem dX8_foldThing_137 : decode cX8_foldThing 137 = .ok (.lmul, 1) := by decide +kernel
theorem dX8_foldThing_138 : decode cX8_foldThing 138 = .ok (.aload_n 0, 1) := by decide +kernel
theorem dX8_foldThing_139 : decode cX8_foldThing 139 = .ok (.getfield 67, 3) := by decide +kernel
theorem dX8_foldThing_142 : decode cX8_foldThing 142 = .ok (.getfield 249, 3) := by decide +kernel
theorem dX8_foldThing_145 : decode cX8_foldThing 145 = .ok (.i2l, 1) := by decide +kernel
theorem dX8_foldThing_146 : decode cX8_foldThing 146 = .ok (.ladd, 1) := by decide +kernel
theorem dX8_foldThing_147 : decode cX8_foldThing 147 = .ok (.lstore 4, 2) := by decide +kernel
theorem dX8_foldThing_149 : decode cX8_foldThing 149 = .ok (.ldc2_w 310, 3) := by decide +kernel
theorem dX8_foldThing_152 : decode cX8_foldThing 152 = .ok (.lload 4, 2) := by decide +kernel
theorem dX8_foldThing_154 : decode cX8_foldThing 154 = .ok (.lmul, 1) := by decide +kernel
theorem dX8_foldThing_155 : decode cX8_foldThing 155 = .ok (.aload_n 0, 1) := by decide +kernel
theorem dX8_foldThing_156 : decode cX8_foldThing 156 = .ok (.iload_n 3, 1) := by decide +kernel
theorem dX8_foldThing_157 : decode cX8_foldThing 157 = .ok (.invokevirtual 243, 3) := by decide +kernel
theorem dX8_foldThing_160 : decode cX8_foldThing 160 = .ok (.i2l, 1) := by decide +kernel
theorem dX8_foldThing_161 : decode cX8_foldThing 161 = .ok (.ladd, 1) := by decide +kernel
theorem dX8_foldThing_162 : decode cX8_foldThing 162 = .ok (.lstore 4, 2) := by decide +kernel
theorem dX8_foldThing_164 : decode cX8_foldThing 164 = .ok (.ldc2_w 310, 3) := by decide +kernel
theorem dX8_foldThing_167 : decode cX8_foldThing 167 = .ok (.lload 4, 2) := by decide +kernel
theorem dX8_foldThing_169 : decode cX8_foldThing 169 = .ok (.lmul, 1) := by decide +kernel
theorem dX8_foldThing_170 : decode cX8_foldThing 170 = .ok (.aload_n 0, 1) := by decide +kernel
theorem dX8_foldThing_171 : decode cX8_foldThing 171 = .ok (.getfield 67, 3) := by decide +kernel
theorem dX8_foldThing_174 : decode cX8_foldThing 174 = .ok (.invokevirtual 252, 3) := by decide +kernel
theorem dX8_foldThing_177 : decode cX8_foldThing 177 = .ok (.i2l, 1) := by decide +kernel
theorem dX8_foldThing_178 : decode cX8_foldThing 178 = .ok (.ladd, 1) := by decide +kernel
theorem dX8_foldThing_179 : decode cX8_foldThing 179 = .ok (.lstore 4, 2) := by decide +kernel
theorem dX8_foldThing_181 : decode cX8_foldThing 181 = .ok (.ldc2_w 310, 3) := by decide +kernel
theorem dX8_foldThing_184 : decode cX8_foldThing 184 = .ok (.lload 4, 2) := by decide +kernel
theorem dX8_foldThing_186 : decode cX8_foldThing 186 = .ok (.lmul, 1) := by decide +kernel
theorem dX8_foldThing_187 : decode cX8_foldThing 187 = .ok (.aload_n 0, 1) := by decide +kernel
theorem dX8_foldThing_188 : decode cX8_foldThing 188 = .ok (.iconst 5, 1) := by decide +kernel
theorem dX8_foldThing_189 : decode cX8_foldThing 189 = .ok (.iload_n 3, 1) := by decide +kernel
theorem dX8_foldThing_190 : decode cX8_foldThing 190 = .ok (.iconst 0, 1) := by decide +kernel
theorem dX8_foldThing_191 : decode cX8_foldThing 191 = .ok (.invokevirtual 257, 3) := by decide +kernel
theorem dX8_foldThing_194 : decode cX8_foldThing 194 = .ok (.ladd, 1) := by decide +kernel
theorem dX8_foldThing_195 : decode cX8_foldThing 195 = .ok (.lstore 4, 2) := by decide +kernel
theorem dX8_foldThing_197 : decode cX8_foldThing 197 = .ok (.ldc2_w 310, 3) := by decide +kernel
theorem dX8_foldThing_200 : decode cX8_foldThing 200 = .ok (.lload 4, 2) := by decide +kernel
theorem dX8_foldThing_202 : decode cX8_foldThing 202 = .ok (.lmul, 1) := by decide +kernel
theorem dX8_foldThing_203 : decode cX8_foldThing 203 = .ok (.aload_n 0, 1) := by decide +kernel
theorem dX8_foldThing_204 : decode cX8_foldThing 204 = .ok (.iconst 5, 1) := by decide +kernel
theorem dX8_foldThing_205 : decode cX8_foldThing 205 = .ok (.iload_n 3, 1) := by decide +kernel
theorem dX8_foldThing_206 : decode cX8_foldThing 206 = .ok (.iconst 1, 1) := by decide +kernel
theorem dX8_foldThing_207 : decode cX8_foldThing 207 = .ok (.invokevirtual 257, 3) := by decide +kernel
theorem dX8_foldThing_210 : decode cX8_foldThing 210 = .ok (.ladd, 1) := by decide +kernel
theorem dX8_foldThing_211 : decode cX8_foldThing 211 = .ok (.lreturn, 1) := by decide +kernel
theorem dX8_foldHeat_0 : decode cX8_foldHeat 0 = .ok (.ldc2_w 310, 3) := by decide +kernel
theorem dX8_foldHeat_3 : decode cX8_foldHeat 3 = .ok (.lload_n 1, 1) := by decide +kernel
theorem dX8_foldHeat_4 : decode cX8_foldHeat 4 = .ok (.lmul, 1) := by decide +kernel
theorem dX8_foldHeat_5 : decode cX8_foldHeat 5 = .ok (.aload_n 0, 1) := by decide +kernel
theorem dX8_foldHeat_6 : decode cX8_foldHeat 6 = .ok (.getfield 50, 3) := by decide +kernel
theorem dX8_foldHeat_9 : decode cX8_foldHeat 9 = .ok (.getfield 182, 3) := by decide +kernel
theorem dX8_foldHeat_12 : decode cX8_foldHeat 12 = .ok (.iload_n 3, 1) := by decide +kernel
theorem dX8_foldHeat_13 : decode cX8_foldHeat 13 = .ok (.iaload, 1) := by decide +kernel
theorem dX8_foldHeat_14 : decode cX8_foldHeat 14 = .ok (.i2l, 1) := by decide +kernel
theorem dX8_foldHeat_15 : decode cX8_foldHeat 15 = .ok (.ladd, 1) := by decide +kernel
theorem dX8_foldHeat_16 : decode cX8_foldHeat 16 = .ok (.lstore 4, 2) := by decide +kernel
theorem dX8_foldHeat_18 : decode cX8_foldHeat 18 = .ok (.ldc2_w 310, 3) := by decide +kernel
theorem dX8_foldHeat_21 : decode cX8_foldHeat 21 = .ok (.lload 4, 2) := by decide +kernel
theorem dX8_foldHeat_23 : decode cX8_foldHeat 23 = .ok (.lmul, 1) := by decide +kernel
theorem dX8_foldHeat_24 : decode cX8_foldHeat 24 = .ok (.aload_n 0, 1) := by decide +kernel
theorem dX8_foldHeat_25 : decode cX8_foldHeat 25 = .ok (.getfield 50, 3) := by decide +kernel
theorem dX8_foldHeat_28 : decode cX8_foldHeat 28 = .ok (.getfield 185, 3) := by decide +kernel
theorem dX8_foldHeat_31 : decode cX8_foldHeat 31 = .ok (.iload_n 3, 1) := by decide +kernel
theorem dX8_foldHeat_32 : decode cX8_foldHeat 32 = .ok (.iaload, 1) := by decide +kernel
theorem dX8_foldHeat_33 : decode cX8_foldHeat 33 = .ok (.i2l, 1) := by decide +kernel
theorem dX8_foldHeat_34 : decode cX8_foldHeat 34 = .ok (.ladd, 1) := by decide +kernel
theorem dX8_foldHeat_35 : decode cX8_foldHeat 35 = .ok (.lreturn, 1) := by decide +kernel
theorem dX8_foldSums_0 : decode cX8_foldSums 0 = .ok (.lload_n 1, 1) := by decide +kernel
theorem dX8_foldSums_1 : decode cX8_foldSums 1 = .ok (.lstore_n 3, 1) := by decide +kernel
theorem dX8_foldSums_2 : decode cX8_foldSums 2 = .ok (.iconst 0, 1) := by decide +kernel
theorem dX8_foldSums_3 : decode cX8_foldSums 3 = .ok (.istore 5, 2) := by decide +kernel
theorem dX8_foldSums_5 : decode cX8_foldSums 5 = .ok (.iload 5, 2) := by decide +kernel
theorem dX8_foldSums_7 : decode cX8_foldSums 7 = .ok (.iconst 4, 1) := by decide +kernel
theorem dX8_foldSums_8 : decode cX8_foldSums 8 = .ok (.if_icmp .ge 26, 3) := by decide +kernel
theorem dX8_foldSums_11 : decode cX8_foldSums 11 = .ok (.ldc2_w 310, 3) := by decide +kernel
theorem dX8_foldSums_14 : decode cX8_foldSums 14 = .ok (.lload_n 3, 1) := by decide +kernel
theorem dX8_foldSums_15 : decode cX8_foldSums 15 = .ok (.lmul, 1) := by decide +kernel
theorem dX8_foldSums_16 : decode cX8_foldSums 16 = .ok (.aload_n 0, 1) := by decide +kernel
theorem dX8_foldSums_17 : decode cX8_foldSums 17 = .ok (.getfield 50, 3) := by decide +kernel
theorem dX8_foldSums_20 : decode cX8_foldSums 20 = .ok (.iload 5, 2) := by decide +kernel
theorem dX8_foldSums_22 : decode cX8_foldSums 22 = .ok (.invokevirtual 198, 3) := by decide +kernel
theorem dX8_foldSums_25 : decode cX8_foldSums 25 = .ok (.i2l, 1) := by decide +kernel
theorem dX8_foldSums_26 : decode cX8_foldSums 26 = .ok (.ladd, 1) := by decide +kernel
theorem dX8_foldSums_27 : decode cX8_foldSums 27 = .ok (.lstore_n 3, 1) := by decide +kernel
theorem dX8_foldSums_28 : decode cX8_foldSums 28 = .ok (.iinc 5 1, 3) := by decide +kernel
theorem dX8_foldSums_31 : decode cX8_foldSums 31 = .ok (.goto (-26), 3) := by decide +kernel
theorem dX8_foldSums_34 : decode cX8_foldSums 34 = .ok (.ldc2_w 310, 3) := by decide +kernel
theorem dX8_foldSums_37 : decode cX8_foldSums 37 = .ok (.lload_n 3, 1) := by decide +kernel
theorem dX8_foldSums_38 : decode cX8_foldSums 38 = .ok (.lmul, 1) := by decide +kernel
theorem dX8_foldSums_39 : decode cX8_foldSums 39 = .ok (.aload_n 0, 1) := by decide +kernel
theorem dX8_foldSums_40 : decode cX8_foldSums 40 = .ok (.getfield 50, 3) := by decide +kernel
theorem dX8_foldSums_43 : decode cX8_foldSums 43 = .ok (.aload_n 0, 1) := by decide +kernel
theorem dX8_foldSums_44 : decode cX8_foldSums 44 = .ok (.getfield 40, 3) := by decide +kernel
theorem dX8_foldSums_47 : decode cX8_foldSums 47 = .ok (.invokevirtual 201, 3) := by decide +kernel
theorem dX8_foldSums_50 : decode cX8_foldSums 50 = .ok (.invokevirtual 204, 3) := by decide +kernel
theorem dX8_foldSums_53 : decode cX8_foldSums 53 = .ok (.i2l, 1) := by decide +kernel
theorem dX8_foldSums_54 : decode cX8_foldSums 54 = .ok (.ladd, 1) := by decide +kernel
theorem dX8_foldSums_55 : decode cX8_foldSums 55 = .ok (.lstore_n 3, 1) := by decide +kernel
theorem dX8_foldSums_56 : decode cX8_foldSums 56 = .ok (.ldc2_w 310, 3) := by decide +kernel
theorem dX8_foldSums_59 : decode cX8_foldSums 59 = .ok (.lload_n 3, 1) := by decide +kernel
theorem dX8_foldSums_60 : decode cX8_foldSums 60 = .ok (.lmul, 1) := by decide +kernel
theorem dX8_foldSums_61 : decode cX8_foldSums 61 = .ok (.aload_n 0, 1) := by decide +kernel
theorem dX8_foldSums_62 : decode cX8_foldSums 62 = .ok (.getfield 50, 3) := by decide +kernel
theorem dX8_foldSums_65 : decode cX8_foldSums 65 = .ok (.invokevirtual 207, 3) := by decide +kernel
theorem dX8_foldSums_68 : decode cX8_foldSums 68 = .ok (.i2l, 1) := by decide +kernel
theorem dX8_foldSums_69 : decode cX8_foldSums 69 = .ok (.ladd, 1) := by decide +kernel
theorem dX8_foldSums_70 : decode cX8_foldSums 70 = .ok (.lstore_n 3, 1) := by decide +kernel
theorem dX8_foldSums_71 : decode cX8_foldSums 71 = .ok (.ldc2_w 310, 3) := by decide +kernel
theorem dX8_foldSums_74 : decode cX8_foldSums 74 = .ok (.lload_n 3, 1) := by decide +kernel
theorem dX8_foldSums_75 : decode cX8_foldSums 75 = .ok (.lmul, 1) := by decide +kernel
theorem dX8_foldSums_76 : decode cX8_foldSums 76 = .ok (.aload_n 0, 1) := by decide +kernel
theorem dX8_foldSums_77 : decode cX8_foldSums 77 = .ok (.invokevirtual 213, 3) := by decide +kernel
theorem dX8_foldSums_80 : decode cX8_foldSums 80 = .ok (.i2l, 1) := by decide +kernel
theorem dX8_foldSums_81 : decode cX8_foldSums 81 = .ok (.ladd, 1) := by decide +kernel
theorem dX8_foldSums_82 : decode cX8_foldSums 82 = .ok (.lreturn, 1) := by decide +kernel
theorem dX8_foldPlans_0 : decode cX8_foldPlans 0 = .ok (.lload_n 1, 1) := by decide +kernel
theorem dX8_foldPlans_1 : decode cX8_foldPlans 1 = .ok (.lstore_n 3, 1) := by decide +kernel
theorem dX8_foldPlans_2 : decode cX8_foldPlans 2 = .ok (.aload_n 0, 1) := by decide +kernel
theorem dX8_foldPlans_3 : decode cX8_foldPlans 3 = .ok (.invokevirtual 216, 3) := by decide +kernel
theorem dX8_foldPlans_6 : decode cX8_foldPlans 6 = .ok (.iconst 0, 1) := by decide +kernel
theorem dX8_foldPlans_7 : decode cX8_foldPlans 7 = .ok (.istore 5, 2) := by decide +kernel
theorem dX8_foldPlans_9 : decode cX8_foldPlans 9 = .ok (.iload 5, 2) := by decide +kernel
theorem dX8_foldPlans_11 : decode cX8_foldPlans 11 = .ok (.iconst 4, 1) := by decide +kernel
theorem dX8_foldPlans_12 : decode cX8_foldPlans 12 = .ok (.if_icmp .ge 26, 3) := by decide +kernel
theorem dX8_foldPlans_15 : decode cX8_foldPlans 15 = .ok (.ldc2_w 310, 3) := by decide +kernel
theorem dX8_foldPlans_18 : decode cX8_foldPlans 18 = .ok (.lload_n 3, 1) := by decide +kernel
theorem dX8_foldPlans_19 : decode cX8_foldPlans 19 = .ok (.lmul, 1) := by decide +kernel
theorem dX8_foldPlans_20 : decode cX8_foldPlans 20 = .ok (.aload_n 0, 1) := by decide +kernel
theorem dX8_foldPlans_21 : decode cX8_foldPlans 21 = .ok (.getfield 60, 3) := by decide +kernel
theorem dX8_foldPlans_24 : decode cX8_foldPlans 24 = .ok (.iload 5, 2) := by decide +kernel
theorem dX8_foldPlans_26 : decode cX8_foldPlans 26 = .ok (.invokevirtual 219, 3) := by decide +kernel
theorem dX8_foldPlans_29 : decode cX8_foldPlans 29 = .ok (.i2l, 1) := by decide +kernel
theorem dX8_foldPlans_30 : decode cX8_foldPlans 30 = .ok (.ladd, 1) := by decide +kernel
theorem dX8_foldPlans_31 : decode cX8_foldPlans 31 = .ok (.lstore_n 3, 1) := by decide +kernel
theorem dX8_foldPlans_32 : decode cX8_foldPlans 32 = .ok (.iinc 5 1, 3) := by decide +kernel
theorem dX8_foldPlans_35 : decode cX8_foldPlans 35 = .ok (.goto (-26), 3) := by decide +kernel
theorem dX8_foldPlans_38 : decode cX8_foldPlans 38 = .ok (.ldc2_w 310, 3) := by decide +kernel
theorem dX8_foldPlans_41 : decode cX8_foldPlans 41 = .ok (.lload_n 3, 1) := by decide +kernel
theorem dX8_foldPlans_42 : decode cX8_foldPlans 42 = .ok (.lmul, 1) := by decide +kernel
theorem dX8_foldPlans_43 : decode cX8_foldPlans 43 = .ok (.aload_n 0, 1) := by decide +kernel
theorem dX8_foldPlans_44 : decode cX8_foldPlans 44 = .ok (.invokevirtual 222, 3) := by decide +kernel
theorem dX8_foldPlans_47 : decode cX8_foldPlans 47 = .ok (.i2l, 1) := by decide +kernel
theorem dX8_foldPlans_48 : decode cX8_foldPlans 48 = .ok (.ladd, 1) := by decide +kernel
theorem dX8_foldPlans_49 : decode cX8_foldPlans 49 = .ok (.lstore_n 3, 1) := by decide +kernel
theorem dX8_foldPlans_50 : decode cX8_foldPlans 50 = .ok (.aload_n 0, 1) := by decide +kernel
theorem dX8_foldPlans_51 : decode cX8_foldPlans 51 = .ok (.invokevirtual 234, 3) := by decide +kernel
theorem dX8_foldPlans_54 : decode cX8_foldPlans 54 = .ok (.ldc2_w 310, 3) := by decide +kernel
theorem dX8_foldPlans_57 : decode cX8_foldPlans 57 = .ok (.lload_n 3, 1) := by decide +kernel
theorem dX8_foldPlans_58 : decode cX8_foldPlans 58 = .ok (.lmul, 1) := by decide +kernel
theorem dX8_foldPlans_59 : decode cX8_foldPlans 59 = .ok (.aload_n 0, 1) := by decide +kernel
theorem dX8_foldPlans_60 : decode cX8_foldPlans 60 = .ok (.getfield 60, 3) := by decide +kernel
theorem dX8_foldPlans_63 : decode cX8_foldPlans 63 = .ok (.iconst (-1), 1) := by decide +kernel
theorem dX8_foldPlans_64 : decode cX8_foldPlans 64 = .ok (.invokevirtual 237, 3) := by decide +kernel
theorem dX8_foldPlans_67 : decode cX8_foldPlans 67 = .ok (.i2l, 1) := by decide +kernel
theorem dX8_foldPlans_68 : decode cX8_foldPlans 68 = .ok (.ladd, 1) := by decide +kernel
theorem dX8_foldPlans_69 : decode cX8_foldPlans 69 = .ok (.lstore_n 3, 1) := by decide +kernel
theorem dX8_foldPlans_70 : decode cX8_foldPlans 70 = .ok (.ldc2_w 310, 3) := by decide +kernel
theorem dX8_foldPlans_73 : decode cX8_foldPlans 73 = .ok (.lload_n 3, 1) := by decide +kernel
theorem dX8_foldPlans_74 : decode cX8_foldPlans 74 = .ok (.lmul, 1) := by decide +kernel
theorem dX8_foldPlans_75 : decode cX8_foldPlans 75 = .ok (.aload_n 0, 1) := by decide +kernel
theorem dX8_foldPlans_76 : decode cX8_foldPlans 76 = .ok (.getfield 60, 3) := by decide +kernel
theorem dX8_foldPlans_79 : decode cX8_foldPlans 79 = .ok (.iconst 0, 1) := by decide +kernel
theorem dX8_foldPlans_80 : decode cX8_foldPlans 80 = .ok (.invokevirtual 237, 3) := by decide +kernel
theorem dX8_foldPlans_83 : decode cX8_foldPlans 83 = .ok (.i2l, 1) := by decide +kernel
theorem dX8_foldPlans_84 : decode cX8_foldPlans 84 = .ok (.ladd, 1) := by decide +kernel
theorem dX8_foldPlans_85 : decode cX8_foldPlans 85 = .ok (.lstore_n 3, 1) := by decide +kernel
theorem dX8_foldPlans_86 : decode cX8_foldPlans 86 = .ok (.ldc2_w 310, 3) := by decide +kernel
theorem dX8_foldPlans_89 : decode cX8_foldPlans 89 = .ok (.lload_n 3, 1) := by decide +kernel
theorem dX8_foldPlans_90 : decode cX8_foldPlans 90 = .ok (.lmul, 1) := by decide +kernel
theorem dX8_foldPlans_91 : decode cX8_foldPlans 91 = .ok (.aload_n 0, 1) := by decide +kernel
theorem dX8_foldPlans_92 : decode cX8_foldPlans 92 = .ok (.invokevirtual 240, 3) := by decide +kernel
theorem dX8_foldPlans_95 : decode cX8_foldPlans 95 = .ok (.i2l, 1) := by decide +kernel
theorem dX8_foldPlans_96 : decode cX8_foldPlans 96 = .ok (.ladd, 1) := by decide +kernel
theorem dX8_foldPlans_97 : decode cX8_foldPlans 97 = .ok (.lstore_n 3, 1) := by decide +kernel
theorem dX8_foldPlans_98 : decode cX8_foldPlans 98 = .ok (.aload_n 0, 1) := by decide +kernel
theorem dX8_foldPlans_99 : decode cX8_foldPlans 99 = .ok (.bipush 7, 2) := by decide +kernel
theorem dX8_foldPlans_101 : decode cX8_foldPlans 101 = .ok (.bipush 6, 2) := by decide +kernel
theorem dX8_foldPlans_103 : decode cX8_foldPlans 103 = .ok (.invokevirtual 261, 3) := by decide +kernel
theorem dX8_foldPlans_106 : decode cX8_foldPlans 106 = .ok (.ldc2_w 310, 3) := by decide +kernel
theorem dX8_foldPlans_109 : decode cX8_foldPlans 109 = .ok (.lload_n 3, 1) := by decide +kernel
theorem dX8_foldPlans_110 : decode cX8_foldPlans 110 = .ok (.lmul, 1) := by decide +kernel
theorem dX8_foldPlans_111 : decode cX8_foldPlans 111 = .ok (.aload_n 0, 1) := by decide +kernel
theorem dX8_foldPlans_112 : decode cX8_foldPlans 112 = .ok (.getfield 54, 3) := by decide +kernel
theorem dX8_foldPlans_115 : decode cX8_foldPlans 115 = .ok (.getfield 265, 3) := by decide +kernel
theorem dX8_foldPlans_118 : decode cX8_foldPlans 118 = .ok (.i2l, 1) := by decide +kernel
theorem dX8_foldPlans_119 : decode cX8_foldPlans 119 = .ok (.ladd, 1) := by decide +kernel
theorem dX8_foldPlans_120 : decode cX8_foldPlans 120 = .ok (.lstore_n 3, 1) := by decide +kernel
theorem dX8_foldPlans_121 : decode cX8_foldPlans 121 = .ok (.ldc2_w 310, 3) := by decide +kernel
theorem dX8_foldPlans_124 : decode cX8_foldPlans 124 = .ok (.lload_n 3, 1) := by decide +kernel
theorem dX8_foldPlans_125 : decode cX8_foldPlans 125 = .ok (.lmul, 1) := by decide +kernel
theorem dX8_foldPlans_126 : decode cX8_foldPlans 126 = .ok (.aload_n 0, 1) := by decide +kernel
theorem dX8_foldPlans_127 : decode cX8_foldPlans 127 = .ok (.getfield 54, 3) := by decide +kernel
theorem dX8_foldPlans_130 : decode cX8_foldPlans 130 = .ok (.getfield 268, 3) := by decide +kernel
theorem dX8_foldPlans_133 : decode cX8_foldPlans 133 = .ok (.invokestatic 271, 3) := by decide +kernel
theorem dX8_foldPlans_136 : decode cX8_foldPlans 136 = .ok (.i2l, 1) := by decide +kernel
theorem dX8_foldPlans_137 : decode cX8_foldPlans 137 = .ok (.ladd, 1) := by decide +kernel
theorem dX8_foldPlans_138 : decode cX8_foldPlans 138 = .ok (.lreturn, 1) := by decide +kernel
theorem dX8_isBelow_0 : decode cX8_isBelow 0 = .ok (.iload_n 0, 1) := by decide +kernel
theorem dX8_isBelow_1 : decode cX8_isBelow 1 = .ok (.ifCond .lt 12, 3) := by decide +kernel
theorem dX8_isBelow_4 : decode cX8_isBelow 4 = .ok (.iload_n 0, 1) := by decide +kernel
theorem dX8_isBelow_5 : decode cX8_isBelow 5 = .ok (.iload_n 1, 1) := by decide +kernel
theorem dX8_isBelow_6 : decode cX8_isBelow 6 = .ok (.if_icmp .ge 7, 3) := by decide +kernel
theorem dX8_isBelow_9 : decode cX8_isBelow 9 = .ok (.iconst 1, 1) := by decide +kernel
theorem dX8_isBelow_10 : decode cX8_isBelow 10 = .ok (.goto 4, 3) := by decide +kernel
theorem dX8_isBelow_13 : decode cX8_isBelow 13 = .ok (.iconst 0, 1) := by decide +kernel
theorem dX8_isBelow_14 : decode cX8_isBelow 14 = .ok (.ireturn, 1) := by decide +kernel
theorem dX8_isText_0 : decode cX8_isText 0 = .ok (.iload_n 0, 1) := by decide +kernel
theorem dX8_isText_1 : decode cX8_isText 1 = .ok (.iconst 2, 1) := by decide +kernel
theorem dX8_isText_2 : decode cX8_isText 2 = .ok (.invokestatic 133, 3) := by decide +kernel
theorem dX8_isText_5 : decode cX8_isText 5 = .ok (.ireturn, 1) := by decide +kernel
theorem dX8_isEvening_0 : decode cX8_isEvening 0 = .ok (.iload_n 0, 1) := by decide +kernel
theorem dX8_isEvening_1 : decode cX8_isEvening 1 = .ok (.bipush 12, 2) := by decide +kernel
theorem dX8_isEvening_3 : decode cX8_isEvening 3 = .ok (.invokestatic 133, 3) := by decide +kernel
theorem dX8_isEvening_6 : decode cX8_isEvening 6 = .ok (.ireturn, 1) := by decide +kernel
theorem dX8_isSheet_0 : decode cX8_isSheet 0 = .ok (.iload_n 0, 1) := by decide +kernel
theorem dX8_isSheet_1 : decode cX8_isSheet 1 = .ok (.iconst 4, 1) := by decide +kernel
theorem dX8_isSheet_2 : decode cX8_isSheet 2 = .ok (.invokestatic 133, 3) := by decide +kernel
theorem dX8_isSheet_5 : decode cX8_isSheet 5 = .ok (.ireturn, 1) := by decide +kernel
theorem dX8_isEvent_0 : decode cX8_isEvent 0 = .ok (.iload_n 0, 1) := by decide +kernel
theorem dX8_isEvent_1 : decode cX8_isEvent 1 = .ok (.iconst 3, 1) := by decide +kernel
theorem dX8_isEvent_2 : decode cX8_isEvent 2 = .ok (.invokestatic 133, 3) := by decide +kernel
theorem dX8_isEvent_5 : decode cX8_isEvent 5 = .ok (.ifCond .eq 23, 3) := by decide +kernel
theorem dX8_isEvent_8 : decode cX8_isEvent 8 = .ok (.iload_n 1, 1) := by decide +kernel
theorem dX8_isEvent_9 : decode cX8_isEvent 9 = .ok (.invokestatic 179, 3) := by decide +kernel
theorem dX8_isEvent_12 : decode cX8_isEvent 12 = .ok (.ifCond .eq 16, 3) := by decide +kernel
theorem dX8_isEvent_15 : decode cX8_isEvent 15 = .ok (.iload_n 2, 1) := by decide +kernel
theorem dX8_isEvent_16 : decode cX8_isEvent 16 = .ok (.bipush 12, 2) := by decide +kernel
theorem dX8_isEvent_18 : decode cX8_isEvent 18 = .ok (.invokestatic 133, 3) := by decide +kernel
theorem dX8_isEvent_21 : decode cX8_isEvent 21 = .ok (.ifCond .eq 7, 3) := by decide +kernel
theorem dX8_isEvent_24 : decode cX8_isEvent 24 = .ok (.iconst 1, 1) := by decide +kernel
theorem dX8_isEvent_25 : decode cX8_isEvent 25 = .ok (.goto 4, 3) := by decide +kernel
theorem dX8_isEvent_28 : decode cX8_isEvent 28 = .ok (.iconst 0, 1) := by decide +kernel
theorem dX8_isEvent_29 : decode cX8_isEvent 29 = .ok (.ireturn, 1) := by decide +kernel
theorem dX8_isHook_0 : decode cX8_isHook 0 = .ok (.iload_n 1, 1) := by decide +kernel
theorem dX8_isHook_1 : decode cX8_isHook 1 = .ok (.aload_n 0, 1) := by decide +kernel
theorem dX8_isHook_2 : decode cX8_isHook 2 = .ok (.getfield 40, 3) := by decide +kernel
theorem dX8_isHook_5 : decode cX8_isHook 5 = .ok (.getfield 297, 3) := by decide +kernel
theorem dX8_isHook_8 : decode cX8_isHook 8 = .ok (.invokestatic 133, 3) := by decide +kernel
theorem dX8_isHook_11 : decode cX8_isHook 11 = .ok (.ireturn, 1) := by decide +kernel
theorem dX8_isThing_0 : decode cX8_isThing 0 = .ok (.iload_n 1, 1) := by decide +kernel
theorem dX8_isThing_1 : decode cX8_isThing 1 = .ok (.aload_n 0, 1) := by decide +kernel
theorem dX8_isThing_2 : decode cX8_isThing 2 = .ok (.getfield 40, 3) := by decide +kernel
theorem dX8_isThing_5 : decode cX8_isThing 5 = .ok (.getfield 305, 3) := by decide +kernel
theorem dX8_isThing_8 : decode cX8_isThing 8 = .ok (.invokestatic 133, 3) := by decide +kernel
theorem dX8_isThing_11 : decode cX8_isThing 11 = .ok (.ireturn, 1) := by decide +kernel
theorem dX8_textOf_0 : decode cX8_textOf 0 = .ok (.iload_n 1, 1) := by decide +kernel
theorem dX8_textOf_1 : decode cX8_textOf 1 = .ok (.ifCond .ne 10, 3) := by decide +kernel
theorem dX8_textOf_4 : decode cX8_textOf 4 = .ok (.aload_n 0, 1) := by decide +kernel
theorem dX8_textOf_5 : decode cX8_textOf 5 = .ok (.getfield 14, 3) := by decide +kernel
theorem dX8_textOf_8 : decode cX8_textOf 8 = .ok (.goto 7, 3) := by decide +kernel
theorem dX8_textOf_11 : decode cX8_textOf 11 = .ok (.aload_n 0, 1) := by decide +kernel
theorem dX8_textOf_12 : decode cX8_textOf 12 = .ok (.getfield 18, 3) := by decide +kernel
theorem dX8_textOf_15 : decode cX8_textOf 15 = .ok (.areturn, 1) := by decide +kernel
theorem dX8_findingOf_0 : decode cX8_findingOf 0 = .ok (.aload_n 0, 1) := by decide +kernel
theorem dX8_findingOf_1 : decode cX8_findingOf 1 = .ok (.iload_n 1, 1) := by decide +kernel
theorem dX8_findingOf_2 : decode cX8_findingOf 2 = .ok (.putfield 89, 3) := by decide +kernel
theorem dX8_findingOf_5 : decode cX8_findingOf 5 = .ok (.bipush (-10), 2) := by decide +kernel
theorem dX8_findingOf_7 : decode cX8_findingOf 7 = .ok (.iload_n 1, 1) := by decide +kernel
theorem dX8_findingOf_8 : decode cX8_findingOf 8 = .ok (.isub, 1) := by decide +kernel
theorem dX8_findingOf_9 : decode cX8_findingOf 9 = .ok (.ireturn, 1) := by decide +kernel
theorem dX8_sumOf_0 : decode cX8_sumOf 0 = .ok (.iconst 0, 1) := by decide +kernel
theorem dX8_sumOf_1 : decode cX8_sumOf 1 = .ok (.istore_n 1, 1) := by decide +kernel
theorem dX8_sumOf_2 : decode cX8_sumOf 2 = .ok (.aload_n 0, 1) := by decide +kernel
theorem dX8_sumOf_3 : decode cX8_sumOf 3 = .ok (.astore_n 2, 1) := by decide +kernel
theorem dX8_sumOf_4 : decode cX8_sumOf 4 = .ok (.aload_n 2, 1) := by decide +kernel
theorem dX8_sumOf_5 : decode cX8_sumOf 5 = .ok (.arraylength, 1) := by decide +kernel
theorem dX8_sumOf_6 : decode cX8_sumOf 6 = .ok (.istore_n 3, 1) := by decide +kernel
theorem dX8_sumOf_7 : decode cX8_sumOf 7 = .ok (.iconst 0, 1) := by decide +kernel
theorem dX8_sumOf_8 : decode cX8_sumOf 8 = .ok (.istore 4, 2) := by decide +kernel
theorem dX8_sumOf_10 : decode cX8_sumOf 10 = .ok (.iload 4, 2) := by decide +kernel
theorem dX8_sumOf_12 : decode cX8_sumOf 12 = .ok (.iload_n 3, 1) := by decide +kernel
theorem dX8_sumOf_13 : decode cX8_sumOf 13 = .ok (.if_icmp .ge 20, 3) := by decide +kernel
theorem dX8_sumOf_16 : decode cX8_sumOf 16 = .ok (.aload_n 2, 1) := by decide +kernel
theorem dX8_sumOf_17 : decode cX8_sumOf 17 = .ok (.iload 4, 2) := by decide +kernel
theorem dX8_sumOf_19 : decode cX8_sumOf 19 = .ok (.iaload, 1) := by decide +kernel
theorem dX8_sumOf_20 : decode cX8_sumOf 20 = .ok (.istore 5, 2) := by decide +kernel
theorem dX8_sumOf_22 : decode cX8_sumOf 22 = .ok (.iload_n 1, 1) := by decide +kernel
theorem dX8_sumOf_23 : decode cX8_sumOf 23 = .ok (.iload 5, 2) := by decide +kernel
theorem dX8_sumOf_25 : decode cX8_sumOf 25 = .ok (.iadd, 1) := by decide +kernel
theorem dX8_sumOf_26 : decode cX8_sumOf 26 = .ok (.istore_n 1, 1) := by decide +kernel
theorem dX8_sumOf_27 : decode cX8_sumOf 27 = .ok (.iinc 4 1, 3) := by decide +kernel
theorem dX8_sumOf_30 : decode cX8_sumOf 30 = .ok (.goto (-20), 3) := by decide +kernel
theorem dX8_sumOf_33 : decode cX8_sumOf 33 = .ok (.iload_n 1, 1) := by decide +kernel
theorem dX8_sumOf_34 : decode cX8_sumOf 34 = .ok (.ireturn, 1) := by decide +kernel
theorem dX8_noteChange_0 : decode cX8_noteChange 0 = .ok (.aload_n 0, 1) := by decide +kernel
theorem dX8_noteChange_1 : decode cX8_noteChange 1 = .ok (.iconst 1, 1) := by decide +kernel
theorem dX8_noteChange_2 : decode cX8_noteChange 2 = .ok (.putfield 82, 3) := by decide +kernel
theorem dX8_noteChange_5 : decode cX8_noteChange 5 = .ok (.aload_n 0, 1) := by decide +kernel
theorem dX8_noteChange_6 : decode cX8_noteChange 6 = .ok (.iconst 1, 1) := by decide +kernel
theorem dX8_noteChange_7 : decode cX8_noteChange 7 = .ok (.putfield 86, 3) := by decide +kernel
theorem dX8_noteChange_10 : decode cX8_noteChange 10 = .ok (.return_, 1) := by decide +kernel
theorem dX8_refresh_0 : decode cX8_refresh 0 = .ok (.aload_n 0, 1) := by decide +kernel
theorem dX8_refresh_1 : decode cX8_refresh 1 = .ok (.getfield 82, 3) := by decide +kernel
theorem dX8_refresh_4 : decode cX8_refresh 4 = .ok (.ifCond .ne 4, 3) := by decide +kernel
theorem dX8_refresh_7 : decode cX8_refresh 7 = .ok (.return_, 1) := by decide +kernel
theorem dX8_refresh_8 : decode cX8_refresh 8 = .ok (.aload_n 0, 1) := by decide +kernel
theorem dX8_refresh_9 : decode cX8_refresh 9 = .ok (.getfield 40, 3) := by decide +kernel
theorem dX8_refresh_12 : decode cX8_refresh 12 = .ok (.aload_n 0, 1) := by decide +kernel
theorem dX8_refresh_13 : decode cX8_refresh 13 = .ok (.getfield 14, 3) := by decide +kernel
theorem dX8_refresh_16 : decode cX8_refresh 16 = .ok (.invokevirtual 338, 3) := by decide +kernel
theorem dX8_refresh_19 : decode cX8_refresh 19 = .ok (.aload_n 0, 1) := by decide +kernel
theorem dX8_refresh_20 : decode cX8_refresh 20 = .ok (.getfield 40, 3) := by decide +kernel
theorem dX8_refresh_23 : decode cX8_refresh 23 = .ok (.aload_n 0, 1) := by decide +kernel
theorem dX8_refresh_24 : decode cX8_refresh 24 = .ok (.getfield 18, 3) := by decide +kernel
theorem dX8_refresh_27 : decode cX8_refresh 27 = .ok (.invokevirtual 342, 3) := by decide +kernel
theorem dX8_refresh_30 : decode cX8_refresh 30 = .ok (.aload_n 0, 1) := by decide +kernel
theorem dX8_refresh_31 : decode cX8_refresh 31 = .ok (.getfield 40, 3) := by decide +kernel
theorem dX8_refresh_34 : decode cX8_refresh 34 = .ok (.aload_n 0, 1) := by decide +kernel
theorem dX8_refresh_35 : decode cX8_refresh 35 = .ok (.getfield 24, 3) := by decide +kernel
theorem dX8_refresh_38 : decode cX8_refresh 38 = .ok (.aload_n 0, 1) := by decide +kernel
theorem dX8_refresh_39 : decode cX8_refresh 39 = .ok (.invokevirtual 345, 3) := by decide +kernel
theorem dX8_refresh_42 : decode cX8_refresh 42 = .ok (.invokevirtual 348, 3) := by decide +kernel
theorem dX8_refresh_45 : decode cX8_refresh 45 = .ok (.aload_n 0, 1) := by decide +kernel
theorem dX8_refresh_46 : decode cX8_refresh 46 = .ok (.getfield 50, 3) := by decide +kernel
theorem dX8_refresh_49 : decode cX8_refresh 49 = .ok (.aload_n 0, 1) := by decide +kernel
theorem dX8_refresh_50 : decode cX8_refresh 50 = .ok (.getfield 40, 3) := by decide +kernel
theorem dX8_refresh_53 : decode cX8_refresh 53 = .ok (.invokevirtual 352, 3) := by decide +kernel
theorem dX8_refresh_56 : decode cX8_refresh 56 = .ok (.aload_n 0, 1) := by decide +kernel
theorem dX8_refresh_57 : decode cX8_refresh 57 = .ok (.iconst 0, 1) := by decide +kernel
theorem dX8_refresh_58 : decode cX8_refresh 58 = .ok (.putfield 82, 3) := by decide +kernel
theorem dX8_refresh_61 : decode cX8_refresh 61 = .ok (.return_, 1) := by decide +kernel
theorem dX8_allEvents_0 : decode cX8_allEvents 0 = .ok (.iconst 1, 1) := by decide +kernel
theorem dX8_allEvents_1 : decode cX8_allEvents 1 = .ok (.aload_n 0, 1) := by decide +kernel
theorem dX8_allEvents_2 : decode cX8_allEvents 2 = .ok (.getfield 24, 3) := by decide +kernel
theorem dX8_allEvents_5 : decode cX8_allEvents 5 = .ok (.getfield 158, 3) := by decide +kernel
theorem dX8_allEvents_8 : decode cX8_allEvents 8 = .ok (.ishl, 1) := by decide +kernel
theorem dX8_allEvents_9 : decode cX8_allEvents 9 = .ok (.iconst 1, 1) := by decide +kernel
theorem dX8_allEvents_10 : decode cX8_allEvents 10 = .ok (.isub, 1) := by decide +kernel
theorem dX8_allEvents_11 : decode cX8_allEvents 11 = .ok (.ireturn, 1) := by decide +kernel
theorem dX8_unsettledThings_0 : decode cX8_unsettledThings 0 = .ok (.aload_n 0, 1) := by decide +kernel
theorem dX8_unsettledThings_1 : decode cX8_unsettledThings 1 = .ok (.getfield 40, 3) := by decide +kernel
theorem dX8_unsettledThings_4 : decode cX8_unsettledThings 4 = .ok (.invokevirtual 201, 3) := by decide +kernel
theorem dX8_unsettledThings_7 : decode cX8_unsettledThings 7 = .ok (.aload_n 0, 1) := by decide +kernel
theorem dX8_unsettledThings_8 : decode cX8_unsettledThings 8 = .ok (.getfield 50, 3) := by decide +kernel
theorem dX8_unsettledThings_11 : decode cX8_unsettledThings 11 = .ok (.bipush 11, 2) := by decide +kernel
theorem dX8_unsettledThings_13 : decode cX8_unsettledThings 13 = .ok (.invokevirtual 356, 3) := by decide +kernel
theorem dX8_unsettledThings_16 : decode cX8_unsettledThings 16 = .ok (.iconst (-1), 1) := by decide +kernel
theorem dX8_unsettledThings_17 : decode cX8_unsettledThings 17 = .ok (.ixor, 1) := by decide +kernel
theorem dX8_unsettledThings_18 : decode cX8_unsettledThings 18 = .ok (.iand, 1) := by decide +kernel
theorem dX8_unsettledThings_19 : decode cX8_unsettledThings 19 = .ok (.ireturn, 1) := by decide +kernel
theorem dX8_fewestHooks_0 : decode cX8_fewestHooks 0 = .ok (.aload_n 0, 1) := by decide +kernel
theorem dX8_fewestHooks_1 : decode cX8_fewestHooks 1 = .ok (.getfield 44, 3) := by decide +kernel
theorem dX8_fewestHooks_4 : decode cX8_fewestHooks 4 = .ok (.aload_n 0, 1) := by decide +kernel
theorem dX8_fewestHooks_5 : decode cX8_fewestHooks 5 = .ok (.getfield 40, 3) := by decide +kernel
theorem dX8_fewestHooks_8 : decode cX8_fewestHooks 8 = .ok (.invokevirtual 359, 3) := by decide +kernel
theorem dX8_fewestHooks_11 : decode cX8_fewestHooks 11 = .ok (.iconst 0, 1) := by decide +kernel
theorem dX8_fewestHooks_12 : decode cX8_fewestHooks 12 = .ok (.istore_n 1, 1) := by decide +kernel
theorem dX8_fewestHooks_13 : decode cX8_fewestHooks 13 = .ok (.iload_n 1, 1) := by decide +kernel
theorem dX8_fewestHooks_14 : decode cX8_fewestHooks 14 = .ok (.aload_n 0, 1) := by decide +kernel
theorem dX8_fewestHooks_15 : decode cX8_fewestHooks 15 = .ok (.getfield 40, 3) := by decide +kernel
theorem dX8_fewestHooks_18 : decode cX8_fewestHooks 18 = .ok (.getfield 297, 3) := by decide +kernel
theorem dX8_fewestHooks_21 : decode cX8_fewestHooks 21 = .ok (.if_icmp .gt 47, 3) := by decide +kernel
theorem dX8_fewestHooks_24 : decode cX8_fewestHooks 24 = .ok (.aload_n 0, 1) := by decide +kernel
theorem dX8_fewestHooks_25 : decode cX8_fewestHooks 25 = .ok (.getfield 44, 3) := by decide +kernel
theorem dX8_fewestHooks_28 : decode cX8_fewestHooks 28 = .ok (.iload_n 1, 1) := by decide +kernel
theorem dX8_fewestHooks_29 : decode cX8_fewestHooks 29 = .ok (.putfield 297, 3) := by decide +kernel
theorem dX8_fewestHooks_32 : decode cX8_fewestHooks 32 = .ok (.aload_n 0, 1) := by decide +kernel
theorem dX8_fewestHooks_33 : decode cX8_fewestHooks 33 = .ok (.getfield 54, 3) := by decide +kernel
theorem dX8_fewestHooks_36 : decode cX8_fewestHooks 36 = .ok (.aload_n 0, 1) := by decide +kernel
theorem dX8_fewestHooks_37 : decode cX8_fewestHooks 37 = .ok (.getfield 44, 3) := by decide +kernel
theorem dX8_fewestHooks_40 : decode cX8_fewestHooks 40 = .ok (.invokevirtual 352, 3) := by decide +kernel
theorem dX8_fewestHooks_43 : decode cX8_fewestHooks 43 = .ok (.aload_n 0, 1) := by decide +kernel
theorem dX8_fewestHooks_44 : decode cX8_fewestHooks 44 = .ok (.getfield 54, 3) := by decide +kernel
theorem dX8_fewestHooks_47 : decode cX8_fewestHooks 47 = .ok (.getfield 265, 3) := by decide +kernel
theorem dX8_fewestHooks_50 : decode cX8_fewestHooks 50 = .ok (.aload_n 0, 1) := by decide +kernel
theorem dX8_fewestHooks_51 : decode cX8_fewestHooks 51 = .ok (.getfield 44, 3) := by decide +kernel
theorem dX8_fewestHooks_54 : decode cX8_fewestHooks 54 = .ok (.getfield 305, 3) := by decide +kernel
theorem dX8_fewestHooks_57 : decode cX8_fewestHooks 57 = .ok (.if_icmp .ne 5, 3) := by decide +kernel
theorem dX8_fewestHooks_60 : decode cX8_fewestHooks 60 = .ok (.iload_n 1, 1) := by decide +kernel
theorem dX8_fewestHooks_61 : decode cX8_fewestHooks 61 = .ok (.ireturn, 1) := by decide +kernel
theorem dX8_fewestHooks_62 : decode cX8_fewestHooks 62 = .ok (.iinc 1 1, 3) := by decide +kernel
theorem dX8_fewestHooks_65 : decode cX8_fewestHooks 65 = .ok (.goto (-52), 3) := by decide +kernel
theorem dX8_fewestHooks_68 : decode cX8_fewestHooks 68 = .ok (.iconst (-1), 1) := by decide +kernel
theorem dX8_fewestHooks_69 : decode cX8_fewestHooks 69 = .ok (.ireturn, 1) := by decide +kernel
theorem dX8_chooseSwap_0 : decode cX8_chooseSwap 0 = .ok (.aload_n 0, 1) := by decide +kernel
theorem dX8_chooseSwap_1 : decode cX8_chooseSwap 1 = .ok (.getfield 44, 3) := by decide +kernel
theorem dX8_chooseSwap_4 : decode cX8_chooseSwap 4 = .ok (.aload_n 0, 1) := by decide +kernel
theorem dX8_chooseSwap_5 : decode cX8_chooseSwap 5 = .ok (.getfield 40, 3) := by decide +kernel
theorem dX8_chooseSwap_8 : decode cX8_chooseSwap 8 = .ok (.invokevirtual 359, 3) := by decide +kernel
theorem dX8_chooseSwap_11 : decode cX8_chooseSwap 11 = .ok (.aload_n 0, 1) := by decide +kernel
theorem dX8_chooseSwap_12 : decode cX8_chooseSwap 12 = .ok (.getfield 60, 3) := by decide +kernel
theorem dX8_chooseSwap_15 : decode cX8_chooseSwap 15 = .ok (.invokevirtual 362, 3) := by decide +kernel
theorem dX8_chooseSwap_18 : decode cX8_chooseSwap 18 = .ok (.iconst 0, 1) := by decide +kernel
theorem dX8_chooseSwap_19 : decode cX8_chooseSwap 19 = .ok (.istore_n 1, 1) := by decide +kernel
theorem dX8_chooseSwap_20 : decode cX8_chooseSwap 20 = .ok (.iload_n 1, 1) := by decide +kernel
theorem dX8_chooseSwap_21 : decode cX8_chooseSwap 21 = .ok (.aload_n 0, 1) := by decide +kernel
theorem dX8_chooseSwap_22 : decode cX8_chooseSwap 22 = .ok (.getfield 40, 3) := by decide +kernel
theorem dX8_chooseSwap_25 : decode cX8_chooseSwap 25 = .ok (.getfield 305, 3) := by decide +kernel
theorem dX8_chooseSwap_28 : decode cX8_chooseSwap 28 = .ok (.if_icmp .ge 85, 3) := by decide +kernel
theorem dX8_chooseSwap_31 : decode cX8_chooseSwap 31 = .ok (.iload_n 1, 1) := by decide +kernel
theorem dX8_chooseSwap_32 : decode cX8_chooseSwap 32 = .ok (.iconst 1, 1) := by decide +kernel
theorem dX8_chooseSwap_33 : decode cX8_chooseSwap 33 = .ok (.iadd, 1) := by decide +kernel
theorem dX8_chooseSwap_34 : decode cX8_chooseSwap 34 = .ok (.istore_n 2, 1) := by decide +kernel
theorem dX8_chooseSwap_35 : decode cX8_chooseSwap 35 = .ok (.iload_n 2, 1) := by decide +kernel
theorem dX8_chooseSwap_36 : decode cX8_chooseSwap 36 = .ok (.aload_n 0, 1) := by decide +kernel
theorem dX8_chooseSwap_37 : decode cX8_chooseSwap 37 = .ok (.getfield 40, 3) := by decide +kernel
theorem dX8_chooseSwap_40 : decode cX8_chooseSwap 40 = .ok (.getfield 305, 3) := by decide +kernel
theorem dX8_chooseSwap_43 : decode cX8_chooseSwap 43 = .ok (.if_icmp .ge 64, 3) := by decide +kernel
theorem dX8_chooseSwap_46 : decode cX8_chooseSwap 46 = .ok (.aload_n 0, 1) := by decide +kernel
theorem dX8_chooseSwap_47 : decode cX8_chooseSwap 47 = .ok (.getfield 44, 3) := by decide +kernel
theorem dX8_chooseSwap_50 : decode cX8_chooseSwap 50 = .ok (.iload_n 1, 1) := by decide +kernel
theorem dX8_chooseSwap_51 : decode cX8_chooseSwap 51 = .ok (.iload_n 2, 1) := by decide +kernel
theorem dX8_chooseSwap_52 : decode cX8_chooseSwap 52 = .ok (.invokevirtual 365, 3) := by decide +kernel
theorem dX8_chooseSwap_55 : decode cX8_chooseSwap 55 = .ok (.aload_n 0, 1) := by decide +kernel
theorem dX8_chooseSwap_56 : decode cX8_chooseSwap 56 = .ok (.getfield 54, 3) := by decide +kernel
theorem dX8_chooseSwap_59 : decode cX8_chooseSwap 59 = .ok (.aload_n 0, 1) := by decide +kernel
theorem dX8_chooseSwap_60 : decode cX8_chooseSwap 60 = .ok (.getfield 44, 3) := by decide +kernel
theorem dX8_chooseSwap_63 : decode cX8_chooseSwap 63 = .ok (.invokevirtual 352, 3) := by decide +kernel
theorem dX8_chooseSwap_66 : decode cX8_chooseSwap 66 = .ok (.aload_n 0, 1) := by decide +kernel
theorem dX8_chooseSwap_67 : decode cX8_chooseSwap 67 = .ok (.getfield 60, 3) := by decide +kernel
theorem dX8_chooseSwap_70 : decode cX8_chooseSwap 70 = .ok (.iload_n 1, 1) := by decide +kernel
theorem dX8_chooseSwap_71 : decode cX8_chooseSwap 71 = .ok (.iload_n 2, 1) := by decide +kernel
theorem dX8_chooseSwap_72 : decode cX8_chooseSwap 72 = .ok (.aload_n 0, 1) := by decide +kernel
theorem dX8_chooseSwap_73 : decode cX8_chooseSwap 73 = .ok (.getfield 54, 3) := by decide +kernel
theorem dX8_chooseSwap_76 : decode cX8_chooseSwap 76 = .ok (.getfield 265, 3) := by decide +kernel
theorem dX8_chooseSwap_79 : decode cX8_chooseSwap 79 = .ok (.aload_n 0, 1) := by decide +kernel
theorem dX8_chooseSwap_80 : decode cX8_chooseSwap 80 = .ok (.getfield 54, 3) := by decide +kernel
theorem dX8_chooseSwap_83 : decode cX8_chooseSwap 83 = .ok (.getfield 268, 3) := by decide +kernel
theorem dX8_chooseSwap_86 : decode cX8_chooseSwap 86 = .ok (.invokestatic 271, 3) := by decide +kernel
theorem dX8_chooseSwap_89 : decode cX8_chooseSwap 89 = .ok (.invokevirtual 368, 3) := by decide +kernel
theorem dX8_chooseSwap_92 : decode cX8_chooseSwap 92 = .ok (.aload_n 0, 1) := by decide +kernel
theorem dX8_chooseSwap_93 : decode cX8_chooseSwap 93 = .ok (.getfield 44, 3) := by decide +kernel
theorem dX8_chooseSwap_96 : decode cX8_chooseSwap 96 = .ok (.iload_n 1, 1) := by decide +kernel
theorem dX8_chooseSwap_97 : decode cX8_chooseSwap 97 = .ok (.iload_n 2, 1) := by decide +kernel
theorem dX8_chooseSwap_98 : decode cX8_chooseSwap 98 = .ok (.invokevirtual 365, 3) := by decide +kernel
theorem dX8_chooseSwap_101 : decode cX8_chooseSwap 101 = .ok (.iinc 2 1, 3) := by decide +kernel
theorem dX8_chooseSwap_104 : decode cX8_chooseSwap 104 = .ok (.goto (-69), 3) := by decide +kernel
theorem dX8_chooseSwap_107 : decode cX8_chooseSwap 107 = .ok (.iinc 1 1, 3) := by decide +kernel
theorem dX8_chooseSwap_110 : decode cX8_chooseSwap 110 = .ok (.goto (-90), 3) := by decide +kernel
theorem dX8_chooseSwap_113 : decode cX8_chooseSwap 113 = .ok (.return_, 1) := by decide +kernel
theorem dX8_chooseLeft_0 : decode cX8_chooseLeft 0 = .ok (.aload_n 0, 1) := by decide +kernel
theorem dX8_chooseLeft_1 : decode cX8_chooseLeft 1 = .ok (.getfield 44, 3) := by decide +kernel
theorem dX8_chooseLeft_4 : decode cX8_chooseLeft 4 = .ok (.aload_n 0, 1) := by decide +kernel
theorem dX8_chooseLeft_5 : decode cX8_chooseLeft 5 = .ok (.getfield 40, 3) := by decide +kernel
theorem dX8_chooseLeft_8 : decode cX8_chooseLeft 8 = .ok (.invokevirtual 359, 3) := by decide +kernel
theorem dX8_chooseLeft_11 : decode cX8_chooseLeft 11 = .ok (.aload_n 0, 1) := by decide +kernel
theorem dX8_chooseLeft_12 : decode cX8_chooseLeft 12 = .ok (.getfield 60, 3) := by decide +kernel
theorem dX8_chooseLeft_15 : decode cX8_chooseLeft 15 = .ok (.invokevirtual 362, 3) := by decide +kernel
theorem dX8_chooseLeft_18 : decode cX8_chooseLeft 18 = .ok (.iconst 0, 1) := by decide +kernel
theorem dX8_chooseLeft_19 : decode cX8_chooseLeft 19 = .ok (.istore_n 2, 1) := by decide +kernel
theorem dX8_chooseLeft_20 : decode cX8_chooseLeft 20 = .ok (.iload_n 2, 1) := by decide +kernel
theorem dX8_chooseLeft_21 : decode cX8_chooseLeft 21 = .ok (.aload_n 0, 1) := by decide +kernel
theorem dX8_chooseLeft_22 : decode cX8_chooseLeft 22 = .ok (.getfield 40, 3) := by decide +kernel
theorem dX8_chooseLeft_25 : decode cX8_chooseLeft 25 = .ok (.getfield 297, 3) := by decide +kernel
theorem dX8_chooseLeft_28 : decode cX8_chooseLeft 28 = .ok (.if_icmp .ge 68, 3) := by decide +kernel
theorem dX8_chooseLeft_31 : decode cX8_chooseLeft 31 = .ok (.aload_n 0, 1) := by decide +kernel
theorem dX8_chooseLeft_32 : decode cX8_chooseLeft 32 = .ok (.getfield 44, 3) := by decide +kernel
theorem dX8_chooseLeft_35 : decode cX8_chooseLeft 35 = .ok (.getfield 372, 3) := by decide +kernel
theorem dX8_chooseLeft_38 : decode cX8_chooseLeft 38 = .ok (.iload_n 1, 1) := by decide +kernel
theorem dX8_chooseLeft_39 : decode cX8_chooseLeft 39 = .ok (.aload_n 0, 1) := by decide +kernel
theorem dX8_chooseLeft_40 : decode cX8_chooseLeft 40 = .ok (.getfield 40, 3) := by decide +kernel
theorem dX8_chooseLeft_43 : decode cX8_chooseLeft 43 = .ok (.getfield 372, 3) := by decide +kernel
theorem dX8_chooseLeft_46 : decode cX8_chooseLeft 46 = .ok (.iload_n 1, 1) := by decide +kernel
theorem dX8_chooseLeft_47 : decode cX8_chooseLeft 47 = .ok (.iaload, 1) := by decide +kernel
theorem dX8_chooseLeft_48 : decode cX8_chooseLeft 48 = .ok (.iconst 1, 1) := by decide +kernel
theorem dX8_chooseLeft_49 : decode cX8_chooseLeft 49 = .ok (.iload_n 2, 1) := by decide +kernel
theorem dX8_chooseLeft_50 : decode cX8_chooseLeft 50 = .ok (.ishl, 1) := by decide +kernel
theorem dX8_chooseLeft_51 : decode cX8_chooseLeft 51 = .ok (.ior, 1) := by decide +kernel
theorem dX8_chooseLeft_52 : decode cX8_chooseLeft 52 = .ok (.iastore, 1) := by decide +kernel
theorem dX8_chooseLeft_53 : decode cX8_chooseLeft 53 = .ok (.aload_n 0, 1) := by decide +kernel
theorem dX8_chooseLeft_54 : decode cX8_chooseLeft 54 = .ok (.getfield 54, 3) := by decide +kernel
theorem dX8_chooseLeft_57 : decode cX8_chooseLeft 57 = .ok (.aload_n 0, 1) := by decide +kernel
theorem dX8_chooseLeft_58 : decode cX8_chooseLeft 58 = .ok (.getfield 44, 3) := by decide +kernel
theorem dX8_chooseLeft_61 : decode cX8_chooseLeft 61 = .ok (.invokevirtual 352, 3) := by decide +kernel
theorem dX8_chooseLeft_64 : decode cX8_chooseLeft 64 = .ok (.aload_n 0, 1) := by decide +kernel
theorem dX8_chooseLeft_65 : decode cX8_chooseLeft 65 = .ok (.getfield 60, 3) := by decide +kernel
theorem dX8_chooseLeft_68 : decode cX8_chooseLeft 68 = .ok (.iload_n 2, 1) := by decide +kernel
theorem dX8_chooseLeft_69 : decode cX8_chooseLeft 69 = .ok (.iconst (-1), 1) := by decide +kernel
theorem dX8_chooseLeft_70 : decode cX8_chooseLeft 70 = .ok (.aload_n 0, 1) := by decide +kernel
theorem dX8_chooseLeft_71 : decode cX8_chooseLeft 71 = .ok (.getfield 54, 3) := by decide +kernel
theorem dX8_chooseLeft_74 : decode cX8_chooseLeft 74 = .ok (.getfield 265, 3) := by decide +kernel
theorem dX8_chooseLeft_77 : decode cX8_chooseLeft 77 = .ok (.aload_n 0, 1) := by decide +kernel
theorem dX8_chooseLeft_78 : decode cX8_chooseLeft 78 = .ok (.getfield 54, 3) := by decide +kernel
theorem dX8_chooseLeft_81 : decode cX8_chooseLeft 81 = .ok (.getfield 268, 3) := by decide +kernel
theorem dX8_chooseLeft_84 : decode cX8_chooseLeft 84 = .ok (.invokestatic 271, 3) := by decide +kernel
theorem dX8_chooseLeft_87 : decode cX8_chooseLeft 87 = .ok (.invokevirtual 368, 3) := by decide +kernel
theorem dX8_chooseLeft_90 : decode cX8_chooseLeft 90 = .ok (.iinc 2 1, 3) := by decide +kernel
theorem dX8_chooseLeft_93 : decode cX8_chooseLeft 93 = .ok (.goto (-73), 3) := by decide +kernel
theorem dX8_chooseLeft_96 : decode cX8_chooseLeft 96 = .ok (.return_, 1) := by decide +kernel
theorem dX8_chooseSpared_0 : decode cX8_chooseSpared 0 = .ok (.aload_n 0, 1) := by decide +kernel
theorem dX8_chooseSpared_1 : decode cX8_chooseSpared 1 = .ok (.getfield 60, 3) := by decide +kernel
theorem dX8_chooseSpared_4 : decode cX8_chooseSpared 4 = .ok (.invokevirtual 362, 3) := by decide +kernel
theorem dX8_chooseSpared_7 : decode cX8_chooseSpared 7 = .ok (.aload_n 0, 1) := by decide +kernel
theorem dX8_chooseSpared_8 : decode cX8_chooseSpared 8 = .ok (.getfield 40, 3) := by decide +kernel
theorem dX8_chooseSpared_11 : decode cX8_chooseSpared 11 = .ok (.invokevirtual 201, 3) := by decide +kernel
theorem dX8_chooseSpared_14 : decode cX8_chooseSpared 14 = .ok (.istore_n 1, 1) := by decide +kernel
theorem dX8_chooseSpared_15 : decode cX8_chooseSpared 15 = .ok (.aload_n 0, 1) := by decide +kernel
theorem dX8_chooseSpared_16 : decode cX8_chooseSpared 16 = .ok (.invokevirtual 345, 3) := by decide +kernel
theorem dX8_chooseSpared_19 : decode cX8_chooseSpared 19 = .ok (.istore_n 2, 1) := by decide +kernel
theorem dX8_chooseSpared_20 : decode cX8_chooseSpared 20 = .ok (.aload_n 0, 1) := by decide +kernel
theorem dX8_chooseSpared_21 : decode cX8_chooseSpared 21 = .ok (.getfield 78, 3) := by decide +kernel
theorem dX8_chooseSpared_24 : decode cX8_chooseSpared 24 = .ok (.iload_n 2, 1) := by decide +kernel
theorem dX8_chooseSpared_25 : decode cX8_chooseSpared 25 = .ok (.iaload, 1) := by decide +kernel
theorem dX8_chooseSpared_26 : decode cX8_chooseSpared 26 = .ok (.iload_n 1, 1) := by decide +kernel
theorem dX8_chooseSpared_27 : decode cX8_chooseSpared 27 = .ok (.if_icmp .ne 15, 3) := by decide +kernel
theorem dX8_chooseSpared_30 : decode cX8_chooseSpared 30 = .ok (.aload_n 0, 1) := by decide +kernel
theorem dX8_chooseSpared_31 : decode cX8_chooseSpared 31 = .ok (.getfield 60, 3) := by decide +kernel
theorem dX8_chooseSpared_34 : decode cX8_chooseSpared 34 = .ok (.iconst (-1), 1) := by decide +kernel
theorem dX8_chooseSpared_35 : decode cX8_chooseSpared 35 = .ok (.iconst (-1), 1) := by decide +kernel
theorem dX8_chooseSpared_36 : decode cX8_chooseSpared 36 = .ok (.iconst 0, 1) := by decide +kernel
theorem dX8_chooseSpared_37 : decode cX8_chooseSpared 37 = .ok (.iconst 0, 1) := by decide +kernel
theorem dX8_chooseSpared_38 : decode cX8_chooseSpared 38 = .ok (.invokevirtual 368, 3) := by decide +kernel
theorem dX8_chooseSpared_41 : decode cX8_chooseSpared 41 = .ok (.return_, 1) := by decide +kernel
theorem dX8_chooseSpared_42 : decode cX8_chooseSpared 42 = .ok (.iconst 0, 1) := by decide +kernel
theorem dX8_chooseSpared_43 : decode cX8_chooseSpared 43 = .ok (.istore_n 3, 1) := by decide +kernel
theorem dX8_chooseSpared_44 : decode cX8_chooseSpared 44 = .ok (.iload_n 3, 1) := by decide +kernel
theorem dX8_chooseSpared_45 : decode cX8_chooseSpared 45 = .ok (.aload_n 0, 1) := by decide +kernel
theorem dX8_chooseSpared_46 : decode cX8_chooseSpared 46 = .ok (.getfield 24, 3) := by decide +kernel
theorem dX8_chooseSpared_49 : decode cX8_chooseSpared 49 = .ok (.getfield 158, 3) := by decide +kernel
theorem dX8_chooseSpared_52 : decode cX8_chooseSpared 52 = .ok (.if_icmp .ge 37, 3) := by decide +kernel
theorem dX8_chooseSpared_55 : decode cX8_chooseSpared 55 = .ok (.aload_n 0, 1) := by decide +kernel
theorem dX8_chooseSpared_56 : decode cX8_chooseSpared 56 = .ok (.getfield 78, 3) := by decide +kernel
theorem dX8_chooseSpared_59 : decode cX8_chooseSpared 59 = .ok (.iload_n 2, 1) := by decide +kernel
theorem dX8_chooseSpared_60 : decode cX8_chooseSpared 60 = .ok (.iconst 1, 1) := by decide +kernel
theorem dX8_chooseSpared_61 : decode cX8_chooseSpared 61 = .ok (.iload_n 3, 1) := by decide +kernel
theorem dX8_chooseSpared_62 : decode cX8_chooseSpared 62 = .ok (.ishl, 1) := by decide +kernel
theorem dX8_chooseSpared_63 : decode cX8_chooseSpared 63 = .ok (.iconst (-1), 1) := by decide +kernel
theorem dX8_chooseSpared_64 : decode cX8_chooseSpared 64 = .ok (.ixor, 1) := by decide +kernel
theorem dX8_chooseSpared_65 : decode cX8_chooseSpared 65 = .ok (.iand, 1) := by decide +kernel
theorem dX8_chooseSpared_66 : decode cX8_chooseSpared 66 = .ok (.iaload, 1) := by decide +kernel
theorem dX8_chooseSpared_67 : decode cX8_chooseSpared 67 = .ok (.iload_n 1, 1) := by decide +kernel
theorem dX8_chooseSpared_68 : decode cX8_chooseSpared 68 = .ok (.if_icmp .ne 15, 3) := by decide +kernel
theorem dX8_chooseSpared_71 : decode cX8_chooseSpared 71 = .ok (.aload_n 0, 1) := by decide +kernel
theorem dX8_chooseSpared_72 : decode cX8_chooseSpared 72 = .ok (.getfield 60, 3) := by decide +kernel
theorem dX8_chooseSpared_75 : decode cX8_chooseSpared 75 = .ok (.iload_n 3, 1) := by decide +kernel
theorem dX8_chooseSpared_76 : decode cX8_chooseSpared 76 = .ok (.iconst (-1), 1) := by decide +kernel
theorem dX8_chooseSpared_77 : decode cX8_chooseSpared 77 = .ok (.iconst 0, 1) := by decide +kernel
theorem dX8_chooseSpared_78 : decode cX8_chooseSpared 78 = .ok (.iconst 0, 1) := by decide +kernel
theorem dX8_chooseSpared_79 : decode cX8_chooseSpared 79 = .ok (.invokevirtual 368, 3) := by decide +kernel
theorem dX8_chooseSpared_82 : decode cX8_chooseSpared 82 = .ok (.return_, 1) := by decide +kernel
theorem dX8_chooseSpared_83 : decode cX8_chooseSpared 83 = .ok (.iinc 3 1, 3) := by decide +kernel
theorem dX8_chooseSpared_86 : decode cX8_chooseSpared 86 = .ok (.goto (-42), 3) := by decide +kernel
theorem dX8_chooseSpared_89 : decode cX8_chooseSpared 89 = .ok (.iconst 0, 1) := by decide +kernel
theorem dX8_chooseSpared_90 : decode cX8_chooseSpared 90 = .ok (.istore_n 3, 1) := by decide +kernel
theorem dX8_chooseSpared_91 : decode cX8_chooseSpared 91 = .ok (.iload_n 3, 1) := by decide +kernel
theorem dX8_chooseSpared_92 : decode cX8_chooseSpared 92 = .ok (.aload_n 0, 1) := by decide +kernel
theorem dX8_chooseSpared_93 : decode cX8_chooseSpared 93 = .ok (.getfield 24, 3) := by decide +kernel
theorem dX8_chooseSpared_96 : decode cX8_chooseSpared 96 = .ok (.getfield 158, 3) := by decide +kernel
theorem dX8_chooseSpared_99 : decode cX8_chooseSpared 99 = .ok (.if_icmp .ge 66, 3) := by decide +kernel
theorem dX8_chooseSpared_102 : decode cX8_chooseSpared 102 = .ok (.iload_n 3, 1) := by decide +kernel
theorem dX8_chooseSpared_103 : decode cX8_chooseSpared 103 = .ok (.iconst 1, 1) := by decide +kernel
theorem dX8_chooseSpared_104 : decode cX8_chooseSpared 104 = .ok (.iadd, 1) := by decide +kernel
theorem dX8_chooseSpared_105 : decode cX8_chooseSpared 105 = .ok (.istore 4, 2) := by decide +kernel
theorem dX8_chooseSpared_107 : decode cX8_chooseSpared 107 = .ok (.iload 4, 2) := by decide +kernel
theorem dX8_chooseSpared_109 : decode cX8_chooseSpared 109 = .ok (.aload_n 0, 1) := by decide +kernel
theorem dX8_chooseSpared_110 : decode cX8_chooseSpared 110 = .ok (.getfield 24, 3) := by decide +kernel
theorem dX8_chooseSpared_113 : decode cX8_chooseSpared 113 = .ok (.getfield 158, 3) := by decide +kernel
theorem dX8_chooseSpared_116 : decode cX8_chooseSpared 116 = .ok (.if_icmp .ge 43, 3) := by decide +kernel
theorem dX8_chooseSpared_119 : decode cX8_chooseSpared 119 = .ok (.aload_n 0, 1) := by decide +kernel
theorem dX8_chooseSpared_120 : decode cX8_chooseSpared 120 = .ok (.getfield 78, 3) := by decide +kernel
theorem dX8_chooseSpared_123 : decode cX8_chooseSpared 123 = .ok (.iload_n 2, 1) := by decide +kernel
theorem dX8_chooseSpared_124 : decode cX8_chooseSpared 124 = .ok (.iconst 1, 1) := by decide +kernel
theorem dX8_chooseSpared_125 : decode cX8_chooseSpared 125 = .ok (.iload_n 3, 1) := by decide +kernel
theorem dX8_chooseSpared_126 : decode cX8_chooseSpared 126 = .ok (.ishl, 1) := by decide +kernel
theorem dX8_chooseSpared_127 : decode cX8_chooseSpared 127 = .ok (.iconst 1, 1) := by decide +kernel
theorem dX8_chooseSpared_128 : decode cX8_chooseSpared 128 = .ok (.iload 4, 2) := by decide +kernel
theorem dX8_chooseSpared_130 : decode cX8_chooseSpared 130 = .ok (.ishl, 1) := by decide +kernel
theorem dX8_chooseSpared_131 : decode cX8_chooseSpared 131 = .ok (.ior, 1) := by decide +kernel
theorem dX8_chooseSpared_132 : decode cX8_chooseSpared 132 = .ok (.iconst (-1), 1) := by decide +kernel
theorem dX8_chooseSpared_133 : decode cX8_chooseSpared 133 = .ok (.ixor, 1) := by decide +kernel
theorem dX8_chooseSpared_134 : decode cX8_chooseSpared 134 = .ok (.iand, 1) := by decide +kernel
theorem dX8_chooseSpared_135 : decode cX8_chooseSpared 135 = .ok (.iaload, 1) := by decide +kernel
theorem dX8_chooseSpared_136 : decode cX8_chooseSpared 136 = .ok (.iload_n 1, 1) := by decide +kernel
theorem dX8_chooseSpared_137 : decode cX8_chooseSpared 137 = .ok (.if_icmp .ne 16, 3) := by decide +kernel
theorem dX8_chooseSpared_140 : decode cX8_chooseSpared 140 = .ok (.aload_n 0, 1) := by decide +kernel
theorem dX8_chooseSpared_141 : decode cX8_chooseSpared 141 = .ok (.getfield 60, 3) := by decide +kernel
theorem dX8_chooseSpared_144 : decode cX8_chooseSpared 144 = .ok (.iload_n 3, 1) := by decide +kernel
theorem dX8_chooseSpared_145 : decode cX8_chooseSpared 145 = .ok (.iload 4, 2) := by decide +kernel
theorem dX8_chooseSpared_147 : decode cX8_chooseSpared 147 = .ok (.iconst 0, 1) := by decide +kernel
theorem dX8_chooseSpared_148 : decode cX8_chooseSpared 148 = .ok (.iconst 0, 1) := by decide +kernel
theorem dX8_chooseSpared_149 : decode cX8_chooseSpared 149 = .ok (.invokevirtual 368, 3) := by decide +kernel
theorem dX8_chooseSpared_152 : decode cX8_chooseSpared 152 = .ok (.return_, 1) := by decide +kernel
theorem dX8_chooseSpared_153 : decode cX8_chooseSpared 153 = .ok (.iinc 4 1, 3) := by decide +kernel
theorem dX8_chooseSpared_156 : decode cX8_chooseSpared 156 = .ok (.goto (-49), 3) := by decide +kernel
theorem dX8_chooseSpared_159 : decode cX8_chooseSpared 159 = .ok (.iinc 3 1, 3) := by decide +kernel
theorem dX8_chooseSpared_162 : decode cX8_chooseSpared 162 = .ok (.goto (-71), 3) := by decide +kernel
theorem dX8_chooseSpared_165 : decode cX8_chooseSpared 165 = .ok (.return_, 1) := by decide +kernel
theorem dX8_eventsThatNeverWere_0 : decode cX8_eventsThatNeverWere 0 = .ok (.aload_n 0, 1) := by decide +kernel
theorem dX8_eventsThatNeverWere_1 : decode cX8_eventsThatNeverWere 1 = .ok (.getfield 44, 3) := by decide +kernel
theorem dX8_eventsThatNeverWere_4 : decode cX8_eventsThatNeverWere 4 = .ok (.aload_n 0, 1) := by decide +kernel
theorem dX8_eventsThatNeverWere_5 : decode cX8_eventsThatNeverWere 5 = .ok (.getfield 40, 3) := by decide +kernel
theorem dX8_eventsThatNeverWere_8 : decode cX8_eventsThatNeverWere 8 = .ok (.invokevirtual 359, 3) := by decide +kernel
theorem dX8_eventsThatNeverWere_11 : decode cX8_eventsThatNeverWere 11 = .ok (.iconst 0, 1) := by decide +kernel
theorem dX8_eventsThatNeverWere_12 : decode cX8_eventsThatNeverWere 12 = .ok (.istore_n 1, 1) := by decide +kernel
theorem dX8_eventsThatNeverWere_13 : decode cX8_eventsThatNeverWere 13 = .ok (.iconst 0, 1) := by decide +kernel
theorem dX8_eventsThatNeverWere_14 : decode cX8_eventsThatNeverWere 14 = .ok (.istore_n 2, 1) := by decide +kernel
theorem dX8_eventsThatNeverWere_15 : decode cX8_eventsThatNeverWere 15 = .ok (.iload_n 2, 1) := by decide +kernel
theorem dX8_eventsThatNeverWere_16 : decode cX8_eventsThatNeverWere 16 = .ok (.aload_n 0, 1) := by decide +kernel
theorem dX8_eventsThatNeverWere_17 : decode cX8_eventsThatNeverWere 17 = .ok (.getfield 24, 3) := by decide +kernel
theorem dX8_eventsThatNeverWere_20 : decode cX8_eventsThatNeverWere 20 = .ok (.getfield 158, 3) := by decide +kernel
theorem dX8_eventsThatNeverWere_23 : decode cX8_eventsThatNeverWere 23 = .ok (.if_icmp .ge 54, 3) := by decide +kernel
theorem dX8_eventsThatNeverWere_26 : decode cX8_eventsThatNeverWere 26 = .ok (.aload_n 0, 1) := by decide +kernel
theorem dX8_eventsThatNeverWere_27 : decode cX8_eventsThatNeverWere 27 = .ok (.getfield 44, 3) := by decide +kernel
theorem dX8_eventsThatNeverWere_30 : decode cX8_eventsThatNeverWere 30 = .ok (.aload_n 0, 1) := by decide +kernel
theorem dX8_eventsThatNeverWere_31 : decode cX8_eventsThatNeverWere 31 = .ok (.getfield 24, 3) := by decide +kernel
theorem dX8_eventsThatNeverWere_34 : decode cX8_eventsThatNeverWere 34 = .ok (.aload_n 0, 1) := by decide +kernel
theorem dX8_eventsThatNeverWere_35 : decode cX8_eventsThatNeverWere 35 = .ok (.invokevirtual 345, 3) := by decide +kernel
theorem dX8_eventsThatNeverWere_38 : decode cX8_eventsThatNeverWere 38 = .ok (.iconst 1, 1) := by decide +kernel
theorem dX8_eventsThatNeverWere_39 : decode cX8_eventsThatNeverWere 39 = .ok (.iload_n 2, 1) := by decide +kernel
theorem dX8_eventsThatNeverWere_40 : decode cX8_eventsThatNeverWere 40 = .ok (.ishl, 1) := by decide +kernel
theorem dX8_eventsThatNeverWere_41 : decode cX8_eventsThatNeverWere 41 = .ok (.iconst (-1), 1) := by decide +kernel
theorem dX8_eventsThatNeverWere_42 : decode cX8_eventsThatNeverWere 42 = .ok (.ixor, 1) := by decide +kernel
theorem dX8_eventsThatNeverWere_43 : decode cX8_eventsThatNeverWere 43 = .ok (.iand, 1) := by decide +kernel
theorem dX8_eventsThatNeverWere_44 : decode cX8_eventsThatNeverWere 44 = .ok (.invokevirtual 348, 3) := by decide +kernel
theorem dX8_eventsThatNeverWere_47 : decode cX8_eventsThatNeverWere 47 = .ok (.aload_n 0, 1) := by decide +kernel
theorem dX8_eventsThatNeverWere_48 : decode cX8_eventsThatNeverWere 48 = .ok (.getfield 54, 3) := by decide +kernel
theorem dX8_eventsThatNeverWere_51 : decode cX8_eventsThatNeverWere 51 = .ok (.aload_n 0, 1) := by decide +kernel
theorem dX8_eventsThatNeverWere_52 : decode cX8_eventsThatNeverWere 52 = .ok (.getfield 44, 3) := by decide +kernel
theorem dX8_eventsThatNeverWere_55 : decode cX8_eventsThatNeverWere 55 = .ok (.invokevirtual 352, 3) := by decide +kernel
theorem dX8_eventsThatNeverWere_58 : decode cX8_eventsThatNeverWere 58 = .ok (.aload_n 0, 1) := by decide +kernel
theorem dX8_eventsThatNeverWere_59 : decode cX8_eventsThatNeverWere 59 = .ok (.invokevirtual 375, 3) := by decide +kernel
theorem dX8_eventsThatNeverWere_62 : decode cX8_eventsThatNeverWere 62 = .ok (.ifCond .eq 9, 3) := by decide +kernel
theorem dX8_eventsThatNeverWere_65 : decode cX8_eventsThatNeverWere 65 = .ok (.iload_n 1, 1) := by decide +kernel
theorem dX8_eventsThatNeverWere_66 : decode cX8_eventsThatNeverWere 66 = .ok (.iconst 1, 1) := by decide +kernel
theorem dX8_eventsThatNeverWere_67 : decode cX8_eventsThatNeverWere 67 = .ok (.iload_n 2, 1) := by decide +kernel
theorem dX8_eventsThatNeverWere_68 : decode cX8_eventsThatNeverWere 68 = .ok (.ishl, 1) := by decide +kernel
theorem dX8_eventsThatNeverWere_69 : decode cX8_eventsThatNeverWere 69 = .ok (.ior, 1) := by decide +kernel
theorem dX8_eventsThatNeverWere_70 : decode cX8_eventsThatNeverWere 70 = .ok (.istore_n 1, 1) := by decide +kernel
theorem dX8_eventsThatNeverWere_71 : decode cX8_eventsThatNeverWere 71 = .ok (.iinc 2 1, 3) := by decide +kernel
theorem dX8_eventsThatNeverWere_74 : decode cX8_eventsThatNeverWere 74 = .ok (.goto (-59), 3) := by decide +kernel
theorem dX8_eventsThatNeverWere_77 : decode cX8_eventsThatNeverWere 77 = .ok (.iload_n 1, 1) := by decide +kernel
theorem dX8_eventsThatNeverWere_78 : decode cX8_eventsThatNeverWere 78 = .ok (.ireturn, 1) := by decide +kernel
theorem dX8_allComesOut_0 : decode cX8_allComesOut 0 = .ok (.iconst 0, 1) := by decide +kernel
theorem dX8_allComesOut_1 : decode cX8_allComesOut 1 = .ok (.istore_n 1, 1) := by decide +kernel
theorem dX8_allComesOut_2 : decode cX8_allComesOut 2 = .ok (.iload_n 1, 1) := by decide +kernel
theorem dX8_allComesOut_3 : decode cX8_allComesOut 3 = .ok (.aload_n 0, 1) := by decide +kernel
theorem dX8_allComesOut_4 : decode cX8_allComesOut 4 = .ok (.getfield 28, 3) := by decide +kernel
theorem dX8_allComesOut_7 : decode cX8_allComesOut 7 = .ok (.getfield 158, 3) := by decide +kernel
theorem dX8_allComesOut_10 : decode cX8_allComesOut 10 = .ok (.if_icmp .ge 72, 3) := by decide +kernel
theorem dX8_allComesOut_13 : decode cX8_allComesOut 13 = .ok (.aload_n 0, 1) := by decide +kernel
theorem dX8_allComesOut_14 : decode cX8_allComesOut 14 = .ok (.getfield 28, 3) := by decide +kernel
theorem dX8_allComesOut_17 : decode cX8_allComesOut 17 = .ok (.getfield 378, 3) := by decide +kernel
theorem dX8_allComesOut_20 : decode cX8_allComesOut 20 = .ok (.iload_n 1, 1) := by decide +kernel
theorem dX8_allComesOut_21 : decode cX8_allComesOut 21 = .ok (.iaload, 1) := by decide +kernel
theorem dX8_allComesOut_22 : decode cX8_allComesOut 22 = .ok (.istore_n 2, 1) := by decide +kernel
theorem dX8_allComesOut_23 : decode cX8_allComesOut 23 = .ok (.aload_n 0, 1) := by decide +kernel
theorem dX8_allComesOut_24 : decode cX8_allComesOut 24 = .ok (.getfield 28, 3) := by decide +kernel
theorem dX8_allComesOut_27 : decode cX8_allComesOut 27 = .ok (.getfield 381, 3) := by decide +kernel
theorem dX8_allComesOut_30 : decode cX8_allComesOut 30 = .ok (.iload_n 1, 1) := by decide +kernel
theorem dX8_allComesOut_31 : decode cX8_allComesOut 31 = .ok (.iaload, 1) := by decide +kernel
theorem dX8_allComesOut_32 : decode cX8_allComesOut 32 = .ok (.istore_n 3, 1) := by decide +kernel
theorem dX8_allComesOut_33 : decode cX8_allComesOut 33 = .ok (.iload_n 3, 1) := by decide +kernel
theorem dX8_allComesOut_34 : decode cX8_allComesOut 34 = .ok (.aload_n 0, 1) := by decide +kernel
theorem dX8_allComesOut_35 : decode cX8_allComesOut 35 = .ok (.getfield 44, 3) := by decide +kernel
theorem dX8_allComesOut_38 : decode cX8_allComesOut 38 = .ok (.getfield 305, 3) := by decide +kernel
theorem dX8_allComesOut_41 : decode cX8_allComesOut 41 = .ok (.if_icmp .lt 5, 3) := by decide +kernel
theorem dX8_allComesOut_44 : decode cX8_allComesOut 44 = .ok (.iconst 0, 1) := by decide +kernel
theorem dX8_allComesOut_45 : decode cX8_allComesOut 45 = .ok (.ireturn, 1) := by decide +kernel
theorem dX8_allComesOut_46 : decode cX8_allComesOut 46 = .ok (.aload_n 0, 1) := by decide +kernel
theorem dX8_allComesOut_47 : decode cX8_allComesOut 47 = .ok (.getfield 54, 3) := by decide +kernel
theorem dX8_allComesOut_50 : decode cX8_allComesOut 50 = .ok (.iload_n 2, 1) := by decide +kernel
theorem dX8_allComesOut_51 : decode cX8_allComesOut 51 = .ok (.invokevirtual 356, 3) := by decide +kernel
theorem dX8_allComesOut_54 : decode cX8_allComesOut 54 = .ok (.iload_n 3, 1) := by decide +kernel
theorem dX8_allComesOut_55 : decode cX8_allComesOut 55 = .ok (.ishr, 1) := by decide +kernel
theorem dX8_allComesOut_56 : decode cX8_allComesOut 56 = .ok (.iconst 1, 1) := by decide +kernel
theorem dX8_allComesOut_57 : decode cX8_allComesOut 57 = .ok (.iand, 1) := by decide +kernel
theorem dX8_allComesOut_58 : decode cX8_allComesOut 58 = .ok (.istore 4, 2) := by decide +kernel
theorem dX8_allComesOut_60 : decode cX8_allComesOut 60 = .ok (.iload 4, 2) := by decide +kernel
theorem dX8_allComesOut_62 : decode cX8_allComesOut 62 = .ok (.aload_n 0, 1) := by decide +kernel
theorem dX8_allComesOut_63 : decode cX8_allComesOut 63 = .ok (.getfield 28, 3) := by decide +kernel
theorem dX8_allComesOut_66 : decode cX8_allComesOut 66 = .ok (.getfield 384, 3) := by decide +kernel
theorem dX8_allComesOut_69 : decode cX8_allComesOut 69 = .ok (.iload_n 1, 1) := by decide +kernel
theorem dX8_allComesOut_70 : decode cX8_allComesOut 70 = .ok (.iaload, 1) := by decide +kernel
theorem dX8_allComesOut_71 : decode cX8_allComesOut 71 = .ok (.if_icmp .eq 5, 3) := by decide +kernel
theorem dX8_allComesOut_74 : decode cX8_allComesOut 74 = .ok (.iconst 0, 1) := by decide +kernel
theorem dX8_allComesOut_75 : decode cX8_allComesOut 75 = .ok (.ireturn, 1) := by decide +kernel
theorem dX8_allComesOut_76 : decode cX8_allComesOut 76 = .ok (.iinc 1 1, 3) := by decide +kernel
theorem dX8_allComesOut_79 : decode cX8_allComesOut 79 = .ok (.goto (-77), 3) := by decide +kernel
theorem dX8_allComesOut_82 : decode cX8_allComesOut 82 = .ok (.iconst 1, 1) := by decide +kernel
theorem dX8_allComesOut_83 : decode cX8_allComesOut 83 = .ok (.ireturn, 1) := by decide +kernel
theorem dX8_sortsThatFit_0 : decode cX8_sortsThatFit 0 = .ok (.aload_n 0, 1) := by decide +kernel
theorem dX8_sortsThatFit_1 : decode cX8_sortsThatFit 1 = .ok (.getfield 44, 3) := by decide +kernel
theorem dX8_sortsThatFit_4 : decode cX8_sortsThatFit 4 = .ok (.aload_n 0, 1) := by decide +kernel
theorem dX8_sortsThatFit_5 : decode cX8_sortsThatFit 5 = .ok (.getfield 40, 3) := by decide +kernel
theorem dX8_sortsThatFit_8 : decode cX8_sortsThatFit 8 = .ok (.invokevirtual 359, 3) := by decide +kernel
theorem dX8_sortsThatFit_11 : decode cX8_sortsThatFit 11 = .ok (.iconst 0, 1) := by decide +kernel
theorem dX8_sortsThatFit_12 : decode cX8_sortsThatFit 12 = .ok (.istore_n 2, 1) := by decide +kernel
theorem dX8_sortsThatFit_13 : decode cX8_sortsThatFit 13 = .ok (.iconst 0, 1) := by decide +kernel
theorem dX8_sortsThatFit_14 : decode cX8_sortsThatFit 14 = .ok (.istore_n 3, 1) := by decide +kernel
theorem dX8_sortsThatFit_15 : decode cX8_sortsThatFit 15 = .ok (.iload_n 3, 1) := by decide +kernel
theorem dX8_sortsThatFit_16 : decode cX8_sortsThatFit 16 = .ok (.iconst 3, 1) := by decide +kernel
theorem dX8_sortsThatFit_17 : decode cX8_sortsThatFit 17 = .ok (.if_icmp .ge 43, 3) := by decide +kernel
theorem dX8_sortsThatFit_20 : decode cX8_sortsThatFit 20 = .ok (.aload_n 0, 1) := by decide +kernel
theorem dX8_sortsThatFit_21 : decode cX8_sortsThatFit 21 = .ok (.getfield 44, 3) := by decide +kernel
theorem dX8_sortsThatFit_24 : decode cX8_sortsThatFit 24 = .ok (.getfield 137, 3) := by decide +kernel
theorem dX8_sortsThatFit_27 : decode cX8_sortsThatFit 27 = .ok (.iload_n 1, 1) := by decide +kernel
theorem dX8_sortsThatFit_28 : decode cX8_sortsThatFit 28 = .ok (.iload_n 3, 1) := by decide +kernel
theorem dX8_sortsThatFit_29 : decode cX8_sortsThatFit 29 = .ok (.iastore, 1) := by decide +kernel
theorem dX8_sortsThatFit_30 : decode cX8_sortsThatFit 30 = .ok (.aload_n 0, 1) := by decide +kernel
theorem dX8_sortsThatFit_31 : decode cX8_sortsThatFit 31 = .ok (.getfield 54, 3) := by decide +kernel
theorem dX8_sortsThatFit_34 : decode cX8_sortsThatFit 34 = .ok (.aload_n 0, 1) := by decide +kernel
theorem dX8_sortsThatFit_35 : decode cX8_sortsThatFit 35 = .ok (.getfield 44, 3) := by decide +kernel
theorem dX8_sortsThatFit_38 : decode cX8_sortsThatFit 38 = .ok (.invokevirtual 352, 3) := by decide +kernel
theorem dX8_sortsThatFit_41 : decode cX8_sortsThatFit 41 = .ok (.aload_n 0, 1) := by decide +kernel
theorem dX8_sortsThatFit_42 : decode cX8_sortsThatFit 42 = .ok (.invokevirtual 375, 3) := by decide +kernel
theorem dX8_sortsThatFit_45 : decode cX8_sortsThatFit 45 = .ok (.ifCond .eq 9, 3) := by decide +kernel
theorem dX8_sortsThatFit_48 : decode cX8_sortsThatFit 48 = .ok (.iload_n 2, 1) := by decide +kernel
theorem dX8_sortsThatFit_49 : decode cX8_sortsThatFit 49 = .ok (.iconst 1, 1) := by decide +kernel
theorem dX8_sortsThatFit_50 : decode cX8_sortsThatFit 50 = .ok (.iload_n 3, 1) := by decide +kernel
theorem dX8_sortsThatFit_51 : decode cX8_sortsThatFit 51 = .ok (.ishl, 1) := by decide +kernel
theorem dX8_sortsThatFit_52 : decode cX8_sortsThatFit 52 = .ok (.ior, 1) := by decide +kernel
theorem dX8_sortsThatFit_53 : decode cX8_sortsThatFit 53 = .ok (.istore_n 2, 1) := by decide +kernel
theorem dX8_sortsThatFit_54 : decode cX8_sortsThatFit 54 = .ok (.iinc 3 1, 3) := by decide +kernel
theorem dX8_sortsThatFit_57 : decode cX8_sortsThatFit 57 = .ok (.goto (-42), 3) := by decide +kernel
theorem dX8_sortsThatFit_60 : decode cX8_sortsThatFit 60 = .ok (.iload_n 2, 1) := by decide +kernel
theorem dX8_sortsThatFit_61 : decode cX8_sortsThatFit 61 = .ok (.ireturn, 1) := by decide +kernel
theorem dX8_tryHeats_0 : decode cX8_tryHeats 0 = .ok (.aload_n 0, 1) := by decide +kernel
theorem dX8_tryHeats_1 : decode cX8_tryHeats 1 = .ok (.getfield 44, 3) := by decide +kernel
theorem dX8_tryHeats_4 : decode cX8_tryHeats 4 = .ok (.aload_n 0, 1) := by decide +kernel
theorem dX8_tryHeats_5 : decode cX8_tryHeats 5 = .ok (.getfield 40, 3) := by decide +kernel
theorem dX8_tryHeats_8 : decode cX8_tryHeats 8 = .ok (.invokevirtual 359, 3) := by decide +kernel
theorem dX8_tryHeats_11 : decode cX8_tryHeats 11 = .ok (.aload_n 0, 1) := by decide +kernel
theorem dX8_tryHeats_12 : decode cX8_tryHeats 12 = .ok (.getfield 67, 3) := by decide +kernel
theorem dX8_tryHeats_15 : decode cX8_tryHeats 15 = .ok (.iconst 0, 1) := by decide +kernel
theorem dX8_tryHeats_16 : decode cX8_tryHeats 16 = .ok (.putfield 249, 3) := by decide +kernel
theorem dX8_tryHeats_19 : decode cX8_tryHeats 19 = .ok (.iconst 1, 1) := by decide +kernel
theorem dX8_tryHeats_20 : decode cX8_tryHeats 20 = .ok (.istore_n 2, 1) := by decide +kernel
theorem dX8_tryHeats_21 : decode cX8_tryHeats 21 = .ok (.iload_n 2, 1) := by decide +kernel
theorem dX8_tryHeats_22 : decode cX8_tryHeats 22 = .ok (.bipush 9, 2) := by decide +kernel
theorem dX8_tryHeats_24 : decode cX8_tryHeats 24 = .ok (.if_icmp .gt 88, 3) := by decide +kernel
theorem dX8_tryHeats_27 : decode cX8_tryHeats 27 = .ok (.aload_n 0, 1) := by decide +kernel
theorem dX8_tryHeats_28 : decode cX8_tryHeats 28 = .ok (.getfield 44, 3) := by decide +kernel
theorem dX8_tryHeats_31 : decode cX8_tryHeats 31 = .ok (.getfield 140, 3) := by decide +kernel
theorem dX8_tryHeats_34 : decode cX8_tryHeats 34 = .ok (.iload_n 1, 1) := by decide +kernel
theorem dX8_tryHeats_35 : decode cX8_tryHeats 35 = .ok (.iload_n 2, 1) := by decide +kernel
theorem dX8_tryHeats_36 : decode cX8_tryHeats 36 = .ok (.iastore, 1) := by decide +kernel
theorem dX8_tryHeats_37 : decode cX8_tryHeats 37 = .ok (.aload_n 0, 1) := by decide +kernel
theorem dX8_tryHeats_38 : decode cX8_tryHeats 38 = .ok (.getfield 54, 3) := by decide +kernel
theorem dX8_tryHeats_41 : decode cX8_tryHeats 41 = .ok (.aload_n 0, 1) := by decide +kernel
theorem dX8_tryHeats_42 : decode cX8_tryHeats 42 = .ok (.getfield 44, 3) := by decide +kernel
theorem dX8_tryHeats_45 : decode cX8_tryHeats 45 = .ok (.invokevirtual 352, 3) := by decide +kernel
theorem dX8_tryHeats_48 : decode cX8_tryHeats 48 = .ok (.aload_n 0, 1) := by decide +kernel
theorem dX8_tryHeats_49 : decode cX8_tryHeats 49 = .ok (.invokevirtual 375, 3) := by decide +kernel
theorem dX8_tryHeats_52 : decode cX8_tryHeats 52 = .ok (.ifCond .eq 18, 3) := by decide +kernel
theorem dX8_tryHeats_55 : decode cX8_tryHeats 55 = .ok (.aload_n 0, 1) := by decide +kernel
theorem dX8_tryHeats_56 : decode cX8_tryHeats 56 = .ok (.getfield 67, 3) := by decide +kernel
theorem dX8_tryHeats_59 : decode cX8_tryHeats 59 = .ok (.dup, 1) := by decide +kernel
theorem dX8_tryHeats_60 : decode cX8_tryHeats 60 = .ok (.getfield 249, 3) := by decide +kernel
theorem dX8_tryHeats_63 : decode cX8_tryHeats 63 = .ok (.iconst 1, 1) := by decide +kernel
theorem dX8_tryHeats_64 : decode cX8_tryHeats 64 = .ok (.iload_n 2, 1) := by decide +kernel
theorem dX8_tryHeats_65 : decode cX8_tryHeats 65 = .ok (.ishl, 1) := by decide +kernel
theorem dX8_tryHeats_66 : decode cX8_tryHeats 66 = .ok (.ior, 1) := by decide +kernel
theorem dX8_tryHeats_67 : decode cX8_tryHeats 67 = .ok (.putfield 249, 3) := by decide +kernel
theorem dX8_tryHeats_70 : decode cX8_tryHeats 70 = .ok (.iconst 0, 1) := by decide +kernel
theorem dX8_tryHeats_71 : decode cX8_tryHeats 71 = .ok (.istore_n 3, 1) := by decide +kernel
theorem dX8_tryHeats_72 : decode cX8_tryHeats 72 = .ok (.iload_n 3, 1) := by decide +kernel
theorem dX8_tryHeats_73 : decode cX8_tryHeats 73 = .ok (.bipush 12, 2) := by decide +kernel
theorem dX8_tryHeats_75 : decode cX8_tryHeats 75 = .ok (.if_icmp .ge 31, 3) := by decide +kernel
theorem dX8_tryHeats_78 : decode cX8_tryHeats 78 = .ok (.aload_n 0, 1) := by decide +kernel
theorem dX8_tryHeats_79 : decode cX8_tryHeats 79 = .ok (.getfield 67, 3) := by decide +kernel
theorem dX8_tryHeats_82 : decode cX8_tryHeats 82 = .ok (.getfield 387, 3) := by decide +kernel
theorem dX8_tryHeats_85 : decode cX8_tryHeats 85 = .ok (.iload_n 2, 1) := by decide +kernel
theorem dX8_tryHeats_86 : decode cX8_tryHeats 86 = .ok (.bipush 12, 2) := by decide +kernel
theorem dX8_tryHeats_88 : decode cX8_tryHeats 88 = .ok (.imul, 1) := by decide +kernel
theorem dX8_tryHeats_89 : decode cX8_tryHeats 89 = .ok (.iload_n 3, 1) := by decide +kernel
theorem dX8_tryHeats_90 : decode cX8_tryHeats 90 = .ok (.iadd, 1) := by decide +kernel
theorem dX8_tryHeats_91 : decode cX8_tryHeats 91 = .ok (.aload_n 0, 1) := by decide +kernel
theorem dX8_tryHeats_92 : decode cX8_tryHeats 92 = .ok (.getfield 54, 3) := by decide +kernel
theorem dX8_tryHeats_95 : decode cX8_tryHeats 95 = .ok (.iload_n 3, 1) := by decide +kernel
theorem dX8_tryHeats_96 : decode cX8_tryHeats 96 = .ok (.invokevirtual 356, 3) := by decide +kernel
theorem dX8_tryHeats_99 : decode cX8_tryHeats 99 = .ok (.iastore, 1) := by decide +kernel
theorem dX8_tryHeats_100 : decode cX8_tryHeats 100 = .ok (.iinc 3 1, 3) := by decide +kernel
theorem dX8_tryHeats_103 : decode cX8_tryHeats 103 = .ok (.goto (-31), 3) := by decide +kernel
theorem dX8_tryHeats_106 : decode cX8_tryHeats 106 = .ok (.iinc 2 1, 3) := by decide +kernel
theorem dX8_tryHeats_109 : decode cX8_tryHeats 109 = .ok (.goto (-88), 3) := by decide +kernel
theorem dX8_tryHeats_112 : decode cX8_tryHeats 112 = .ok (.return_, 1) := by decide +kernel
theorem dX8_refreshEnds_0 : decode cX8_refreshEnds 0 = .ok (.aload_n 0, 1) := by decide +kernel
theorem dX8_refreshEnds_1 : decode cX8_refreshEnds 1 = .ok (.getfield 86, 3) := by decide +kernel
theorem dX8_refreshEnds_4 : decode cX8_refreshEnds 4 = .ok (.ifCond .ne 4, 3) := by decide +kernel
theorem dX8_refreshEnds_7 : decode cX8_refreshEnds 7 = .ok (.return_, 1) := by decide +kernel
theorem dX8_refreshEnds_8 : decode cX8_refreshEnds 8 = .ok (.aload_n 0, 1) := by decide +kernel
theorem dX8_refreshEnds_9 : decode cX8_refreshEnds 9 = .ok (.getfield 44, 3) := by decide +kernel
theorem dX8_refreshEnds_12 : decode cX8_refreshEnds 12 = .ok (.aload_n 0, 1) := by decide +kernel
theorem dX8_refreshEnds_13 : decode cX8_refreshEnds 13 = .ok (.getfield 40, 3) := by decide +kernel
theorem dX8_refreshEnds_16 : decode cX8_refreshEnds 16 = .ok (.invokevirtual 359, 3) := by decide +kernel
theorem dX8_refreshEnds_19 : decode cX8_refreshEnds 19 = .ok (.aload_n 0, 1) := by decide +kernel
theorem dX8_refreshEnds_20 : decode cX8_refreshEnds 20 = .ok (.invokevirtual 345, 3) := by decide +kernel
theorem dX8_refreshEnds_23 : decode cX8_refreshEnds 23 = .ok (.istore_n 1, 1) := by decide +kernel
theorem dX8_refreshEnds_24 : decode cX8_refreshEnds 24 = .ok (.iconst 0, 1) := by decide +kernel
theorem dX8_refreshEnds_25 : decode cX8_refreshEnds 25 = .ok (.istore_n 2, 1) := by decide +kernel
theorem dX8_refreshEnds_26 : decode cX8_refreshEnds 26 = .ok (.iload_n 2, 1) := by decide +kernel
theorem dX8_refreshEnds_27 : decode cX8_refreshEnds 27 = .ok (.iload_n 1, 1) := by decide +kernel
theorem dX8_refreshEnds_28 : decode cX8_refreshEnds 28 = .ok (.if_icmp .gt 47, 3) := by decide +kernel
theorem dX8_refreshEnds_31 : decode cX8_refreshEnds 31 = .ok (.aload_n 0, 1) := by decide +kernel
theorem dX8_refreshEnds_32 : decode cX8_refreshEnds 32 = .ok (.getfield 44, 3) := by decide +kernel
theorem dX8_refreshEnds_35 : decode cX8_refreshEnds 35 = .ok (.aload_n 0, 1) := by decide +kernel
theorem dX8_refreshEnds_36 : decode cX8_refreshEnds 36 = .ok (.getfield 24, 3) := by decide +kernel
theorem dX8_refreshEnds_39 : decode cX8_refreshEnds 39 = .ok (.iload_n 2, 1) := by decide +kernel
theorem dX8_refreshEnds_40 : decode cX8_refreshEnds 40 = .ok (.invokevirtual 348, 3) := by decide +kernel
theorem dX8_refreshEnds_43 : decode cX8_refreshEnds 43 = .ok (.aload_n 0, 1) := by decide +kernel
theorem dX8_refreshEnds_44 : decode cX8_refreshEnds 44 = .ok (.getfield 54, 3) := by decide +kernel
theorem dX8_refreshEnds_47 : decode cX8_refreshEnds 47 = .ok (.aload_n 0, 1) := by decide +kernel
theorem dX8_refreshEnds_48 : decode cX8_refreshEnds 48 = .ok (.getfield 44, 3) := by decide +kernel
theorem dX8_refreshEnds_51 : decode cX8_refreshEnds 51 = .ok (.invokevirtual 352, 3) := by decide +kernel
theorem dX8_refreshEnds_54 : decode cX8_refreshEnds 54 = .ok (.aload_n 0, 1) := by decide +kernel
theorem dX8_refreshEnds_55 : decode cX8_refreshEnds 55 = .ok (.getfield 78, 3) := by decide +kernel
theorem dX8_refreshEnds_58 : decode cX8_refreshEnds 58 = .ok (.iload_n 2, 1) := by decide +kernel
theorem dX8_refreshEnds_59 : decode cX8_refreshEnds 59 = .ok (.aload_n 0, 1) := by decide +kernel
theorem dX8_refreshEnds_60 : decode cX8_refreshEnds 60 = .ok (.getfield 54, 3) := by decide +kernel
theorem dX8_refreshEnds_63 : decode cX8_refreshEnds 63 = .ok (.bipush 11, 2) := by decide +kernel
theorem dX8_refreshEnds_65 : decode cX8_refreshEnds 65 = .ok (.invokevirtual 356, 3) := by decide +kernel
theorem dX8_refreshEnds_68 : decode cX8_refreshEnds 68 = .ok (.iastore, 1) := by decide +kernel
theorem dX8_refreshEnds_69 : decode cX8_refreshEnds 69 = .ok (.iinc 2 1, 3) := by decide +kernel
theorem dX8_refreshEnds_72 : decode cX8_refreshEnds 72 = .ok (.goto (-46), 3) := by decide +kernel
theorem dX8_refreshEnds_75 : decode cX8_refreshEnds 75 = .ok (.aload_n 0, 1) := by decide +kernel
theorem dX8_refreshEnds_76 : decode cX8_refreshEnds 76 = .ok (.iconst 0, 1) := by decide +kernel
theorem dX8_refreshEnds_77 : decode cX8_refreshEnds 77 = .ok (.putfield 86, 3) := by decide +kernel
theorem dX8_refreshEnds_80 : decode cX8_refreshEnds 80 = .ok (.return_, 1) := by decide +kernel
theorem dX8_chanceOf_0 : decode cX8_chanceOf 0 = .ok (.lconst 0, 1) := by decide +kernel
theorem dX8_chanceOf_1 : decode cX8_chanceOf 1 = .ok (.lstore 4, 2) := by decide +kernel
theorem dX8_chanceOf_3 : decode cX8_chanceOf 3 = .ok (.aload_n 0, 1) := by decide +kernel
theorem dX8_chanceOf_4 : decode cX8_chanceOf 4 = .ok (.invokevirtual 345, 3) := by decide +kernel
theorem dX8_chanceOf_7 : decode cX8_chanceOf 7 = .ok (.istore 6, 2) := by decide +kernel
theorem dX8_chanceOf_9 : decode cX8_chanceOf 9 = .ok (.iconst 0, 1) := by decide +kernel
theorem dX8_chanceOf_10 : decode cX8_chanceOf 10 = .ok (.istore 7, 2) := by decide +kernel
theorem dX8_chanceOf_12 : decode cX8_chanceOf 12 = .ok (.iload 7, 2) := by decide +kernel
theorem dX8_chanceOf_14 : decode cX8_chanceOf 14 = .ok (.iload 6, 2) := by decide +kernel
theorem dX8_chanceOf_16 : decode cX8_chanceOf 16 = .ok (.if_icmp .gt 36, 3) := by decide +kernel
theorem dX8_chanceOf_19 : decode cX8_chanceOf 19 = .ok (.aload_n 0, 1) := by decide +kernel
theorem dX8_chanceOf_20 : decode cX8_chanceOf 20 = .ok (.getfield 78, 3) := by decide +kernel
theorem dX8_chanceOf_23 : decode cX8_chanceOf 23 = .ok (.iload 7, 2) := by decide +kernel
theorem dX8_chanceOf_25 : decode cX8_chanceOf 25 = .ok (.iaload, 1) := by decide +kernel
theorem dX8_chanceOf_26 : decode cX8_chanceOf 26 = .ok (.iload_n 2, 1) := by decide +kernel
theorem dX8_chanceOf_27 : decode cX8_chanceOf 27 = .ok (.ishr, 1) := by decide +kernel
theorem dX8_chanceOf_28 : decode cX8_chanceOf 28 = .ok (.iconst 1, 1) := by decide +kernel
theorem dX8_chanceOf_29 : decode cX8_chanceOf 29 = .ok (.iand, 1) := by decide +kernel
theorem dX8_chanceOf_30 : decode cX8_chanceOf 30 = .ok (.iconst 1, 1) := by decide +kernel
theorem dX8_chanceOf_31 : decode cX8_chanceOf 31 = .ok (.if_icmp .ne 15, 3) := by decide +kernel
theorem dX8_chanceOf_34 : decode cX8_chanceOf 34 = .ok (.lload 4, 2) := by decide +kernel
theorem dX8_chanceOf_36 : decode cX8_chanceOf 36 = .ok (.aload_n 0, 1) := by decide +kernel
theorem dX8_chanceOf_37 : decode cX8_chanceOf 37 = .ok (.iload_n 1, 1) := by decide +kernel
theorem dX8_chanceOf_38 : decode cX8_chanceOf 38 = .ok (.iload 7, 2) := by decide +kernel
theorem dX8_chanceOf_40 : decode cX8_chanceOf 40 = .ok (.invokevirtual 390, 3) := by decide +kernel
theorem dX8_chanceOf_43 : decode cX8_chanceOf 43 = .ok (.ladd, 1) := by decide +kernel
theorem dX8_chanceOf_44 : decode cX8_chanceOf 44 = .ok (.lstore 4, 2) := by decide +kernel
theorem dX8_chanceOf_46 : decode cX8_chanceOf 46 = .ok (.iinc 7 1, 3) := by decide +kernel
theorem dX8_chanceOf_49 : decode cX8_chanceOf 49 = .ok (.goto (-37), 3) := by decide +kernel
theorem dX8_chanceOf_52 : decode cX8_chanceOf 52 = .ok (.lconst 1, 1) := by decide +kernel
theorem dX8_chanceOf_53 : decode cX8_chanceOf 53 = .ok (.iconst 4, 1) := by decide +kernel
theorem dX8_chanceOf_54 : decode cX8_chanceOf 54 = .ok (.aload_n 0, 1) := by decide +kernel
theorem dX8_chanceOf_55 : decode cX8_chanceOf 55 = .ok (.getfield 24, 3) := by decide +kernel
theorem dX8_chanceOf_58 : decode cX8_chanceOf 58 = .ok (.getfield 158, 3) := by decide +kernel
theorem dX8_chanceOf_61 : decode cX8_chanceOf 61 = .ok (.imul, 1) := by decide +kernel
theorem dX8_chanceOf_62 : decode cX8_chanceOf 62 = .ok (.lshl, 1) := by decide +kernel
theorem dX8_chanceOf_63 : decode cX8_chanceOf 63 = .ok (.lstore 7, 2) := by decide +kernel
theorem dX8_chanceOf_65 : decode cX8_chanceOf 65 = .ok (.iconst 0, 1) := by decide +kernel
theorem dX8_chanceOf_66 : decode cX8_chanceOf 66 = .ok (.istore 9, 2) := by decide +kernel
theorem dX8_chanceOf_68 : decode cX8_chanceOf 68 = .ok (.iload 9, 2) := by decide +kernel
theorem dX8_chanceOf_70 : decode cX8_chanceOf 70 = .ok (.bipush 32, 2) := by decide +kernel
theorem dX8_chanceOf_72 : decode cX8_chanceOf 72 = .ok (.if_icmp .ge 37, 3) := by decide +kernel
theorem dX8_chanceOf_75 : decode cX8_chanceOf 75 = .ok (.lload 7, 2) := by decide +kernel
theorem dX8_chanceOf_77 : decode cX8_chanceOf 77 = .ok (.lconst 1, 1) := by decide +kernel
theorem dX8_chanceOf_78 : decode cX8_chanceOf 78 = .ok (.lcmp, 1) := by decide +kernel
theorem dX8_chanceOf_79 : decode cX8_chanceOf 79 = .ok (.ifCond .le 30, 3) := by decide +kernel
theorem dX8_chanceOf_82 : decode cX8_chanceOf 82 = .ok (.lload 4, 2) := by decide +kernel
theorem dX8_chanceOf_84 : decode cX8_chanceOf 84 = .ok (.lconst 1, 1) := by decide +kernel
theorem dX8_chanceOf_85 : decode cX8_chanceOf 85 = .ok (.land, 1) := by decide +kernel
theorem dX8_chanceOf_86 : decode cX8_chanceOf 86 = .ok (.lconst 0, 1) := by decide +kernel
theorem dX8_chanceOf_87 : decode cX8_chanceOf 87 = .ok (.lcmp, 1) := by decide +kernel
theorem dX8_chanceOf_88 : decode cX8_chanceOf 88 = .ok (.ifCond .ne 21, 3) := by decide +kernel
theorem dX8_chanceOf_91 : decode cX8_chanceOf 91 = .ok (.lload 4, 2) := by decide +kernel
theorem dX8_chanceOf_93 : decode cX8_chanceOf 93 = .ok (.iconst 1, 1) := by decide +kernel
theorem dX8_chanceOf_94 : decode cX8_chanceOf 94 = .ok (.lshr, 1) := by decide +kernel
theorem dX8_chanceOf_95 : decode cX8_chanceOf 95 = .ok (.lstore 4, 2) := by decide +kernel
theorem dX8_chanceOf_97 : decode cX8_chanceOf 97 = .ok (.lload 7, 2) := by decide +kernel
theorem dX8_chanceOf_99 : decode cX8_chanceOf 99 = .ok (.iconst 1, 1) := by decide +kernel
theorem dX8_chanceOf_100 : decode cX8_chanceOf 100 = .ok (.lshr, 1) := by decide +kernel
theorem dX8_chanceOf_101 : decode cX8_chanceOf 101 = .ok (.lstore 7, 2) := by decide +kernel
theorem dX8_chanceOf_103 : decode cX8_chanceOf 103 = .ok (.iinc 9 1, 3) := by decide +kernel
theorem dX8_chanceOf_106 : decode cX8_chanceOf 106 = .ok (.goto (-38), 3) := by decide +kernel
theorem dX8_chanceOf_109 : decode cX8_chanceOf 109 = .ok (.iload_n 3, 1) := by decide +kernel
theorem dX8_chanceOf_110 : decode cX8_chanceOf 110 = .ok (.ifCond .ne 8, 3) := by decide +kernel
theorem dX8_chanceOf_113 : decode cX8_chanceOf 113 = .ok (.lload 4, 2) := by decide +kernel
theorem dX8_chanceOf_115 : decode cX8_chanceOf 115 = .ok (.goto 5, 3) := by decide +kernel
theorem dX8_chanceOf_118 : decode cX8_chanceOf 118 = .ok (.lload 7, 2) := by decide +kernel
theorem dX8_chanceOf_120 : decode cX8_chanceOf 120 = .ok (.lreturn, 1) := by decide +kernel
theorem dX8_weightOf_0 : decode cX8_weightOf 0 = .ok (.lconst 1, 1) := by decide +kernel
theorem dX8_weightOf_1 : decode cX8_weightOf 1 = .ok (.lstore_n 3, 1) := by decide +kernel
theorem dX8_weightOf_2 : decode cX8_weightOf 2 = .ok (.iconst 0, 1) := by decide +kernel
theorem dX8_weightOf_3 : decode cX8_weightOf 3 = .ok (.istore 5, 2) := by decide +kernel
theorem dX8_weightOf_5 : decode cX8_weightOf 5 = .ok (.iload 5, 2) := by decide +kernel
theorem dX8_weightOf_7 : decode cX8_weightOf 7 = .ok (.aload_n 0, 1) := by decide +kernel
theorem dX8_weightOf_8 : decode cX8_weightOf 8 = .ok (.getfield 24, 3) := by decide +kernel
theorem dX8_weightOf_11 : decode cX8_weightOf 11 = .ok (.getfield 158, 3) := by decide +kernel
theorem dX8_weightOf_14 : decode cX8_weightOf 14 = .ok (.if_icmp .ge 32, 3) := by decide +kernel
theorem dX8_weightOf_17 : decode cX8_weightOf 17 = .ok (.lload_n 3, 1) := by decide +kernel
theorem dX8_weightOf_18 : decode cX8_weightOf 18 = .ok (.iload_n 2, 1) := by decide +kernel
theorem dX8_weightOf_19 : decode cX8_weightOf 19 = .ok (.iload 5, 2) := by decide +kernel
theorem dX8_weightOf_21 : decode cX8_weightOf 21 = .ok (.ishr, 1) := by decide +kernel
theorem dX8_weightOf_22 : decode cX8_weightOf 22 = .ok (.iconst 1, 1) := by decide +kernel
theorem dX8_weightOf_23 : decode cX8_weightOf 23 = .ok (.iand, 1) := by decide +kernel
theorem dX8_weightOf_24 : decode cX8_weightOf 24 = .ok (.iconst 1, 1) := by decide +kernel
theorem dX8_weightOf_25 : decode cX8_weightOf 25 = .ok (.if_icmp .ne 8, 3) := by decide +kernel
theorem dX8_weightOf_28 : decode cX8_weightOf 28 = .ok (.iload_n 1, 1) := by decide +kernel
theorem dX8_weightOf_29 : decode cX8_weightOf 29 = .ok (.i2l, 1) := by decide +kernel
theorem dX8_weightOf_30 : decode cX8_weightOf 30 = .ok (.goto 8, 3) := by decide +kernel
theorem dX8_weightOf_33 : decode cX8_weightOf 33 = .ok (.bipush 16, 2) := by decide +kernel
theorem dX8_weightOf_35 : decode cX8_weightOf 35 = .ok (.iload_n 1, 1) := by decide +kernel
theorem dX8_weightOf_36 : decode cX8_weightOf 36 = .ok (.isub, 1) := by decide +kernel
theorem dX8_weightOf_37 : decode cX8_weightOf 37 = .ok (.i2l, 1) := by decide +kernel
theorem dX8_weightOf_38 : decode cX8_weightOf 38 = .ok (.lmul, 1) := by decide +kernel
theorem dX8_weightOf_39 : decode cX8_weightOf 39 = .ok (.lstore_n 3, 1) := by decide +kernel
theorem dX8_weightOf_40 : decode cX8_weightOf 40 = .ok (.iinc 5 1, 3) := by decide +kernel
theorem dX8_weightOf_43 : decode cX8_weightOf 43 = .ok (.goto (-38), 3) := by decide +kernel
theorem dX8_weightOf_46 : decode cX8_weightOf 46 = .ok (.lload_n 3, 1) := by decide +kernel
theorem dX8_weightOf_47 : decode cX8_weightOf 47 = .ok (.lreturn, 1) := by decide +kernel
theorem dX8_runSeason_0 : decode cX8_runSeason 0 = .ok (.aload_n 0, 1) := by decide +kernel
theorem dX8_runSeason_1 : decode cX8_runSeason 1 = .ok (.getfield 44, 3) := by decide +kernel
theorem dX8_runSeason_4 : decode cX8_runSeason 4 = .ok (.aload_n 0, 1) := by decide +kernel
theorem dX8_runSeason_5 : decode cX8_runSeason 5 = .ok (.getfield 40, 3) := by decide +kernel
theorem dX8_runSeason_8 : decode cX8_runSeason 8 = .ok (.invokevirtual 359, 3) := by decide +kernel
theorem dX8_runSeason_11 : decode cX8_runSeason 11 = .ok (.aload_n 0, 1) := by decide +kernel
theorem dX8_runSeason_12 : decode cX8_runSeason 12 = .ok (.getfield 74, 3) := by decide +kernel
theorem dX8_runSeason_15 : decode cX8_runSeason 15 = .ok (.iload_n 1, 1) := by decide +kernel
theorem dX8_runSeason_16 : decode cX8_runSeason 16 = .ok (.putfield 394, 3) := by decide +kernel
theorem dX8_runSeason_19 : decode cX8_runSeason 19 = .ok (.aload_n 0, 1) := by decide +kernel
theorem dX8_runSeason_20 : decode cX8_runSeason 20 = .ok (.getfield 44, 3) := by decide +kernel
theorem dX8_runSeason_23 : decode cX8_runSeason 23 = .ok (.iload_n 2, 1) := by decide +kernel
theorem dX8_runSeason_24 : decode cX8_runSeason 24 = .ok (.putfield 305, 3) := by decide +kernel
theorem dX8_runSeason_27 : decode cX8_runSeason 27 = .ok (.iconst 0, 1) := by decide +kernel
theorem dX8_runSeason_28 : decode cX8_runSeason 28 = .ok (.istore_n 3, 1) := by decide +kernel
theorem dX8_runSeason_29 : decode cX8_runSeason 29 = .ok (.iload_n 3, 1) := by decide +kernel
theorem dX8_runSeason_30 : decode cX8_runSeason 30 = .ok (.iload_n 2, 1) := by decide +kernel
theorem dX8_runSeason_31 : decode cX8_runSeason 31 = .ok (.if_icmp .ge 64, 3) := by decide +kernel
theorem dX8_runSeason_34 : decode cX8_runSeason 34 = .ok (.aload_n 0, 1) := by decide +kernel
theorem dX8_runSeason_35 : decode cX8_runSeason 35 = .ok (.getfield 44, 3) := by decide +kernel
theorem dX8_runSeason_38 : decode cX8_runSeason 38 = .ok (.getfield 137, 3) := by decide +kernel
theorem dX8_runSeason_41 : decode cX8_runSeason 41 = .ok (.iload_n 3, 1) := by decide +kernel
theorem dX8_runSeason_42 : decode cX8_runSeason 42 = .ok (.aload_n 0, 1) := by decide +kernel
theorem dX8_runSeason_43 : decode cX8_runSeason 43 = .ok (.getfield 74, 3) := by decide +kernel
theorem dX8_runSeason_46 : decode cX8_runSeason 46 = .ok (.iconst 3, 1) := by decide +kernel
theorem dX8_runSeason_47 : decode cX8_runSeason 47 = .ok (.invokevirtual 397, 3) := by decide +kernel
theorem dX8_runSeason_50 : decode cX8_runSeason 50 = .ok (.iastore, 1) := by decide +kernel
theorem dX8_runSeason_51 : decode cX8_runSeason 51 = .ok (.aload_n 0, 1) := by decide +kernel
theorem dX8_runSeason_52 : decode cX8_runSeason 52 = .ok (.getfield 44, 3) := by decide +kernel
theorem dX8_runSeason_55 : decode cX8_runSeason 55 = .ok (.getfield 140, 3) := by decide +kernel
theorem dX8_runSeason_58 : decode cX8_runSeason 58 = .ok (.iload_n 3, 1) := by decide +kernel
theorem dX8_runSeason_59 : decode cX8_runSeason 59 = .ok (.aload_n 0, 1) := by decide +kernel
theorem dX8_runSeason_60 : decode cX8_runSeason 60 = .ok (.getfield 74, 3) := by decide +kernel
theorem dX8_runSeason_63 : decode cX8_runSeason 63 = .ok (.bipush 9, 2) := by decide +kernel
theorem dX8_runSeason_65 : decode cX8_runSeason 65 = .ok (.invokevirtual 397, 3) := by decide +kernel
theorem dX8_runSeason_68 : decode cX8_runSeason 68 = .ok (.iconst 1, 1) := by decide +kernel
theorem dX8_runSeason_69 : decode cX8_runSeason 69 = .ok (.iadd, 1) := by decide +kernel
theorem dX8_runSeason_70 : decode cX8_runSeason 70 = .ok (.iastore, 1) := by decide +kernel
theorem dX8_runSeason_71 : decode cX8_runSeason 71 = .ok (.aload_n 0, 1) := by decide +kernel
theorem dX8_runSeason_72 : decode cX8_runSeason 72 = .ok (.getfield 44, 3) := by decide +kernel
theorem dX8_runSeason_75 : decode cX8_runSeason 75 = .ok (.getfield 143, 3) := by decide +kernel
theorem dX8_runSeason_78 : decode cX8_runSeason 78 = .ok (.iload_n 3, 1) := by decide +kernel
theorem dX8_runSeason_79 : decode cX8_runSeason 79 = .ok (.aload_n 0, 1) := by decide +kernel
theorem dX8_runSeason_80 : decode cX8_runSeason 80 = .ok (.getfield 74, 3) := by decide +kernel
theorem dX8_runSeason_83 : decode cX8_runSeason 83 = .ok (.bipush 10, 2) := by decide +kernel
theorem dX8_runSeason_85 : decode cX8_runSeason 85 = .ok (.invokevirtual 397, 3) := by decide +kernel
theorem dX8_runSeason_88 : decode cX8_runSeason 88 = .ok (.iastore, 1) := by decide +kernel
theorem dX8_runSeason_89 : decode cX8_runSeason 89 = .ok (.iinc 3 1, 3) := by decide +kernel
theorem dX8_runSeason_92 : decode cX8_runSeason 92 = .ok (.goto (-63), 3) := by decide +kernel
theorem dX8_runSeason_95 : decode cX8_runSeason 95 = .ok (.aload_n 0, 1) := by decide +kernel
theorem dX8_runSeason_96 : decode cX8_runSeason 96 = .ok (.getfield 54, 3) := by decide +kernel
theorem dX8_runSeason_99 : decode cX8_runSeason 99 = .ok (.aload_n 0, 1) := by decide +kernel
theorem dX8_runSeason_100 : decode cX8_runSeason 100 = .ok (.getfield 44, 3) := by decide +kernel
theorem dX8_runSeason_103 : decode cX8_runSeason 103 = .ok (.invokevirtual 352, 3) := by decide +kernel
theorem dX8_runSeason_106 : decode cX8_runSeason 106 = .ok (.return_, 1) := by decide +kernel
