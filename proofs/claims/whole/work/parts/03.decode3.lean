theorem dX9_init_53 : decode cX9_init 53 = .ok (.iconst 5, 1) := by decide +kernel
theorem dX9_init_54 : decode cX9_init 54 = .ok (.newarray .int, 2) := by decide +kernel
theorem dX9_init_56 : decode cX9_init 56 = .ok (.putfield 33, 3) := by decide +kernel
theorem dX9_init_59 : decode cX9_init 59 = .ok (.aload_n 0, 1) := by decide +kernel
theorem dX9_init_60 : decode cX9_init 60 = .ok (.iconst 5, 1) := by decide +kernel
theorem dX9_init_61 : decode cX9_init 61 = .ok (.newarray .int, 2) := by decide +kernel
theorem dX9_init_63 : decode cX9_init 63 = .ok (.putfield 36, 3) := by decide +kernel
theorem dX9_init_66 : decode cX9_init 66 = .ok (.aload_n 0, 1) := by decide +kernel
theorem dX9_init_67 : decode cX9_init 67 = .ok (.iconst 4, 1) := by decide +kernel
theorem dX9_init_68 : decode cX9_init 68 = .ok (.newarray .int, 2) := by decide +kernel
theorem dX9_init_70 : decode cX9_init 70 = .ok (.putfield 39, 3) := by decide +kernel
theorem dX9_init_73 : decode cX9_init 73 = .ok (.aload_n 0, 1) := by decide +kernel
theorem dX9_init_74 : decode cX9_init 74 = .ok (.iconst 5, 1) := by decide +kernel
theorem dX9_init_75 : decode cX9_init 75 = .ok (.newarray .int, 2) := by decide +kernel
theorem dX9_init_77 : decode cX9_init 77 = .ok (.putfield 42, 3) := by decide +kernel
theorem dX9_init_80 : decode cX9_init 80 = .ok (.aload_n 0, 1) := by decide +kernel
theorem dX9_init_81 : decode cX9_init 81 = .ok (.iconst 5, 1) := by decide +kernel
theorem dX9_init_82 : decode cX9_init 82 = .ok (.newarray .int, 2) := by decide +kernel
theorem dX9_init_84 : decode cX9_init 84 = .ok (.putfield 45, 3) := by decide +kernel
theorem dX9_init_87 : decode cX9_init 87 = .ok (.aload_n 0, 1) := by decide +kernel
theorem dX9_init_88 : decode cX9_init 88 = .ok (.iconst 5, 1) := by decide +kernel
theorem dX9_init_89 : decode cX9_init 89 = .ok (.newarray .int, 2) := by decide +kernel
theorem dX9_init_91 : decode cX9_init 91 = .ok (.putfield 48, 3) := by decide +kernel
theorem dX9_init_94 : decode cX9_init 94 = .ok (.aload_n 0, 1) := by decide +kernel
theorem dX9_init_95 : decode cX9_init 95 = .ok (.iconst 5, 1) := by decide +kernel
theorem dX9_init_96 : decode cX9_init 96 = .ok (.newarray .int, 2) := by decide +kernel
theorem dX9_init_98 : decode cX9_init 98 = .ok (.putfield 51, 3) := by decide +kernel
theorem dX9_init_101 : decode cX9_init 101 = .ok (.aload_n 0, 1) := by decide +kernel
theorem dX9_init_102 : decode cX9_init 102 = .ok (.sipush 324, 3) := by decide +kernel
theorem dX9_init_105 : decode cX9_init 105 = .ok (.newarray .int, 2) := by decide +kernel
theorem dX9_init_107 : decode cX9_init 107 = .ok (.putfield 54, 3) := by decide +kernel
theorem dX9_init_110 : decode cX9_init 110 = .ok (.aload_n 0, 1) := by decide +kernel
theorem dX9_init_111 : decode cX9_init 111 = .ok (.bipush 84, 2) := by decide +kernel
theorem dX9_init_113 : decode cX9_init 113 = .ok (.newarray .int, 2) := by decide +kernel
theorem dX9_init_115 : decode cX9_init 115 = .ok (.putfield 57, 3) := by decide +kernel
theorem dX9_init_118 : decode cX9_init 118 = .ok (.aload_n 0, 1) := by decide +kernel
theorem dX9_init_119 : decode cX9_init 119 = .ok (.iconst 2, 1) := by decide +kernel
theorem dX9_init_120 : decode cX9_init 120 = .ok (.newarray .boolean, 2) := by decide +kernel
theorem dX9_init_122 : decode cX9_init 122 = .ok (.putfield 60, 3) := by decide +kernel
theorem dX9_init_125 : decode cX9_init 125 = .ok (.aload_n 0, 1) := by decide +kernel
theorem dX9_init_126 : decode cX9_init 126 = .ok (.bipush 12, 2) := by decide +kernel
theorem dX9_init_128 : decode cX9_init 128 = .ok (.newarray .int, 2) := by decide +kernel
theorem dX9_init_130 : decode cX9_init 130 = .ok (.putfield 63, 3) := by decide +kernel
theorem dX9_init_133 : decode cX9_init 133 = .ok (.aload_n 0, 1) := by decide +kernel
theorem dX9_init_134 : decode cX9_init 134 = .ok (.bipush 12, 2) := by decide +kernel
theorem dX9_init_136 : decode cX9_init 136 = .ok (.newarray .int, 2) := by decide +kernel
theorem dX9_init_138 : decode cX9_init 138 = .ok (.putfield 66, 3) := by decide +kernel
theorem dX9_init_141 : decode cX9_init 141 = .ok (.aload_n 0, 1) := by decide +kernel
theorem dX9_init_142 : decode cX9_init 142 = .ok (.bipush 12, 2) := by decide +kernel
theorem dX9_init_144 : decode cX9_init 144 = .ok (.newarray .int, 2) := by decide +kernel
theorem dX9_init_146 : decode cX9_init 146 = .ok (.putfield 69, 3) := by decide +kernel
theorem dX9_init_149 : decode cX9_init 149 = .ok (.aload_n 0, 1) := by decide +kernel
theorem dX9_init_150 : decode cX9_init 150 = .ok (.iconst 5, 1) := by decide +kernel
theorem dX9_init_151 : decode cX9_init 151 = .ok (.newarray .int, 2) := by decide +kernel
theorem dX9_init_153 : decode cX9_init 153 = .ok (.putfield 72, 3) := by decide +kernel
theorem dX9_init_156 : decode cX9_init 156 = .ok (.aload_n 0, 1) := by decide +kernel
theorem dX9_init_157 : decode cX9_init 157 = .ok (.iconst 5, 1) := by decide +kernel
theorem dX9_init_158 : decode cX9_init 158 = .ok (.newarray .int, 2) := by decide +kernel
theorem dX9_init_160 : decode cX9_init 160 = .ok (.putfield 75, 3) := by decide +kernel
theorem dX9_init_163 : decode cX9_init 163 = .ok (.aload_n 0, 1) := by decide +kernel
theorem dX9_init_164 : decode cX9_init 164 = .ok (.iconst 5, 1) := by decide +kernel
theorem dX9_init_165 : decode cX9_init 165 = .ok (.newarray .int, 2) := by decide +kernel
theorem dX9_init_167 : decode cX9_init 167 = .ok (.putfield 78, 3) := by decide +kernel
theorem dX9_init_170 : decode cX9_init 170 = .ok (.aload_n 0, 1) := by decide +kernel
theorem dX9_init_171 : decode cX9_init 171 = .ok (.iconst 5, 1) := by decide +kernel
theorem dX9_init_172 : decode cX9_init 172 = .ok (.newarray .boolean, 2) := by decide +kernel
theorem dX9_init_174 : decode cX9_init 174 = .ok (.putfield 81, 3) := by decide +kernel
theorem dX9_init_177 : decode cX9_init 177 = .ok (.aload_n 0, 1) := by decide +kernel
theorem dX9_init_178 : decode cX9_init 178 = .ok (.iconst 4, 1) := by decide +kernel
theorem dX9_init_179 : decode cX9_init 179 = .ok (.newarray .int, 2) := by decide +kernel
theorem dX9_init_181 : decode cX9_init 181 = .ok (.putfield 84, 3) := by decide +kernel
theorem dX9_init_184 : decode cX9_init 184 = .ok (.iconst 0, 1) := by decide +kernel
theorem dX9_init_185 : decode cX9_init 185 = .ok (.istore_n 1, 1) := by decide +kernel
theorem dX9_init_186 : decode cX9_init 186 = .ok (.iload_n 1, 1) := by decide +kernel
theorem dX9_init_187 : decode cX9_init 187 = .ok (.iconst 5, 1) := by decide +kernel
theorem dX9_init_188 : decode cX9_init 188 = .ok (.if_icmp .ge 17, 3) := by decide +kernel
theorem dX9_init_191 : decode cX9_init 191 = .ok (.aload_n 0, 1) := by decide +kernel
theorem dX9_init_192 : decode cX9_init 192 = .ok (.getfield 33, 3) := by decide +kernel
theorem dX9_init_195 : decode cX9_init 195 = .ok (.iload_n 1, 1) := by decide +kernel
theorem dX9_init_196 : decode cX9_init 196 = .ok (.bipush (-9), 2) := by decide +kernel
theorem dX9_init_198 : decode cX9_init 198 = .ok (.iastore, 1) := by decide +kernel
theorem dX9_init_199 : decode cX9_init 199 = .ok (.iinc 1 1, 3) := by decide +kernel
theorem dX9_init_202 : decode cX9_init 202 = .ok (.goto (-16), 3) := by decide +kernel
theorem dX9_init_205 : decode cX9_init 205 = .ok (.return_, 1) := by decide +kernel
theorem dX9_in_0 : decode cX9_in 0 = .ok (.lload_n 0, 1) := by decide +kernel
theorem dX9_in_1 : decode cX9_in 1 = .ok (.lload_n 2, 1) := by decide +kernel
theorem dX9_in_2 : decode cX9_in 2 = .ok (.lcmp, 1) := by decide +kernel
theorem dX9_in_3 : decode cX9_in 3 = .ok (.ifCond .lt 14, 3) := by decide +kernel
theorem dX9_in_6 : decode cX9_in 6 = .ok (.lload_n 0, 1) := by decide +kernel
theorem dX9_in_7 : decode cX9_in 7 = .ok (.lload 4, 2) := by decide +kernel
theorem dX9_in_9 : decode cX9_in 9 = .ok (.lcmp, 1) := by decide +kernel
theorem dX9_in_10 : decode cX9_in 10 = .ok (.ifCond .gt 7, 3) := by decide +kernel
theorem dX9_in_13 : decode cX9_in 13 = .ok (.iconst 1, 1) := by decide +kernel
theorem dX9_in_14 : decode cX9_in 14 = .ok (.goto 4, 3) := by decide +kernel
theorem dX9_in_17 : decode cX9_in 17 = .ok (.iconst 0, 1) := by decide +kernel
theorem dX9_in_18 : decode cX9_in 18 = .ok (.ireturn, 1) := by decide +kernel
theorem dX9_has_0 : decode cX9_has 0 = .ok (.iload_n 0, 1) := by decide +kernel
theorem dX9_has_1 : decode cX9_has 1 = .ok (.iload_n 1, 1) := by decide +kernel
theorem dX9_has_2 : decode cX9_has 2 = .ok (.ishr, 1) := by decide +kernel
theorem dX9_has_3 : decode cX9_has 3 = .ok (.iconst 1, 1) := by decide +kernel
theorem dX9_has_4 : decode cX9_has 4 = .ok (.iand, 1) := by decide +kernel
theorem dX9_has_5 : decode cX9_has 5 = .ok (.iconst 1, 1) := by decide +kernel
theorem dX9_has_6 : decode cX9_has 6 = .ok (.if_icmp .ne 7, 3) := by decide +kernel
theorem dX9_has_9 : decode cX9_has 9 = .ok (.iconst 1, 1) := by decide +kernel
theorem dX9_has_10 : decode cX9_has 10 = .ok (.goto 4, 3) := by decide +kernel
theorem dX9_has_13 : decode cX9_has 13 = .ok (.iconst 0, 1) := by decide +kernel
theorem dX9_has_14 : decode cX9_has 14 = .ok (.ireturn, 1) := by decide +kernel
theorem dX9_noGuard_0 : decode cX9_noGuard 0 = .ok (.iload_n 1, 1) := by decide +kernel
theorem dX9_noGuard_1 : decode cX9_noGuard 1 = .ok (.i2l, 1) := by decide +kernel
theorem dX9_noGuard_2 : decode cX9_noGuard 2 = .ok (.lconst 0, 1) := by decide +kernel
theorem dX9_noGuard_3 : decode cX9_noGuard 3 = .ok (.aload_n 0, 1) := by decide +kernel
theorem dX9_noGuard_4 : decode cX9_noGuard 4 = .ok (.getfield 90, 3) := by decide +kernel
theorem dX9_noGuard_7 : decode cX9_noGuard 7 = .ok (.iconst 1, 1) := by decide +kernel
theorem dX9_noGuard_8 : decode cX9_noGuard 8 = .ok (.isub, 1) := by decide +kernel
theorem dX9_noGuard_9 : decode cX9_noGuard 9 = .ok (.i2l, 1) := by decide +kernel
theorem dX9_noGuard_10 : decode cX9_noGuard 10 = .ok (.invokestatic 93, 3) := by decide +kernel
theorem dX9_noGuard_13 : decode cX9_noGuard 13 = .ok (.ifCond .ne 7, 3) := by decide +kernel
theorem dX9_noGuard_16 : decode cX9_noGuard 16 = .ok (.iconst 1, 1) := by decide +kernel
theorem dX9_noGuard_17 : decode cX9_noGuard 17 = .ok (.goto 4, 3) := by decide +kernel
theorem dX9_noGuard_20 : decode cX9_noGuard 20 = .ok (.iconst 0, 1) := by decide +kernel
theorem dX9_noGuard_21 : decode cX9_noGuard 21 = .ok (.ireturn, 1) := by decide +kernel
theorem dX9_noSet_0 : decode cX9_noSet 0 = .ok (.iload_n 1, 1) := by decide +kernel
theorem dX9_noSet_1 : decode cX9_noSet 1 = .ok (.i2l, 1) := by decide +kernel
theorem dX9_noSet_2 : decode cX9_noSet 2 = .ok (.lconst 0, 1) := by decide +kernel
theorem dX9_noSet_3 : decode cX9_noSet 3 = .ok (.iconst 1, 1) := by decide +kernel
theorem dX9_noSet_4 : decode cX9_noSet 4 = .ok (.aload_n 0, 1) := by decide +kernel
theorem dX9_noSet_5 : decode cX9_noSet 5 = .ok (.getfield 90, 3) := by decide +kernel
theorem dX9_noSet_8 : decode cX9_noSet 8 = .ok (.ishl, 1) := by decide +kernel
theorem dX9_noSet_9 : decode cX9_noSet 9 = .ok (.iconst 1, 1) := by decide +kernel
theorem dX9_noSet_10 : decode cX9_noSet 10 = .ok (.isub, 1) := by decide +kernel
theorem dX9_noSet_11 : decode cX9_noSet 11 = .ok (.i2l, 1) := by decide +kernel
theorem dX9_noSet_12 : decode cX9_noSet 12 = .ok (.invokestatic 93, 3) := by decide +kernel
theorem dX9_noSet_15 : decode cX9_noSet 15 = .ok (.ifCond .ne 7, 3) := by decide +kernel
theorem dX9_noSet_18 : decode cX9_noSet 18 = .ok (.iconst 1, 1) := by decide +kernel
theorem dX9_noSet_19 : decode cX9_noSet 19 = .ok (.goto 4, 3) := by decide +kernel
theorem dX9_noSet_22 : decode cX9_noSet 22 = .ok (.iconst 0, 1) := by decide +kernel
theorem dX9_noSet_23 : decode cX9_noSet 23 = .ok (.ireturn, 1) := by decide +kernel
theorem dX9_write_0 : decode cX9_write 0 = .ok (.aload_n 0, 1) := by decide +kernel
theorem dX9_write_1 : decode cX9_write 1 = .ok (.iconst 0, 1) := by decide +kernel
theorem dX9_write_2 : decode cX9_write 2 = .ok (.putfield 87, 3) := by decide +kernel
theorem dX9_write_5 : decode cX9_write 5 = .ok (.iload_n 1, 1) := by decide +kernel
theorem dX9_write_6 : decode cX9_write 6 = .ok (.i2l, 1) := by decide +kernel
theorem dX9_write_7 : decode cX9_write 7 = .ok (.lconst 1, 1) := by decide +kernel
theorem dX9_write_8 : decode cX9_write 8 = .ok (.ldc2_w 97, 3) := by decide +kernel
theorem dX9_write_11 : decode cX9_write 11 = .ok (.invokestatic 93, 3) := by decide +kernel
theorem dX9_write_14 : decode cX9_write 14 = .ok (.ifCond .ne 6, 3) := by decide +kernel
theorem dX9_write_17 : decode cX9_write 17 = .ok (.bipush (-2), 2) := by decide +kernel
theorem dX9_write_19 : decode cX9_write 19 = .ok (.ireturn, 1) := by decide +kernel
theorem dX9_write_20 : decode cX9_write 20 = .ok (.aload_n 0, 1) := by decide +kernel
theorem dX9_write_21 : decode cX9_write 21 = .ok (.getfield 99, 3) := by decide +kernel
theorem dX9_write_24 : decode cX9_write 24 = .ok (.iload_n 1, 1) := by decide +kernel
theorem dX9_write_25 : decode cX9_write 25 = .ok (.iadd, 1) := by decide +kernel
theorem dX9_write_26 : decode cX9_write 26 = .ok (.bipush 48, 2) := by decide +kernel
theorem dX9_write_28 : decode cX9_write 28 = .ok (.if_icmp .le 6, 3) := by decide +kernel
theorem dX9_write_31 : decode cX9_write 31 = .ok (.bipush (-4), 2) := by decide +kernel
theorem dX9_write_33 : decode cX9_write 33 = .ok (.ireturn, 1) := by decide +kernel
theorem dX9_write_34 : decode cX9_write 34 = .ok (.iload_n 1, 1) := by decide +kernel
theorem dX9_write_35 : decode cX9_write 35 = .ok (.iconst 1, 1) := by decide +kernel
theorem dX9_write_36 : decode cX9_write 36 = .ok (.isub, 1) := by decide +kernel
theorem dX9_write_37 : decode cX9_write 37 = .ok (.istore 4, 2) := by decide +kernel
theorem dX9_write_39 : decode cX9_write 39 = .ok (.iload 4, 2) := by decide +kernel
theorem dX9_write_41 : decode cX9_write 41 = .ok (.ifCond .lt 40, 3) := by decide +kernel
theorem dX9_write_44 : decode cX9_write 44 = .ok (.aload_n 0, 1) := by decide +kernel
theorem dX9_write_45 : decode cX9_write 45 = .ok (.getfield 7, 3) := by decide +kernel
theorem dX9_write_48 : decode cX9_write 48 = .ok (.aload_n 0, 1) := by decide +kernel
theorem dX9_write_49 : decode cX9_write 49 = .ok (.getfield 99, 3) := by decide +kernel
theorem dX9_write_52 : decode cX9_write 52 = .ok (.lload_n 2, 1) := by decide +kernel
theorem dX9_write_53 : decode cX9_write 53 = .ok (.bipush 8, 2) := by decide +kernel
theorem dX9_write_55 : decode cX9_write 55 = .ok (.iload 4, 2) := by decide +kernel
theorem dX9_write_57 : decode cX9_write 57 = .ok (.imul, 1) := by decide +kernel
theorem dX9_write_58 : decode cX9_write 58 = .ok (.lshr, 1) := by decide +kernel
theorem dX9_write_59 : decode cX9_write 59 = .ok (.l2i, 1) := by decide +kernel
theorem dX9_write_60 : decode cX9_write 60 = .ok (.sipush 255, 3) := by decide +kernel
theorem dX9_write_63 : decode cX9_write 63 = .ok (.iand, 1) := by decide +kernel
theorem dX9_write_64 : decode cX9_write 64 = .ok (.iastore, 1) := by decide +kernel
theorem dX9_write_65 : decode cX9_write 65 = .ok (.aload_n 0, 1) := by decide +kernel
theorem dX9_write_66 : decode cX9_write 66 = .ok (.dup, 1) := by decide +kernel
theorem dX9_write_67 : decode cX9_write 67 = .ok (.getfield 99, 3) := by decide +kernel
theorem dX9_write_70 : decode cX9_write 70 = .ok (.iconst 1, 1) := by decide +kernel
theorem dX9_write_71 : decode cX9_write 71 = .ok (.iadd, 1) := by decide +kernel
theorem dX9_write_72 : decode cX9_write 72 = .ok (.putfield 99, 3) := by decide +kernel
theorem dX9_write_75 : decode cX9_write 75 = .ok (.iinc 4 (-1), 3) := by decide +kernel
theorem dX9_write_78 : decode cX9_write 78 = .ok (.goto (-39), 3) := by decide +kernel
theorem dX9_write_81 : decode cX9_write 81 = .ok (.aload_n 0, 1) := by decide +kernel
theorem dX9_write_82 : decode cX9_write 82 = .ok (.getfield 99, 3) := by decide +kernel
theorem dX9_write_85 : decode cX9_write 85 = .ok (.ireturn, 1) := by decide +kernel
theorem dX9_wipe_0 : decode cX9_wipe 0 = .ok (.aload_n 0, 1) := by decide +kernel
theorem dX9_wipe_1 : decode cX9_wipe 1 = .ok (.iconst 0, 1) := by decide +kernel
theorem dX9_wipe_2 : decode cX9_wipe 2 = .ok (.putfield 87, 3) := by decide +kernel
theorem dX9_wipe_5 : decode cX9_wipe 5 = .ok (.aload_n 0, 1) := by decide +kernel
theorem dX9_wipe_6 : decode cX9_wipe 6 = .ok (.getfield 99, 3) := by decide +kernel
theorem dX9_wipe_9 : decode cX9_wipe 9 = .ok (.istore_n 1, 1) := by decide +kernel
theorem dX9_wipe_10 : decode cX9_wipe 10 = .ok (.aload_n 0, 1) := by decide +kernel
theorem dX9_wipe_11 : decode cX9_wipe 11 = .ok (.iconst 0, 1) := by decide +kernel
theorem dX9_wipe_12 : decode cX9_wipe 12 = .ok (.putfield 99, 3) := by decide +kernel
theorem dX9_wipe_15 : decode cX9_wipe 15 = .ok (.iload_n 1, 1) := by decide +kernel
theorem dX9_wipe_16 : decode cX9_wipe 16 = .ok (.ireturn, 1) := by decide +kernel
theorem dX9_figure_0 : decode cX9_figure 0 = .ok (.aload_n 0, 1) := by decide +kernel
theorem dX9_figure_1 : decode cX9_figure 1 = .ok (.getfield 102, 3) := by decide +kernel
theorem dX9_figure_4 : decode cX9_figure 4 = .ok (.aload_n 0, 1) := by decide +kernel
theorem dX9_figure_5 : decode cX9_figure 5 = .ok (.getfield 99, 3) := by decide +kernel
theorem dX9_figure_8 : decode cX9_figure 8 = .ok (.if_icmp .eq 26, 3) := by decide +kernel
theorem dX9_figure_11 : decode cX9_figure 11 = .ok (.aload_n 0, 1) := by decide +kernel
theorem dX9_figure_12 : decode cX9_figure 12 = .ok (.getfield 7, 3) := by decide +kernel
theorem dX9_figure_15 : decode cX9_figure 15 = .ok (.aload_n 0, 1) := by decide +kernel
theorem dX9_figure_16 : decode cX9_figure 16 = .ok (.getfield 102, 3) := by decide +kernel
theorem dX9_figure_19 : decode cX9_figure 19 = .ok (.iaload, 1) := by decide +kernel
theorem dX9_figure_20 : decode cX9_figure 20 = .ok (.bipush 48, 2) := by decide +kernel
theorem dX9_figure_22 : decode cX9_figure 22 = .ok (.isub, 1) := by decide +kernel
theorem dX9_figure_23 : decode cX9_figure 23 = .ok (.i2l, 1) := by decide +kernel
theorem dX9_figure_24 : decode cX9_figure 24 = .ok (.iload_n 1, 1) := by decide +kernel
theorem dX9_figure_25 : decode cX9_figure 25 = .ok (.i2l, 1) := by decide +kernel
theorem dX9_figure_26 : decode cX9_figure 26 = .ok (.iload_n 2, 1) := by decide +kernel
theorem dX9_figure_27 : decode cX9_figure 27 = .ok (.i2l, 1) := by decide +kernel
theorem dX9_figure_28 : decode cX9_figure 28 = .ok (.invokestatic 93, 3) := by decide +kernel
theorem dX9_figure_31 : decode cX9_figure 31 = .ok (.ifCond .ne 6, 3) := by decide +kernel
theorem dX9_figure_34 : decode cX9_figure 34 = .ok (.bipush (-9), 2) := by decide +kernel
theorem dX9_figure_36 : decode cX9_figure 36 = .ok (.ireturn, 1) := by decide +kernel
theorem dX9_figure_37 : decode cX9_figure 37 = .ok (.aload_n 0, 1) := by decide +kernel
theorem dX9_figure_38 : decode cX9_figure 38 = .ok (.dup, 1) := by decide +kernel
theorem dX9_figure_39 : decode cX9_figure 39 = .ok (.getfield 102, 3) := by decide +kernel
theorem dX9_figure_42 : decode cX9_figure 42 = .ok (.iconst 1, 1) := by decide +kernel
theorem dX9_figure_43 : decode cX9_figure 43 = .ok (.iadd, 1) := by decide +kernel
theorem dX9_figure_44 : decode cX9_figure 44 = .ok (.putfield 102, 3) := by decide +kernel
theorem dX9_figure_47 : decode cX9_figure 47 = .ok (.aload_n 0, 1) := by decide +kernel
theorem dX9_figure_48 : decode cX9_figure 48 = .ok (.getfield 7, 3) := by decide +kernel
theorem dX9_figure_51 : decode cX9_figure 51 = .ok (.aload_n 0, 1) := by decide +kernel
theorem dX9_figure_52 : decode cX9_figure 52 = .ok (.getfield 102, 3) := by decide +kernel
theorem dX9_figure_55 : decode cX9_figure 55 = .ok (.iconst 1, 1) := by decide +kernel
theorem dX9_figure_56 : decode cX9_figure 56 = .ok (.isub, 1) := by decide +kernel
theorem dX9_figure_57 : decode cX9_figure 57 = .ok (.iaload, 1) := by decide +kernel
theorem dX9_figure_58 : decode cX9_figure 58 = .ok (.bipush 48, 2) := by decide +kernel
theorem dX9_figure_60 : decode cX9_figure 60 = .ok (.isub, 1) := by decide +kernel
theorem dX9_figure_61 : decode cX9_figure 61 = .ok (.ireturn, 1) := by decide +kernel
theorem dX9_readGuard_0 : decode cX9_readGuard 0 = .ok (.aload_n 0, 1) := by decide +kernel
theorem dX9_readGuard_1 : decode cX9_readGuard 1 = .ok (.iconst 0, 1) := by decide +kernel
theorem dX9_readGuard_2 : decode cX9_readGuard 2 = .ok (.bipush 9, 2) := by decide +kernel
theorem dX9_readGuard_4 : decode cX9_readGuard 4 = .ok (.invokevirtual 105, 3) := by decide +kernel
theorem dX9_readGuard_7 : decode cX9_readGuard 7 = .ok (.istore_n 1, 1) := by decide +kernel
theorem dX9_readGuard_8 : decode cX9_readGuard 8 = .ok (.iload_n 1, 1) := by decide +kernel
theorem dX9_readGuard_9 : decode cX9_readGuard 9 = .ok (.bipush (-9), 2) := by decide +kernel
theorem dX9_readGuard_11 : decode cX9_readGuard 11 = .ok (.if_icmp .ne 8, 3) := by decide +kernel
theorem dX9_readGuard_14 : decode cX9_readGuard 14 = .ok (.bipush (-9), 2) := by decide +kernel
theorem dX9_readGuard_16 : decode cX9_readGuard 16 = .ok (.goto 10, 3) := by decide +kernel
theorem dX9_readGuard_19 : decode cX9_readGuard 19 = .ok (.aload_n 0, 1) := by decide +kernel
theorem dX9_readGuard_20 : decode cX9_readGuard 20 = .ok (.iconst 0, 1) := by decide +kernel
theorem dX9_readGuard_21 : decode cX9_readGuard 21 = .ok (.bipush 9, 2) := by decide +kernel
theorem dX9_readGuard_23 : decode cX9_readGuard 23 = .ok (.invokevirtual 105, 3) := by decide +kernel
theorem dX9_readGuard_26 : decode cX9_readGuard 26 = .ok (.istore_n 2, 1) := by decide +kernel
theorem dX9_readGuard_27 : decode cX9_readGuard 27 = .ok (.iload_n 2, 1) := by decide +kernel
theorem dX9_readGuard_28 : decode cX9_readGuard 28 = .ok (.bipush (-9), 2) := by decide +kernel
theorem dX9_readGuard_30 : decode cX9_readGuard 30 = .ok (.if_icmp .ne 8, 3) := by decide +kernel
theorem dX9_readGuard_33 : decode cX9_readGuard 33 = .ok (.bipush (-9), 2) := by decide +kernel
theorem dX9_readGuard_35 : decode cX9_readGuard 35 = .ok (.goto 10, 3) := by decide +kernel
theorem dX9_readGuard_38 : decode cX9_readGuard 38 = .ok (.aload_n 0, 1) := by decide +kernel
theorem dX9_readGuard_39 : decode cX9_readGuard 39 = .ok (.iconst 0, 1) := by decide +kernel
theorem dX9_readGuard_40 : decode cX9_readGuard 40 = .ok (.bipush 9, 2) := by decide +kernel
theorem dX9_readGuard_42 : decode cX9_readGuard 42 = .ok (.invokevirtual 105, 3) := by decide +kernel
theorem dX9_readGuard_45 : decode cX9_readGuard 45 = .ok (.istore_n 3, 1) := by decide +kernel
theorem dX9_readGuard_46 : decode cX9_readGuard 46 = .ok (.iload_n 3, 1) := by decide +kernel
theorem dX9_readGuard_47 : decode cX9_readGuard 47 = .ok (.bipush (-9), 2) := by decide +kernel
theorem dX9_readGuard_49 : decode cX9_readGuard 49 = .ok (.if_icmp .ne 8, 3) := by decide +kernel
theorem dX9_readGuard_52 : decode cX9_readGuard 52 = .ok (.bipush (-9), 2) := by decide +kernel
theorem dX9_readGuard_54 : decode cX9_readGuard 54 = .ok (.goto 10, 3) := by decide +kernel
theorem dX9_readGuard_57 : decode cX9_readGuard 57 = .ok (.aload_n 0, 1) := by decide +kernel
theorem dX9_readGuard_58 : decode cX9_readGuard 58 = .ok (.iconst 0, 1) := by decide +kernel
theorem dX9_readGuard_59 : decode cX9_readGuard 59 = .ok (.bipush 9, 2) := by decide +kernel
theorem dX9_readGuard_61 : decode cX9_readGuard 61 = .ok (.invokevirtual 105, 3) := by decide +kernel
theorem dX9_readGuard_64 : decode cX9_readGuard 64 = .ok (.istore 4, 2) := by decide +kernel
theorem dX9_readGuard_66 : decode cX9_readGuard 66 = .ok (.iload 4, 2) := by decide +kernel
theorem dX9_readGuard_68 : decode cX9_readGuard 68 = .ok (.bipush (-9), 2) := by decide +kernel
theorem dX9_readGuard_70 : decode cX9_readGuard 70 = .ok (.if_icmp .ne 5, 3) := by decide +kernel
theorem dX9_readGuard_73 : decode cX9_readGuard 73 = .ok (.iconst 0, 1) := by decide +kernel
theorem dX9_readGuard_74 : decode cX9_readGuard 74 = .ok (.ireturn, 1) := by decide +kernel
theorem dX9_readGuard_75 : decode cX9_readGuard 75 = .ok (.aload_n 0, 1) := by decide +kernel
theorem dX9_readGuard_76 : decode cX9_readGuard 76 = .ok (.getfield 42, 3) := by decide +kernel
theorem dX9_readGuard_79 : decode cX9_readGuard 79 = .ok (.aload_n 0, 1) := by decide +kernel
theorem dX9_readGuard_80 : decode cX9_readGuard 80 = .ok (.getfield 109, 3) := by decide +kernel
theorem dX9_readGuard_83 : decode cX9_readGuard 83 = .ok (.bipush 10, 2) := by decide +kernel
theorem dX9_readGuard_85 : decode cX9_readGuard 85 = .ok (.iload_n 1, 1) := by decide +kernel
theorem dX9_readGuard_86 : decode cX9_readGuard 86 = .ok (.imul, 1) := by decide +kernel
theorem dX9_readGuard_87 : decode cX9_readGuard 87 = .ok (.iload_n 2, 1) := by decide +kernel
theorem dX9_readGuard_88 : decode cX9_readGuard 88 = .ok (.iadd, 1) := by decide +kernel
theorem dX9_readGuard_89 : decode cX9_readGuard 89 = .ok (.iastore, 1) := by decide +kernel
theorem dX9_readGuard_90 : decode cX9_readGuard 90 = .ok (.aload_n 0, 1) := by decide +kernel
theorem dX9_readGuard_91 : decode cX9_readGuard 91 = .ok (.getfield 45, 3) := by decide +kernel
theorem dX9_readGuard_94 : decode cX9_readGuard 94 = .ok (.aload_n 0, 1) := by decide +kernel
theorem dX9_readGuard_95 : decode cX9_readGuard 95 = .ok (.getfield 109, 3) := by decide +kernel
theorem dX9_readGuard_98 : decode cX9_readGuard 98 = .ok (.iload_n 3, 1) := by decide +kernel
theorem dX9_readGuard_99 : decode cX9_readGuard 99 = .ok (.iastore, 1) := by decide +kernel
theorem dX9_readGuard_100 : decode cX9_readGuard 100 = .ok (.aload_n 0, 1) := by decide +kernel
theorem dX9_readGuard_101 : decode cX9_readGuard 101 = .ok (.getfield 48, 3) := by decide +kernel
theorem dX9_readGuard_104 : decode cX9_readGuard 104 = .ok (.aload_n 0, 1) := by decide +kernel
theorem dX9_readGuard_105 : decode cX9_readGuard 105 = .ok (.getfield 109, 3) := by decide +kernel
theorem dX9_readGuard_108 : decode cX9_readGuard 108 = .ok (.iload 4, 2) := by decide +kernel
theorem dX9_readGuard_110 : decode cX9_readGuard 110 = .ok (.iastore, 1) := by decide +kernel
theorem dX9_readGuard_111 : decode cX9_readGuard 111 = .ok (.aload_n 0, 1) := by decide +kernel
theorem dX9_readGuard_112 : decode cX9_readGuard 112 = .ok (.getfield 51, 3) := by decide +kernel
theorem dX9_readGuard_115 : decode cX9_readGuard 115 = .ok (.aload_n 0, 1) := by decide +kernel
theorem dX9_readGuard_116 : decode cX9_readGuard 116 = .ok (.getfield 109, 3) := by decide +kernel
theorem dX9_readGuard_119 : decode cX9_readGuard 119 = .ok (.bipush (-9), 2) := by decide +kernel
theorem dX9_readGuard_121 : decode cX9_readGuard 121 = .ok (.iastore, 1) := by decide +kernel
theorem dX9_readGuard_122 : decode cX9_readGuard 122 = .ok (.aload_n 0, 1) := by decide +kernel
theorem dX9_readGuard_123 : decode cX9_readGuard 123 = .ok (.dup, 1) := by decide +kernel
theorem dX9_readGuard_124 : decode cX9_readGuard 124 = .ok (.getfield 109, 3) := by decide +kernel
theorem dX9_readGuard_127 : decode cX9_readGuard 127 = .ok (.iconst 1, 1) := by decide +kernel
theorem dX9_readGuard_128 : decode cX9_readGuard 128 = .ok (.iadd, 1) := by decide +kernel
theorem dX9_readGuard_129 : decode cX9_readGuard 129 = .ok (.putfield 109, 3) := by decide +kernel
theorem dX9_readGuard_132 : decode cX9_readGuard 132 = .ok (.iconst 1, 1) := by decide +kernel
theorem dX9_readGuard_133 : decode cX9_readGuard 133 = .ok (.ireturn, 1) := by decide +kernel
theorem dX9_single_0 : decode cX9_single 0 = .ok (.iconst 0, 1) := by decide +kernel
theorem dX9_single_1 : decode cX9_single 1 = .ok (.istore_n 1, 1) := by decide +kernel
theorem dX9_single_2 : decode cX9_single 2 = .ok (.iconst 0, 1) := by decide +kernel
theorem dX9_single_3 : decode cX9_single 3 = .ok (.istore_n 2, 1) := by decide +kernel
theorem dX9_single_4 : decode cX9_single 4 = .ok (.iload_n 2, 1) := by decide +kernel
theorem dX9_single_5 : decode cX9_single 5 = .ok (.aload_n 0, 1) := by decide +kernel
theorem dX9_single_6 : decode cX9_single 6 = .ok (.getfield 109, 3) := by decide +kernel
theorem dX9_single_9 : decode cX9_single 9 = .ok (.if_icmp .ge 28, 3) := by decide +kernel
theorem dX9_single_12 : decode cX9_single 12 = .ok (.iload_n 1, 1) := by decide +kernel
theorem dX9_single_13 : decode cX9_single 13 = .ok (.aload_n 0, 1) := by decide +kernel
theorem dX9_single_14 : decode cX9_single 14 = .ok (.getfield 51, 3) := by decide +kernel
theorem dX9_single_17 : decode cX9_single 17 = .ok (.iload_n 2, 1) := by decide +kernel
theorem dX9_single_18 : decode cX9_single 18 = .ok (.iaload, 1) := by decide +kernel
theorem dX9_single_19 : decode cX9_single 19 = .ok (.bipush (-9), 2) := by decide +kernel
theorem dX9_single_21 : decode cX9_single 21 = .ok (.if_icmp .ne 7, 3) := by decide +kernel
theorem dX9_single_24 : decode cX9_single 24 = .ok (.iconst 1, 1) := by decide +kernel
theorem dX9_single_25 : decode cX9_single 25 = .ok (.goto 4, 3) := by decide +kernel
theorem dX9_single_28 : decode cX9_single 28 = .ok (.iconst 0, 1) := by decide +kernel
theorem dX9_single_29 : decode cX9_single 29 = .ok (.iadd, 1) := by decide +kernel
theorem dX9_single_30 : decode cX9_single 30 = .ok (.istore_n 1, 1) := by decide +kernel
theorem dX9_single_31 : decode cX9_single 31 = .ok (.iinc 2 1, 3) := by decide +kernel
theorem dX9_single_34 : decode cX9_single 34 = .ok (.goto (-30), 3) := by decide +kernel
theorem dX9_single_37 : decode cX9_single 37 = .ok (.iload_n 1, 1) := by decide +kernel
theorem dX9_single_38 : decode cX9_single 38 = .ok (.ireturn, 1) := by decide +kernel
theorem dX9_readSingle_0 : decode cX9_readSingle 0 = .ok (.aload_n 0, 1) := by decide +kernel
theorem dX9_readSingle_1 : decode cX9_readSingle 1 = .ok (.getfield 102, 3) := by decide +kernel
theorem dX9_readSingle_4 : decode cX9_readSingle 4 = .ok (.aload_n 0, 1) := by decide +kernel
theorem dX9_readSingle_5 : decode cX9_readSingle 5 = .ok (.getfield 99, 3) := by decide +kernel
theorem dX9_readSingle_8 : decode cX9_readSingle 8 = .ok (.if_icmp .ge 18, 3) := by decide +kernel
theorem dX9_readSingle_11 : decode cX9_readSingle 11 = .ok (.aload_n 0, 1) := by decide +kernel
theorem dX9_readSingle_12 : decode cX9_readSingle 12 = .ok (.getfield 7, 3) := by decide +kernel
theorem dX9_readSingle_15 : decode cX9_readSingle 15 = .ok (.aload_n 0, 1) := by decide +kernel
theorem dX9_readSingle_16 : decode cX9_readSingle 16 = .ok (.getfield 102, 3) := by decide +kernel
theorem dX9_readSingle_19 : decode cX9_readSingle 19 = .ok (.iaload, 1) := by decide +kernel
theorem dX9_readSingle_20 : decode cX9_readSingle 20 = .ok (.bipush 48, 2) := by decide +kernel
theorem dX9_readSingle_22 : decode cX9_readSingle 22 = .ok (.isub, 1) := by decide +kernel
theorem dX9_readSingle_23 : decode cX9_readSingle 23 = .ok (.goto 5, 3) := by decide +kernel
theorem dX9_readSingle_26 : decode cX9_readSingle 26 = .ok (.bipush (-9), 2) := by decide +kernel
theorem dX9_readSingle_28 : decode cX9_readSingle 28 = .ok (.istore_n 2, 1) := by decide +kernel
theorem dX9_readSingle_29 : decode cX9_readSingle 29 = .ok (.iload_n 2, 1) := by decide +kernel
theorem dX9_readSingle_30 : decode cX9_readSingle 30 = .ok (.i2l, 1) := by decide +kernel
theorem dX9_readSingle_31 : decode cX9_readSingle 31 = .ok (.lconst 0, 1) := by decide +kernel
theorem dX9_readSingle_32 : decode cX9_readSingle 32 = .ok (.aload_n 0, 1) := by decide +kernel
theorem dX9_readSingle_33 : decode cX9_readSingle 33 = .ok (.getfield 109, 3) := by decide +kernel
theorem dX9_readSingle_36 : decode cX9_readSingle 36 = .ok (.iconst 1, 1) := by decide +kernel
theorem dX9_readSingle_37 : decode cX9_readSingle 37 = .ok (.isub, 1) := by decide +kernel
theorem dX9_readSingle_38 : decode cX9_readSingle 38 = .ok (.i2l, 1) := by decide +kernel
theorem dX9_readSingle_39 : decode cX9_readSingle 39 = .ok (.invokestatic 93, 3) := by decide +kernel
theorem dX9_readSingle_42 : decode cX9_readSingle 42 = .ok (.ifCond .eq 19, 3) := by decide +kernel
theorem dX9_readSingle_45 : decode cX9_readSingle 45 = .ok (.iload_n 2, 1) := by decide +kernel
theorem dX9_readSingle_46 : decode cX9_readSingle 46 = .ok (.iload_n 1, 1) := by decide +kernel
theorem dX9_readSingle_47 : decode cX9_readSingle 47 = .ok (.if_icmp .eq 14, 3) := by decide +kernel
theorem dX9_readSingle_50 : decode cX9_readSingle 50 = .ok (.aload_n 0, 1) := by decide +kernel
theorem dX9_readSingle_51 : decode cX9_readSingle 51 = .ok (.getfield 51, 3) := by decide +kernel
theorem dX9_readSingle_54 : decode cX9_readSingle 54 = .ok (.iload_n 2, 1) := by decide +kernel
theorem dX9_readSingle_55 : decode cX9_readSingle 55 = .ok (.iaload, 1) := by decide +kernel
theorem dX9_readSingle_56 : decode cX9_readSingle 56 = .ok (.bipush (-9), 2) := by decide +kernel
theorem dX9_readSingle_58 : decode cX9_readSingle 58 = .ok (.if_icmp .eq 6, 3) := by decide +kernel
theorem dX9_readSingle_61 : decode cX9_readSingle 61 = .ok (.bipush (-9), 2) := by decide +kernel
theorem dX9_readSingle_63 : decode cX9_readSingle 63 = .ok (.ireturn, 1) := by decide +kernel
theorem dX9_readSingle_64 : decode cX9_readSingle 64 = .ok (.aload_n 0, 1) := by decide +kernel
theorem dX9_readSingle_65 : decode cX9_readSingle 65 = .ok (.dup, 1) := by decide +kernel
theorem dX9_readSingle_66 : decode cX9_readSingle 66 = .ok (.getfield 102, 3) := by decide +kernel
theorem dX9_readSingle_69 : decode cX9_readSingle 69 = .ok (.iconst 1, 1) := by decide +kernel
theorem dX9_readSingle_70 : decode cX9_readSingle 70 = .ok (.iadd, 1) := by decide +kernel
theorem dX9_readSingle_71 : decode cX9_readSingle 71 = .ok (.putfield 102, 3) := by decide +kernel
theorem dX9_readSingle_74 : decode cX9_readSingle 74 = .ok (.iload_n 2, 1) := by decide +kernel
theorem dX9_readSingle_75 : decode cX9_readSingle 75 = .ok (.ireturn, 1) := by decide +kernel
theorem dX9_readTwins_0 : decode cX9_readTwins 0 = .ok (.aload_n 0, 1) := by decide +kernel
theorem dX9_readTwins_1 : decode cX9_readTwins 1 = .ok (.bipush (-9), 2) := by decide +kernel
theorem dX9_readTwins_3 : decode cX9_readTwins 3 = .ok (.invokevirtual 112, 3) := by decide +kernel
theorem dX9_readTwins_6 : decode cX9_readTwins 6 = .ok (.istore_n 1, 1) := by decide +kernel
theorem dX9_readTwins_7 : decode cX9_readTwins 7 = .ok (.iload_n 1, 1) := by decide +kernel
theorem dX9_readTwins_8 : decode cX9_readTwins 8 = .ok (.bipush (-9), 2) := by decide +kernel
theorem dX9_readTwins_10 : decode cX9_readTwins 10 = .ok (.if_icmp .ne 8, 3) := by decide +kernel
theorem dX9_readTwins_13 : decode cX9_readTwins 13 = .ok (.bipush (-9), 2) := by decide +kernel
theorem dX9_readTwins_15 : decode cX9_readTwins 15 = .ok (.goto 8, 3) := by decide +kernel
theorem dX9_readTwins_18 : decode cX9_readTwins 18 = .ok (.aload_n 0, 1) := by decide +kernel
theorem dX9_readTwins_19 : decode cX9_readTwins 19 = .ok (.iload_n 1, 1) := by decide +kernel
theorem dX9_readTwins_20 : decode cX9_readTwins 20 = .ok (.invokevirtual 112, 3) := by decide +kernel
theorem dX9_readTwins_23 : decode cX9_readTwins 23 = .ok (.istore_n 2, 1) := by decide +kernel
theorem dX9_readTwins_24 : decode cX9_readTwins 24 = .ok (.iload_n 2, 1) := by decide +kernel
theorem dX9_readTwins_25 : decode cX9_readTwins 25 = .ok (.bipush (-9), 2) := by decide +kernel
theorem dX9_readTwins_27 : decode cX9_readTwins 27 = .ok (.if_icmp .ne 5, 3) := by decide +kernel
theorem dX9_readTwins_30 : decode cX9_readTwins 30 = .ok (.iconst 0, 1) := by decide +kernel
theorem dX9_readTwins_31 : decode cX9_readTwins 31 = .ok (.ireturn, 1) := by decide +kernel
theorem dX9_readTwins_32 : decode cX9_readTwins 32 = .ok (.aload_n 0, 1) := by decide +kernel
theorem dX9_readTwins_33 : decode cX9_readTwins 33 = .ok (.getfield 51, 3) := by decide +kernel
theorem dX9_readTwins_36 : decode cX9_readTwins 36 = .ok (.iload_n 1, 1) := by decide +kernel
theorem dX9_readTwins_37 : decode cX9_readTwins 37 = .ok (.iload_n 2, 1) := by decide +kernel
theorem dX9_readTwins_38 : decode cX9_readTwins 38 = .ok (.iastore, 1) := by decide +kernel
theorem dX9_readTwins_39 : decode cX9_readTwins 39 = .ok (.aload_n 0, 1) := by decide +kernel
theorem dX9_readTwins_40 : decode cX9_readTwins 40 = .ok (.getfield 51, 3) := by decide +kernel
theorem dX9_readTwins_43 : decode cX9_readTwins 43 = .ok (.iload_n 2, 1) := by decide +kernel
theorem dX9_readTwins_44 : decode cX9_readTwins 44 = .ok (.iload_n 1, 1) := by decide +kernel
theorem dX9_readTwins_45 : decode cX9_readTwins 45 = .ok (.iastore, 1) := by decide +kernel
theorem dX9_readTwins_46 : decode cX9_readTwins 46 = .ok (.iconst 1, 1) := by decide +kernel
theorem dX9_readTwins_47 : decode cX9_readTwins 47 = .ok (.ireturn, 1) := by decide +kernel
theorem dX9_readPart_0 : decode cX9_readPart 0 = .ok (.aload_n 0, 1) := by decide +kernel
theorem dX9_readPart_1 : decode cX9_readPart 1 = .ok (.getfield 7, 3) := by decide +kernel
theorem dX9_readPart_4 : decode cX9_readPart 4 = .ok (.aload_n 0, 1) := by decide +kernel
theorem dX9_readPart_5 : decode cX9_readPart 5 = .ok (.getfield 102, 3) := by decide +kernel
theorem dX9_readPart_8 : decode cX9_readPart 8 = .ok (.iaload, 1) := by decide +kernel
theorem dX9_readPart_9 : decode cX9_readPart 9 = .ok (.istore_n 1, 1) := by decide +kernel
theorem dX9_readPart_10 : decode cX9_readPart 10 = .ok (.iload_n 1, 1) := by decide +kernel
theorem dX9_readPart_11 : decode cX9_readPart 11 = .ok (.bipush 71, 2) := by decide +kernel
theorem dX9_readPart_13 : decode cX9_readPart 13 = .ok (.if_icmp .ne 26, 3) := by decide +kernel
theorem dX9_readPart_16 : decode cX9_readPart 16 = .ok (.aload_n 0, 1) := by decide +kernel
theorem dX9_readPart_17 : decode cX9_readPart 17 = .ok (.getfield 109, 3) := by decide +kernel
theorem dX9_readPart_20 : decode cX9_readPart 20 = .ok (.iconst 5, 1) := by decide +kernel
theorem dX9_readPart_21 : decode cX9_readPart 21 = .ok (.if_icmp .ge 18, 3) := by decide +kernel
theorem dX9_readPart_24 : decode cX9_readPart 24 = .ok (.aload_n 0, 1) := by decide +kernel
theorem dX9_readPart_25 : decode cX9_readPart 25 = .ok (.dup, 1) := by decide +kernel
theorem dX9_readPart_26 : decode cX9_readPart 26 = .ok (.getfield 102, 3) := by decide +kernel
theorem dX9_readPart_29 : decode cX9_readPart 29 = .ok (.iconst 1, 1) := by decide +kernel
theorem dX9_readPart_30 : decode cX9_readPart 30 = .ok (.iadd, 1) := by decide +kernel
theorem dX9_readPart_31 : decode cX9_readPart 31 = .ok (.putfield 102, 3) := by decide +kernel
theorem dX9_readPart_34 : decode cX9_readPart 34 = .ok (.aload_n 0, 1) := by decide +kernel
theorem dX9_readPart_35 : decode cX9_readPart 35 = .ok (.invokevirtual 116, 3) := by decide +kernel
theorem dX9_readPart_38 : decode cX9_readPart 38 = .ok (.ireturn, 1) := by decide +kernel
theorem dX9_readPart_39 : decode cX9_readPart 39 = .ok (.iload_n 1, 1) := by decide +kernel
theorem dX9_readPart_40 : decode cX9_readPart 40 = .ok (.bipush 84, 2) := by decide +kernel
theorem dX9_readPart_42 : decode cX9_readPart 42 = .ok (.if_icmp .ne 26, 3) := by decide +kernel
theorem dX9_readPart_45 : decode cX9_readPart 45 = .ok (.aload_n 0, 1) := by decide +kernel
theorem dX9_readPart_46 : decode cX9_readPart 46 = .ok (.invokevirtual 120, 3) := by decide +kernel
theorem dX9_readPart_49 : decode cX9_readPart 49 = .ok (.iconst 1, 1) := by decide +kernel
theorem dX9_readPart_50 : decode cX9_readPart 50 = .ok (.if_icmp .le 18, 3) := by decide +kernel
theorem dX9_readPart_53 : decode cX9_readPart 53 = .ok (.aload_n 0, 1) := by decide +kernel
theorem dX9_readPart_54 : decode cX9_readPart 54 = .ok (.dup, 1) := by decide +kernel
theorem dX9_readPart_55 : decode cX9_readPart 55 = .ok (.getfield 102, 3) := by decide +kernel
theorem dX9_readPart_58 : decode cX9_readPart 58 = .ok (.iconst 1, 1) := by decide +kernel
theorem dX9_readPart_59 : decode cX9_readPart 59 = .ok (.iadd, 1) := by decide +kernel
theorem dX9_readPart_60 : decode cX9_readPart 60 = .ok (.putfield 102, 3) := by decide +kernel
theorem dX9_readPart_63 : decode cX9_readPart 63 = .ok (.aload_n 0, 1) := by decide +kernel
theorem dX9_readPart_64 : decode cX9_readPart 64 = .ok (.invokevirtual 124, 3) := by decide +kernel
theorem dX9_readPart_67 : decode cX9_readPart 67 = .ok (.ireturn, 1) := by decide +kernel
theorem dX9_readPart_68 : decode cX9_readPart 68 = .ok (.iconst 0, 1) := by decide +kernel
theorem dX9_readPart_69 : decode cX9_readPart 69 = .ok (.ireturn, 1) := by decide +kernel
theorem dX9_readFortress_0 : decode cX9_readFortress 0 = .ok (.aload_n 0, 1) := by decide +kernel
theorem dX9_readFortress_1 : decode cX9_readFortress 1 = .ok (.iconst 0, 1) := by decide +kernel
theorem dX9_readFortress_2 : decode cX9_readFortress 2 = .ok (.putfield 102, 3) := by decide +kernel
theorem dX9_readFortress_5 : decode cX9_readFortress 5 = .ok (.aload_n 0, 1) := by decide +kernel
theorem dX9_readFortress_6 : decode cX9_readFortress 6 = .ok (.iconst 0, 1) := by decide +kernel
theorem dX9_readFortress_7 : decode cX9_readFortress 7 = .ok (.putfield 109, 3) := by decide +kernel
theorem dX9_readFortress_10 : decode cX9_readFortress 10 = .ok (.aload_n 0, 1) := by decide +kernel
theorem dX9_readFortress_11 : decode cX9_readFortress 11 = .ok (.getfield 99, 3) := by decide +kernel
theorem dX9_readFortress_14 : decode cX9_readFortress 14 = .ok (.ifCond .eq 14, 3) := by decide +kernel
theorem dX9_readFortress_17 : decode cX9_readFortress 17 = .ok (.aload_n 0, 1) := by decide +kernel
theorem dX9_readFortress_18 : decode cX9_readFortress 18 = .ok (.getfield 7, 3) := by decide +kernel
theorem dX9_readFortress_21 : decode cX9_readFortress 21 = .ok (.iconst 0, 1) := by decide +kernel
theorem dX9_readFortress_22 : decode cX9_readFortress 22 = .ok (.iaload, 1) := by decide +kernel
theorem dX9_readFortress_23 : decode cX9_readFortress 23 = .ok (.bipush 70, 2) := by decide +kernel
theorem dX9_readFortress_25 : decode cX9_readFortress 25 = .ok (.if_icmp .eq 5, 3) := by decide +kernel
theorem dX9_readFortress_28 : decode cX9_readFortress 28 = .ok (.iconst 0, 1) := by decide +kernel
theorem dX9_readFortress_29 : decode cX9_readFortress 29 = .ok (.ireturn, 1) := by decide +kernel
theorem dX9_readFortress_30 : decode cX9_readFortress 30 = .ok (.aload_n 0, 1) := by decide +kernel
theorem dX9_readFortress_31 : decode cX9_readFortress 31 = .ok (.iconst 1, 1) := by decide +kernel
theorem dX9_readFortress_32 : decode cX9_readFortress 32 = .ok (.putfield 102, 3) := by decide +kernel
theorem dX9_readFortress_35 : decode cX9_readFortress 35 = .ok (.aload_n 0, 1) := by decide +kernel
theorem dX9_readFortress_36 : decode cX9_readFortress 36 = .ok (.aload_n 0, 1) := by decide +kernel
theorem dX9_readFortress_37 : decode cX9_readFortress 37 = .ok (.iconst 0, 1) := by decide +kernel
theorem dX9_readFortress_38 : decode cX9_readFortress 38 = .ok (.iconst 5, 1) := by decide +kernel
theorem dX9_readFortress_39 : decode cX9_readFortress 39 = .ok (.invokevirtual 105, 3) := by decide +kernel
theorem dX9_readFortress_42 : decode cX9_readFortress 42 = .ok (.putfield 127, 3) := by decide +kernel
theorem dX9_readFortress_45 : decode cX9_readFortress 45 = .ok (.aload_n 0, 1) := by decide +kernel
theorem dX9_readFortress_46 : decode cX9_readFortress 46 = .ok (.getfield 127, 3) := by decide +kernel
theorem dX9_readFortress_49 : decode cX9_readFortress 49 = .ok (.bipush (-9), 2) := by decide +kernel
theorem dX9_readFortress_51 : decode cX9_readFortress 51 = .ok (.if_icmp .ne 8, 3) := by decide +kernel
theorem dX9_readFortress_54 : decode cX9_readFortress 54 = .ok (.bipush (-9), 2) := by decide +kernel
theorem dX9_readFortress_56 : decode cX9_readFortress 56 = .ok (.goto 10, 3) := by decide +kernel
theorem dX9_readFortress_59 : decode cX9_readFortress 59 = .ok (.aload_n 0, 1) := by decide +kernel
theorem dX9_readFortress_60 : decode cX9_readFortress 60 = .ok (.iconst 0, 1) := by decide +kernel
theorem dX9_readFortress_61 : decode cX9_readFortress 61 = .ok (.bipush 9, 2) := by decide +kernel
theorem dX9_readFortress_63 : decode cX9_readFortress 63 = .ok (.invokevirtual 105, 3) := by decide +kernel
theorem dX9_readFortress_66 : decode cX9_readFortress 66 = .ok (.istore_n 1, 1) := by decide +kernel
theorem dX9_readFortress_67 : decode cX9_readFortress 67 = .ok (.iload_n 1, 1) := by decide +kernel
theorem dX9_readFortress_68 : decode cX9_readFortress 68 = .ok (.bipush (-9), 2) := by decide +kernel
theorem dX9_readFortress_70 : decode cX9_readFortress 70 = .ok (.if_icmp .ne 8, 3) := by decide +kernel
theorem dX9_readFortress_73 : decode cX9_readFortress 73 = .ok (.bipush (-9), 2) := by decide +kernel
theorem dX9_readFortress_75 : decode cX9_readFortress 75 = .ok (.goto 18, 3) := by decide +kernel
theorem dX9_readFortress_78 : decode cX9_readFortress 78 = .ok (.aload_n 0, 1) := by decide +kernel
theorem dX9_readFortress_79 : decode cX9_readFortress 79 = .ok (.iload_n 1, 1) := by decide +kernel
theorem dX9_readFortress_80 : decode cX9_readFortress 80 = .ok (.ifCond .ne 7, 3) := by decide +kernel
theorem dX9_readFortress_83 : decode cX9_readFortress 83 = .ok (.iconst 1, 1) := by decide +kernel
theorem dX9_readFortress_84 : decode cX9_readFortress 84 = .ok (.goto 4, 3) := by decide +kernel
theorem dX9_readFortress_87 : decode cX9_readFortress 87 = .ok (.iconst 0, 1) := by decide +kernel
theorem dX9_readFortress_88 : decode cX9_readFortress 88 = .ok (.bipush 9, 2) := by decide +kernel
theorem dX9_readFortress_90 : decode cX9_readFortress 90 = .ok (.invokevirtual 105, 3) := by decide +kernel
theorem dX9_readFortress_93 : decode cX9_readFortress 93 = .ok (.istore_n 2, 1) := by decide +kernel
theorem dX9_readFortress_94 : decode cX9_readFortress 94 = .ok (.iload_n 2, 1) := by decide +kernel
theorem dX9_readFortress_95 : decode cX9_readFortress 95 = .ok (.bipush (-9), 2) := by decide +kernel
theorem dX9_readFortress_97 : decode cX9_readFortress 97 = .ok (.if_icmp .ne 8, 3) := by decide +kernel
theorem dX9_readFortress_100 : decode cX9_readFortress 100 = .ok (.aload_n 0, 1) := by decide +kernel
theorem dX9_readFortress_101 : decode cX9_readFortress 101 = .ok (.getfield 102, 3) := by decide +kernel
theorem dX9_readFortress_104 : decode cX9_readFortress 104 = .ok (.ireturn, 1) := by decide +kernel
theorem dX9_readFortress_105 : decode cX9_readFortress 105 = .ok (.aload_n 0, 1) := by decide +kernel
theorem dX9_readFortress_106 : decode cX9_readFortress 106 = .ok (.bipush 10, 2) := by decide +kernel
theorem dX9_readFortress_108 : decode cX9_readFortress 108 = .ok (.iload_n 1, 1) := by decide +kernel
theorem dX9_readFortress_109 : decode cX9_readFortress 109 = .ok (.imul, 1) := by decide +kernel
theorem dX9_readFortress_110 : decode cX9_readFortress 110 = .ok (.iload_n 2, 1) := by decide +kernel
theorem dX9_readFortress_111 : decode cX9_readFortress 111 = .ok (.iadd, 1) := by decide +kernel
theorem dX9_readFortress_112 : decode cX9_readFortress 112 = .ok (.putfield 130, 3) := by decide +kernel
theorem dX9_readFortress_115 : decode cX9_readFortress 115 = .ok (.aload_n 0, 1) := by decide +kernel
theorem dX9_readFortress_116 : decode cX9_readFortress 116 = .ok (.getfield 102, 3) := by decide +kernel
theorem dX9_readFortress_119 : decode cX9_readFortress 119 = .ok (.aload_n 0, 1) := by decide +kernel
theorem dX9_readFortress_120 : decode cX9_readFortress 120 = .ok (.getfield 99, 3) := by decide +kernel
theorem dX9_readFortress_123 : decode cX9_readFortress 123 = .ok (.if_icmp .ge 15, 3) := by decide +kernel
theorem dX9_readFortress_126 : decode cX9_readFortress 126 = .ok (.aload_n 0, 1) := by decide +kernel
theorem dX9_readFortress_127 : decode cX9_readFortress 127 = .ok (.invokevirtual 133, 3) := by decide +kernel
theorem dX9_readFortress_130 : decode cX9_readFortress 130 = .ok (.ifCond .ne (-15), 3) := by decide +kernel
theorem dX9_readFortress_133 : decode cX9_readFortress 133 = .ok (.aload_n 0, 1) := by decide +kernel
theorem dX9_readFortress_134 : decode cX9_readFortress 134 = .ok (.getfield 102, 3) := by decide +kernel
theorem dX9_readFortress_137 : decode cX9_readFortress 137 = .ok (.ireturn, 1) := by decide +kernel
theorem dX9_readFortress_138 : decode cX9_readFortress 138 = .ok (.bipush (-9), 2) := by decide +kernel
theorem dX9_readFortress_140 : decode cX9_readFortress 140 = .ok (.ireturn, 1) := by decide +kernel
theorem dX9_fault_0 : decode cX9_fault 0 = .ok (.aload_n 0, 1) := by decide +kernel
theorem dX9_fault_1 : decode cX9_fault 1 = .ok (.iconst 0, 1) := by decide +kernel
theorem dX9_fault_2 : decode cX9_fault 2 = .ok (.putfield 87, 3) := by decide +kernel
theorem dX9_fault_5 : decode cX9_fault 5 = .ok (.aload_n 0, 1) := by decide +kernel
theorem dX9_fault_6 : decode cX9_fault 6 = .ok (.invokevirtual 136, 3) := by decide +kernel
theorem dX9_fault_9 : decode cX9_fault 9 = .ok (.ireturn, 1) := by decide +kernel
theorem dX9_fortress_0 : decode cX9_fortress 0 = .ok (.aload_n 0, 1) := by decide +kernel
theorem dX9_fortress_1 : decode cX9_fortress 1 = .ok (.iconst 0, 1) := by decide +kernel
theorem dX9_fortress_2 : decode cX9_fortress 2 = .ok (.putfield 87, 3) := by decide +kernel
theorem dX9_fortress_5 : decode cX9_fortress 5 = .ok (.aload_n 0, 1) := by decide +kernel
theorem dX9_fortress_6 : decode cX9_fortress 6 = .ok (.invokevirtual 136, 3) := by decide +kernel
theorem dX9_fortress_9 : decode cX9_fortress 9 = .ok (.bipush (-9), 2) := by decide +kernel
theorem dX9_fortress_11 : decode cX9_fortress 11 = .ok (.if_icmp .eq 6, 3) := by decide +kernel
theorem dX9_fortress_14 : decode cX9_fortress 14 = .ok (.bipush (-3), 2) := by decide +kernel
theorem dX9_fortress_16 : decode cX9_fortress 16 = .ok (.ireturn, 1) := by decide +kernel
theorem dX9_fortress_17 : decode cX9_fortress 17 = .ok (.aload_n 0, 1) := by decide +kernel
theorem dX9_fortress_18 : decode cX9_fortress 18 = .ok (.aload_n 0, 1) := by decide +kernel
theorem dX9_fortress_19 : decode cX9_fortress 19 = .ok (.getfield 109, 3) := by decide +kernel
theorem dX9_fortress_22 : decode cX9_fortress 22 = .ok (.putfield 90, 3) := by decide +kernel
theorem dX9_fortress_25 : decode cX9_fortress 25 = .ok (.aload_n 0, 1) := by decide +kernel
theorem dX9_fortress_26 : decode cX9_fortress 26 = .ok (.aload_n 0, 1) := by decide +kernel
theorem dX9_fortress_27 : decode cX9_fortress 27 = .ok (.getfield 127, 3) := by decide +kernel
theorem dX9_fortress_30 : decode cX9_fortress 30 = .ok (.putfield 139, 3) := by decide +kernel
theorem dX9_fortress_33 : decode cX9_fortress 33 = .ok (.aload_n 0, 1) := by decide +kernel
theorem dX9_fortress_34 : decode cX9_fortress 34 = .ok (.aload_n 0, 1) := by decide +kernel
theorem dX9_fortress_35 : decode cX9_fortress 35 = .ok (.getfield 130, 3) := by decide +kernel
theorem dX9_fortress_38 : decode cX9_fortress 38 = .ok (.putfield 13, 3) := by decide +kernel
theorem dX9_fortress_41 : decode cX9_fortress 41 = .ok (.iconst 0, 1) := by decide +kernel
theorem dX9_fortress_42 : decode cX9_fortress 42 = .ok (.istore_n 1, 1) := by decide +kernel
theorem dX9_fortress_43 : decode cX9_fortress 43 = .ok (.iload_n 1, 1) := by decide +kernel
theorem dX9_fortress_44 : decode cX9_fortress 44 = .ok (.iconst 5, 1) := by decide +kernel
theorem dX9_fortress_45 : decode cX9_fortress 45 = .ok (.if_icmp .ge 125, 3) := by decide +kernel
theorem dX9_fortress_48 : decode cX9_fortress 48 = .ok (.iload_n 1, 1) := by decide +kernel
theorem dX9_fortress_49 : decode cX9_fortress 49 = .ok (.aload_n 0, 1) := by decide +kernel
theorem dX9_fortress_50 : decode cX9_fortress 50 = .ok (.getfield 90, 3) := by decide +kernel
theorem dX9_fortress_53 : decode cX9_fortress 53 = .ok (.if_icmp .ge 7, 3) := by decide +kernel
theorem dX9_fortress_56 : decode cX9_fortress 56 = .ok (.iconst 1, 1) := by decide +kernel
theorem dX9_fortress_57 : decode cX9_fortress 57 = .ok (.goto 4, 3) := by decide +kernel
theorem dX9_fortress_60 : decode cX9_fortress 60 = .ok (.iconst 0, 1) := by decide +kernel
theorem dX9_fortress_61 : decode cX9_fortress 61 = .ok (.istore_n 2, 1) := by decide +kernel
theorem dX9_fortress_62 : decode cX9_fortress 62 = .ok (.aload_n 0, 1) := by decide +kernel
theorem dX9_fortress_63 : decode cX9_fortress 63 = .ok (.getfield 17, 3) := by decide +kernel
theorem dX9_fortress_66 : decode cX9_fortress 66 = .ok (.iload_n 1, 1) := by decide +kernel
theorem dX9_fortress_67 : decode cX9_fortress 67 = .ok (.iload_n 2, 1) := by decide +kernel
theorem dX9_fortress_68 : decode cX9_fortress 68 = .ok (.ifCond .eq 12, 3) := by decide +kernel
theorem dX9_fortress_71 : decode cX9_fortress 71 = .ok (.aload_n 0, 1) := by decide +kernel
theorem dX9_fortress_72 : decode cX9_fortress 72 = .ok (.getfield 42, 3) := by decide +kernel
theorem dX9_fortress_75 : decode cX9_fortress 75 = .ok (.iload_n 1, 1) := by decide +kernel
theorem dX9_fortress_76 : decode cX9_fortress 76 = .ok (.iaload, 1) := by decide +kernel
theorem dX9_fortress_77 : decode cX9_fortress 77 = .ok (.goto 4, 3) := by decide +kernel
theorem dX9_fortress_80 : decode cX9_fortress 80 = .ok (.iconst 0, 1) := by decide +kernel
theorem dX9_fortress_81 : decode cX9_fortress 81 = .ok (.iastore, 1) := by decide +kernel
theorem dX9_fortress_82 : decode cX9_fortress 82 = .ok (.aload_n 0, 1) := by decide +kernel
theorem dX9_fortress_83 : decode cX9_fortress 83 = .ok (.getfield 20, 3) := by decide +kernel
theorem dX9_fortress_86 : decode cX9_fortress 86 = .ok (.iload_n 1, 1) := by decide +kernel
theorem dX9_fortress_87 : decode cX9_fortress 87 = .ok (.iload_n 2, 1) := by decide +kernel
theorem dX9_fortress_88 : decode cX9_fortress 88 = .ok (.ifCond .eq 12, 3) := by decide +kernel
theorem dX9_fortress_91 : decode cX9_fortress 91 = .ok (.aload_n 0, 1) := by decide +kernel
theorem dX9_fortress_92 : decode cX9_fortress 92 = .ok (.getfield 45, 3) := by decide +kernel
theorem dX9_fortress_95 : decode cX9_fortress 95 = .ok (.iload_n 1, 1) := by decide +kernel
theorem dX9_fortress_96 : decode cX9_fortress 96 = .ok (.iaload, 1) := by decide +kernel
theorem dX9_fortress_97 : decode cX9_fortress 97 = .ok (.goto 4, 3) := by decide +kernel
theorem dX9_fortress_100 : decode cX9_fortress 100 = .ok (.iconst 0, 1) := by decide +kernel
theorem dX9_fortress_101 : decode cX9_fortress 101 = .ok (.iastore, 1) := by decide +kernel
theorem dX9_fortress_102 : decode cX9_fortress 102 = .ok (.aload_n 0, 1) := by decide +kernel
theorem dX9_fortress_103 : decode cX9_fortress 103 = .ok (.getfield 23, 3) := by decide +kernel
theorem dX9_fortress_106 : decode cX9_fortress 106 = .ok (.iload_n 1, 1) := by decide +kernel
theorem dX9_fortress_107 : decode cX9_fortress 107 = .ok (.iload_n 2, 1) := by decide +kernel
theorem dX9_fortress_108 : decode cX9_fortress 108 = .ok (.ifCond .eq 12, 3) := by decide +kernel
theorem dX9_fortress_111 : decode cX9_fortress 111 = .ok (.aload_n 0, 1) := by decide +kernel
theorem dX9_fortress_112 : decode cX9_fortress 112 = .ok (.getfield 48, 3) := by decide +kernel
theorem dX9_fortress_115 : decode cX9_fortress 115 = .ok (.iload_n 1, 1) := by decide +kernel
theorem dX9_fortress_116 : decode cX9_fortress 116 = .ok (.iaload, 1) := by decide +kernel
theorem dX9_fortress_117 : decode cX9_fortress 117 = .ok (.goto 4, 3) := by decide +kernel
theorem dX9_fortress_120 : decode cX9_fortress 120 = .ok (.iconst 0, 1) := by decide +kernel
theorem dX9_fortress_121 : decode cX9_fortress 121 = .ok (.iastore, 1) := by decide +kernel
theorem dX9_fortress_122 : decode cX9_fortress 122 = .ok (.aload_n 0, 1) := by decide +kernel
theorem dX9_fortress_123 : decode cX9_fortress 123 = .ok (.getfield 33, 3) := by decide +kernel
theorem dX9_fortress_126 : decode cX9_fortress 126 = .ok (.iload_n 1, 1) := by decide +kernel
theorem dX9_fortress_127 : decode cX9_fortress 127 = .ok (.iload_n 2, 1) := by decide +kernel
theorem dX9_fortress_128 : decode cX9_fortress 128 = .ok (.ifCond .eq 12, 3) := by decide +kernel
theorem dX9_fortress_131 : decode cX9_fortress 131 = .ok (.aload_n 0, 1) := by decide +kernel
theorem dX9_fortress_132 : decode cX9_fortress 132 = .ok (.getfield 51, 3) := by decide +kernel
theorem dX9_fortress_135 : decode cX9_fortress 135 = .ok (.iload_n 1, 1) := by decide +kernel
theorem dX9_fortress_136 : decode cX9_fortress 136 = .ok (.iaload, 1) := by decide +kernel
theorem dX9_fortress_137 : decode cX9_fortress 137 = .ok (.goto 5, 3) := by decide +kernel
theorem dX9_fortress_140 : decode cX9_fortress 140 = .ok (.bipush (-9), 2) := by decide +kernel
theorem dX9_fortress_142 : decode cX9_fortress 142 = .ok (.iastore, 1) := by decide +kernel
theorem dX9_fortress_143 : decode cX9_fortress 143 = .ok (.aload_n 0, 1) := by decide +kernel
theorem dX9_fortress_144 : decode cX9_fortress 144 = .ok (.getfield 26, 3) := by decide +kernel
theorem dX9_fortress_147 : decode cX9_fortress 147 = .ok (.iload_n 1, 1) := by decide +kernel
theorem dX9_fortress_148 : decode cX9_fortress 148 = .ok (.iconst 0, 1) := by decide +kernel
theorem dX9_fortress_149 : decode cX9_fortress 149 = .ok (.bastore, 1) := by decide +kernel
theorem dX9_fortress_150 : decode cX9_fortress 150 = .ok (.aload_n 0, 1) := by decide +kernel
theorem dX9_fortress_151 : decode cX9_fortress 151 = .ok (.getfield 30, 3) := by decide +kernel
theorem dX9_fortress_154 : decode cX9_fortress 154 = .ok (.iload_n 1, 1) := by decide +kernel
theorem dX9_fortress_155 : decode cX9_fortress 155 = .ok (.iconst 0, 1) := by decide +kernel
theorem dX9_fortress_156 : decode cX9_fortress 156 = .ok (.bastore, 1) := by decide +kernel
theorem dX9_fortress_157 : decode cX9_fortress 157 = .ok (.aload_n 0, 1) := by decide +kernel
theorem dX9_fortress_158 : decode cX9_fortress 158 = .ok (.getfield 36, 3) := by decide +kernel
theorem dX9_fortress_161 : decode cX9_fortress 161 = .ok (.iload_n 1, 1) := by decide +kernel
theorem dX9_fortress_162 : decode cX9_fortress 162 = .ok (.iconst 0, 1) := by decide +kernel
theorem dX9_fortress_163 : decode cX9_fortress 163 = .ok (.iastore, 1) := by decide +kernel
theorem dX9_fortress_164 : decode cX9_fortress 164 = .ok (.iinc 1 1, 3) := by decide +kernel
theorem dX9_fortress_167 : decode cX9_fortress 167 = .ok (.goto (-124), 3) := by decide +kernel
theorem dX9_fortress_170 : decode cX9_fortress 170 = .ok (.iconst 0, 1) := by decide +kernel
theorem dX9_fortress_171 : decode cX9_fortress 171 = .ok (.istore_n 1, 1) := by decide +kernel
theorem dX9_fortress_172 : decode cX9_fortress 172 = .ok (.iload_n 1, 1) := by decide +kernel
theorem dX9_fortress_173 : decode cX9_fortress 173 = .ok (.iconst 4, 1) := by decide +kernel
theorem dX9_fortress_174 : decode cX9_fortress 174 = .ok (.if_icmp .ge 16, 3) := by decide +kernel
theorem dX9_fortress_177 : decode cX9_fortress 177 = .ok (.aload_n 0, 1) := by decide +kernel
theorem dX9_fortress_178 : decode cX9_fortress 178 = .ok (.getfield 39, 3) := by decide +kernel
theorem dX9_fortress_181 : decode cX9_fortress 181 = .ok (.iload_n 1, 1) := by decide +kernel
theorem dX9_fortress_182 : decode cX9_fortress 182 = .ok (.iconst 0, 1) := by decide +kernel
theorem dX9_fortress_183 : decode cX9_fortress 183 = .ok (.iastore, 1) := by decide +kernel
theorem dX9_fortress_184 : decode cX9_fortress 184 = .ok (.iinc 1 1, 3) := by decide +kernel
theorem dX9_fortress_187 : decode cX9_fortress 187 = .ok (.goto (-15), 3) := by decide +kernel
theorem dX9_fortress_190 : decode cX9_fortress 190 = .ok (.aload_n 0, 1) := by decide +kernel
theorem dX9_fortress_191 : decode cX9_fortress 191 = .ok (.iconst 0, 1) := by decide +kernel
theorem dX9_fortress_192 : decode cX9_fortress 192 = .ok (.putfield 142, 3) := by decide +kernel
theorem dX9_fortress_195 : decode cX9_fortress 195 = .ok (.aload_n 0, 1) := by decide +kernel
theorem dX9_fortress_196 : decode cX9_fortress 196 = .ok (.iconst 0, 1) := by decide +kernel
theorem dX9_fortress_197 : decode cX9_fortress 197 = .ok (.putfield 145, 3) := by decide +kernel
theorem dX9_fortress_200 : decode cX9_fortress 200 = .ok (.aload_n 0, 1) := by decide +kernel
theorem dX9_fortress_201 : decode cX9_fortress 201 = .ok (.iconst 0, 1) := by decide +kernel
theorem dX9_fortress_202 : decode cX9_fortress 202 = .ok (.putfield 148, 3) := by decide +kernel
theorem dX9_fortress_205 : decode cX9_fortress 205 = .ok (.aload_n 0, 1) := by decide +kernel
theorem dX9_fortress_206 : decode cX9_fortress 206 = .ok (.getfield 60, 3) := by decide +kernel
theorem dX9_fortress_209 : decode cX9_fortress 209 = .ok (.iconst 0, 1) := by decide +kernel
theorem dX9_fortress_210 : decode cX9_fortress 210 = .ok (.iconst 0, 1) := by decide +kernel
theorem dX9_fortress_211 : decode cX9_fortress 211 = .ok (.bastore, 1) := by decide +kernel
theorem dX9_fortress_212 : decode cX9_fortress 212 = .ok (.aload_n 0, 1) := by decide +kernel
theorem dX9_fortress_213 : decode cX9_fortress 213 = .ok (.getfield 60, 3) := by decide +kernel
theorem dX9_fortress_216 : decode cX9_fortress 216 = .ok (.iconst 1, 1) := by decide +kernel
theorem dX9_fortress_217 : decode cX9_fortress 217 = .ok (.iconst 0, 1) := by decide +kernel
theorem dX9_fortress_218 : decode cX9_fortress 218 = .ok (.bastore, 1) := by decide +kernel
theorem dX9_fortress_219 : decode cX9_fortress 219 = .ok (.aload_n 0, 1) := by decide +kernel
theorem dX9_fortress_220 : decode cX9_fortress 220 = .ok (.getfield 90, 3) := by decide +kernel
theorem dX9_fortress_223 : decode cX9_fortress 223 = .ok (.ireturn, 1) := by decide +kernel
theorem dX9_about_0 : decode cX9_about 0 = .ok (.aload_n 0, 1) := by decide +kernel
theorem dX9_about_1 : decode cX9_about 1 = .ok (.iconst 0, 1) := by decide +kernel
theorem dX9_about_2 : decode cX9_about 2 = .ok (.putfield 87, 3) := by decide +kernel
theorem dX9_about_5 : decode cX9_about 5 = .ok (.iconst 0, 1) := by decide +kernel
theorem dX9_about_6 : decode cX9_about 6 = .ok (.istore_n 2, 1) := by decide +kernel
theorem dX9_about_7 : decode cX9_about 7 = .ok (.iconst 0, 1) := by decide +kernel
theorem dX9_about_8 : decode cX9_about 8 = .ok (.istore_n 3, 1) := by decide +kernel
theorem dX9_about_9 : decode cX9_about 9 = .ok (.iconst 0, 1) := by decide +kernel
theorem dX9_about_10 : decode cX9_about 10 = .ok (.istore 4, 2) := by decide +kernel
theorem dX9_about_12 : decode cX9_about 12 = .ok (.iconst 0, 1) := by decide +kernel
theorem dX9_about_13 : decode cX9_about 13 = .ok (.istore 5, 2) := by decide +kernel
theorem dX9_about_15 : decode cX9_about 15 = .ok (.iload 5, 2) := by decide +kernel
theorem dX9_about_17 : decode cX9_about 17 = .ok (.aload_n 0, 1) := by decide +kernel
theorem dX9_about_18 : decode cX9_about 18 = .ok (.getfield 90, 3) := by decide +kernel
theorem dX9_about_21 : decode cX9_about 21 = .ok (.if_icmp .ge 63, 3) := by decide +kernel
theorem dX9_about_24 : decode cX9_about 24 = .ok (.iload_n 2, 1) := by decide +kernel
theorem dX9_about_25 : decode cX9_about 25 = .ok (.aload_n 0, 1) := by decide +kernel
theorem dX9_about_26 : decode cX9_about 26 = .ok (.getfield 26, 3) := by decide +kernel
theorem dX9_about_29 : decode cX9_about 29 = .ok (.iload 5, 2) := by decide +kernel
theorem dX9_about_31 : decode cX9_about 31 = .ok (.baload, 1) := by decide +kernel
theorem dX9_about_32 : decode cX9_about 32 = .ok (.ifCond .eq 10, 3) := by decide +kernel
theorem dX9_about_35 : decode cX9_about 35 = .ok (.iconst 1, 1) := by decide +kernel
theorem dX9_about_36 : decode cX9_about 36 = .ok (.iload 5, 2) := by decide +kernel
theorem dX9_about_38 : decode cX9_about 38 = .ok (.ishl, 1) := by decide +kernel
theorem dX9_about_39 : decode cX9_about 39 = .ok (.goto 4, 3) := by decide +kernel
theorem dX9_about_42 : decode cX9_about 42 = .ok (.iconst 0, 1) := by decide +kernel
theorem dX9_about_43 : decode cX9_about 43 = .ok (.ior, 1) := by decide +kernel
theorem dX9_about_44 : decode cX9_about 44 = .ok (.istore_n 2, 1) := by decide +kernel
theorem dX9_about_45 : decode cX9_about 45 = .ok (.iload_n 3, 1) := by decide +kernel
theorem dX9_about_46 : decode cX9_about 46 = .ok (.aload_n 0, 1) := by decide +kernel
theorem dX9_about_47 : decode cX9_about 47 = .ok (.getfield 30, 3) := by decide +kernel
theorem dX9_about_50 : decode cX9_about 50 = .ok (.iload 5, 2) := by decide +kernel
theorem dX9_about_52 : decode cX9_about 52 = .ok (.baload, 1) := by decide +kernel
theorem dX9_about_53 : decode cX9_about 53 = .ok (.ifCond .eq 10, 3) := by decide +kernel
theorem dX9_about_56 : decode cX9_about 56 = .ok (.iconst 1, 1) := by decide +kernel
theorem dX9_about_57 : decode cX9_about 57 = .ok (.iload 5, 2) := by decide +kernel
theorem dX9_about_59 : decode cX9_about 59 = .ok (.ishl, 1) := by decide +kernel
theorem dX9_about_60 : decode cX9_about 60 = .ok (.goto 4, 3) := by decide +kernel
theorem dX9_about_63 : decode cX9_about 63 = .ok (.iconst 0, 1) := by decide +kernel
theorem dX9_about_64 : decode cX9_about 64 = .ok (.ior, 1) := by decide +kernel
theorem dX9_about_65 : decode cX9_about 65 = .ok (.istore_n 3, 1) := by decide +kernel
theorem dX9_about_66 : decode cX9_about 66 = .ok (.iload 4, 2) := by decide +kernel
theorem dX9_about_68 : decode cX9_about 68 = .ok (.aload_n 0, 1) := by decide +kernel
theorem dX9_about_69 : decode cX9_about 69 = .ok (.getfield 17, 3) := by decide +kernel
theorem dX9_about_72 : decode cX9_about 72 = .ok (.iload 5, 2) := by decide +kernel
theorem dX9_about_74 : decode cX9_about 74 = .ok (.iaload, 1) := by decide +kernel
theorem dX9_about_75 : decode cX9_about 75 = .ok (.iadd, 1) := by decide +kernel
theorem dX9_about_76 : decode cX9_about 76 = .ok (.istore 4, 2) := by decide +kernel
theorem dX9_about_78 : decode cX9_about 78 = .ok (.iinc 5 1, 3) := by decide +kernel
theorem dX9_about_81 : decode cX9_about 81 = .ok (.goto (-66), 3) := by decide +kernel
theorem dX9_about_84 : decode cX9_about 84 = .ok (.iload_n 1, 1) := by decide +kernel
theorem dX9_about_85 : decode cX9_about 85 = .ok (.tableswitch 106 0 10 #[59, 64, 69, 74, 79, 84, 86, 88, 91, 96, 101], 59) := by decide +kernel
theorem dX9_about_144 : decode cX9_about 144 = .ok (.aload_n 0, 1) := by decide +kernel
theorem dX9_about_145 : decode cX9_about 145 = .ok (.getfield 90, 3) := by decide +kernel
theorem dX9_about_148 : decode cX9_about 148 = .ok (.ireturn, 1) := by decide +kernel
theorem dX9_about_149 : decode cX9_about 149 = .ok (.aload_n 0, 1) := by decide +kernel
theorem dX9_about_150 : decode cX9_about 150 = .ok (.getfield 139, 3) := by decide +kernel
theorem dX9_about_153 : decode cX9_about 153 = .ok (.ireturn, 1) := by decide +kernel
theorem dX9_about_154 : decode cX9_about 154 = .ok (.aload_n 0, 1) := by decide +kernel
theorem dX9_about_155 : decode cX9_about 155 = .ok (.getfield 13, 3) := by decide +kernel
theorem dX9_about_158 : decode cX9_about 158 = .ok (.ireturn, 1) := by decide +kernel
theorem dX9_about_159 : decode cX9_about 159 = .ok (.aload_n 0, 1) := by decide +kernel
theorem dX9_about_160 : decode cX9_about 160 = .ok (.getfield 142, 3) := by decide +kernel
theorem dX9_about_163 : decode cX9_about 163 = .ok (.ireturn, 1) := by decide +kernel
theorem dX9_about_164 : decode cX9_about 164 = .ok (.aload_n 0, 1) := by decide +kernel
theorem dX9_about_165 : decode cX9_about 165 = .ok (.getfield 145, 3) := by decide +kernel
theorem dX9_about_168 : decode cX9_about 168 = .ok (.ireturn, 1) := by decide +kernel
theorem dX9_about_169 : decode cX9_about 169 = .ok (.iload_n 2, 1) := by decide +kernel
theorem dX9_about_170 : decode cX9_about 170 = .ok (.ireturn, 1) := by decide +kernel
theorem dX9_about_171 : decode cX9_about 171 = .ok (.iload_n 3, 1) := by decide +kernel
theorem dX9_about_172 : decode cX9_about 172 = .ok (.ireturn, 1) := by decide +kernel
theorem dX9_about_173 : decode cX9_about 173 = .ok (.iload 4, 2) := by decide +kernel
theorem dX9_about_175 : decode cX9_about 175 = .ok (.ireturn, 1) := by decide +kernel
theorem dX9_about_176 : decode cX9_about 176 = .ok (.aload_n 0, 1) := by decide +kernel
theorem dX9_about_177 : decode cX9_about 177 = .ok (.getfield 148, 3) := by decide +kernel
theorem dX9_about_180 : decode cX9_about 180 = .ok (.ireturn, 1) := by decide +kernel
theorem dX9_about_181 : decode cX9_about 181 = .ok (.aload_n 0, 1) := by decide +kernel
theorem dX9_about_182 : decode cX9_about 182 = .ok (.getfield 151, 3) := by decide +kernel
theorem dX9_about_185 : decode cX9_about 185 = .ok (.ireturn, 1) := by decide +kernel
theorem dX9_about_186 : decode cX9_about 186 = .ok (.aload_n 0, 1) := by decide +kernel
theorem dX9_about_187 : decode cX9_about 187 = .ok (.getfield 99, 3) := by decide +kernel
theorem dX9_about_190 : decode cX9_about 190 = .ok (.ireturn, 1) := by decide +kernel
theorem dX9_about_191 : decode cX9_about 191 = .ok (.bipush (-2), 2) := by decide +kernel
theorem dX9_about_193 : decode cX9_about 193 = .ok (.ireturn, 1) := by decide +kernel
theorem dX9_guard_0 : decode cX9_guard 0 = .ok (.aload_n 0, 1) := by decide +kernel
theorem dX9_guard_1 : decode cX9_guard 1 = .ok (.iconst 0, 1) := by decide +kernel
theorem dX9_guard_2 : decode cX9_guard 2 = .ok (.putfield 87, 3) := by decide +kernel
theorem dX9_guard_5 : decode cX9_guard 5 = .ok (.aload_n 0, 1) := by decide +kernel
theorem dX9_guard_6 : decode cX9_guard 6 = .ok (.iload_n 1, 1) := by decide +kernel
theorem dX9_guard_7 : decode cX9_guard 7 = .ok (.invokevirtual 154, 3) := by decide +kernel
theorem dX9_guard_10 : decode cX9_guard 10 = .ok (.ifCond .eq 5, 3) := by decide +kernel
theorem dX9_guard_13 : decode cX9_guard 13 = .ok (.iconst (-1), 1) := by decide +kernel
theorem dX9_guard_14 : decode cX9_guard 14 = .ok (.ireturn, 1) := by decide +kernel
theorem dX9_guard_15 : decode cX9_guard 15 = .ok (.iload_n 2, 1) := by decide +kernel
theorem dX9_guard_16 : decode cX9_guard 16 = .ok (.tableswitch 109 0 6 #[44, 51, 58, 65, 80, 95, 102], 44) := by decide +kernel
theorem dX9_guard_60 : decode cX9_guard 60 = .ok (.aload_n 0, 1) := by decide +kernel
theorem dX9_guard_61 : decode cX9_guard 61 = .ok (.getfield 17, 3) := by decide +kernel
theorem dX9_guard_64 : decode cX9_guard 64 = .ok (.iload_n 1, 1) := by decide +kernel
theorem dX9_guard_65 : decode cX9_guard 65 = .ok (.iaload, 1) := by decide +kernel
theorem dX9_guard_66 : decode cX9_guard 66 = .ok (.ireturn, 1) := by decide +kernel
theorem dX9_guard_67 : decode cX9_guard 67 = .ok (.aload_n 0, 1) := by decide +kernel
theorem dX9_guard_68 : decode cX9_guard 68 = .ok (.getfield 20, 3) := by decide +kernel
theorem dX9_guard_71 : decode cX9_guard 71 = .ok (.iload_n 1, 1) := by decide +kernel
theorem dX9_guard_72 : decode cX9_guard 72 = .ok (.iaload, 1) := by decide +kernel
theorem dX9_guard_73 : decode cX9_guard 73 = .ok (.ireturn, 1) := by decide +kernel
theorem dX9_guard_74 : decode cX9_guard 74 = .ok (.aload_n 0, 1) := by decide +kernel
theorem dX9_guard_75 : decode cX9_guard 75 = .ok (.getfield 23, 3) := by decide +kernel
theorem dX9_guard_78 : decode cX9_guard 78 = .ok (.iload_n 1, 1) := by decide +kernel
theorem dX9_guard_79 : decode cX9_guard 79 = .ok (.iaload, 1) := by decide +kernel
theorem dX9_guard_80 : decode cX9_guard 80 = .ok (.ireturn, 1) := by decide +kernel
theorem dX9_guard_81 : decode cX9_guard 81 = .ok (.aload_n 0, 1) := by decide +kernel
theorem dX9_guard_82 : decode cX9_guard 82 = .ok (.getfield 26, 3) := by decide +kernel
theorem dX9_guard_85 : decode cX9_guard 85 = .ok (.iload_n 1, 1) := by decide +kernel
theorem dX9_guard_86 : decode cX9_guard 86 = .ok (.baload, 1) := by decide +kernel
theorem dX9_guard_87 : decode cX9_guard 87 = .ok (.ifCond .eq 7, 3) := by decide +kernel
theorem dX9_guard_90 : decode cX9_guard 90 = .ok (.iconst 1, 1) := by decide +kernel
theorem dX9_guard_91 : decode cX9_guard 91 = .ok (.goto 4, 3) := by decide +kernel
theorem dX9_guard_94 : decode cX9_guard 94 = .ok (.iconst 0, 1) := by decide +kernel
theorem dX9_guard_95 : decode cX9_guard 95 = .ok (.ireturn, 1) := by decide +kernel
theorem dX9_guard_96 : decode cX9_guard 96 = .ok (.aload_n 0, 1) := by decide +kernel
theorem dX9_guard_97 : decode cX9_guard 97 = .ok (.getfield 30, 3) := by decide +kernel
theorem dX9_guard_100 : decode cX9_guard 100 = .ok (.iload_n 1, 1) := by decide +kernel
theorem dX9_guard_101 : decode cX9_guard 101 = .ok (.baload, 1) := by decide +kernel
theorem dX9_guard_102 : decode cX9_guard 102 = .ok (.ifCond .eq 7, 3) := by decide +kernel
theorem dX9_guard_105 : decode cX9_guard 105 = .ok (.iconst 1, 1) := by decide +kernel
theorem dX9_guard_106 : decode cX9_guard 106 = .ok (.goto 4, 3) := by decide +kernel
theorem dX9_guard_109 : decode cX9_guard 109 = .ok (.iconst 0, 1) := by decide +kernel
theorem dX9_guard_110 : decode cX9_guard 110 = .ok (.ireturn, 1) := by decide +kernel
theorem dX9_guard_111 : decode cX9_guard 111 = .ok (.aload_n 0, 1) := by decide +kernel
theorem dX9_guard_112 : decode cX9_guard 112 = .ok (.getfield 33, 3) := by decide +kernel
theorem dX9_guard_115 : decode cX9_guard 115 = .ok (.iload_n 1, 1) := by decide +kernel
theorem dX9_guard_116 : decode cX9_guard 116 = .ok (.iaload, 1) := by decide +kernel
theorem dX9_guard_117 : decode cX9_guard 117 = .ok (.ireturn, 1) := by decide +kernel
theorem dX9_guard_118 : decode cX9_guard 118 = .ok (.aload_n 0, 1) := by decide +kernel
theorem dX9_guard_119 : decode cX9_guard 119 = .ok (.getfield 36, 3) := by decide +kernel
theorem dX9_guard_122 : decode cX9_guard 122 = .ok (.iload_n 1, 1) := by decide +kernel
theorem dX9_guard_123 : decode cX9_guard 123 = .ok (.iaload, 1) := by decide +kernel
theorem dX9_guard_124 : decode cX9_guard 124 = .ok (.ireturn, 1) := by decide +kernel
theorem dX9_guard_125 : decode cX9_guard 125 = .ok (.bipush (-2), 2) := by decide +kernel
theorem dX9_guard_127 : decode cX9_guard 127 = .ok (.ireturn, 1) := by decide +kernel
theorem dX9_sick_0 : decode cX9_sick 0 = .ok (.aload_n 0, 1) := by decide +kernel
theorem dX9_sick_1 : decode cX9_sick 1 = .ok (.iconst 0, 1) := by decide +kernel
theorem dX9_sick_2 : decode cX9_sick 2 = .ok (.putfield 87, 3) := by decide +kernel
theorem dX9_sick_5 : decode cX9_sick 5 = .ok (.aload_n 0, 1) := by decide +kernel
theorem dX9_sick_6 : decode cX9_sick 6 = .ok (.iload_n 1, 1) := by decide +kernel
theorem dX9_sick_7 : decode cX9_sick 7 = .ok (.invokevirtual 154, 3) := by decide +kernel
theorem dX9_sick_10 : decode cX9_sick 10 = .ok (.ifCond .eq 5, 3) := by decide +kernel
theorem dX9_sick_13 : decode cX9_sick 13 = .ok (.iconst (-1), 1) := by decide +kernel
theorem dX9_sick_14 : decode cX9_sick 14 = .ok (.ireturn, 1) := by decide +kernel
theorem dX9_sick_15 : decode cX9_sick 15 = .ok (.aload_n 0, 1) := by decide +kernel
theorem dX9_sick_16 : decode cX9_sick 16 = .ok (.getfield 30, 3) := by decide +kernel
theorem dX9_sick_19 : decode cX9_sick 19 = .ok (.iload_n 1, 1) := by decide +kernel
theorem dX9_sick_20 : decode cX9_sick 20 = .ok (.baload, 1) := by decide +kernel
theorem dX9_sick_21 : decode cX9_sick 21 = .ok (.istore_n 3, 1) := by decide +kernel
theorem dX9_sick_22 : decode cX9_sick 22 = .ok (.aload_n 0, 1) := by decide +kernel
theorem dX9_sick_23 : decode cX9_sick 23 = .ok (.getfield 30, 3) := by decide +kernel
theorem dX9_sick_26 : decode cX9_sick 26 = .ok (.iload_n 1, 1) := by decide +kernel
theorem dX9_sick_27 : decode cX9_sick 27 = .ok (.iload_n 2, 1) := by decide +kernel
theorem dX9_sick_28 : decode cX9_sick 28 = .ok (.bastore, 1) := by decide +kernel
theorem dX9_sick_29 : decode cX9_sick 29 = .ok (.iload_n 3, 1) := by decide +kernel
theorem dX9_sick_30 : decode cX9_sick 30 = .ok (.iload_n 2, 1) := by decide +kernel
theorem dX9_sick_31 : decode cX9_sick 31 = .ok (.if_icmp .ne 7, 3) := by decide +kernel
theorem dX9_sick_34 : decode cX9_sick 34 = .ok (.iconst 0, 1) := by decide +kernel
theorem dX9_sick_35 : decode cX9_sick 35 = .ok (.goto 4, 3) := by decide +kernel
theorem dX9_sick_38 : decode cX9_sick 38 = .ok (.iconst 1, 1) := by decide +kernel
theorem dX9_sick_39 : decode cX9_sick 39 = .ok (.ireturn, 1) := by decide +kernel
theorem dX9_hand_0 : decode cX9_hand 0 = .ok (.aload_n 0, 1) := by decide +kernel
theorem dX9_hand_1 : decode cX9_hand 1 = .ok (.iconst 0, 1) := by decide +kernel
theorem dX9_hand_2 : decode cX9_hand 2 = .ok (.putfield 87, 3) := by decide +kernel
theorem dX9_hand_5 : decode cX9_hand 5 = .ok (.aload_n 0, 1) := by decide +kernel
theorem dX9_hand_6 : decode cX9_hand 6 = .ok (.iload_n 1, 1) := by decide +kernel
theorem dX9_hand_7 : decode cX9_hand 7 = .ok (.invokevirtual 154, 3) := by decide +kernel
theorem dX9_hand_10 : decode cX9_hand 10 = .ok (.ifCond .ne 11, 3) := by decide +kernel
theorem dX9_hand_13 : decode cX9_hand 13 = .ok (.aload_n 0, 1) := by decide +kernel
theorem dX9_hand_14 : decode cX9_hand 14 = .ok (.iload_n 2, 1) := by decide +kernel
theorem dX9_hand_15 : decode cX9_hand 15 = .ok (.invokevirtual 154, 3) := by decide +kernel
theorem dX9_hand_18 : decode cX9_hand 18 = .ok (.ifCond .eq 5, 3) := by decide +kernel
theorem dX9_hand_21 : decode cX9_hand 21 = .ok (.iconst (-1), 1) := by decide +kernel
theorem dX9_hand_22 : decode cX9_hand 22 = .ok (.ireturn, 1) := by decide +kernel
theorem dX9_hand_23 : decode cX9_hand 23 = .ok (.iload_n 1, 1) := by decide +kernel
theorem dX9_hand_24 : decode cX9_hand 24 = .ok (.iload_n 2, 1) := by decide +kernel
theorem dX9_hand_25 : decode cX9_hand 25 = .ok (.if_icmp .eq 15, 3) := by decide +kernel
theorem dX9_hand_28 : decode cX9_hand 28 = .ok (.iload_n 3, 1) := by decide +kernel
theorem dX9_hand_29 : decode cX9_hand 29 = .ok (.i2l, 1) := by decide +kernel
theorem dX9_hand_30 : decode cX9_hand 30 = .ok (.lconst 1, 1) := by decide +kernel
theorem dX9_hand_31 : decode cX9_hand 31 = .ok (.ldc2_w 158, 3) := by decide +kernel
theorem dX9_hand_34 : decode cX9_hand 34 = .ok (.invokestatic 93, 3) := by decide +kernel
theorem dX9_hand_37 : decode cX9_hand 37 = .ok (.ifCond .ne 6, 3) := by decide +kernel
theorem dX9_hand_40 : decode cX9_hand 40 = .ok (.bipush (-2), 2) := by decide +kernel
theorem dX9_hand_42 : decode cX9_hand 42 = .ok (.ireturn, 1) := by decide +kernel
theorem dX9_hand_43 : decode cX9_hand 43 = .ok (.aload_n 0, 1) := by decide +kernel
theorem dX9_hand_44 : decode cX9_hand 44 = .ok (.getfield 20, 3) := by decide +kernel
theorem dX9_hand_47 : decode cX9_hand 47 = .ok (.iload_n 1, 1) := by decide +kernel
theorem dX9_hand_48 : decode cX9_hand 48 = .ok (.iaload, 1) := by decide +kernel
theorem dX9_hand_49 : decode cX9_hand 49 = .ok (.iload_n 3, 1) := by decide +kernel
theorem dX9_hand_50 : decode cX9_hand 50 = .ok (.if_icmp .ge 6, 3) := by decide +kernel
theorem dX9_hand_53 : decode cX9_hand 53 = .ok (.bipush (-3), 2) := by decide +kernel
theorem dX9_hand_55 : decode cX9_hand 55 = .ok (.ireturn, 1) := by decide +kernel
theorem dX9_hand_56 : decode cX9_hand 56 = .ok (.aload_n 0, 1) := by decide +kernel
theorem dX9_hand_57 : decode cX9_hand 57 = .ok (.getfield 20, 3) := by decide +kernel
theorem dX9_hand_60 : decode cX9_hand 60 = .ok (.iload_n 2, 1) := by decide +kernel
theorem dX9_hand_61 : decode cX9_hand 61 = .ok (.iaload, 1) := by decide +kernel
theorem dX9_hand_62 : decode cX9_hand 62 = .ok (.iload_n 3, 1) := by decide +kernel
theorem dX9_hand_63 : decode cX9_hand 63 = .ok (.iadd, 1) := by decide +kernel
theorem dX9_hand_64 : decode cX9_hand 64 = .ok (.bipush 9, 2) := by decide +kernel
theorem dX9_hand_66 : decode cX9_hand 66 = .ok (.if_icmp .le 6, 3) := by decide +kernel
theorem dX9_hand_69 : decode cX9_hand 69 = .ok (.bipush (-4), 2) := by decide +kernel
theorem dX9_hand_71 : decode cX9_hand 71 = .ok (.ireturn, 1) := by decide +kernel
theorem dX9_hand_72 : decode cX9_hand 72 = .ok (.aload_n 0, 1) := by decide +kernel
theorem dX9_hand_73 : decode cX9_hand 73 = .ok (.getfield 20, 3) := by decide +kernel
theorem dX9_hand_76 : decode cX9_hand 76 = .ok (.iload_n 1, 1) := by decide +kernel
theorem dX9_hand_77 : decode cX9_hand 77 = .ok (.dup2, 1) := by decide +kernel
theorem dX9_hand_78 : decode cX9_hand 78 = .ok (.iaload, 1) := by decide +kernel
theorem dX9_hand_79 : decode cX9_hand 79 = .ok (.iload_n 3, 1) := by decide +kernel
theorem dX9_hand_80 : decode cX9_hand 80 = .ok (.isub, 1) := by decide +kernel
theorem dX9_hand_81 : decode cX9_hand 81 = .ok (.iastore, 1) := by decide +kernel
theorem dX9_hand_82 : decode cX9_hand 82 = .ok (.aload_n 0, 1) := by decide +kernel
theorem dX9_hand_83 : decode cX9_hand 83 = .ok (.getfield 20, 3) := by decide +kernel
theorem dX9_hand_86 : decode cX9_hand 86 = .ok (.iload_n 2, 1) := by decide +kernel
theorem dX9_hand_87 : decode cX9_hand 87 = .ok (.dup2, 1) := by decide +kernel
theorem dX9_hand_88 : decode cX9_hand 88 = .ok (.iaload, 1) := by decide +kernel
theorem dX9_hand_89 : decode cX9_hand 89 = .ok (.iload_n 3, 1) := by decide +kernel
theorem dX9_hand_90 : decode cX9_hand 90 = .ok (.iadd, 1) := by decide +kernel
theorem dX9_hand_91 : decode cX9_hand 91 = .ok (.iastore, 1) := by decide +kernel
theorem dX9_hand_92 : decode cX9_hand 92 = .ok (.aload_n 0, 1) := by decide +kernel
theorem dX9_hand_93 : decode cX9_hand 93 = .ok (.getfield 20, 3) := by decide +kernel
theorem dX9_hand_96 : decode cX9_hand 96 = .ok (.iload_n 2, 1) := by decide +kernel
theorem dX9_hand_97 : decode cX9_hand 97 = .ok (.iaload, 1) := by decide +kernel
theorem dX9_hand_98 : decode cX9_hand 98 = .ok (.ireturn, 1) := by decide +kernel
theorem dX9_pay_0 : decode cX9_pay 0 = .ok (.aload_n 0, 1) := by decide +kernel
theorem dX9_pay_1 : decode cX9_pay 1 = .ok (.iconst 0, 1) := by decide +kernel
theorem dX9_pay_2 : decode cX9_pay 2 = .ok (.putfield 87, 3) := by decide +kernel
theorem dX9_pay_5 : decode cX9_pay 5 = .ok (.aload_n 0, 1) := by decide +kernel
theorem dX9_pay_6 : decode cX9_pay 6 = .ok (.iload_n 1, 1) := by decide +kernel
theorem dX9_pay_7 : decode cX9_pay 7 = .ok (.invokevirtual 154, 3) := by decide +kernel
theorem dX9_pay_10 : decode cX9_pay 10 = .ok (.ifCond .eq 5, 3) := by decide +kernel
theorem dX9_pay_13 : decode cX9_pay 13 = .ok (.iconst (-1), 1) := by decide +kernel
theorem dX9_pay_14 : decode cX9_pay 14 = .ok (.ireturn, 1) := by decide +kernel
theorem dX9_pay_15 : decode cX9_pay 15 = .ok (.iload_n 2, 1) := by decide +kernel
theorem dX9_pay_16 : decode cX9_pay 16 = .ok (.i2l, 1) := by decide +kernel
theorem dX9_pay_17 : decode cX9_pay 17 = .ok (.lconst 1, 1) := by decide +kernel
theorem dX9_pay_18 : decode cX9_pay 18 = .ok (.ldc2_w 158, 3) := by decide +kernel
theorem dX9_pay_21 : decode cX9_pay 21 = .ok (.invokestatic 93, 3) := by decide +kernel
theorem dX9_pay_24 : decode cX9_pay 24 = .ok (.ifCond .ne 6, 3) := by decide +kernel
theorem dX9_pay_27 : decode cX9_pay 27 = .ok (.bipush (-2), 2) := by decide +kernel
theorem dX9_pay_29 : decode cX9_pay 29 = .ok (.ireturn, 1) := by decide +kernel
theorem dX9_pay_30 : decode cX9_pay 30 = .ok (.aload_n 0, 1) := by decide +kernel
theorem dX9_pay_31 : decode cX9_pay 31 = .ok (.getfield 20, 3) := by decide +kernel
theorem dX9_pay_34 : decode cX9_pay 34 = .ok (.iload_n 1, 1) := by decide +kernel
theorem dX9_pay_35 : decode cX9_pay 35 = .ok (.iaload, 1) := by decide +kernel
theorem dX9_pay_36 : decode cX9_pay 36 = .ok (.iload_n 2, 1) := by decide +kernel
theorem dX9_pay_37 : decode cX9_pay 37 = .ok (.if_icmp .lt 13, 3) := by decide +kernel
theorem dX9_pay_40 : decode cX9_pay 40 = .ok (.aload_n 0, 1) := by decide +kernel
theorem dX9_pay_41 : decode cX9_pay 41 = .ok (.getfield 23, 3) := by decide +kernel
theorem dX9_pay_44 : decode cX9_pay 44 = .ok (.iload_n 1, 1) := by decide +kernel
theorem dX9_pay_45 : decode cX9_pay 45 = .ok (.iaload, 1) := by decide +kernel
theorem dX9_pay_46 : decode cX9_pay 46 = .ok (.iload_n 2, 1) := by decide +kernel
theorem dX9_pay_47 : decode cX9_pay 47 = .ok (.if_icmp .ge 6, 3) := by decide +kernel
theorem dX9_pay_50 : decode cX9_pay 50 = .ok (.bipush (-3), 2) := by decide +kernel
theorem dX9_pay_52 : decode cX9_pay 52 = .ok (.ireturn, 1) := by decide +kernel
theorem dX9_pay_53 : decode cX9_pay 53 = .ok (.aload_n 0, 1) := by decide +kernel
theorem dX9_pay_54 : decode cX9_pay 54 = .ok (.getfield 20, 3) := by decide +kernel
theorem dX9_pay_57 : decode cX9_pay 57 = .ok (.iload_n 1, 1) := by decide +kernel
theorem dX9_pay_58 : decode cX9_pay 58 = .ok (.dup2, 1) := by decide +kernel
theorem dX9_pay_59 : decode cX9_pay 59 = .ok (.iaload, 1) := by decide +kernel
theorem dX9_pay_60 : decode cX9_pay 60 = .ok (.iload_n 2, 1) := by decide +kernel
theorem dX9_pay_61 : decode cX9_pay 61 = .ok (.isub, 1) := by decide +kernel
theorem dX9_pay_62 : decode cX9_pay 62 = .ok (.iastore, 1) := by decide +kernel
theorem dX9_pay_63 : decode cX9_pay 63 = .ok (.aload_n 0, 1) := by decide +kernel
theorem dX9_pay_64 : decode cX9_pay 64 = .ok (.getfield 23, 3) := by decide +kernel
theorem dX9_pay_67 : decode cX9_pay 67 = .ok (.iload_n 1, 1) := by decide +kernel
theorem dX9_pay_68 : decode cX9_pay 68 = .ok (.dup2, 1) := by decide +kernel
theorem dX9_pay_69 : decode cX9_pay 69 = .ok (.iaload, 1) := by decide +kernel
theorem dX9_pay_70 : decode cX9_pay 70 = .ok (.iload_n 2, 1) := by decide +kernel
theorem dX9_pay_71 : decode cX9_pay 71 = .ok (.isub, 1) := by decide +kernel
theorem dX9_pay_72 : decode cX9_pay 72 = .ok (.iastore, 1) := by decide +kernel
theorem dX9_pay_73 : decode cX9_pay 73 = .ok (.aload_n 0, 1) := by decide +kernel
theorem dX9_pay_74 : decode cX9_pay 74 = .ok (.getfield 23, 3) := by decide +kernel
theorem dX9_pay_77 : decode cX9_pay 77 = .ok (.iload_n 1, 1) := by decide +kernel
theorem dX9_pay_78 : decode cX9_pay 78 = .ok (.iaload, 1) := by decide +kernel
theorem dX9_pay_79 : decode cX9_pay 79 = .ok (.ireturn, 1) := by decide +kernel
theorem dX9_begin_0 : decode cX9_begin 0 = .ok (.iconst 0, 1) := by decide +kernel
theorem dX9_begin_1 : decode cX9_begin 1 = .ok (.istore_n 1, 1) := by decide +kernel
theorem dX9_begin_2 : decode cX9_begin 2 = .ok (.iload_n 1, 1) := by decide +kernel
theorem dX9_begin_3 : decode cX9_begin 3 = .ok (.aload_n 0, 1) := by decide +kernel
theorem dX9_begin_4 : decode cX9_begin 4 = .ok (.getfield 90, 3) := by decide +kernel
theorem dX9_begin_7 : decode cX9_begin 7 = .ok (.if_icmp .ge 57, 3) := by decide +kernel
theorem dX9_begin_10 : decode cX9_begin 10 = .ok (.aload_n 0, 1) := by decide +kernel
theorem dX9_begin_11 : decode cX9_begin 11 = .ok (.getfield 72, 3) := by decide +kernel
theorem dX9_begin_14 : decode cX9_begin 14 = .ok (.iload_n 1, 1) := by decide +kernel
theorem dX9_begin_15 : decode cX9_begin 15 = .ok (.aload_n 0, 1) := by decide +kernel
theorem dX9_begin_16 : decode cX9_begin 16 = .ok (.getfield 17, 3) := by decide +kernel
theorem dX9_begin_19 : decode cX9_begin 19 = .ok (.iload_n 1, 1) := by decide +kernel
theorem dX9_begin_20 : decode cX9_begin 20 = .ok (.iaload, 1) := by decide +kernel
theorem dX9_begin_21 : decode cX9_begin 21 = .ok (.iastore, 1) := by decide +kernel
theorem dX9_begin_22 : decode cX9_begin 22 = .ok (.aload_n 0, 1) := by decide +kernel
theorem dX9_begin_23 : decode cX9_begin 23 = .ok (.getfield 75, 3) := by decide +kernel
theorem dX9_begin_26 : decode cX9_begin 26 = .ok (.iload_n 1, 1) := by decide +kernel
theorem dX9_begin_27 : decode cX9_begin 27 = .ok (.aload_n 0, 1) := by decide +kernel
theorem dX9_begin_28 : decode cX9_begin 28 = .ok (.getfield 20, 3) := by decide +kernel
theorem dX9_begin_31 : decode cX9_begin 31 = .ok (.iload_n 1, 1) := by decide +kernel
theorem dX9_begin_32 : decode cX9_begin 32 = .ok (.iaload, 1) := by decide +kernel
theorem dX9_begin_33 : decode cX9_begin 33 = .ok (.iastore, 1) := by decide +kernel
theorem dX9_begin_34 : decode cX9_begin 34 = .ok (.aload_n 0, 1) := by decide +kernel
theorem dX9_begin_35 : decode cX9_begin 35 = .ok (.getfield 78, 3) := by decide +kernel
theorem dX9_begin_38 : decode cX9_begin 38 = .ok (.iload_n 1, 1) := by decide +kernel
theorem dX9_begin_39 : decode cX9_begin 39 = .ok (.aload_n 0, 1) := by decide +kernel
theorem dX9_begin_40 : decode cX9_begin 40 = .ok (.getfield 23, 3) := by decide +kernel
theorem dX9_begin_43 : decode cX9_begin 43 = .ok (.iload_n 1, 1) := by decide +kernel
theorem dX9_begin_44 : decode cX9_begin 44 = .ok (.iaload, 1) := by decide +kernel
theorem dX9_begin_45 : decode cX9_begin 45 = .ok (.iastore, 1) := by decide +kernel
theorem dX9_begin_46 : decode cX9_begin 46 = .ok (.aload_n 0, 1) := by decide +kernel
theorem dX9_begin_47 : decode cX9_begin 47 = .ok (.getfield 81, 3) := by decide +kernel
theorem dX9_begin_50 : decode cX9_begin 50 = .ok (.iload_n 1, 1) := by decide +kernel
theorem dX9_begin_51 : decode cX9_begin 51 = .ok (.aload_n 0, 1) := by decide +kernel
theorem dX9_begin_52 : decode cX9_begin 52 = .ok (.getfield 26, 3) := by decide +kernel
theorem dX9_begin_55 : decode cX9_begin 55 = .ok (.iload_n 1, 1) := by decide +kernel
theorem dX9_begin_56 : decode cX9_begin 56 = .ok (.baload, 1) := by decide +kernel
theorem dX9_begin_57 : decode cX9_begin 57 = .ok (.bastore, 1) := by decide +kernel
theorem dX9_begin_58 : decode cX9_begin 58 = .ok (.iinc 1 1, 3) := by decide +kernel
theorem dX9_begin_61 : decode cX9_begin 61 = .ok (.goto (-59), 3) := by decide +kernel
theorem dX9_begin_64 : decode cX9_begin 64 = .ok (.return_, 1) := by decide +kernel
theorem dX9_giver_0 : decode cX9_giver 0 = .ok (.aload_n 0, 1) := by decide +kernel
theorem dX9_giver_1 : decode cX9_giver 1 = .ok (.getfield 33, 3) := by decide +kernel
theorem dX9_giver_4 : decode cX9_giver 4 = .ok (.iload_n 1, 1) := by decide +kernel
theorem dX9_giver_5 : decode cX9_giver 5 = .ok (.iaload, 1) := by decide +kernel
theorem dX9_giver_6 : decode cX9_giver 6 = .ok (.istore_n 3, 1) := by decide +kernel
theorem dX9_giver_7 : decode cX9_giver 7 = .ok (.iload_n 3, 1) := by decide +kernel
theorem dX9_giver_8 : decode cX9_giver 8 = .ok (.bipush (-9), 2) := by decide +kernel
theorem dX9_giver_10 : decode cX9_giver 10 = .ok (.if_icmp .eq 20, 3) := by decide +kernel
theorem dX9_giver_13 : decode cX9_giver 13 = .ok (.iload_n 2, 1) := by decide +kernel
theorem dX9_giver_14 : decode cX9_giver 14 = .ok (.iload_n 3, 1) := by decide +kernel
theorem dX9_giver_15 : decode cX9_giver 15 = .ok (.invokestatic 160, 3) := by decide +kernel
theorem dX9_giver_18 : decode cX9_giver 18 = .ok (.ifCond .eq 12, 3) := by decide +kernel
theorem dX9_giver_21 : decode cX9_giver 21 = .ok (.aload_n 0, 1) := by decide +kernel
theorem dX9_giver_22 : decode cX9_giver 22 = .ok (.getfield 30, 3) := by decide +kernel
theorem dX9_giver_25 : decode cX9_giver 25 = .ok (.iload_n 3, 1) := by decide +kernel
theorem dX9_giver_26 : decode cX9_giver 26 = .ok (.baload, 1) := by decide +kernel
theorem dX9_giver_27 : decode cX9_giver 27 = .ok (.ifCond .eq 5, 3) := by decide +kernel
theorem dX9_giver_30 : decode cX9_giver 30 = .ok (.iload_n 1, 1) := by decide +kernel
theorem dX9_giver_31 : decode cX9_giver 31 = .ok (.ireturn, 1) := by decide +kernel
theorem dX9_giver_32 : decode cX9_giver 32 = .ok (.iload_n 1, 1) := by decide +kernel
theorem dX9_giver_33 : decode cX9_giver 33 = .ok (.iload_n 3, 1) := by decide +kernel
theorem dX9_giver_34 : decode cX9_giver 34 = .ok (.if_icmp .ge 7, 3) := by decide +kernel
theorem dX9_giver_37 : decode cX9_giver 37 = .ok (.iload_n 1, 1) := by decide +kernel
theorem dX9_giver_38 : decode cX9_giver 38 = .ok (.goto 4, 3) := by decide +kernel
theorem dX9_giver_41 : decode cX9_giver 41 = .ok (.iload_n 3, 1) := by decide +kernel
theorem dX9_giver_42 : decode cX9_giver 42 = .ok (.istore 4, 2) := by decide +kernel
theorem dX9_giver_44 : decode cX9_giver 44 = .ok (.iload_n 1, 1) := by decide +kernel
theorem dX9_giver_45 : decode cX9_giver 45 = .ok (.iload_n 3, 1) := by decide +kernel
theorem dX9_giver_46 : decode cX9_giver 46 = .ok (.if_icmp .ge 7, 3) := by decide +kernel
theorem dX9_giver_49 : decode cX9_giver 49 = .ok (.iload_n 3, 1) := by decide +kernel
theorem dX9_giver_50 : decode cX9_giver 50 = .ok (.goto 4, 3) := by decide +kernel
theorem dX9_giver_53 : decode cX9_giver 53 = .ok (.iload_n 1, 1) := by decide +kernel
theorem dX9_giver_54 : decode cX9_giver 54 = .ok (.istore 5, 2) := by decide +kernel
theorem dX9_giver_56 : decode cX9_giver 56 = .ok (.aload_n 0, 1) := by decide +kernel
theorem dX9_giver_57 : decode cX9_giver 57 = .ok (.getfield 75, 3) := by decide +kernel
theorem dX9_giver_60 : decode cX9_giver 60 = .ok (.iload 5, 2) := by decide +kernel
theorem dX9_giver_62 : decode cX9_giver 62 = .ok (.iaload, 1) := by decide +kernel
theorem dX9_giver_63 : decode cX9_giver 63 = .ok (.aload_n 0, 1) := by decide +kernel
theorem dX9_giver_64 : decode cX9_giver 64 = .ok (.getfield 75, 3) := by decide +kernel
theorem dX9_giver_67 : decode cX9_giver 67 = .ok (.iload 4, 2) := by decide +kernel
theorem dX9_giver_69 : decode cX9_giver 69 = .ok (.iaload, 1) := by decide +kernel
theorem dX9_giver_70 : decode cX9_giver 70 = .ok (.if_icmp .le 8, 3) := by decide +kernel
theorem dX9_giver_73 : decode cX9_giver 73 = .ok (.iload 5, 2) := by decide +kernel
theorem dX9_giver_75 : decode cX9_giver 75 = .ok (.goto 5, 3) := by decide +kernel
theorem dX9_giver_78 : decode cX9_giver 78 = .ok (.iload 4, 2) := by decide +kernel
theorem dX9_giver_80 : decode cX9_giver 80 = .ok (.ireturn, 1) := by decide +kernel
theorem dX9_canBe_0 : decode cX9_canBe 0 = .ok (.iconst 0, 1) := by decide +kernel
theorem dX9_canBe_1 : decode cX9_canBe 1 = .ok (.istore_n 2, 1) := by decide +kernel
theorem dX9_canBe_2 : decode cX9_canBe 2 = .ok (.iconst 1, 1) := by decide +kernel
theorem dX9_canBe_3 : decode cX9_canBe 3 = .ok (.istore_n 3, 1) := by decide +kernel
theorem dX9_canBe_4 : decode cX9_canBe 4 = .ok (.iconst 0, 1) := by decide +kernel
theorem dX9_canBe_5 : decode cX9_canBe 5 = .ok (.istore 4, 2) := by decide +kernel
theorem dX9_canBe_7 : decode cX9_canBe 7 = .ok (.iload 4, 2) := by decide +kernel
theorem dX9_canBe_9 : decode cX9_canBe 9 = .ok (.aload_n 0, 1) := by decide +kernel
theorem dX9_canBe_10 : decode cX9_canBe 10 = .ok (.getfield 90, 3) := by decide +kernel
theorem dX9_canBe_13 : decode cX9_canBe 13 = .ok (.if_icmp .ge 71, 3) := by decide +kernel
theorem dX9_canBe_16 : decode cX9_canBe 16 = .ok (.iload_n 1, 1) := by decide +kernel
theorem dX9_canBe_17 : decode cX9_canBe 17 = .ok (.iload 4, 2) := by decide +kernel
theorem dX9_canBe_19 : decode cX9_canBe 19 = .ok (.invokestatic 160, 3) := by decide +kernel
theorem dX9_canBe_22 : decode cX9_canBe 22 = .ok (.ifCond .eq 56, 3) := by decide +kernel
theorem dX9_canBe_25 : decode cX9_canBe 25 = .ok (.iinc 2 1, 3) := by decide +kernel
theorem dX9_canBe_28 : decode cX9_canBe 28 = .ok (.iload_n 3, 1) := by decide +kernel
theorem dX9_canBe_29 : decode cX9_canBe 29 = .ok (.ifCond .eq 47, 3) := by decide +kernel
theorem dX9_canBe_32 : decode cX9_canBe 32 = .ok (.aload_n 0, 1) := by decide +kernel
theorem dX9_canBe_33 : decode cX9_canBe 33 = .ok (.getfield 30, 3) := by decide +kernel
theorem dX9_canBe_36 : decode cX9_canBe 36 = .ok (.iload 4, 2) := by decide +kernel
theorem dX9_canBe_38 : decode cX9_canBe 38 = .ok (.baload, 1) := by decide +kernel
theorem dX9_canBe_39 : decode cX9_canBe 39 = .ok (.ifCond .eq 18, 3) := by decide +kernel
theorem dX9_canBe_42 : decode cX9_canBe 42 = .ok (.aload_n 0, 1) := by decide +kernel
theorem dX9_canBe_43 : decode cX9_canBe 43 = .ok (.getfield 78, 3) := by decide +kernel
theorem dX9_canBe_46 : decode cX9_canBe 46 = .ok (.iload 4, 2) := by decide +kernel
theorem dX9_canBe_48 : decode cX9_canBe 48 = .ok (.iaload, 1) := by decide +kernel
theorem dX9_canBe_49 : decode cX9_canBe 49 = .ok (.bipush 9, 2) := by decide +kernel
theorem dX9_canBe_51 : decode cX9_canBe 51 = .ok (.if_icmp .ge 25, 3) := by decide +kernel
theorem dX9_canBe_54 : decode cX9_canBe 54 = .ok (.goto 18, 3) := by decide +kernel
theorem dX9_canBe_57 : decode cX9_canBe 57 = .ok (.aload_n 0, 1) := by decide +kernel
theorem dX9_canBe_58 : decode cX9_canBe 58 = .ok (.getfield 75, 3) := by decide +kernel
theorem dX9_canBe_61 : decode cX9_canBe 61 = .ok (.aload_n 0, 1) := by decide +kernel
theorem dX9_canBe_62 : decode cX9_canBe 62 = .ok (.iload 4, 2) := by decide +kernel
theorem dX9_canBe_64 : decode cX9_canBe 64 = .ok (.iload_n 1, 1) := by decide +kernel
theorem dX9_canBe_65 : decode cX9_canBe 65 = .ok (.invokevirtual 164, 3) := by decide +kernel
theorem dX9_canBe_68 : decode cX9_canBe 68 = .ok (.iaload, 1) := by decide +kernel
theorem dX9_canBe_69 : decode cX9_canBe 69 = .ok (.ifCond .le 7, 3) := by decide +kernel
theorem dX9_canBe_72 : decode cX9_canBe 72 = .ok (.iconst 1, 1) := by decide +kernel
theorem dX9_canBe_73 : decode cX9_canBe 73 = .ok (.goto 4, 3) := by decide +kernel
theorem dX9_canBe_76 : decode cX9_canBe 76 = .ok (.iconst 0, 1) := by decide +kernel
theorem dX9_canBe_77 : decode cX9_canBe 77 = .ok (.istore_n 3, 1) := by decide +kernel
theorem dX9_canBe_78 : decode cX9_canBe 78 = .ok (.iinc 4 1, 3) := by decide +kernel
theorem dX9_canBe_81 : decode cX9_canBe 81 = .ok (.goto (-74), 3) := by decide +kernel
theorem dX9_canBe_84 : decode cX9_canBe 84 = .ok (.iload_n 3, 1) := by decide +kernel
theorem dX9_canBe_85 : decode cX9_canBe 85 = .ok (.ifCond .eq 15, 3) := by decide +kernel
theorem dX9_canBe_88 : decode cX9_canBe 88 = .ok (.iload_n 2, 1) := by decide +kernel
theorem dX9_canBe_89 : decode cX9_canBe 89 = .ok (.aload_n 0, 1) := by decide +kernel
theorem dX9_canBe_90 : decode cX9_canBe 90 = .ok (.getfield 139, 3) := by decide +kernel
theorem dX9_canBe_93 : decode cX9_canBe 93 = .ok (.if_icmp .gt 7, 3) := by decide +kernel
theorem dX9_canBe_96 : decode cX9_canBe 96 = .ok (.iconst 1, 1) := by decide +kernel
theorem dX9_canBe_97 : decode cX9_canBe 97 = .ok (.goto 4, 3) := by decide +kernel
theorem dX9_canBe_100 : decode cX9_canBe 100 = .ok (.iconst 0, 1) := by decide +kernel
theorem dX9_canBe_101 : decode cX9_canBe 101 = .ok (.ireturn, 1) := by decide +kernel
theorem dX9_go_0 : decode cX9_go 0 = .ok (.iconst 0, 1) := by decide +kernel
theorem dX9_go_1 : decode cX9_go 1 = .ok (.istore_n 2, 1) := by decide +kernel
theorem dX9_go_2 : decode cX9_go 2 = .ok (.iconst 0, 1) := by decide +kernel
theorem dX9_go_3 : decode cX9_go 3 = .ok (.istore_n 3, 1) := by decide +kernel
theorem dX9_go_4 : decode cX9_go 4 = .ok (.iload_n 3, 1) := by decide +kernel
theorem dX9_go_5 : decode cX9_go 5 = .ok (.aload_n 0, 1) := by decide +kernel
theorem dX9_go_6 : decode cX9_go 6 = .ok (.getfield 90, 3) := by decide +kernel
theorem dX9_go_9 : decode cX9_go 9 = .ok (.if_icmp .ge 37, 3) := by decide +kernel
theorem dX9_go_12 : decode cX9_go 12 = .ok (.iload_n 1, 1) := by decide +kernel
theorem dX9_go_13 : decode cX9_go 13 = .ok (.iload_n 3, 1) := by decide +kernel
theorem dX9_go_14 : decode cX9_go 14 = .ok (.invokestatic 160, 3) := by decide +kernel
theorem dX9_go_17 : decode cX9_go 17 = .ok (.ifCond .eq 23, 3) := by decide +kernel
theorem dX9_go_20 : decode cX9_go 20 = .ok (.aload_n 0, 1) := by decide +kernel
theorem dX9_go_21 : decode cX9_go 21 = .ok (.getfield 30, 3) := by decide +kernel
theorem dX9_go_24 : decode cX9_go 24 = .ok (.iload_n 3, 1) := by decide +kernel
theorem dX9_go_25 : decode cX9_go 25 = .ok (.baload, 1) := by decide +kernel
theorem dX9_go_26 : decode cX9_go 26 = .ok (.ifCond .ne 14, 3) := by decide +kernel
theorem dX9_go_29 : decode cX9_go 29 = .ok (.iload_n 2, 1) := by decide +kernel
theorem dX9_go_30 : decode cX9_go 30 = .ok (.iconst 1, 1) := by decide +kernel
theorem dX9_go_31 : decode cX9_go 31 = .ok (.aload_n 0, 1) := by decide +kernel
theorem dX9_go_32 : decode cX9_go 32 = .ok (.iload_n 3, 1) := by decide +kernel
theorem dX9_go_33 : decode cX9_go 33 = .ok (.iload_n 1, 1) := by decide +kernel
theorem dX9_go_34 : decode cX9_go 34 = .ok (.invokevirtual 164, 3) := by decide +kernel
theorem dX9_go_37 : decode cX9_go 37 = .ok (.ishl, 1) := by decide +kernel
theorem dX9_go_38 : decode cX9_go 38 = .ok (.ior, 1) := by decide +kernel
theorem dX9_go_39 : decode cX9_go 39 = .ok (.istore_n 2, 1) := by decide +kernel
theorem dX9_go_40 : decode cX9_go 40 = .ok (.iinc 3 1, 3) := by decide +kernel
theorem dX9_go_43 : decode cX9_go 43 = .ok (.goto (-39), 3) := by decide +kernel
theorem dX9_go_46 : decode cX9_go 46 = .ok (.iconst 0, 1) := by decide +kernel
theorem dX9_go_47 : decode cX9_go 47 = .ok (.istore_n 3, 1) := by decide +kernel
theorem dX9_go_48 : decode cX9_go 48 = .ok (.iconst 0, 1) := by decide +kernel
theorem dX9_go_49 : decode cX9_go 49 = .ok (.istore 4, 2) := by decide +kernel
theorem dX9_go_51 : decode cX9_go 51 = .ok (.iload 4, 2) := by decide +kernel
theorem dX9_go_53 : decode cX9_go 53 = .ok (.aload_n 0, 1) := by decide +kernel
theorem dX9_go_54 : decode cX9_go 54 = .ok (.getfield 90, 3) := by decide +kernel
theorem dX9_go_57 : decode cX9_go 57 = .ok (.if_icmp .ge 278, 3) := by decide +kernel
theorem dX9_go_60 : decode cX9_go 60 = .ok (.aload_n 0, 1) := by decide +kernel
theorem dX9_go_61 : decode cX9_go 61 = .ok (.getfield 75, 3) := by decide +kernel
theorem dX9_go_64 : decode cX9_go 64 = .ok (.iload 4, 2) := by decide +kernel
theorem dX9_go_66 : decode cX9_go 66 = .ok (.dup2, 1) := by decide +kernel
theorem dX9_go_67 : decode cX9_go 67 = .ok (.iaload, 1) := by decide +kernel
theorem dX9_go_68 : decode cX9_go 68 = .ok (.iload_n 2, 1) := by decide +kernel
theorem dX9_go_69 : decode cX9_go 69 = .ok (.iload 4, 2) := by decide +kernel
theorem dX9_go_71 : decode cX9_go 71 = .ok (.invokestatic 160, 3) := by decide +kernel
theorem dX9_go_74 : decode cX9_go 74 = .ok (.ifCond .eq 7, 3) := by decide +kernel
theorem dX9_go_77 : decode cX9_go 77 = .ok (.iconst 1, 1) := by decide +kernel
theorem dX9_go_78 : decode cX9_go 78 = .ok (.goto 4, 3) := by decide +kernel
theorem dX9_go_81 : decode cX9_go 81 = .ok (.iconst 0, 1) := by decide +kernel
theorem dX9_go_82 : decode cX9_go 82 = .ok (.isub, 1) := by decide +kernel
theorem dX9_go_83 : decode cX9_go 83 = .ok (.iastore, 1) := by decide +kernel
theorem dX9_go_84 : decode cX9_go 84 = .ok (.aload_n 0, 1) := by decide +kernel
theorem dX9_go_85 : decode cX9_go 85 = .ok (.getfield 78, 3) := by decide +kernel
theorem dX9_go_88 : decode cX9_go 88 = .ok (.iload 4, 2) := by decide +kernel
theorem dX9_go_90 : decode cX9_go 90 = .ok (.dup2, 1) := by decide +kernel
theorem dX9_go_91 : decode cX9_go 91 = .ok (.iaload, 1) := by decide +kernel
theorem dX9_go_92 : decode cX9_go 92 = .ok (.iload_n 1, 1) := by decide +kernel
theorem dX9_go_93 : decode cX9_go 93 = .ok (.iload 4, 2) := by decide +kernel
theorem dX9_go_95 : decode cX9_go 95 = .ok (.invokestatic 160, 3) := by decide +kernel
theorem dX9_go_98 : decode cX9_go 98 = .ok (.ifCond .eq 17, 3) := by decide +kernel
theorem dX9_go_101 : decode cX9_go 101 = .ok (.aload_n 0, 1) := by decide +kernel
theorem dX9_go_102 : decode cX9_go 102 = .ok (.getfield 30, 3) := by decide +kernel
theorem dX9_go_105 : decode cX9_go 105 = .ok (.iload 4, 2) := by decide +kernel
theorem dX9_go_107 : decode cX9_go 107 = .ok (.baload, 1) := by decide +kernel
theorem dX9_go_108 : decode cX9_go 108 = .ok (.ifCond .eq 7, 3) := by decide +kernel
theorem dX9_go_111 : decode cX9_go 111 = .ok (.iconst 1, 1) := by decide +kernel
theorem dX9_go_112 : decode cX9_go 112 = .ok (.goto 4, 3) := by decide +kernel
theorem dX9_go_115 : decode cX9_go 115 = .ok (.iconst 0, 1) := by decide +kernel
theorem dX9_go_116 : decode cX9_go 116 = .ok (.iadd, 1) := by decide +kernel
theorem dX9_go_117 : decode cX9_go 117 = .ok (.iastore, 1) := by decide +kernel
theorem dX9_go_118 : decode cX9_go 118 = .ok (.iload_n 1, 1) := by decide +kernel
theorem dX9_go_119 : decode cX9_go 119 = .ok (.iload 4, 2) := by decide +kernel
theorem dX9_go_121 : decode cX9_go 121 = .ok (.invokestatic 160, 3) := by decide +kernel
theorem dX9_go_124 : decode cX9_go 124 = .ok (.ifCond .eq 45, 3) := by decide +kernel
theorem dX9_go_127 : decode cX9_go 127 = .ok (.aload_n 0, 1) := by decide +kernel
theorem dX9_go_128 : decode cX9_go 128 = .ok (.getfield 72, 3) := by decide +kernel
theorem dX9_go_131 : decode cX9_go 131 = .ok (.iload 4, 2) := by decide +kernel
theorem dX9_go_133 : decode cX9_go 133 = .ok (.aload_n 0, 1) := by decide +kernel
theorem dX9_go_134 : decode cX9_go 134 = .ok (.getfield 72, 3) := by decide +kernel
theorem dX9_go_137 : decode cX9_go 137 = .ok (.iload 4, 2) := by decide +kernel
theorem dX9_go_139 : decode cX9_go 139 = .ok (.iaload, 1) := by decide +kernel
theorem dX9_go_140 : decode cX9_go 140 = .ok (.iconst 4, 1) := by decide +kernel
theorem dX9_go_141 : decode cX9_go 141 = .ok (.if_icmp .le 15, 3) := by decide +kernel
theorem dX9_go_144 : decode cX9_go 144 = .ok (.aload_n 0, 1) := by decide +kernel
theorem dX9_go_145 : decode cX9_go 145 = .ok (.getfield 72, 3) := by decide +kernel
theorem dX9_go_148 : decode cX9_go 148 = .ok (.iload 4, 2) := by decide +kernel
theorem dX9_go_150 : decode cX9_go 150 = .ok (.iaload, 1) := by decide +kernel
theorem dX9_go_151 : decode cX9_go 151 = .ok (.iconst 4, 1) := by decide +kernel
theorem dX9_go_152 : decode cX9_go 152 = .ok (.isub, 1) := by decide +kernel
theorem dX9_go_153 : decode cX9_go 153 = .ok (.goto 4, 3) := by decide +kernel
theorem dX9_go_156 : decode cX9_go 156 = .ok (.iconst 0, 1) := by decide +kernel
theorem dX9_go_157 : decode cX9_go 157 = .ok (.iastore, 1) := by decide +kernel
theorem dX9_go_158 : decode cX9_go 158 = .ok (.aload_n 0, 1) := by decide +kernel
theorem dX9_go_159 : decode cX9_go 159 = .ok (.getfield 81, 3) := by decide +kernel
theorem dX9_go_162 : decode cX9_go 162 = .ok (.iload 4, 2) := by decide +kernel
theorem dX9_go_164 : decode cX9_go 164 = .ok (.iconst 0, 1) := by decide +kernel
theorem dX9_go_165 : decode cX9_go 165 = .ok (.bastore, 1) := by decide +kernel
theorem dX9_go_166 : decode cX9_go 166 = .ok (.goto 133, 3) := by decide +kernel
theorem dX9_go_169 : decode cX9_go 169 = .ok (.aload_n 0, 1) := by decide +kernel
theorem dX9_go_170 : decode cX9_go 170 = .ok (.getfield 81, 3) := by decide +kernel
theorem dX9_go_173 : decode cX9_go 173 = .ok (.iload 4, 2) := by decide +kernel
theorem dX9_go_175 : decode cX9_go 175 = .ok (.baload, 1) := by decide +kernel
theorem dX9_go_176 : decode cX9_go 176 = .ok (.ifCond .eq 64, 3) := by decide +kernel
theorem dX9_go_179 : decode cX9_go 179 = .ok (.aload_n 0, 1) := by decide +kernel
theorem dX9_go_180 : decode cX9_go 180 = .ok (.getfield 72, 3) := by decide +kernel
theorem dX9_go_183 : decode cX9_go 183 = .ok (.iload 4, 2) := by decide +kernel
theorem dX9_go_185 : decode cX9_go 185 = .ok (.aload_n 0, 1) := by decide +kernel
theorem dX9_go_186 : decode cX9_go 186 = .ok (.getfield 72, 3) := by decide +kernel
theorem dX9_go_189 : decode cX9_go 189 = .ok (.iload 4, 2) := by decide +kernel
theorem dX9_go_191 : decode cX9_go 191 = .ok (.iaload, 1) := by decide +kernel
theorem dX9_go_192 : decode cX9_go 192 = .ok (.ifCond .le 15, 3) := by decide +kernel
theorem dX9_go_195 : decode cX9_go 195 = .ok (.aload_n 0, 1) := by decide +kernel
theorem dX9_go_196 : decode cX9_go 196 = .ok (.getfield 72, 3) := by decide +kernel
theorem dX9_go_199 : decode cX9_go 199 = .ok (.iload 4, 2) := by decide +kernel
theorem dX9_go_201 : decode cX9_go 201 = .ok (.iaload, 1) := by decide +kernel
theorem dX9_go_202 : decode cX9_go 202 = .ok (.iconst 1, 1) := by decide +kernel
