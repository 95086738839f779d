theorem dX5_run_43 : decode cX5_run 43 = .ok (.iconst 0, 1) := by decide +kernel
theorem dX5_run_44 : decode cX5_run 44 = .ok (.aaload, 1) := by decide +kernel
theorem dX5_run_45 : decode cX5_run 45 = .ok (.aload_n 1, 1) := by decide +kernel
theorem dX5_run_46 : decode cX5_run 46 = .ok (.invokevirtual 46, 3) := by decide +kernel
theorem dX5_run_49 : decode cX5_run 49 = .ok (.aload_n 0, 1) := by decide +kernel
theorem dX5_run_50 : decode cX5_run 50 = .ok (.iconst 0, 1) := by decide +kernel
theorem dX5_run_51 : decode cX5_run 51 = .ok (.iload_n 2, 1) := by decide +kernel
theorem dX5_run_52 : decode cX5_run 52 = .ok (.invokestatic 50, 3) := by decide +kernel
theorem dX5_run_55 : decode cX5_run 55 = .ok (.return_, 1) := by decide +kernel
theorem dX5_seek_0 : decode cX5_seek 0 = .ok (.aload_n 0, 1) := by decide +kernel
theorem dX5_seek_1 : decode cX5_seek 1 = .ok (.getfield 11, 3) := by decide +kernel
theorem dX5_seek_4 : decode cX5_seek 4 = .ok (.iload_n 1, 1) := by decide +kernel
theorem dX5_seek_5 : decode cX5_seek 5 = .ok (.aaload, 1) := by decide +kernel
theorem dX5_seek_6 : decode cX5_seek 6 = .ok (.astore_n 3, 1) := by decide +kernel
theorem dX5_seek_7 : decode cX5_seek 7 = .ok (.iload_n 2, 1) := by decide +kernel
theorem dX5_seek_8 : decode cX5_seek 8 = .ok (.iload_n 1, 1) := by decide +kernel
theorem dX5_seek_9 : decode cX5_seek 9 = .ok (.isub, 1) := by decide +kernel
theorem dX5_seek_10 : decode cX5_seek 10 = .ok (.istore 4, 2) := by decide +kernel
theorem dX5_seek_12 : decode cX5_seek 12 = .ok (.aload_n 3, 1) := by decide +kernel
theorem dX5_seek_13 : decode cX5_seek 13 = .ok (.iload 4, 2) := by decide +kernel
theorem dX5_seek_15 : decode cX5_seek 15 = .ok (.invokevirtual 54, 3) := by decide +kernel
theorem dX5_seek_18 : decode cX5_seek 18 = .ok (.aload_n 0, 1) := by decide +kernel
theorem dX5_seek_19 : decode cX5_seek 19 = .ok (.getfield 43, 3) := by decide +kernel
theorem dX5_seek_22 : decode cX5_seek 22 = .ok (.if_icmp .lt 4, 3) := by decide +kernel
theorem dX5_seek_25 : decode cX5_seek 25 = .ok (.return_, 1) := by decide +kernel
theorem dX5_seek_26 : decode cX5_seek 26 = .ok (.iload 4, 2) := by decide +kernel
theorem dX5_seek_28 : decode cX5_seek 28 = .ok (.ifCond .le 8, 3) := by decide +kernel
theorem dX5_seek_31 : decode cX5_seek 31 = .ok (.iload_n 1, 1) := by decide +kernel
theorem dX5_seek_32 : decode cX5_seek 32 = .ok (.iconst 4, 1) := by decide +kernel
theorem dX5_seek_33 : decode cX5_seek 33 = .ok (.if_icmp .lt 31, 3) := by decide +kernel
theorem dX5_seek_36 : decode cX5_seek 36 = .ok (.aload_n 0, 1) := by decide +kernel
theorem dX5_seek_37 : decode cX5_seek 37 = .ok (.iconst 1, 1) := by decide +kernel
theorem dX5_seek_38 : decode cX5_seek 38 = .ok (.putfield 39, 3) := by decide +kernel
theorem dX5_seek_41 : decode cX5_seek 41 = .ok (.aload_n 0, 1) := by decide +kernel
theorem dX5_seek_42 : decode cX5_seek 42 = .ok (.aload_n 3, 1) := by decide +kernel
theorem dX5_seek_43 : decode cX5_seek 43 = .ok (.invokevirtual 58, 3) := by decide +kernel
theorem dX5_seek_46 : decode cX5_seek 46 = .ok (.putfield 43, 3) := by decide +kernel
theorem dX5_seek_49 : decode cX5_seek 49 = .ok (.aload_n 0, 1) := by decide +kernel
theorem dX5_seek_50 : decode cX5_seek 50 = .ok (.getfield 17, 3) := by decide +kernel
theorem dX5_seek_53 : decode cX5_seek 53 = .ok (.iconst 0, 1) := by decide +kernel
theorem dX5_seek_54 : decode cX5_seek 54 = .ok (.aload_n 0, 1) := by decide +kernel
theorem dX5_seek_55 : decode cX5_seek 55 = .ok (.getfield 21, 3) := by decide +kernel
theorem dX5_seek_58 : decode cX5_seek 58 = .ok (.iconst 0, 1) := by decide +kernel
theorem dX5_seek_59 : decode cX5_seek 59 = .ok (.iconst 4, 1) := by decide +kernel
theorem dX5_seek_60 : decode cX5_seek 60 = .ok (.invokestatic 62, 3) := by decide +kernel
theorem dX5_seek_63 : decode cX5_seek 63 = .ok (.return_, 1) := by decide +kernel
theorem dX5_seek_64 : decode cX5_seek 64 = .ok (.aload_n 0, 1) := by decide +kernel
theorem dX5_seek_65 : decode cX5_seek 65 = .ok (.getfield 11, 3) := by decide +kernel
theorem dX5_seek_68 : decode cX5_seek 68 = .ok (.iload_n 1, 1) := by decide +kernel
theorem dX5_seek_69 : decode cX5_seek 69 = .ok (.iconst 1, 1) := by decide +kernel
theorem dX5_seek_70 : decode cX5_seek 70 = .ok (.iadd, 1) := by decide +kernel
theorem dX5_seek_71 : decode cX5_seek 71 = .ok (.aaload, 1) := by decide +kernel
theorem dX5_seek_72 : decode cX5_seek 72 = .ok (.astore 5, 2) := by decide +kernel
theorem dX5_seek_74 : decode cX5_seek 74 = .ok (.aload_n 0, 1) := by decide +kernel
theorem dX5_seek_75 : decode cX5_seek 75 = .ok (.getfield 24, 3) := by decide +kernel
theorem dX5_seek_78 : decode cX5_seek 78 = .ok (.invokevirtual 68, 3) := by decide +kernel
theorem dX5_seek_81 : decode cX5_seek 81 = .ok (.istore 6, 2) := by decide +kernel
theorem dX5_seek_83 : decode cX5_seek 83 = .ok (.iconst 0, 1) := by decide +kernel
theorem dX5_seek_84 : decode cX5_seek 84 = .ok (.istore 7, 2) := by decide +kernel
theorem dX5_seek_86 : decode cX5_seek 86 = .ok (.iload 7, 2) := by decide +kernel
theorem dX5_seek_88 : decode cX5_seek 88 = .ok (.iload 6, 2) := by decide +kernel
theorem dX5_seek_90 : decode cX5_seek 90 = .ok (.if_icmp .gt 50, 3) := by decide +kernel
theorem dX5_seek_93 : decode cX5_seek 93 = .ok (.aload_n 3, 1) := by decide +kernel
theorem dX5_seek_94 : decode cX5_seek 94 = .ok (.iload 7, 2) := by decide +kernel
theorem dX5_seek_96 : decode cX5_seek 96 = .ok (.invokevirtual 73, 3) := by decide +kernel
theorem dX5_seek_99 : decode cX5_seek 99 = .ok (.ifCond .eq 35, 3) := by decide +kernel
theorem dX5_seek_102 : decode cX5_seek 102 = .ok (.aload 5, 2) := by decide +kernel
theorem dX5_seek_104 : decode cX5_seek 104 = .ok (.aload_n 3, 1) := by decide +kernel
theorem dX5_seek_105 : decode cX5_seek 105 = .ok (.invokevirtual 46, 3) := by decide +kernel
theorem dX5_seek_108 : decode cX5_seek 108 = .ok (.aload 5, 2) := by decide +kernel
theorem dX5_seek_110 : decode cX5_seek 110 = .ok (.iload 7, 2) := by decide +kernel
theorem dX5_seek_112 : decode cX5_seek 112 = .ok (.invokevirtual 77, 3) := by decide +kernel
theorem dX5_seek_115 : decode cX5_seek 115 = .ok (.ifCond .eq 19, 3) := by decide +kernel
theorem dX5_seek_118 : decode cX5_seek 118 = .ok (.aload_n 0, 1) := by decide +kernel
theorem dX5_seek_119 : decode cX5_seek 119 = .ok (.getfield 17, 3) := by decide +kernel
theorem dX5_seek_122 : decode cX5_seek 122 = .ok (.iload_n 1, 1) := by decide +kernel
theorem dX5_seek_123 : decode cX5_seek 123 = .ok (.iload 7, 2) := by decide +kernel
theorem dX5_seek_125 : decode cX5_seek 125 = .ok (.iastore, 1) := by decide +kernel
theorem dX5_seek_126 : decode cX5_seek 126 = .ok (.aload_n 0, 1) := by decide +kernel
theorem dX5_seek_127 : decode cX5_seek 127 = .ok (.iload_n 1, 1) := by decide +kernel
theorem dX5_seek_128 : decode cX5_seek 128 = .ok (.iconst 1, 1) := by decide +kernel
theorem dX5_seek_129 : decode cX5_seek 129 = .ok (.iadd, 1) := by decide +kernel
theorem dX5_seek_130 : decode cX5_seek 130 = .ok (.iload_n 2, 1) := by decide +kernel
theorem dX5_seek_131 : decode cX5_seek 131 = .ok (.invokestatic 50, 3) := by decide +kernel
theorem dX5_seek_134 : decode cX5_seek 134 = .ok (.iinc 7 1, 3) := by decide +kernel
theorem dX5_seek_137 : decode cX5_seek 137 = .ok (.goto (-51), 3) := by decide +kernel
theorem dX5_seek_140 : decode cX5_seek 140 = .ok (.return_, 1) := by decide +kernel
theorem dX6_init_0 : decode cX6_init 0 = .ok (.aload_n 0, 1) := by decide +kernel
theorem dX6_init_1 : decode cX6_init 1 = .ok (.invokespecial 3, 3) := by decide +kernel
theorem dX6_init_4 : decode cX6_init 4 = .ok (.aload_n 0, 1) := by decide +kernel
theorem dX6_init_5 : decode cX6_init 5 = .ok (.iconst 4, 1) := by decide +kernel
theorem dX6_init_6 : decode cX6_init 6 = .ok (.newarray .int, 2) := by decide +kernel
theorem dX6_init_8 : decode cX6_init 8 = .ok (.putfield 9, 3) := by decide +kernel
theorem dX6_init_11 : decode cX6_init 11 = .ok (.aload_n 0, 1) := by decide +kernel
theorem dX6_init_12 : decode cX6_init 12 = .ok (.new 15, 3) := by decide +kernel
theorem dX6_init_15 : decode cX6_init 15 = .ok (.dup, 1) := by decide +kernel
theorem dX6_init_16 : decode cX6_init 16 = .ok (.aload_n 1, 1) := by decide +kernel
theorem dX6_init_17 : decode cX6_init 17 = .ok (.invokespecial 17, 3) := by decide +kernel
theorem dX6_init_20 : decode cX6_init 20 = .ok (.putfield 20, 3) := by decide +kernel
theorem dX6_init_23 : decode cX6_init 23 = .ok (.return_, 1) := by decide +kernel
theorem dX6_store_0 : decode cX6_store 0 = .ok (.aload_n 0, 1) := by decide +kernel
theorem dX6_store_1 : decode cX6_store 1 = .ok (.getfield 20, 3) := by decide +kernel
theorem dX6_store_4 : decode cX6_store 4 = .ok (.aload_n 1, 1) := by decide +kernel
theorem dX6_store_5 : decode cX6_store 5 = .ok (.invokevirtual 24, 3) := by decide +kernel
theorem dX6_store_8 : decode cX6_store 8 = .ok (.aload_n 2, 1) := by decide +kernel
theorem dX6_store_9 : decode cX6_store 9 = .ok (.iconst 0, 1) := by decide +kernel
theorem dX6_store_10 : decode cX6_store 10 = .ok (.aload_n 0, 1) := by decide +kernel
theorem dX6_store_11 : decode cX6_store 11 = .ok (.getfield 9, 3) := by decide +kernel
theorem dX6_store_14 : decode cX6_store 14 = .ok (.iconst 0, 1) := by decide +kernel
theorem dX6_store_15 : decode cX6_store 15 = .ok (.iconst 4, 1) := by decide +kernel
theorem dX6_store_16 : decode cX6_store 16 = .ok (.invokestatic 28, 3) := by decide +kernel
theorem dX6_store_19 : decode cX6_store 19 = .ok (.aload_n 0, 1) := by decide +kernel
theorem dX6_store_20 : decode cX6_store 20 = .ok (.iconst 1, 1) := by decide +kernel
theorem dX6_store_21 : decode cX6_store 21 = .ok (.putfield 34, 3) := by decide +kernel
theorem dX6_store_24 : decode cX6_store 24 = .ok (.return_, 1) := by decide +kernel
theorem dX6_restore_0 : decode cX6_restore 0 = .ok (.aload_n 1, 1) := by decide +kernel
theorem dX6_restore_1 : decode cX6_restore 1 = .ok (.aload_n 0, 1) := by decide +kernel
theorem dX6_restore_2 : decode cX6_restore 2 = .ok (.getfield 20, 3) := by decide +kernel
theorem dX6_restore_5 : decode cX6_restore 5 = .ok (.invokevirtual 24, 3) := by decide +kernel
theorem dX6_restore_8 : decode cX6_restore 8 = .ok (.aload_n 0, 1) := by decide +kernel
theorem dX6_restore_9 : decode cX6_restore 9 = .ok (.getfield 9, 3) := by decide +kernel
theorem dX6_restore_12 : decode cX6_restore 12 = .ok (.iconst 0, 1) := by decide +kernel
theorem dX6_restore_13 : decode cX6_restore 13 = .ok (.aload_n 2, 1) := by decide +kernel
theorem dX6_restore_14 : decode cX6_restore 14 = .ok (.iconst 0, 1) := by decide +kernel
theorem dX6_restore_15 : decode cX6_restore 15 = .ok (.iconst 4, 1) := by decide +kernel
theorem dX6_restore_16 : decode cX6_restore 16 = .ok (.invokestatic 28, 3) := by decide +kernel
theorem dX6_restore_19 : decode cX6_restore 19 = .ok (.return_, 1) := by decide +kernel
theorem dX7_init_0 : decode cX7_init 0 = .ok (.aload_n 0, 1) := by decide +kernel
theorem dX7_init_1 : decode cX7_init 1 = .ok (.invokespecial 3, 3) := by decide +kernel
theorem dX7_init_4 : decode cX7_init 4 = .ok (.aload_n 0, 1) := by decide +kernel
theorem dX7_init_5 : decode cX7_init 5 = .ok (.bipush 48, 2) := by decide +kernel
theorem dX7_init_7 : decode cX7_init 7 = .ok (.newarray .byte, 2) := by decide +kernel
theorem dX7_init_9 : decode cX7_init 9 = .ok (.putfield 9, 3) := by decide +kernel
theorem dX7_init_12 : decode cX7_init 12 = .ok (.return_, 1) := by decide +kernel
theorem dX7_append_0 : decode cX7_append 0 = .ok (.iload_n 1, 1) := by decide +kernel
theorem dX7_append_1 : decode cX7_append 1 = .ok (.iconst 1, 1) := by decide +kernel
theorem dX7_append_2 : decode cX7_append 2 = .ok (.isub, 1) := by decide +kernel
theorem dX7_append_3 : decode cX7_append 3 = .ok (.istore 4, 2) := by decide +kernel
theorem dX7_append_5 : decode cX7_append 5 = .ok (.iload 4, 2) := by decide +kernel
theorem dX7_append_7 : decode cX7_append 7 = .ok (.ifCond .lt 46, 3) := by decide +kernel
theorem dX7_append_10 : decode cX7_append 10 = .ok (.aload_n 0, 1) := by decide +kernel
theorem dX7_append_11 : decode cX7_append 11 = .ok (.getfield 15, 3) := by decide +kernel
theorem dX7_append_14 : decode cX7_append 14 = .ok (.bipush 48, 2) := by decide +kernel
theorem dX7_append_16 : decode cX7_append 16 = .ok (.if_icmp .ge 37, 3) := by decide +kernel
theorem dX7_append_19 : decode cX7_append 19 = .ok (.aload_n 0, 1) := by decide +kernel
theorem dX7_append_20 : decode cX7_append 20 = .ok (.getfield 9, 3) := by decide +kernel
theorem dX7_append_23 : decode cX7_append 23 = .ok (.aload_n 0, 1) := by decide +kernel
theorem dX7_append_24 : decode cX7_append 24 = .ok (.getfield 15, 3) := by decide +kernel
theorem dX7_append_27 : decode cX7_append 27 = .ok (.lload_n 2, 1) := by decide +kernel
theorem dX7_append_28 : decode cX7_append 28 = .ok (.bipush 8, 2) := by decide +kernel
theorem dX7_append_30 : decode cX7_append 30 = .ok (.iload 4, 2) := by decide +kernel
theorem dX7_append_32 : decode cX7_append 32 = .ok (.imul, 1) := by decide +kernel
theorem dX7_append_33 : decode cX7_append 33 = .ok (.lshr, 1) := by decide +kernel
theorem dX7_append_34 : decode cX7_append 34 = .ok (.l2i, 1) := by decide +kernel
theorem dX7_append_35 : decode cX7_append 35 = .ok (.i2b, 1) := by decide +kernel
theorem dX7_append_36 : decode cX7_append 36 = .ok (.bastore, 1) := by decide +kernel
theorem dX7_append_37 : decode cX7_append 37 = .ok (.aload_n 0, 1) := by decide +kernel
theorem dX7_append_38 : decode cX7_append 38 = .ok (.dup, 1) := by decide +kernel
theorem dX7_append_39 : decode cX7_append 39 = .ok (.getfield 15, 3) := by decide +kernel
theorem dX7_append_42 : decode cX7_append 42 = .ok (.iconst 1, 1) := by decide +kernel
theorem dX7_append_43 : decode cX7_append 43 = .ok (.iadd, 1) := by decide +kernel
theorem dX7_append_44 : decode cX7_append 44 = .ok (.putfield 15, 3) := by decide +kernel
theorem dX7_append_47 : decode cX7_append 47 = .ok (.iinc 4 (-1), 3) := by decide +kernel
theorem dX7_append_50 : decode cX7_append 50 = .ok (.goto (-45), 3) := by decide +kernel
theorem dX7_append_53 : decode cX7_append 53 = .ok (.return_, 1) := by decide +kernel
theorem dX8_init_0 : decode cX8_init 0 = .ok (.aload_n 0, 1) := by decide +kernel
theorem dX8_init_1 : decode cX8_init 1 = .ok (.invokespecial 1, 3) := by decide +kernel
theorem dX8_init_4 : decode cX8_init 4 = .ok (.aload_n 0, 1) := by decide +kernel
theorem dX8_init_5 : decode cX8_init 5 = .ok (.new 7, 3) := by decide +kernel
theorem dX8_init_8 : decode cX8_init 8 = .ok (.dup, 1) := by decide +kernel
theorem dX8_init_9 : decode cX8_init 9 = .ok (.invokespecial 9, 3) := by decide +kernel
theorem dX8_init_12 : decode cX8_init 12 = .ok (.putfield 10, 3) := by decide +kernel
theorem dX8_init_15 : decode cX8_init 15 = .ok (.aload_n 0, 1) := by decide +kernel
theorem dX8_init_16 : decode cX8_init 16 = .ok (.new 16, 3) := by decide +kernel
theorem dX8_init_19 : decode cX8_init 19 = .ok (.dup, 1) := by decide +kernel
theorem dX8_init_20 : decode cX8_init 20 = .ok (.aload_n 0, 1) := by decide +kernel
theorem dX8_init_21 : decode cX8_init 21 = .ok (.getfield 10, 3) := by decide +kernel
theorem dX8_init_24 : decode cX8_init 24 = .ok (.invokespecial 18, 3) := by decide +kernel
theorem dX8_init_27 : decode cX8_init 27 = .ok (.putfield 21, 3) := by decide +kernel
theorem dX8_init_30 : decode cX8_init 30 = .ok (.aload_n 0, 1) := by decide +kernel
theorem dX8_init_31 : decode cX8_init 31 = .ok (.new 25, 3) := by decide +kernel
theorem dX8_init_34 : decode cX8_init 34 = .ok (.dup, 1) := by decide +kernel
theorem dX8_init_35 : decode cX8_init 35 = .ok (.invokespecial 27, 3) := by decide +kernel
theorem dX8_init_38 : decode cX8_init 38 = .ok (.putfield 28, 3) := by decide +kernel
theorem dX8_init_41 : decode cX8_init 41 = .ok (.aload_n 0, 1) := by decide +kernel
theorem dX8_init_42 : decode cX8_init 42 = .ok (.new 32, 3) := by decide +kernel
theorem dX8_init_45 : decode cX8_init 45 = .ok (.dup, 1) := by decide +kernel
theorem dX8_init_46 : decode cX8_init 46 = .ok (.aload_n 0, 1) := by decide +kernel
theorem dX8_init_47 : decode cX8_init 47 = .ok (.getfield 28, 3) := by decide +kernel
theorem dX8_init_50 : decode cX8_init 50 = .ok (.invokespecial 34, 3) := by decide +kernel
theorem dX8_init_53 : decode cX8_init 53 = .ok (.putfield 37, 3) := by decide +kernel
theorem dX8_init_56 : decode cX8_init 56 = .ok (.aload_n 0, 1) := by decide +kernel
theorem dX8_init_57 : decode cX8_init 57 = .ok (.new 32, 3) := by decide +kernel
theorem dX8_init_60 : decode cX8_init 60 = .ok (.dup, 1) := by decide +kernel
theorem dX8_init_61 : decode cX8_init 61 = .ok (.aload_n 0, 1) := by decide +kernel
theorem dX8_init_62 : decode cX8_init 62 = .ok (.getfield 28, 3) := by decide +kernel
theorem dX8_init_65 : decode cX8_init 65 = .ok (.invokespecial 34, 3) := by decide +kernel
theorem dX8_init_68 : decode cX8_init 68 = .ok (.putfield 41, 3) := by decide +kernel
theorem dX8_init_71 : decode cX8_init 71 = .ok (.aload_n 0, 1) := by decide +kernel
theorem dX8_init_72 : decode cX8_init 72 = .ok (.iconst 4, 1) := by decide +kernel
theorem dX8_init_73 : decode cX8_init 73 = .ok (.newarray .int, 2) := by decide +kernel
theorem dX8_init_75 : decode cX8_init 75 = .ok (.putfield 44, 3) := by decide +kernel
theorem dX8_init_78 : decode cX8_init 78 = .ok (.aload_n 0, 1) := by decide +kernel
theorem dX8_init_79 : decode cX8_init 79 = .ok (.new 48, 3) := by decide +kernel
theorem dX8_init_82 : decode cX8_init 82 = .ok (.dup, 1) := by decide +kernel
theorem dX8_init_83 : decode cX8_init 83 = .ok (.aload_n 0, 1) := by decide +kernel
theorem dX8_init_84 : decode cX8_init 84 = .ok (.getfield 28, 3) := by decide +kernel
theorem dX8_init_87 : decode cX8_init 87 = .ok (.invokespecial 50, 3) := by decide +kernel
theorem dX8_init_90 : decode cX8_init 90 = .ok (.putfield 51, 3) := by decide +kernel
theorem dX8_init_93 : decode cX8_init 93 = .ok (.aload_n 0, 1) := by decide +kernel
theorem dX8_init_94 : decode cX8_init 94 = .ok (.new 55, 3) := by decide +kernel
theorem dX8_init_97 : decode cX8_init 97 = .ok (.dup, 1) := by decide +kernel
theorem dX8_init_98 : decode cX8_init 98 = .ok (.aload_n 0, 1) := by decide +kernel
theorem dX8_init_99 : decode cX8_init 99 = .ok (.getfield 28, 3) := by decide +kernel
theorem dX8_init_102 : decode cX8_init 102 = .ok (.invokespecial 57, 3) := by decide +kernel
theorem dX8_init_105 : decode cX8_init 105 = .ok (.putfield 58, 3) := by decide +kernel
theorem dX8_init_108 : decode cX8_init 108 = .ok (.aload_n 0, 1) := by decide +kernel
theorem dX8_init_109 : decode cX8_init 109 = .ok (.new 62, 3) := by decide +kernel
theorem dX8_init_112 : decode cX8_init 112 = .ok (.dup, 1) := by decide +kernel
theorem dX8_init_113 : decode cX8_init 113 = .ok (.invokespecial 64, 3) := by decide +kernel
theorem dX8_init_116 : decode cX8_init 116 = .ok (.putfield 65, 3) := by decide +kernel
theorem dX8_init_119 : decode cX8_init 119 = .ok (.aload_n 0, 1) := by decide +kernel
theorem dX8_init_120 : decode cX8_init 120 = .ok (.iconst 2, 1) := by decide +kernel
theorem dX8_init_121 : decode cX8_init 121 = .ok (.anewarray 69, 3) := by decide +kernel
theorem dX8_init_124 : decode cX8_init 124 = .ok (.putfield 71, 3) := by decide +kernel
theorem dX8_init_127 : decode cX8_init 127 = .ok (.iconst 0, 1) := by decide +kernel
theorem dX8_init_128 : decode cX8_init 128 = .ok (.istore_n 1, 1) := by decide +kernel
theorem dX8_init_129 : decode cX8_init 129 = .ok (.iload_n 1, 1) := by decide +kernel
theorem dX8_init_130 : decode cX8_init 130 = .ok (.iconst 2, 1) := by decide +kernel
theorem dX8_init_131 : decode cX8_init 131 = .ok (.if_icmp .ge 26, 3) := by decide +kernel
theorem dX8_init_134 : decode cX8_init 134 = .ok (.aload_n 0, 1) := by decide +kernel
theorem dX8_init_135 : decode cX8_init 135 = .ok (.getfield 71, 3) := by decide +kernel
theorem dX8_init_138 : decode cX8_init 138 = .ok (.iload_n 1, 1) := by decide +kernel
theorem dX8_init_139 : decode cX8_init 139 = .ok (.new 69, 3) := by decide +kernel
theorem dX8_init_142 : decode cX8_init 142 = .ok (.dup, 1) := by decide +kernel
theorem dX8_init_143 : decode cX8_init 143 = .ok (.aload_n 0, 1) := by decide +kernel
theorem dX8_init_144 : decode cX8_init 144 = .ok (.getfield 28, 3) := by decide +kernel
theorem dX8_init_147 : decode cX8_init 147 = .ok (.invokespecial 75, 3) := by decide +kernel
theorem dX8_init_150 : decode cX8_init 150 = .ok (.aastore, 1) := by decide +kernel
theorem dX8_init_151 : decode cX8_init 151 = .ok (.iinc 1 1, 3) := by decide +kernel
theorem dX8_init_154 : decode cX8_init 154 = .ok (.goto (-25), 3) := by decide +kernel
theorem dX8_init_157 : decode cX8_init 157 = .ok (.return_, 1) := by decide +kernel
theorem dX8_write_0 : decode cX8_write 0 = .ok (.iload_n 1, 1) := by decide +kernel
theorem dX8_write_1 : decode cX8_write 1 = .ok (.iconst 1, 1) := by decide +kernel
theorem dX8_write_2 : decode cX8_write 2 = .ok (.if_icmp .lt 9, 3) := by decide +kernel
theorem dX8_write_5 : decode cX8_write 5 = .ok (.iload_n 1, 1) := by decide +kernel
theorem dX8_write_6 : decode cX8_write 6 = .ok (.bipush 8, 2) := by decide +kernel
theorem dX8_write_8 : decode cX8_write 8 = .ok (.if_icmp .le 6, 3) := by decide +kernel
theorem dX8_write_11 : decode cX8_write 11 = .ok (.bipush (-2), 2) := by decide +kernel
theorem dX8_write_13 : decode cX8_write 13 = .ok (.ireturn, 1) := by decide +kernel
theorem dX8_write_14 : decode cX8_write 14 = .ok (.iload_n 1, 1) := by decide +kernel
theorem dX8_write_15 : decode cX8_write 15 = .ok (.bipush 48, 2) := by decide +kernel
theorem dX8_write_17 : decode cX8_write 17 = .ok (.aload_n 0, 1) := by decide +kernel
theorem dX8_write_18 : decode cX8_write 18 = .ok (.getfield 10, 3) := by decide +kernel
theorem dX8_write_21 : decode cX8_write 21 = .ok (.getfield 76, 3) := by decide +kernel
theorem dX8_write_24 : decode cX8_write 24 = .ok (.isub, 1) := by decide +kernel
theorem dX8_write_25 : decode cX8_write 25 = .ok (.if_icmp .le 6, 3) := by decide +kernel
theorem dX8_write_28 : decode cX8_write 28 = .ok (.bipush (-4), 2) := by decide +kernel
theorem dX8_write_30 : decode cX8_write 30 = .ok (.ireturn, 1) := by decide +kernel
theorem dX8_write_31 : decode cX8_write 31 = .ok (.aload_n 0, 1) := by decide +kernel
theorem dX8_write_32 : decode cX8_write 32 = .ok (.getfield 10, 3) := by decide +kernel
theorem dX8_write_35 : decode cX8_write 35 = .ok (.iload_n 1, 1) := by decide +kernel
theorem dX8_write_36 : decode cX8_write 36 = .ok (.lload_n 2, 1) := by decide +kernel
theorem dX8_write_37 : decode cX8_write 37 = .ok (.invokevirtual 80, 3) := by decide +kernel
theorem dX8_write_40 : decode cX8_write 40 = .ok (.aload_n 0, 1) := by decide +kernel
theorem dX8_write_41 : decode cX8_write 41 = .ok (.getfield 10, 3) := by decide +kernel
theorem dX8_write_44 : decode cX8_write 44 = .ok (.getfield 76, 3) := by decide +kernel
theorem dX8_write_47 : decode cX8_write 47 = .ok (.ireturn, 1) := by decide +kernel
theorem dX8_wipe_0 : decode cX8_wipe 0 = .ok (.aload_n 0, 1) := by decide +kernel
theorem dX8_wipe_1 : decode cX8_wipe 1 = .ok (.getfield 10, 3) := by decide +kernel
theorem dX8_wipe_4 : decode cX8_wipe 4 = .ok (.getfield 76, 3) := by decide +kernel
theorem dX8_wipe_7 : decode cX8_wipe 7 = .ok (.istore_n 1, 1) := by decide +kernel
theorem dX8_wipe_8 : decode cX8_wipe 8 = .ok (.aload_n 0, 1) := by decide +kernel
theorem dX8_wipe_9 : decode cX8_wipe 9 = .ok (.getfield 10, 3) := by decide +kernel
theorem dX8_wipe_12 : decode cX8_wipe 12 = .ok (.iconst 0, 1) := by decide +kernel
theorem dX8_wipe_13 : decode cX8_wipe 13 = .ok (.putfield 76, 3) := by decide +kernel
theorem dX8_wipe_16 : decode cX8_wipe 16 = .ok (.iload_n 1, 1) := by decide +kernel
theorem dX8_wipe_17 : decode cX8_wipe 17 = .ok (.ireturn, 1) := by decide +kernel
theorem dX8_fault_0 : decode cX8_fault 0 = .ok (.aload_n 0, 1) := by decide +kernel
theorem dX8_fault_1 : decode cX8_fault 1 = .ok (.getfield 21, 3) := by decide +kernel
theorem dX8_fault_4 : decode cX8_fault 4 = .ok (.invokevirtual 84, 3) := by decide +kernel
theorem dX8_fault_7 : decode cX8_fault 7 = .ok (.ireturn, 1) := by decide +kernel
theorem dX8_fortress_0 : decode cX8_fortress 0 = .ok (.aload_n 0, 1) := by decide +kernel
theorem dX8_fortress_1 : decode cX8_fortress 1 = .ok (.getfield 21, 3) := by decide +kernel
theorem dX8_fortress_4 : decode cX8_fortress 4 = .ok (.invokevirtual 84, 3) := by decide +kernel
theorem dX8_fortress_7 : decode cX8_fortress 7 = .ok (.bipush (-9), 2) := by decide +kernel
theorem dX8_fortress_9 : decode cX8_fortress 9 = .ok (.if_icmp .eq 6, 3) := by decide +kernel
theorem dX8_fortress_12 : decode cX8_fortress 12 = .ok (.bipush (-3), 2) := by decide +kernel
theorem dX8_fortress_14 : decode cX8_fortress 14 = .ok (.ireturn, 1) := by decide +kernel
theorem dX8_fortress_15 : decode cX8_fortress 15 = .ok (.aload_n 0, 1) := by decide +kernel
theorem dX8_fortress_16 : decode cX8_fortress 16 = .ok (.getfield 28, 3) := by decide +kernel
theorem dX8_fortress_19 : decode cX8_fortress 19 = .ok (.aload_n 0, 1) := by decide +kernel
theorem dX8_fortress_20 : decode cX8_fortress 20 = .ok (.getfield 21, 3) := by decide +kernel
theorem dX8_fortress_23 : decode cX8_fortress 23 = .ok (.getfield 88, 3) := by decide +kernel
theorem dX8_fortress_26 : decode cX8_fortress 26 = .ok (.invokevirtual 89, 3) := by decide +kernel
theorem dX8_fortress_29 : decode cX8_fortress 29 = .ok (.aload_n 0, 1) := by decide +kernel
theorem dX8_fortress_30 : decode cX8_fortress 30 = .ok (.getfield 37, 3) := by decide +kernel
theorem dX8_fortress_33 : decode cX8_fortress 33 = .ok (.aload_n 0, 1) := by decide +kernel
theorem dX8_fortress_34 : decode cX8_fortress 34 = .ok (.getfield 21, 3) := by decide +kernel
theorem dX8_fortress_37 : decode cX8_fortress 37 = .ok (.getfield 92, 3) := by decide +kernel
theorem dX8_fortress_40 : decode cX8_fortress 40 = .ok (.invokevirtual 95, 3) := by decide +kernel
theorem dX8_fortress_43 : decode cX8_fortress 43 = .ok (.aload_n 0, 1) := by decide +kernel
theorem dX8_fortress_44 : decode cX8_fortress 44 = .ok (.getfield 44, 3) := by decide +kernel
theorem dX8_fortress_47 : decode cX8_fortress 47 = .ok (.iconst 0, 1) := by decide +kernel
theorem dX8_fortress_48 : decode cX8_fortress 48 = .ok (.invokestatic 98, 3) := by decide +kernel
theorem dX8_fortress_51 : decode cX8_fortress 51 = .ok (.aload_n 0, 1) := by decide +kernel
theorem dX8_fortress_52 : decode cX8_fortress 52 = .ok (.getfield 51, 3) := by decide +kernel
theorem dX8_fortress_55 : decode cX8_fortress 55 = .ok (.iconst 0, 1) := by decide +kernel
theorem dX8_fortress_56 : decode cX8_fortress 56 = .ok (.putfield 104, 3) := by decide +kernel
theorem dX8_fortress_59 : decode cX8_fortress 59 = .ok (.aload_n 0, 1) := by decide +kernel
theorem dX8_fortress_60 : decode cX8_fortress 60 = .ok (.getfield 58, 3) := by decide +kernel
theorem dX8_fortress_63 : decode cX8_fortress 63 = .ok (.invokevirtual 107, 3) := by decide +kernel
theorem dX8_fortress_66 : decode cX8_fortress 66 = .ok (.iconst 0, 1) := by decide +kernel
theorem dX8_fortress_67 : decode cX8_fortress 67 = .ok (.istore_n 1, 1) := by decide +kernel
theorem dX8_fortress_68 : decode cX8_fortress 68 = .ok (.iload_n 1, 1) := by decide +kernel
theorem dX8_fortress_69 : decode cX8_fortress 69 = .ok (.iconst 2, 1) := by decide +kernel
theorem dX8_fortress_70 : decode cX8_fortress 70 = .ok (.if_icmp .ge 19, 3) := by decide +kernel
theorem dX8_fortress_73 : decode cX8_fortress 73 = .ok (.aload_n 0, 1) := by decide +kernel
theorem dX8_fortress_74 : decode cX8_fortress 74 = .ok (.getfield 71, 3) := by decide +kernel
theorem dX8_fortress_77 : decode cX8_fortress 77 = .ok (.iload_n 1, 1) := by decide +kernel
theorem dX8_fortress_78 : decode cX8_fortress 78 = .ok (.aaload, 1) := by decide +kernel
theorem dX8_fortress_79 : decode cX8_fortress 79 = .ok (.iconst 0, 1) := by decide +kernel
theorem dX8_fortress_80 : decode cX8_fortress 80 = .ok (.putfield 110, 3) := by decide +kernel
theorem dX8_fortress_83 : decode cX8_fortress 83 = .ok (.iinc 1 1, 3) := by decide +kernel
theorem dX8_fortress_86 : decode cX8_fortress 86 = .ok (.goto (-18), 3) := by decide +kernel
theorem dX8_fortress_89 : decode cX8_fortress 89 = .ok (.aload_n 0, 1) := by decide +kernel
theorem dX8_fortress_90 : decode cX8_fortress 90 = .ok (.getfield 28, 3) := by decide +kernel
theorem dX8_fortress_93 : decode cX8_fortress 93 = .ok (.getfield 114, 3) := by decide +kernel
theorem dX8_fortress_96 : decode cX8_fortress 96 = .ok (.ireturn, 1) := by decide +kernel
theorem dX8_about_0 : decode cX8_about 0 = .ok (.iload_n 1, 1) := by decide +kernel
theorem dX8_about_1 : decode cX8_about 1 = .ok (.tableswitch 147 0 10 #[59, 67, 75, 83, 91, 99, 107, 115, 123, 131, 139], 59) := by decide +kernel
theorem dX8_about_60 : decode cX8_about 60 = .ok (.aload_n 0, 1) := by decide +kernel
theorem dX8_about_61 : decode cX8_about 61 = .ok (.getfield 28, 3) := by decide +kernel
theorem dX8_about_64 : decode cX8_about 64 = .ok (.getfield 114, 3) := by decide +kernel
theorem dX8_about_67 : decode cX8_about 67 = .ok (.ireturn, 1) := by decide +kernel
theorem dX8_about_68 : decode cX8_about 68 = .ok (.aload_n 0, 1) := by decide +kernel
theorem dX8_about_69 : decode cX8_about 69 = .ok (.getfield 28, 3) := by decide +kernel
theorem dX8_about_72 : decode cX8_about 72 = .ok (.getfield 117, 3) := by decide +kernel
theorem dX8_about_75 : decode cX8_about 75 = .ok (.ireturn, 1) := by decide +kernel
theorem dX8_about_76 : decode cX8_about 76 = .ok (.aload_n 0, 1) := by decide +kernel
theorem dX8_about_77 : decode cX8_about 77 = .ok (.getfield 28, 3) := by decide +kernel
theorem dX8_about_80 : decode cX8_about 80 = .ok (.getfield 120, 3) := by decide +kernel
theorem dX8_about_83 : decode cX8_about 83 = .ok (.ireturn, 1) := by decide +kernel
theorem dX8_about_84 : decode cX8_about 84 = .ok (.aload_n 0, 1) := by decide +kernel
theorem dX8_about_85 : decode cX8_about 85 = .ok (.getfield 37, 3) := by decide +kernel
theorem dX8_about_88 : decode cX8_about 88 = .ok (.getfield 123, 3) := by decide +kernel
theorem dX8_about_91 : decode cX8_about 91 = .ok (.ireturn, 1) := by decide +kernel
theorem dX8_about_92 : decode cX8_about 92 = .ok (.aload_n 0, 1) := by decide +kernel
theorem dX8_about_93 : decode cX8_about 93 = .ok (.getfield 37, 3) := by decide +kernel
theorem dX8_about_96 : decode cX8_about 96 = .ok (.getfield 126, 3) := by decide +kernel
theorem dX8_about_99 : decode cX8_about 99 = .ok (.ireturn, 1) := by decide +kernel
theorem dX8_about_100 : decode cX8_about 100 = .ok (.aload_n 0, 1) := by decide +kernel
theorem dX8_about_101 : decode cX8_about 101 = .ok (.getfield 37, 3) := by decide +kernel
theorem dX8_about_104 : decode cX8_about 104 = .ok (.getfield 129, 3) := by decide +kernel
theorem dX8_about_107 : decode cX8_about 107 = .ok (.ireturn, 1) := by decide +kernel
theorem dX8_about_108 : decode cX8_about 108 = .ok (.aload_n 0, 1) := by decide +kernel
theorem dX8_about_109 : decode cX8_about 109 = .ok (.getfield 37, 3) := by decide +kernel
theorem dX8_about_112 : decode cX8_about 112 = .ok (.getfield 132, 3) := by decide +kernel
theorem dX8_about_115 : decode cX8_about 115 = .ok (.ireturn, 1) := by decide +kernel
theorem dX8_about_116 : decode cX8_about 116 = .ok (.aload_n 0, 1) := by decide +kernel
theorem dX8_about_117 : decode cX8_about 117 = .ok (.getfield 37, 3) := by decide +kernel
theorem dX8_about_120 : decode cX8_about 120 = .ok (.invokevirtual 135, 3) := by decide +kernel
theorem dX8_about_123 : decode cX8_about 123 = .ok (.ireturn, 1) := by decide +kernel
theorem dX8_about_124 : decode cX8_about 124 = .ok (.aload_n 0, 1) := by decide +kernel
theorem dX8_about_125 : decode cX8_about 125 = .ok (.getfield 51, 3) := by decide +kernel
theorem dX8_about_128 : decode cX8_about 128 = .ok (.getfield 104, 3) := by decide +kernel
theorem dX8_about_131 : decode cX8_about 131 = .ok (.ireturn, 1) := by decide +kernel
theorem dX8_about_132 : decode cX8_about 132 = .ok (.aload_n 0, 1) := by decide +kernel
theorem dX8_about_133 : decode cX8_about 133 = .ok (.getfield 65, 3) := by decide +kernel
theorem dX8_about_136 : decode cX8_about 136 = .ok (.getfield 138, 3) := by decide +kernel
theorem dX8_about_139 : decode cX8_about 139 = .ok (.ireturn, 1) := by decide +kernel
theorem dX8_about_140 : decode cX8_about 140 = .ok (.aload_n 0, 1) := by decide +kernel
theorem dX8_about_141 : decode cX8_about 141 = .ok (.getfield 10, 3) := by decide +kernel
theorem dX8_about_144 : decode cX8_about 144 = .ok (.getfield 76, 3) := by decide +kernel
theorem dX8_about_147 : decode cX8_about 147 = .ok (.ireturn, 1) := by decide +kernel
theorem dX8_about_148 : decode cX8_about 148 = .ok (.bipush (-2), 2) := by decide +kernel
theorem dX8_about_150 : decode cX8_about 150 = .ok (.ireturn, 1) := by decide +kernel
theorem dX8_guard_0 : decode cX8_guard 0 = .ok (.aload_n 0, 1) := by decide +kernel
theorem dX8_guard_1 : decode cX8_guard 1 = .ok (.getfield 28, 3) := by decide +kernel
theorem dX8_guard_4 : decode cX8_guard 4 = .ok (.iload_n 1, 1) := by decide +kernel
theorem dX8_guard_5 : decode cX8_guard 5 = .ok (.invokevirtual 141, 3) := by decide +kernel
theorem dX8_guard_8 : decode cX8_guard 8 = .ok (.ifCond .ne 5, 3) := by decide +kernel
theorem dX8_guard_11 : decode cX8_guard 11 = .ok (.iconst (-1), 1) := by decide +kernel
theorem dX8_guard_12 : decode cX8_guard 12 = .ok (.ireturn, 1) := by decide +kernel
theorem dX8_guard_13 : decode cX8_guard 13 = .ok (.iload_n 2, 1) := by decide +kernel
theorem dX8_guard_14 : decode cX8_guard 14 = .ok (.tableswitch 116 0 6 #[42, 52, 62, 72, 84, 96, 106], 42) := by decide +kernel
theorem dX8_guard_56 : decode cX8_guard 56 = .ok (.aload_n 0, 1) := by decide +kernel
theorem dX8_guard_57 : decode cX8_guard 57 = .ok (.getfield 37, 3) := by decide +kernel
theorem dX8_guard_60 : decode cX8_guard 60 = .ok (.getfield 145, 3) := by decide +kernel
theorem dX8_guard_63 : decode cX8_guard 63 = .ok (.iload_n 1, 1) := by decide +kernel
theorem dX8_guard_64 : decode cX8_guard 64 = .ok (.iaload, 1) := by decide +kernel
theorem dX8_guard_65 : decode cX8_guard 65 = .ok (.ireturn, 1) := by decide +kernel
theorem dX8_guard_66 : decode cX8_guard 66 = .ok (.aload_n 0, 1) := by decide +kernel
theorem dX8_guard_67 : decode cX8_guard 67 = .ok (.getfield 37, 3) := by decide +kernel
theorem dX8_guard_70 : decode cX8_guard 70 = .ok (.getfield 148, 3) := by decide +kernel
theorem dX8_guard_73 : decode cX8_guard 73 = .ok (.iload_n 1, 1) := by decide +kernel
theorem dX8_guard_74 : decode cX8_guard 74 = .ok (.iaload, 1) := by decide +kernel
theorem dX8_guard_75 : decode cX8_guard 75 = .ok (.ireturn, 1) := by decide +kernel
theorem dX8_guard_76 : decode cX8_guard 76 = .ok (.aload_n 0, 1) := by decide +kernel
theorem dX8_guard_77 : decode cX8_guard 77 = .ok (.getfield 37, 3) := by decide +kernel
theorem dX8_guard_80 : decode cX8_guard 80 = .ok (.getfield 151, 3) := by decide +kernel
theorem dX8_guard_83 : decode cX8_guard 83 = .ok (.iload_n 1, 1) := by decide +kernel
theorem dX8_guard_84 : decode cX8_guard 84 = .ok (.iaload, 1) := by decide +kernel
theorem dX8_guard_85 : decode cX8_guard 85 = .ok (.ireturn, 1) := by decide +kernel
theorem dX8_guard_86 : decode cX8_guard 86 = .ok (.aload_n 0, 1) := by decide +kernel
theorem dX8_guard_87 : decode cX8_guard 87 = .ok (.getfield 37, 3) := by decide +kernel
theorem dX8_guard_90 : decode cX8_guard 90 = .ok (.getfield 129, 3) := by decide +kernel
theorem dX8_guard_93 : decode cX8_guard 93 = .ok (.iload_n 1, 1) := by decide +kernel
theorem dX8_guard_94 : decode cX8_guard 94 = .ok (.ishr, 1) := by decide +kernel
theorem dX8_guard_95 : decode cX8_guard 95 = .ok (.iconst 1, 1) := by decide +kernel
theorem dX8_guard_96 : decode cX8_guard 96 = .ok (.iand, 1) := by decide +kernel
theorem dX8_guard_97 : decode cX8_guard 97 = .ok (.ireturn, 1) := by decide +kernel
theorem dX8_guard_98 : decode cX8_guard 98 = .ok (.aload_n 0, 1) := by decide +kernel
theorem dX8_guard_99 : decode cX8_guard 99 = .ok (.getfield 37, 3) := by decide +kernel
theorem dX8_guard_102 : decode cX8_guard 102 = .ok (.getfield 132, 3) := by decide +kernel
theorem dX8_guard_105 : decode cX8_guard 105 = .ok (.iload_n 1, 1) := by decide +kernel
theorem dX8_guard_106 : decode cX8_guard 106 = .ok (.ishr, 1) := by decide +kernel
theorem dX8_guard_107 : decode cX8_guard 107 = .ok (.iconst 1, 1) := by decide +kernel
theorem dX8_guard_108 : decode cX8_guard 108 = .ok (.iand, 1) := by decide +kernel
theorem dX8_guard_109 : decode cX8_guard 109 = .ok (.ireturn, 1) := by decide +kernel
theorem dX8_guard_110 : decode cX8_guard 110 = .ok (.aload_n 0, 1) := by decide +kernel
theorem dX8_guard_111 : decode cX8_guard 111 = .ok (.getfield 28, 3) := by decide +kernel
theorem dX8_guard_114 : decode cX8_guard 114 = .ok (.getfield 154, 3) := by decide +kernel
theorem dX8_guard_117 : decode cX8_guard 117 = .ok (.iload_n 1, 1) := by decide +kernel
theorem dX8_guard_118 : decode cX8_guard 118 = .ok (.iaload, 1) := by decide +kernel
theorem dX8_guard_119 : decode cX8_guard 119 = .ok (.ireturn, 1) := by decide +kernel
theorem dX8_guard_120 : decode cX8_guard 120 = .ok (.aload_n 0, 1) := by decide +kernel
theorem dX8_guard_121 : decode cX8_guard 121 = .ok (.getfield 37, 3) := by decide +kernel
theorem dX8_guard_124 : decode cX8_guard 124 = .ok (.getfield 157, 3) := by decide +kernel
theorem dX8_guard_127 : decode cX8_guard 127 = .ok (.iload_n 1, 1) := by decide +kernel
theorem dX8_guard_128 : decode cX8_guard 128 = .ok (.iaload, 1) := by decide +kernel
theorem dX8_guard_129 : decode cX8_guard 129 = .ok (.ireturn, 1) := by decide +kernel
theorem dX8_guard_130 : decode cX8_guard 130 = .ok (.bipush (-2), 2) := by decide +kernel
theorem dX8_guard_132 : decode cX8_guard 132 = .ok (.ireturn, 1) := by decide +kernel
theorem dX8_sick_0 : decode cX8_sick 0 = .ok (.aload_n 0, 1) := by decide +kernel
theorem dX8_sick_1 : decode cX8_sick 1 = .ok (.getfield 28, 3) := by decide +kernel
theorem dX8_sick_4 : decode cX8_sick 4 = .ok (.iload_n 1, 1) := by decide +kernel
theorem dX8_sick_5 : decode cX8_sick 5 = .ok (.invokevirtual 141, 3) := by decide +kernel
theorem dX8_sick_8 : decode cX8_sick 8 = .ok (.ifCond .ne 5, 3) := by decide +kernel
theorem dX8_sick_11 : decode cX8_sick 11 = .ok (.iconst (-1), 1) := by decide +kernel
theorem dX8_sick_12 : decode cX8_sick 12 = .ok (.ireturn, 1) := by decide +kernel
theorem dX8_sick_13 : decode cX8_sick 13 = .ok (.aload_n 0, 1) := by decide +kernel
theorem dX8_sick_14 : decode cX8_sick 14 = .ok (.getfield 37, 3) := by decide +kernel
theorem dX8_sick_17 : decode cX8_sick 17 = .ok (.getfield 132, 3) := by decide +kernel
theorem dX8_sick_20 : decode cX8_sick 20 = .ok (.istore_n 3, 1) := by decide +kernel
theorem dX8_sick_21 : decode cX8_sick 21 = .ok (.aload_n 0, 1) := by decide +kernel
theorem dX8_sick_22 : decode cX8_sick 22 = .ok (.getfield 37, 3) := by decide +kernel
theorem dX8_sick_25 : decode cX8_sick 25 = .ok (.iload_n 2, 1) := by decide +kernel
theorem dX8_sick_26 : decode cX8_sick 26 = .ok (.ifCond .eq 11, 3) := by decide +kernel
theorem dX8_sick_29 : decode cX8_sick 29 = .ok (.iload_n 3, 1) := by decide +kernel
theorem dX8_sick_30 : decode cX8_sick 30 = .ok (.iconst 1, 1) := by decide +kernel
theorem dX8_sick_31 : decode cX8_sick 31 = .ok (.iload_n 1, 1) := by decide +kernel
theorem dX8_sick_32 : decode cX8_sick 32 = .ok (.ishl, 1) := by decide +kernel
theorem dX8_sick_33 : decode cX8_sick 33 = .ok (.ior, 1) := by decide +kernel
theorem dX8_sick_34 : decode cX8_sick 34 = .ok (.goto 10, 3) := by decide +kernel
theorem dX8_sick_37 : decode cX8_sick 37 = .ok (.iload_n 3, 1) := by decide +kernel
theorem dX8_sick_38 : decode cX8_sick 38 = .ok (.iconst 1, 1) := by decide +kernel
theorem dX8_sick_39 : decode cX8_sick 39 = .ok (.iload_n 1, 1) := by decide +kernel
theorem dX8_sick_40 : decode cX8_sick 40 = .ok (.ishl, 1) := by decide +kernel
theorem dX8_sick_41 : decode cX8_sick 41 = .ok (.iconst (-1), 1) := by decide +kernel
theorem dX8_sick_42 : decode cX8_sick 42 = .ok (.ixor, 1) := by decide +kernel
theorem dX8_sick_43 : decode cX8_sick 43 = .ok (.iand, 1) := by decide +kernel
theorem dX8_sick_44 : decode cX8_sick 44 = .ok (.putfield 132, 3) := by decide +kernel
theorem dX8_sick_47 : decode cX8_sick 47 = .ok (.aload_n 0, 1) := by decide +kernel
theorem dX8_sick_48 : decode cX8_sick 48 = .ok (.getfield 37, 3) := by decide +kernel
theorem dX8_sick_51 : decode cX8_sick 51 = .ok (.getfield 132, 3) := by decide +kernel
theorem dX8_sick_54 : decode cX8_sick 54 = .ok (.iload_n 3, 1) := by decide +kernel
theorem dX8_sick_55 : decode cX8_sick 55 = .ok (.if_icmp .ne 7, 3) := by decide +kernel
theorem dX8_sick_58 : decode cX8_sick 58 = .ok (.iconst 0, 1) := by decide +kernel
theorem dX8_sick_59 : decode cX8_sick 59 = .ok (.goto 4, 3) := by decide +kernel
theorem dX8_sick_62 : decode cX8_sick 62 = .ok (.iconst 1, 1) := by decide +kernel
theorem dX8_sick_63 : decode cX8_sick 63 = .ok (.ireturn, 1) := by decide +kernel
theorem dX8_hand_0 : decode cX8_hand 0 = .ok (.aload_n 0, 1) := by decide +kernel
theorem dX8_hand_1 : decode cX8_hand 1 = .ok (.getfield 28, 3) := by decide +kernel
theorem dX8_hand_4 : decode cX8_hand 4 = .ok (.iload_n 1, 1) := by decide +kernel
theorem dX8_hand_5 : decode cX8_hand 5 = .ok (.invokevirtual 141, 3) := by decide +kernel
theorem dX8_hand_8 : decode cX8_hand 8 = .ok (.ifCond .eq 14, 3) := by decide +kernel
theorem dX8_hand_11 : decode cX8_hand 11 = .ok (.aload_n 0, 1) := by decide +kernel
theorem dX8_hand_12 : decode cX8_hand 12 = .ok (.getfield 28, 3) := by decide +kernel
theorem dX8_hand_15 : decode cX8_hand 15 = .ok (.iload_n 2, 1) := by decide +kernel
theorem dX8_hand_16 : decode cX8_hand 16 = .ok (.invokevirtual 141, 3) := by decide +kernel
theorem dX8_hand_19 : decode cX8_hand 19 = .ok (.ifCond .ne 5, 3) := by decide +kernel
theorem dX8_hand_22 : decode cX8_hand 22 = .ok (.iconst (-1), 1) := by decide +kernel
theorem dX8_hand_23 : decode cX8_hand 23 = .ok (.ireturn, 1) := by decide +kernel
theorem dX8_hand_24 : decode cX8_hand 24 = .ok (.iload_n 1, 1) := by decide +kernel
theorem dX8_hand_25 : decode cX8_hand 25 = .ok (.iload_n 2, 1) := by decide +kernel
theorem dX8_hand_26 : decode cX8_hand 26 = .ok (.if_icmp .eq 14, 3) := by decide +kernel
theorem dX8_hand_29 : decode cX8_hand 29 = .ok (.iload_n 3, 1) := by decide +kernel
theorem dX8_hand_30 : decode cX8_hand 30 = .ok (.iconst 1, 1) := by decide +kernel
theorem dX8_hand_31 : decode cX8_hand 31 = .ok (.if_icmp .lt 9, 3) := by decide +kernel
theorem dX8_hand_34 : decode cX8_hand 34 = .ok (.iload_n 3, 1) := by decide +kernel
theorem dX8_hand_35 : decode cX8_hand 35 = .ok (.bipush 9, 2) := by decide +kernel
theorem dX8_hand_37 : decode cX8_hand 37 = .ok (.if_icmp .le 6, 3) := by decide +kernel
theorem dX8_hand_40 : decode cX8_hand 40 = .ok (.bipush (-2), 2) := by decide +kernel
theorem dX8_hand_42 : decode cX8_hand 42 = .ok (.ireturn, 1) := by decide +kernel
theorem dX8_hand_43 : decode cX8_hand 43 = .ok (.aload_n 0, 1) := by decide +kernel
theorem dX8_hand_44 : decode cX8_hand 44 = .ok (.getfield 37, 3) := by decide +kernel
theorem dX8_hand_47 : decode cX8_hand 47 = .ok (.getfield 148, 3) := by decide +kernel
theorem dX8_hand_50 : decode cX8_hand 50 = .ok (.iload_n 1, 1) := by decide +kernel
theorem dX8_hand_51 : decode cX8_hand 51 = .ok (.iaload, 1) := by decide +kernel
theorem dX8_hand_52 : decode cX8_hand 52 = .ok (.iload_n 3, 1) := by decide +kernel
theorem dX8_hand_53 : decode cX8_hand 53 = .ok (.if_icmp .ge 6, 3) := by decide +kernel
theorem dX8_hand_56 : decode cX8_hand 56 = .ok (.bipush (-3), 2) := by decide +kernel
theorem dX8_hand_58 : decode cX8_hand 58 = .ok (.ireturn, 1) := by decide +kernel
theorem dX8_hand_59 : decode cX8_hand 59 = .ok (.aload_n 0, 1) := by decide +kernel
theorem dX8_hand_60 : decode cX8_hand 60 = .ok (.getfield 37, 3) := by decide +kernel
theorem dX8_hand_63 : decode cX8_hand 63 = .ok (.getfield 148, 3) := by decide +kernel
theorem dX8_hand_66 : decode cX8_hand 66 = .ok (.iload_n 2, 1) := by decide +kernel
theorem dX8_hand_67 : decode cX8_hand 67 = .ok (.iaload, 1) := by decide +kernel
theorem dX8_hand_68 : decode cX8_hand 68 = .ok (.iload_n 3, 1) := by decide +kernel
theorem dX8_hand_69 : decode cX8_hand 69 = .ok (.iadd, 1) := by decide +kernel
theorem dX8_hand_70 : decode cX8_hand 70 = .ok (.bipush 9, 2) := by decide +kernel
theorem dX8_hand_72 : decode cX8_hand 72 = .ok (.if_icmp .le 6, 3) := by decide +kernel
theorem dX8_hand_75 : decode cX8_hand 75 = .ok (.bipush (-4), 2) := by decide +kernel
theorem dX8_hand_77 : decode cX8_hand 77 = .ok (.ireturn, 1) := by decide +kernel
theorem dX8_hand_78 : decode cX8_hand 78 = .ok (.aload_n 0, 1) := by decide +kernel
theorem dX8_hand_79 : decode cX8_hand 79 = .ok (.getfield 37, 3) := by decide +kernel
theorem dX8_hand_82 : decode cX8_hand 82 = .ok (.getfield 148, 3) := by decide +kernel
theorem dX8_hand_85 : decode cX8_hand 85 = .ok (.iload_n 1, 1) := by decide +kernel
theorem dX8_hand_86 : decode cX8_hand 86 = .ok (.dup2, 1) := by decide +kernel
theorem dX8_hand_87 : decode cX8_hand 87 = .ok (.iaload, 1) := by decide +kernel
theorem dX8_hand_88 : decode cX8_hand 88 = .ok (.iload_n 3, 1) := by decide +kernel
theorem dX8_hand_89 : decode cX8_hand 89 = .ok (.isub, 1) := by decide +kernel
theorem dX8_hand_90 : decode cX8_hand 90 = .ok (.iastore, 1) := by decide +kernel
theorem dX8_hand_91 : decode cX8_hand 91 = .ok (.aload_n 0, 1) := by decide +kernel
theorem dX8_hand_92 : decode cX8_hand 92 = .ok (.getfield 37, 3) := by decide +kernel
theorem dX8_hand_95 : decode cX8_hand 95 = .ok (.getfield 148, 3) := by decide +kernel
theorem dX8_hand_98 : decode cX8_hand 98 = .ok (.iload_n 2, 1) := by decide +kernel
theorem dX8_hand_99 : decode cX8_hand 99 = .ok (.dup2, 1) := by decide +kernel
theorem dX8_hand_100 : decode cX8_hand 100 = .ok (.iaload, 1) := by decide +kernel
theorem dX8_hand_101 : decode cX8_hand 101 = .ok (.iload_n 3, 1) := by decide +kernel
theorem dX8_hand_102 : decode cX8_hand 102 = .ok (.iadd, 1) := by decide +kernel
theorem dX8_hand_103 : decode cX8_hand 103 = .ok (.iastore, 1) := by decide +kernel
theorem dX8_hand_104 : decode cX8_hand 104 = .ok (.aload_n 0, 1) := by decide +kernel
theorem dX8_hand_105 : decode cX8_hand 105 = .ok (.getfield 37, 3) := by decide +kernel
theorem dX8_hand_108 : decode cX8_hand 108 = .ok (.getfield 148, 3) := by decide +kernel
theorem dX8_hand_111 : decode cX8_hand 111 = .ok (.iload_n 2, 1) := by decide +kernel
theorem dX8_hand_112 : decode cX8_hand 112 = .ok (.iaload, 1) := by decide +kernel
theorem dX8_hand_113 : decode cX8_hand 113 = .ok (.ireturn, 1) := by decide +kernel
theorem dX8_pay_0 : decode cX8_pay 0 = .ok (.aload_n 0, 1) := by decide +kernel
theorem dX8_pay_1 : decode cX8_pay 1 = .ok (.getfield 28, 3) := by decide +kernel
theorem dX8_pay_4 : decode cX8_pay 4 = .ok (.iload_n 1, 1) := by decide +kernel
theorem dX8_pay_5 : decode cX8_pay 5 = .ok (.invokevirtual 141, 3) := by decide +kernel
theorem dX8_pay_8 : decode cX8_pay 8 = .ok (.ifCond .ne 5, 3) := by decide +kernel
theorem dX8_pay_11 : decode cX8_pay 11 = .ok (.iconst (-1), 1) := by decide +kernel
theorem dX8_pay_12 : decode cX8_pay 12 = .ok (.ireturn, 1) := by decide +kernel
theorem dX8_pay_13 : decode cX8_pay 13 = .ok (.iload_n 2, 1) := by decide +kernel
theorem dX8_pay_14 : decode cX8_pay 14 = .ok (.iconst 1, 1) := by decide +kernel
theorem dX8_pay_15 : decode cX8_pay 15 = .ok (.if_icmp .lt 9, 3) := by decide +kernel
theorem dX8_pay_18 : decode cX8_pay 18 = .ok (.iload_n 2, 1) := by decide +kernel
theorem dX8_pay_19 : decode cX8_pay 19 = .ok (.bipush 9, 2) := by decide +kernel
theorem dX8_pay_21 : decode cX8_pay 21 = .ok (.if_icmp .le 6, 3) := by decide +kernel
theorem dX8_pay_24 : decode cX8_pay 24 = .ok (.bipush (-2), 2) := by decide +kernel
theorem dX8_pay_26 : decode cX8_pay 26 = .ok (.ireturn, 1) := by decide +kernel
theorem dX8_pay_27 : decode cX8_pay 27 = .ok (.aload_n 0, 1) := by decide +kernel
theorem dX8_pay_28 : decode cX8_pay 28 = .ok (.getfield 37, 3) := by decide +kernel
theorem dX8_pay_31 : decode cX8_pay 31 = .ok (.getfield 148, 3) := by decide +kernel
theorem dX8_pay_34 : decode cX8_pay 34 = .ok (.iload_n 1, 1) := by decide +kernel
theorem dX8_pay_35 : decode cX8_pay 35 = .ok (.iaload, 1) := by decide +kernel
theorem dX8_pay_36 : decode cX8_pay 36 = .ok (.iload_n 2, 1) := by decide +kernel
theorem dX8_pay_37 : decode cX8_pay 37 = .ok (.if_icmp .lt 16, 3) := by decide +kernel
theorem dX8_pay_40 : decode cX8_pay 40 = .ok (.aload_n 0, 1) := by decide +kernel
theorem dX8_pay_41 : decode cX8_pay 41 = .ok (.getfield 37, 3) := by decide +kernel
theorem dX8_pay_44 : decode cX8_pay 44 = .ok (.getfield 151, 3) := by decide +kernel
theorem dX8_pay_47 : decode cX8_pay 47 = .ok (.iload_n 1, 1) := by decide +kernel
theorem dX8_pay_48 : decode cX8_pay 48 = .ok (.iaload, 1) := by decide +kernel
theorem dX8_pay_49 : decode cX8_pay 49 = .ok (.iload_n 2, 1) := by decide +kernel
theorem dX8_pay_50 : decode cX8_pay 50 = .ok (.if_icmp .ge 6, 3) := by decide +kernel
theorem dX8_pay_53 : decode cX8_pay 53 = .ok (.bipush (-3), 2) := by decide +kernel
theorem dX8_pay_55 : decode cX8_pay 55 = .ok (.ireturn, 1) := by decide +kernel
theorem dX8_pay_56 : decode cX8_pay 56 = .ok (.aload_n 0, 1) := by decide +kernel
theorem dX8_pay_57 : decode cX8_pay 57 = .ok (.getfield 37, 3) := by decide +kernel
theorem dX8_pay_60 : decode cX8_pay 60 = .ok (.getfield 148, 3) := by decide +kernel
theorem dX8_pay_63 : decode cX8_pay 63 = .ok (.iload_n 1, 1) := by decide +kernel
theorem dX8_pay_64 : decode cX8_pay 64 = .ok (.dup2, 1) := by decide +kernel
theorem dX8_pay_65 : decode cX8_pay 65 = .ok (.iaload, 1) := by decide +kernel
theorem dX8_pay_66 : decode cX8_pay 66 = .ok (.iload_n 2, 1) := by decide +kernel
theorem dX8_pay_67 : decode cX8_pay 67 = .ok (.isub, 1) := by decide +kernel
theorem dX8_pay_68 : decode cX8_pay 68 = .ok (.iastore, 1) := by decide +kernel
theorem dX8_pay_69 : decode cX8_pay 69 = .ok (.aload_n 0, 1) := by decide +kernel
theorem dX8_pay_70 : decode cX8_pay 70 = .ok (.getfield 37, 3) := by decide +kernel
theorem dX8_pay_73 : decode cX8_pay 73 = .ok (.getfield 151, 3) := by decide +kernel
theorem dX8_pay_76 : decode cX8_pay 76 = .ok (.iload_n 1, 1) := by decide +kernel
theorem dX8_pay_77 : decode cX8_pay 77 = .ok (.dup2, 1) := by decide +kernel
theorem dX8_pay_78 : decode cX8_pay 78 = .ok (.iaload, 1) := by decide +kernel
theorem dX8_pay_79 : decode cX8_pay 79 = .ok (.iload_n 2, 1) := by decide +kernel
theorem dX8_pay_80 : decode cX8_pay 80 = .ok (.isub, 1) := by decide +kernel
theorem dX8_pay_81 : decode cX8_pay 81 = .ok (.iastore, 1) := by decide +kernel
theorem dX8_pay_82 : decode cX8_pay 82 = .ok (.aload_n 0, 1) := by decide +kernel
theorem dX8_pay_83 : decode cX8_pay 83 = .ok (.getfield 37, 3) := by decide +kernel
theorem dX8_pay_86 : decode cX8_pay 86 = .ok (.getfield 151, 3) := by decide +kernel
theorem dX8_pay_89 : decode cX8_pay 89 = .ok (.iload_n 1, 1) := by decide +kernel
theorem dX8_pay_90 : decode cX8_pay 90 = .ok (.iaload, 1) := by decide +kernel
theorem dX8_pay_91 : decode cX8_pay 91 = .ok (.ireturn, 1) := by decide +kernel
theorem dX8_may_0 : decode cX8_may 0 = .ok (.aload_n 0, 1) := by decide +kernel
theorem dX8_may_1 : decode cX8_may 1 = .ok (.getfield 28, 3) := by decide +kernel
theorem dX8_may_4 : decode cX8_may 4 = .ok (.iload_n 1, 1) := by decide +kernel
theorem dX8_may_5 : decode cX8_may 5 = .ok (.invokevirtual 160, 3) := by decide +kernel
theorem dX8_may_8 : decode cX8_may 8 = .ok (.ifCond .ne 6, 3) := by decide +kernel
theorem dX8_may_11 : decode cX8_may 11 = .ok (.bipush (-2), 2) := by decide +kernel
theorem dX8_may_13 : decode cX8_may 13 = .ok (.ireturn, 1) := by decide +kernel
theorem dX8_may_14 : decode cX8_may 14 = .ok (.aload_n 0, 1) := by decide +kernel
theorem dX8_may_15 : decode cX8_may 15 = .ok (.getfield 37, 3) := by decide +kernel
theorem dX8_may_18 : decode cX8_may 18 = .ok (.iload_n 1, 1) := by decide +kernel
theorem dX8_may_19 : decode cX8_may 19 = .ok (.invokevirtual 163, 3) := by decide +kernel
theorem dX8_may_22 : decode cX8_may 22 = .ok (.ifCond .eq 7, 3) := by decide +kernel
theorem dX8_may_25 : decode cX8_may 25 = .ok (.iconst 1, 1) := by decide +kernel
theorem dX8_may_26 : decode cX8_may 26 = .ok (.goto 4, 3) := by decide +kernel
theorem dX8_may_29 : decode cX8_may 29 = .ok (.iconst 0, 1) := by decide +kernel
theorem dX8_may_30 : decode cX8_may 30 = .ok (.ireturn, 1) := by decide +kernel
theorem dX8_quarter_0 : decode cX8_quarter 0 = .ok (.aload_n 0, 1) := by decide +kernel
theorem dX8_quarter_1 : decode cX8_quarter 1 = .ok (.getfield 28, 3) := by decide +kernel
theorem dX8_quarter_4 : decode cX8_quarter 4 = .ok (.iload_n 1, 1) := by decide +kernel
theorem dX8_quarter_5 : decode cX8_quarter 5 = .ok (.invokevirtual 160, 3) := by decide +kernel
theorem dX8_quarter_8 : decode cX8_quarter 8 = .ok (.ifCond .ne 6, 3) := by decide +kernel
theorem dX8_quarter_11 : decode cX8_quarter 11 = .ok (.bipush (-2), 2) := by decide +kernel
theorem dX8_quarter_13 : decode cX8_quarter 13 = .ok (.ireturn, 1) := by decide +kernel
theorem dX8_quarter_14 : decode cX8_quarter 14 = .ok (.aload_n 0, 1) := by decide +kernel
theorem dX8_quarter_15 : decode cX8_quarter 15 = .ok (.getfield 37, 3) := by decide +kernel
theorem dX8_quarter_18 : decode cX8_quarter 18 = .ok (.iload_n 1, 1) := by decide +kernel
theorem dX8_quarter_19 : decode cX8_quarter 19 = .ok (.invokevirtual 163, 3) := by decide +kernel
theorem dX8_quarter_22 : decode cX8_quarter 22 = .ok (.ifCond .ne 6, 3) := by decide +kernel
theorem dX8_quarter_25 : decode cX8_quarter 25 = .ok (.bipush (-3), 2) := by decide +kernel
theorem dX8_quarter_27 : decode cX8_quarter 27 = .ok (.ireturn, 1) := by decide +kernel
theorem dX8_quarter_28 : decode cX8_quarter 28 = .ok (.aload_n 0, 1) := by decide +kernel
theorem dX8_quarter_29 : decode cX8_quarter 29 = .ok (.getfield 51, 3) := by decide +kernel
theorem dX8_quarter_32 : decode cX8_quarter 32 = .ok (.aload_n 0, 1) := by decide +kernel
theorem dX8_quarter_33 : decode cX8_quarter 33 = .ok (.getfield 37, 3) := by decide +kernel
theorem dX8_quarter_36 : decode cX8_quarter 36 = .ok (.invokevirtual 166, 3) := by decide +kernel
theorem dX8_quarter_39 : decode cX8_quarter 39 = .ok (.aload_n 0, 1) := by decide +kernel
theorem dX8_quarter_40 : decode cX8_quarter 40 = .ok (.getfield 37, 3) := by decide +kernel
theorem dX8_quarter_43 : decode cX8_quarter 43 = .ok (.iload_n 1, 1) := by decide +kernel
theorem dX8_quarter_44 : decode cX8_quarter 44 = .ok (.invokevirtual 169, 3) := by decide +kernel
theorem dX8_quarter_47 : decode cX8_quarter 47 = .ok (.ireturn, 1) := by decide +kernel
theorem dX8_drum_0 : decode cX8_drum 0 = .ok (.aload_n 0, 1) := by decide +kernel
theorem dX8_drum_1 : decode cX8_drum 1 = .ok (.getfield 51, 3) := by decide +kernel
theorem dX8_drum_4 : decode cX8_drum 4 = .ok (.aload_n 0, 1) := by decide +kernel
theorem dX8_drum_5 : decode cX8_drum 5 = .ok (.getfield 37, 3) := by decide +kernel
theorem dX8_drum_8 : decode cX8_drum 8 = .ok (.invokevirtual 166, 3) := by decide +kernel
theorem dX8_drum_11 : decode cX8_drum 11 = .ok (.aload_n 0, 1) := by decide +kernel
theorem dX8_drum_12 : decode cX8_drum 12 = .ok (.getfield 37, 3) := by decide +kernel
theorem dX8_drum_15 : decode cX8_drum 15 = .ok (.invokevirtual 173, 3) := by decide +kernel
theorem dX8_drum_18 : decode cX8_drum 18 = .ok (.ireturn, 1) := by decide +kernel
theorem dX8_undo_0 : decode cX8_undo 0 = .ok (.aload_n 0, 1) := by decide +kernel
theorem dX8_undo_1 : decode cX8_undo 1 = .ok (.getfield 51, 3) := by decide +kernel
theorem dX8_undo_4 : decode cX8_undo 4 = .ok (.getfield 104, 3) := by decide +kernel
theorem dX8_undo_7 : decode cX8_undo 7 = .ok (.ifCond .ne 6, 3) := by decide +kernel
theorem dX8_undo_10 : decode cX8_undo 10 = .ok (.bipush (-3), 2) := by decide +kernel
theorem dX8_undo_12 : decode cX8_undo 12 = .ok (.ireturn, 1) := by decide +kernel
theorem dX8_undo_13 : decode cX8_undo 13 = .ok (.aload_n 0, 1) := by decide +kernel
theorem dX8_undo_14 : decode cX8_undo 14 = .ok (.getfield 51, 3) := by decide +kernel
theorem dX8_undo_17 : decode cX8_undo 17 = .ok (.aload_n 0, 1) := by decide +kernel
theorem dX8_undo_18 : decode cX8_undo 18 = .ok (.getfield 37, 3) := by decide +kernel
theorem dX8_undo_21 : decode cX8_undo 21 = .ok (.invokevirtual 176, 3) := by decide +kernel
theorem dX8_undo_24 : decode cX8_undo 24 = .ok (.aload_n 0, 1) := by decide +kernel
theorem dX8_undo_25 : decode cX8_undo 25 = .ok (.getfield 51, 3) := by decide +kernel
theorem dX8_undo_28 : decode cX8_undo 28 = .ok (.getfield 104, 3) := by decide +kernel
theorem dX8_undo_31 : decode cX8_undo 31 = .ok (.ireturn, 1) := by decide +kernel
theorem dX8_rota_0 : decode cX8_rota 0 = .ok (.aload_n 0, 1) := by decide +kernel
theorem dX8_rota_1 : decode cX8_rota 1 = .ok (.iload_n 1, 1) := by decide +kernel
theorem dX8_rota_2 : decode cX8_rota 2 = .ok (.invokevirtual 179, 3) := by decide +kernel
theorem dX8_rota_5 : decode cX8_rota 5 = .ok (.istore_n 2, 1) := by decide +kernel
theorem dX8_rota_6 : decode cX8_rota 6 = .ok (.iload_n 2, 1) := by decide +kernel
theorem dX8_rota_7 : decode cX8_rota 7 = .ok (.ifCond .eq 5, 3) := by decide +kernel
theorem dX8_rota_10 : decode cX8_rota 10 = .ok (.iload_n 2, 1) := by decide +kernel
theorem dX8_rota_11 : decode cX8_rota 11 = .ok (.ireturn, 1) := by decide +kernel
theorem dX8_rota_12 : decode cX8_rota 12 = .ok (.aload_n 0, 1) := by decide +kernel
theorem dX8_rota_13 : decode cX8_rota 13 = .ok (.getfield 58, 3) := by decide +kernel
theorem dX8_rota_16 : decode cX8_rota 16 = .ok (.aload_n 0, 1) := by decide +kernel
theorem dX8_rota_17 : decode cX8_rota 17 = .ok (.getfield 37, 3) := by decide +kernel
theorem dX8_rota_20 : decode cX8_rota 20 = .ok (.iload_n 1, 1) := by decide +kernel
theorem dX8_rota_21 : decode cX8_rota 21 = .ok (.invokevirtual 182, 3) := by decide +kernel
theorem dX8_rota_24 : decode cX8_rota 24 = .ok (.aload_n 0, 1) := by decide +kernel
theorem dX8_rota_25 : decode cX8_rota 25 = .ok (.getfield 58, 3) := by decide +kernel
theorem dX8_rota_28 : decode cX8_rota 28 = .ok (.getfield 186, 3) := by decide +kernel
theorem dX8_rota_31 : decode cX8_rota 31 = .ok (.ifCond .eq 13, 3) := by decide +kernel
theorem dX8_rota_34 : decode cX8_rota 34 = .ok (.aload_n 0, 1) := by decide +kernel
theorem dX8_rota_35 : decode cX8_rota 35 = .ok (.getfield 58, 3) := by decide +kernel
theorem dX8_rota_38 : decode cX8_rota 38 = .ok (.getfield 189, 3) := by decide +kernel
theorem dX8_rota_41 : decode cX8_rota 41 = .ok (.goto 5, 3) := by decide +kernel
theorem dX8_rota_44 : decode cX8_rota 44 = .ok (.bipush (-9), 2) := by decide +kernel
theorem dX8_rota_46 : decode cX8_rota 46 = .ok (.ireturn, 1) := by decide +kernel
theorem dX8_rotaAt_0 : decode cX8_rotaAt 0 = .ok (.aload_n 0, 1) := by decide +kernel
theorem dX8_rotaAt_1 : decode cX8_rotaAt 1 = .ok (.iload_n 1, 1) := by decide +kernel
theorem dX8_rotaAt_2 : decode cX8_rotaAt 2 = .ok (.invokevirtual 179, 3) := by decide +kernel
theorem dX8_rotaAt_5 : decode cX8_rotaAt 5 = .ok (.istore_n 3, 1) := by decide +kernel
theorem dX8_rotaAt_6 : decode cX8_rotaAt 6 = .ok (.iload_n 3, 1) := by decide +kernel
theorem dX8_rotaAt_7 : decode cX8_rotaAt 7 = .ok (.ifCond .eq 5, 3) := by decide +kernel
theorem dX8_rotaAt_10 : decode cX8_rotaAt 10 = .ok (.iload_n 3, 1) := by decide +kernel
theorem dX8_rotaAt_11 : decode cX8_rotaAt 11 = .ok (.ireturn, 1) := by decide +kernel
theorem dX8_rotaAt_12 : decode cX8_rotaAt 12 = .ok (.iload_n 2, 1) := by decide +kernel
theorem dX8_rotaAt_13 : decode cX8_rotaAt 13 = .ok (.ifCond .lt 8, 3) := by decide +kernel
theorem dX8_rotaAt_16 : decode cX8_rotaAt 16 = .ok (.iload_n 2, 1) := by decide +kernel
theorem dX8_rotaAt_17 : decode cX8_rotaAt 17 = .ok (.iload_n 1, 1) := by decide +kernel
theorem dX8_rotaAt_18 : decode cX8_rotaAt 18 = .ok (.if_icmp .lt 6, 3) := by decide +kernel
theorem dX8_rotaAt_21 : decode cX8_rotaAt 21 = .ok (.bipush (-9), 2) := by decide +kernel
theorem dX8_rotaAt_23 : decode cX8_rotaAt 23 = .ok (.ireturn, 1) := by decide +kernel
theorem dX8_rotaAt_24 : decode cX8_rotaAt 24 = .ok (.aload_n 0, 1) := by decide +kernel
theorem dX8_rotaAt_25 : decode cX8_rotaAt 25 = .ok (.getfield 58, 3) := by decide +kernel
theorem dX8_rotaAt_28 : decode cX8_rotaAt 28 = .ok (.aload_n 0, 1) := by decide +kernel
theorem dX8_rotaAt_29 : decode cX8_rotaAt 29 = .ok (.getfield 37, 3) := by decide +kernel
theorem dX8_rotaAt_32 : decode cX8_rotaAt 32 = .ok (.iload_n 1, 1) := by decide +kernel
theorem dX8_rotaAt_33 : decode cX8_rotaAt 33 = .ok (.invokevirtual 182, 3) := by decide +kernel
theorem dX8_rotaAt_36 : decode cX8_rotaAt 36 = .ok (.aload_n 0, 1) := by decide +kernel
theorem dX8_rotaAt_37 : decode cX8_rotaAt 37 = .ok (.getfield 58, 3) := by decide +kernel
theorem dX8_rotaAt_40 : decode cX8_rotaAt 40 = .ok (.getfield 186, 3) := by decide +kernel
theorem dX8_rotaAt_43 : decode cX8_rotaAt 43 = .ok (.ifCond .eq 15, 3) := by decide +kernel
theorem dX8_rotaAt_46 : decode cX8_rotaAt 46 = .ok (.aload_n 0, 1) := by decide +kernel
theorem dX8_rotaAt_47 : decode cX8_rotaAt 47 = .ok (.getfield 58, 3) := by decide +kernel
theorem dX8_rotaAt_50 : decode cX8_rotaAt 50 = .ok (.getfield 192, 3) := by decide +kernel
theorem dX8_rotaAt_53 : decode cX8_rotaAt 53 = .ok (.iload_n 2, 1) := by decide +kernel
theorem dX8_rotaAt_54 : decode cX8_rotaAt 54 = .ok (.iaload, 1) := by decide +kernel
theorem dX8_rotaAt_55 : decode cX8_rotaAt 55 = .ok (.goto 5, 3) := by decide +kernel
theorem dX8_rotaAt_58 : decode cX8_rotaAt 58 = .ok (.bipush (-9), 2) := by decide +kernel
theorem dX8_rotaAt_60 : decode cX8_rotaAt 60 = .ok (.ireturn, 1) := by decide +kernel
theorem dX8_rotaRefusal_0 : decode cX8_rotaRefusal 0 = .ok (.iload_n 1, 1) := by decide +kernel
theorem dX8_rotaRefusal_1 : decode cX8_rotaRefusal 1 = .ok (.iconst 1, 1) := by decide +kernel
theorem dX8_rotaRefusal_2 : decode cX8_rotaRefusal 2 = .ok (.if_icmp .lt 8, 3) := by decide +kernel
theorem dX8_rotaRefusal_5 : decode cX8_rotaRefusal 5 = .ok (.iload_n 1, 1) := by decide +kernel
theorem dX8_rotaRefusal_6 : decode cX8_rotaRefusal 6 = .ok (.iconst 4, 1) := by decide +kernel
theorem dX8_rotaRefusal_7 : decode cX8_rotaRefusal 7 = .ok (.if_icmp .le 6, 3) := by decide +kernel
theorem dX8_rotaRefusal_10 : decode cX8_rotaRefusal 10 = .ok (.bipush (-2), 2) := by decide +kernel
theorem dX8_rotaRefusal_12 : decode cX8_rotaRefusal 12 = .ok (.ireturn, 1) := by decide +kernel
theorem dX8_rotaRefusal_13 : decode cX8_rotaRefusal 13 = .ok (.aload_n 0, 1) := by decide +kernel
theorem dX8_rotaRefusal_14 : decode cX8_rotaRefusal 14 = .ok (.getfield 28, 3) := by decide +kernel
theorem dX8_rotaRefusal_17 : decode cX8_rotaRefusal 17 = .ok (.getfield 114, 3) := by decide +kernel
theorem dX8_rotaRefusal_20 : decode cX8_rotaRefusal 20 = .ok (.iconst 4, 1) := by decide +kernel
theorem dX8_rotaRefusal_21 : decode cX8_rotaRefusal 21 = .ok (.if_icmp .le 8, 3) := by decide +kernel
theorem dX8_rotaRefusal_24 : decode cX8_rotaRefusal 24 = .ok (.bipush (-3), 2) := by decide +kernel
theorem dX8_rotaRefusal_26 : decode cX8_rotaRefusal 26 = .ok (.goto 4, 3) := by decide +kernel
theorem dX8_rotaRefusal_29 : decode cX8_rotaRefusal 29 = .ok (.iconst 0, 1) := by decide +kernel
theorem dX8_rotaRefusal_30 : decode cX8_rotaRefusal 30 = .ok (.ireturn, 1) := by decide +kernel
theorem dX8_allNod_0 : decode cX8_allNod 0 = .ok (.aload_n 0, 1) := by decide +kernel
theorem dX8_allNod_1 : decode cX8_allNod 1 = .ok (.getfield 28, 3) := by decide +kernel
theorem dX8_allNod_4 : decode cX8_allNod 4 = .ok (.invokevirtual 195, 3) := by decide +kernel
theorem dX8_allNod_7 : decode cX8_allNod 7 = .ok (.istore_n 1, 1) := by decide +kernel
theorem dX8_allNod_8 : decode cX8_allNod 8 = .ok (.aload_n 0, 1) := by decide +kernel
theorem dX8_allNod_9 : decode cX8_allNod 9 = .ok (.getfield 41, 3) := by decide +kernel
theorem dX8_allNod_12 : decode cX8_allNod 12 = .ok (.aload_n 0, 1) := by decide +kernel
theorem dX8_allNod_13 : decode cX8_allNod 13 = .ok (.getfield 37, 3) := by decide +kernel
theorem dX8_allNod_16 : decode cX8_allNod 16 = .ok (.invokevirtual 95, 3) := by decide +kernel
theorem dX8_allNod_19 : decode cX8_allNod 19 = .ok (.iconst 0, 1) := by decide +kernel
theorem dX8_allNod_20 : decode cX8_allNod 20 = .ok (.istore_n 2, 1) := by decide +kernel
theorem dX8_allNod_21 : decode cX8_allNod 21 = .ok (.iload_n 2, 1) := by decide +kernel
theorem dX8_allNod_22 : decode cX8_allNod 22 = .ok (.bipush 99, 2) := by decide +kernel
theorem dX8_allNod_24 : decode cX8_allNod 24 = .ok (.if_icmp .gt 31, 3) := by decide +kernel
theorem dX8_allNod_27 : decode cX8_allNod 27 = .ok (.aload_n 0, 1) := by decide +kernel
theorem dX8_allNod_28 : decode cX8_allNod 28 = .ok (.getfield 41, 3) := by decide +kernel
theorem dX8_allNod_31 : decode cX8_allNod 31 = .ok (.getfield 129, 3) := by decide +kernel
theorem dX8_allNod_34 : decode cX8_allNod 34 = .ok (.iload_n 1, 1) := by decide +kernel
theorem dX8_allNod_35 : decode cX8_allNod 35 = .ok (.if_icmp .ne 5, 3) := by decide +kernel
theorem dX8_allNod_38 : decode cX8_allNod 38 = .ok (.iload_n 2, 1) := by decide +kernel
theorem dX8_allNod_39 : decode cX8_allNod 39 = .ok (.ireturn, 1) := by decide +kernel
theorem dX8_allNod_40 : decode cX8_allNod 40 = .ok (.aload_n 0, 1) := by decide +kernel
theorem dX8_allNod_41 : decode cX8_allNod 41 = .ok (.getfield 41, 3) := by decide +kernel
theorem dX8_allNod_44 : decode cX8_allNod 44 = .ok (.iconst 0, 1) := by decide +kernel
theorem dX8_allNod_45 : decode cX8_allNod 45 = .ok (.invokevirtual 169, 3) := by decide +kernel
theorem dX8_allNod_48 : decode cX8_allNod 48 = .ok (.pop, 1) := by decide +kernel
theorem dX8_allNod_49 : decode cX8_allNod 49 = .ok (.iinc 2 1, 3) := by decide +kernel
theorem dX8_allNod_52 : decode cX8_allNod 52 = .ok (.goto (-31), 3) := by decide +kernel
theorem dX8_allNod_55 : decode cX8_allNod 55 = .ok (.bipush (-9), 2) := by decide +kernel
theorem dX8_allNod_57 : decode cX8_allNod 57 = .ok (.ireturn, 1) := by decide +kernel
theorem dX8_chance_0 : decode cX8_chance 0 = .ok (.iload_n 1, 1) := by decide +kernel
theorem dX8_chance_1 : decode cX8_chance 1 = .ok (.iconst 1, 1) := by decide +kernel
theorem dX8_chance_2 : decode cX8_chance 2 = .ok (.if_icmp .lt 18, 3) := by decide +kernel
theorem dX8_chance_5 : decode cX8_chance 5 = .ok (.iload_n 1, 1) := by decide +kernel
theorem dX8_chance_6 : decode cX8_chance 6 = .ok (.iconst 3, 1) := by decide +kernel
theorem dX8_chance_7 : decode cX8_chance 7 = .ok (.if_icmp .gt 13, 3) := by decide +kernel
theorem dX8_chance_10 : decode cX8_chance 10 = .ok (.iload_n 2, 1) := by decide +kernel
theorem dX8_chance_11 : decode cX8_chance 11 = .ok (.ifCond .lt 9, 3) := by decide +kernel
theorem dX8_chance_14 : decode cX8_chance 14 = .ok (.iload_n 2, 1) := by decide +kernel
theorem dX8_chance_15 : decode cX8_chance 15 = .ok (.bipush 10, 2) := by decide +kernel
theorem dX8_chance_17 : decode cX8_chance 17 = .ok (.if_icmp .le 7, 3) := by decide +kernel
theorem dX8_chance_20 : decode cX8_chance 20 = .ok (.ldc2_w 198, 3) := by decide +kernel
theorem dX8_chance_23 : decode cX8_chance 23 = .ok (.lreturn, 1) := by decide +kernel
theorem dX8_chance_24 : decode cX8_chance 24 = .ok (.lconst 1, 1) := by decide +kernel
theorem dX8_chance_25 : decode cX8_chance 25 = .ok (.lstore 4, 2) := by decide +kernel
theorem dX8_chance_27 : decode cX8_chance 27 = .ok (.lconst 1, 1) := by decide +kernel
theorem dX8_chance_28 : decode cX8_chance 28 = .ok (.lstore 6, 2) := by decide +kernel
theorem dX8_chance_30 : decode cX8_chance 30 = .ok (.iconst 0, 1) := by decide +kernel
theorem dX8_chance_31 : decode cX8_chance 31 = .ok (.istore 8, 2) := by decide +kernel
theorem dX8_chance_33 : decode cX8_chance 33 = .ok (.iload 8, 2) := by decide +kernel
theorem dX8_chance_35 : decode cX8_chance 35 = .ok (.aload_n 0, 1) := by decide +kernel
theorem dX8_chance_36 : decode cX8_chance 36 = .ok (.getfield 28, 3) := by decide +kernel
theorem dX8_chance_39 : decode cX8_chance 39 = .ok (.getfield 114, 3) := by decide +kernel
theorem dX8_chance_42 : decode cX8_chance 42 = .ok (.if_icmp .ge 61, 3) := by decide +kernel
theorem dX8_chance_45 : decode cX8_chance 45 = .ok (.lconst 1, 1) := by decide +kernel
theorem dX8_chance_46 : decode cX8_chance 46 = .ok (.lstore 9, 2) := by decide +kernel
theorem dX8_chance_48 : decode cX8_chance 48 = .ok (.iconst 0, 1) := by decide +kernel
theorem dX8_chance_49 : decode cX8_chance 49 = .ok (.istore 11, 2) := by decide +kernel
theorem dX8_chance_51 : decode cX8_chance 51 = .ok (.iload 11, 2) := by decide +kernel
theorem dX8_chance_53 : decode cX8_chance 53 = .ok (.iload_n 1, 1) := by decide +kernel
theorem dX8_chance_54 : decode cX8_chance 54 = .ok (.if_icmp .ge 17, 3) := by decide +kernel
theorem dX8_chance_57 : decode cX8_chance 57 = .ok (.lload 9, 2) := by decide +kernel
theorem dX8_chance_59 : decode cX8_chance 59 = .ok (.ldc2_w 200, 3) := by decide +kernel
theorem dX8_chance_62 : decode cX8_chance 62 = .ok (.lmul, 1) := by decide +kernel
theorem dX8_chance_63 : decode cX8_chance 63 = .ok (.lstore 9, 2) := by decide +kernel
theorem dX8_chance_65 : decode cX8_chance 65 = .ok (.iinc 11 1, 3) := by decide +kernel
theorem dX8_chance_68 : decode cX8_chance 68 = .ok (.goto (-17), 3) := by decide +kernel
theorem dX8_chance_71 : decode cX8_chance 71 = .ok (.lload 4, 2) := by decide +kernel
theorem dX8_chance_73 : decode cX8_chance 73 = .ok (.lload 9, 2) := by decide +kernel
theorem dX8_chance_75 : decode cX8_chance 75 = .ok (.aload_n 0, 1) := by decide +kernel
theorem dX8_chance_76 : decode cX8_chance 76 = .ok (.getfield 37, 3) := by decide +kernel
theorem dX8_chance_79 : decode cX8_chance 79 = .ok (.iload 8, 2) := by decide +kernel
theorem dX8_chance_81 : decode cX8_chance 81 = .ok (.iload_n 1, 1) := by decide +kernel
theorem dX8_chance_82 : decode cX8_chance 82 = .ok (.iload_n 2, 1) := by decide +kernel
theorem dX8_chance_83 : decode cX8_chance 83 = .ok (.invokevirtual 202, 3) := by decide +kernel
theorem dX8_chance_86 : decode cX8_chance 86 = .ok (.lsub, 1) := by decide +kernel
theorem dX8_chance_87 : decode cX8_chance 87 = .ok (.lmul, 1) := by decide +kernel
theorem dX8_chance_88 : decode cX8_chance 88 = .ok (.lstore 4, 2) := by decide +kernel
theorem dX8_chance_90 : decode cX8_chance 90 = .ok (.lload 6, 2) := by decide +kernel
theorem dX8_chance_92 : decode cX8_chance 92 = .ok (.lload 9, 2) := by decide +kernel
theorem dX8_chance_94 : decode cX8_chance 94 = .ok (.lmul, 1) := by decide +kernel
theorem dX8_chance_95 : decode cX8_chance 95 = .ok (.lstore 6, 2) := by decide +kernel
theorem dX8_chance_97 : decode cX8_chance 97 = .ok (.iinc 8 1, 3) := by decide +kernel
theorem dX8_chance_100 : decode cX8_chance 100 = .ok (.goto (-67), 3) := by decide +kernel
theorem dX8_chance_103 : decode cX8_chance 103 = .ok (.lload 4, 2) := by decide +kernel
theorem dX8_chance_105 : decode cX8_chance 105 = .ok (.lload 6, 2) := by decide +kernel
theorem dX8_chance_107 : decode cX8_chance 107 = .ok (.invokestatic 206, 3) := by decide +kernel
theorem dX8_chance_110 : decode cX8_chance 110 = .ok (.lstore 8, 2) := by decide +kernel
theorem dX8_chance_112 : decode cX8_chance 112 = .ok (.lload 8, 2) := by decide +kernel
theorem dX8_chance_114 : decode cX8_chance 114 = .ok (.lconst 0, 1) := by decide +kernel
theorem dX8_chance_115 : decode cX8_chance 115 = .ok (.lcmp, 1) := by decide +kernel
theorem dX8_chance_116 : decode cX8_chance 116 = .ok (.ifCond .ne 5, 3) := by decide +kernel
theorem dX8_chance_119 : decode cX8_chance 119 = .ok (.lconst 0, 1) := by decide +kernel
theorem dX8_chance_120 : decode cX8_chance 120 = .ok (.lreturn, 1) := by decide +kernel
theorem dX8_chance_121 : decode cX8_chance 121 = .ok (.iload_n 3, 1) := by decide +kernel
theorem dX8_chance_122 : decode cX8_chance 122 = .ok (.ifCond .eq 11, 3) := by decide +kernel
theorem dX8_chance_125 : decode cX8_chance 125 = .ok (.lload 4, 2) := by decide +kernel
theorem dX8_chance_127 : decode cX8_chance 127 = .ok (.lload 8, 2) := by decide +kernel
theorem dX8_chance_129 : decode cX8_chance 129 = .ok (.ldiv, 1) := by decide +kernel
theorem dX8_chance_130 : decode cX8_chance 130 = .ok (.goto 8, 3) := by decide +kernel
theorem dX8_chance_133 : decode cX8_chance 133 = .ok (.lload 6, 2) := by decide +kernel
theorem dX8_chance_135 : decode cX8_chance 135 = .ok (.lload 8, 2) := by decide +kernel
theorem dX8_chance_137 : decode cX8_chance 137 = .ok (.ldiv, 1) := by decide +kernel
theorem dX8_chance_138 : decode cX8_chance 138 = .ok (.lreturn, 1) := by decide +kernel
theorem dX8_greatestDivisor_0 : decode cX8_greatestDivisor 0 = .ok (.iconst 0, 1) := by decide +kernel
theorem dX8_greatestDivisor_1 : decode cX8_greatestDivisor 1 = .ok (.istore 4, 2) := by decide +kernel
theorem dX8_greatestDivisor_3 : decode cX8_greatestDivisor 3 = .ok (.iload 4, 2) := by decide +kernel
theorem dX8_greatestDivisor_5 : decode cX8_greatestDivisor 5 = .ok (.bipush 100, 2) := by decide +kernel
theorem dX8_greatestDivisor_7 : decode cX8_greatestDivisor 7 = .ok (.if_icmp .ge 25, 3) := by decide +kernel
theorem dX8_greatestDivisor_10 : decode cX8_greatestDivisor 10 = .ok (.lload_n 2, 1) := by decide +kernel
theorem dX8_greatestDivisor_11 : decode cX8_greatestDivisor 11 = .ok (.lconst 0, 1) := by decide +kernel
theorem dX8_greatestDivisor_12 : decode cX8_greatestDivisor 12 = .ok (.lcmp, 1) := by decide +kernel
theorem dX8_greatestDivisor_13 : decode cX8_greatestDivisor 13 = .ok (.ifCond .eq 19, 3) := by decide +kernel
theorem dX8_greatestDivisor_16 : decode cX8_greatestDivisor 16 = .ok (.lload_n 0, 1) := by decide +kernel
theorem dX8_greatestDivisor_17 : decode cX8_greatestDivisor 17 = .ok (.lload_n 2, 1) := by decide +kernel
theorem dX8_greatestDivisor_18 : decode cX8_greatestDivisor 18 = .ok (.lrem, 1) := by decide +kernel
theorem dX8_greatestDivisor_19 : decode cX8_greatestDivisor 19 = .ok (.lstore 5, 2) := by decide +kernel
theorem dX8_greatestDivisor_21 : decode cX8_greatestDivisor 21 = .ok (.lload_n 2, 1) := by decide +kernel
theorem dX8_greatestDivisor_22 : decode cX8_greatestDivisor 22 = .ok (.lstore_n 0, 1) := by decide +kernel
theorem dX8_greatestDivisor_23 : decode cX8_greatestDivisor 23 = .ok (.lload 5, 2) := by decide +kernel
theorem dX8_greatestDivisor_25 : decode cX8_greatestDivisor 25 = .ok (.lstore_n 2, 1) := by decide +kernel
theorem dX8_greatestDivisor_26 : decode cX8_greatestDivisor 26 = .ok (.iinc 4 1, 3) := by decide +kernel
theorem dX8_greatestDivisor_29 : decode cX8_greatestDivisor 29 = .ok (.goto (-26), 3) := by decide +kernel
theorem dX8_greatestDivisor_32 : decode cX8_greatestDivisor 32 = .ok (.lload_n 0, 1) := by decide +kernel
theorem dX8_greatestDivisor_33 : decode cX8_greatestDivisor 33 = .ok (.lreturn, 1) := by decide +kernel
theorem dX8_plan_0 : decode cX8_plan 0 = .ok (.iload_n 1, 1) := by decide +kernel
theorem dX8_plan_1 : decode cX8_plan 1 = .ok (.ifCond .lt 19, 3) := by decide +kernel
theorem dX8_plan_4 : decode cX8_plan 4 = .ok (.iload_n 1, 1) := by decide +kernel
theorem dX8_plan_5 : decode cX8_plan 5 = .ok (.iconst 4, 1) := by decide +kernel
theorem dX8_plan_6 : decode cX8_plan 6 = .ok (.if_icmp .ge 14, 3) := by decide +kernel
theorem dX8_plan_9 : decode cX8_plan 9 = .ok (.aload_n 0, 1) := by decide +kernel
theorem dX8_plan_10 : decode cX8_plan 10 = .ok (.getfield 28, 3) := by decide +kernel
theorem dX8_plan_13 : decode cX8_plan 13 = .ok (.iload_n 2, 1) := by decide +kernel
theorem dX8_plan_14 : decode cX8_plan 14 = .ok (.invokevirtual 160, 3) := by decide +kernel
theorem dX8_plan_17 : decode cX8_plan 17 = .ok (.ifCond .ne 6, 3) := by decide +kernel
theorem dX8_plan_20 : decode cX8_plan 20 = .ok (.bipush (-2), 2) := by decide +kernel
theorem dX8_plan_22 : decode cX8_plan 22 = .ok (.ireturn, 1) := by decide +kernel
theorem dX8_plan_23 : decode cX8_plan 23 = .ok (.aload_n 0, 1) := by decide +kernel
theorem dX8_plan_24 : decode cX8_plan 24 = .ok (.getfield 44, 3) := by decide +kernel
theorem dX8_plan_27 : decode cX8_plan 27 = .ok (.iload_n 1, 1) := by decide +kernel
theorem dX8_plan_28 : decode cX8_plan 28 = .ok (.iaload, 1) := by decide +kernel
theorem dX8_plan_29 : decode cX8_plan 29 = .ok (.istore_n 3, 1) := by decide +kernel
theorem dX8_plan_30 : decode cX8_plan 30 = .ok (.aload_n 0, 1) := by decide +kernel
theorem dX8_plan_31 : decode cX8_plan 31 = .ok (.getfield 44, 3) := by decide +kernel
theorem dX8_plan_34 : decode cX8_plan 34 = .ok (.iload_n 1, 1) := by decide +kernel
theorem dX8_plan_35 : decode cX8_plan 35 = .ok (.iload_n 2, 1) := by decide +kernel
theorem dX8_plan_36 : decode cX8_plan 36 = .ok (.iastore, 1) := by decide +kernel
theorem dX8_plan_37 : decode cX8_plan 37 = .ok (.iload_n 3, 1) := by decide +kernel
theorem dX8_plan_38 : decode cX8_plan 38 = .ok (.ireturn, 1) := by decide +kernel
theorem dX8_weakest_0 : decode cX8_weakest 0 = .ok (.bipush 6, 2) := by decide +kernel
theorem dX8_weakest_2 : decode cX8_weakest 2 = .ok (.istore_n 1, 1) := by decide +kernel
theorem dX8_weakest_3 : decode cX8_weakest 3 = .ok (.iconst 0, 1) := by decide +kernel
theorem dX8_weakest_4 : decode cX8_weakest 4 = .ok (.istore_n 2, 1) := by decide +kernel
theorem dX8_weakest_5 : decode cX8_weakest 5 = .ok (.aload_n 0, 1) := by decide +kernel
theorem dX8_weakest_6 : decode cX8_weakest 6 = .ok (.getfield 41, 3) := by decide +kernel
theorem dX8_weakest_9 : decode cX8_weakest 9 = .ok (.aload_n 0, 1) := by decide +kernel
theorem dX8_weakest_10 : decode cX8_weakest 10 = .ok (.getfield 37, 3) := by decide +kernel
theorem dX8_weakest_13 : decode cX8_weakest 13 = .ok (.invokevirtual 95, 3) := by decide +kernel
theorem dX8_weakest_16 : decode cX8_weakest 16 = .ok (.iconst 0, 1) := by decide +kernel
theorem dX8_weakest_17 : decode cX8_weakest 17 = .ok (.istore_n 3, 1) := by decide +kernel
theorem dX8_weakest_18 : decode cX8_weakest 18 = .ok (.iload_n 3, 1) := by decide +kernel
theorem dX8_weakest_19 : decode cX8_weakest 19 = .ok (.bipush 8, 2) := by decide +kernel
theorem dX8_weakest_21 : decode cX8_weakest 21 = .ok (.if_icmp .ge 60, 3) := by decide +kernel
theorem dX8_weakest_24 : decode cX8_weakest 24 = .ok (.aload_n 0, 1) := by decide +kernel
theorem dX8_weakest_25 : decode cX8_weakest 25 = .ok (.getfield 44, 3) := by decide +kernel
theorem dX8_weakest_28 : decode cX8_weakest 28 = .ok (.iload_n 3, 1) := by decide +kernel
theorem dX8_weakest_29 : decode cX8_weakest 29 = .ok (.iconst 4, 1) := by decide +kernel
theorem dX8_weakest_30 : decode cX8_weakest 30 = .ok (.irem, 1) := by decide +kernel
theorem dX8_weakest_31 : decode cX8_weakest 31 = .ok (.iaload, 1) := by decide +kernel
theorem dX8_weakest_32 : decode cX8_weakest 32 = .ok (.istore 4, 2) := by decide +kernel
theorem dX8_weakest_34 : decode cX8_weakest 34 = .ok (.aload_n 0, 1) := by decide +kernel
theorem dX8_weakest_35 : decode cX8_weakest 35 = .ok (.getfield 41, 3) := by decide +kernel
theorem dX8_weakest_38 : decode cX8_weakest 38 = .ok (.aload_n 0, 1) := by decide +kernel
theorem dX8_weakest_39 : decode cX8_weakest 39 = .ok (.getfield 41, 3) := by decide +kernel
theorem dX8_weakest_42 : decode cX8_weakest 42 = .ok (.iload 4, 2) := by decide +kernel
theorem dX8_weakest_44 : decode cX8_weakest 44 = .ok (.invokevirtual 163, 3) := by decide +kernel
theorem dX8_weakest_47 : decode cX8_weakest 47 = .ok (.ifCond .eq 8, 3) := by decide +kernel
theorem dX8_weakest_50 : decode cX8_weakest 50 = .ok (.iload 4, 2) := by decide +kernel
theorem dX8_weakest_52 : decode cX8_weakest 52 = .ok (.goto 4, 3) := by decide +kernel
theorem dX8_weakest_55 : decode cX8_weakest 55 = .ok (.iconst 0, 1) := by decide +kernel
theorem dX8_weakest_56 : decode cX8_weakest 56 = .ok (.invokevirtual 169, 3) := by decide +kernel
theorem dX8_weakest_59 : decode cX8_weakest 59 = .ok (.invokestatic 210, 3) := by decide +kernel
theorem dX8_weakest_62 : decode cX8_weakest 62 = .ok (.istore 5, 2) := by decide +kernel
theorem dX8_weakest_64 : decode cX8_weakest 64 = .ok (.iload 5, 2) := by decide +kernel
theorem dX8_weakest_66 : decode cX8_weakest 66 = .ok (.iload_n 1, 1) := by decide +kernel
theorem dX8_weakest_67 : decode cX8_weakest 67 = .ok (.if_icmp .ge 8, 3) := by decide +kernel
theorem dX8_weakest_70 : decode cX8_weakest 70 = .ok (.iload 5, 2) := by decide +kernel
theorem dX8_weakest_72 : decode cX8_weakest 72 = .ok (.istore_n 1, 1) := by decide +kernel
theorem dX8_weakest_73 : decode cX8_weakest 73 = .ok (.iload_n 3, 1) := by decide +kernel
theorem dX8_weakest_74 : decode cX8_weakest 74 = .ok (.istore_n 2, 1) := by decide +kernel
theorem dX8_weakest_75 : decode cX8_weakest 75 = .ok (.iinc 3 1, 3) := by decide +kernel
theorem dX8_weakest_78 : decode cX8_weakest 78 = .ok (.goto (-60), 3) := by decide +kernel
theorem dX8_weakest_81 : decode cX8_weakest 81 = .ok (.iload_n 2, 1) := by decide +kernel
theorem dX8_weakest_82 : decode cX8_weakest 82 = .ok (.ireturn, 1) := by decide +kernel
theorem dX8_settled_0 : decode cX8_settled 0 = .ok (.iconst 0, 1) := by decide +kernel
theorem dX8_settled_1 : decode cX8_settled 1 = .ok (.istore_n 2, 1) := by decide +kernel
theorem dX8_settled_2 : decode cX8_settled 2 = .ok (.iconst 0, 1) := by decide +kernel
theorem dX8_settled_3 : decode cX8_settled 3 = .ok (.istore_n 3, 1) := by decide +kernel
theorem dX8_settled_4 : decode cX8_settled 4 = .ok (.iconst 0, 1) := by decide +kernel
theorem dX8_settled_5 : decode cX8_settled 5 = .ok (.istore 4, 2) := by decide +kernel
theorem dX8_settled_7 : decode cX8_settled 7 = .ok (.iload 4, 2) := by decide +kernel
theorem dX8_settled_9 : decode cX8_settled 9 = .ok (.aload_n 0, 1) := by decide +kernel
theorem dX8_settled_10 : decode cX8_settled 10 = .ok (.getfield 28, 3) := by decide +kernel
theorem dX8_settled_13 : decode cX8_settled 13 = .ok (.getfield 114, 3) := by decide +kernel
theorem dX8_settled_16 : decode cX8_settled 16 = .ok (.if_icmp .ge 95, 3) := by decide +kernel
theorem dX8_settled_19 : decode cX8_settled 19 = .ok (.aload_n 0, 1) := by decide +kernel
theorem dX8_settled_20 : decode cX8_settled 20 = .ok (.getfield 37, 3) := by decide +kernel
theorem dX8_settled_23 : decode cX8_settled 23 = .ok (.getfield 151, 3) := by decide +kernel
theorem dX8_settled_26 : decode cX8_settled 26 = .ok (.iload 4, 2) := by decide +kernel
theorem dX8_settled_28 : decode cX8_settled 28 = .ok (.iaload, 1) := by decide +kernel
theorem dX8_settled_29 : decode cX8_settled 29 = .ok (.aload_n 0, 1) := by decide +kernel
theorem dX8_settled_30 : decode cX8_settled 30 = .ok (.getfield 37, 3) := by decide +kernel
theorem dX8_settled_33 : decode cX8_settled 33 = .ok (.getfield 148, 3) := by decide +kernel
theorem dX8_settled_36 : decode cX8_settled 36 = .ok (.iload 4, 2) := by decide +kernel
theorem dX8_settled_38 : decode cX8_settled 38 = .ok (.iaload, 1) := by decide +kernel
theorem dX8_settled_39 : decode cX8_settled 39 = .ok (.invokestatic 215, 3) := by decide +kernel
theorem dX8_settled_42 : decode cX8_settled 42 = .ok (.istore 5, 2) := by decide +kernel
theorem dX8_settled_44 : decode cX8_settled 44 = .ok (.aload_n 0, 1) := by decide +kernel
theorem dX8_settled_45 : decode cX8_settled 45 = .ok (.getfield 37, 3) := by decide +kernel
theorem dX8_settled_48 : decode cX8_settled 48 = .ok (.getfield 151, 3) := by decide +kernel
theorem dX8_settled_51 : decode cX8_settled 51 = .ok (.iload 4, 2) := by decide +kernel
theorem dX8_settled_53 : decode cX8_settled 53 = .ok (.iaload, 1) := by decide +kernel
theorem dX8_settled_54 : decode cX8_settled 54 = .ok (.iload 5, 2) := by decide +kernel
theorem dX8_settled_56 : decode cX8_settled 56 = .ok (.isub, 1) := by decide +kernel
theorem dX8_settled_57 : decode cX8_settled 57 = .ok (.istore 6, 2) := by decide +kernel
theorem dX8_settled_59 : decode cX8_settled 59 = .ok (.iload 6, 2) := by decide +kernel
theorem dX8_settled_61 : decode cX8_settled 61 = .ok (.aload_n 0, 1) := by decide +kernel
theorem dX8_settled_62 : decode cX8_settled 62 = .ok (.getfield 37, 3) := by decide +kernel
theorem dX8_settled_65 : decode cX8_settled 65 = .ok (.aload_n 0, 1) := by decide +kernel
theorem dX8_settled_66 : decode cX8_settled 66 = .ok (.getfield 28, 3) := by decide +kernel
theorem dX8_settled_69 : decode cX8_settled 69 = .ok (.getfield 154, 3) := by decide +kernel
theorem dX8_settled_72 : decode cX8_settled 72 = .ok (.iload 4, 2) := by decide +kernel
theorem dX8_settled_74 : decode cX8_settled 74 = .ok (.iaload, 1) := by decide +kernel
theorem dX8_settled_75 : decode cX8_settled 75 = .ok (.invokevirtual 221, 3) := by decide +kernel
theorem dX8_settled_78 : decode cX8_settled 78 = .ok (.invokestatic 215, 3) := by decide +kernel
theorem dX8_settled_81 : decode cX8_settled 81 = .ok (.istore 7, 2) := by decide +kernel
theorem dX8_settled_83 : decode cX8_settled 83 = .ok (.iload_n 2, 1) := by decide +kernel
theorem dX8_settled_84 : decode cX8_settled 84 = .ok (.iload 5, 2) := by decide +kernel
theorem dX8_settled_86 : decode cX8_settled 86 = .ok (.iload 7, 2) := by decide +kernel
theorem dX8_settled_88 : decode cX8_settled 88 = .ok (.iadd, 1) := by decide +kernel
theorem dX8_settled_89 : decode cX8_settled 89 = .ok (.iadd, 1) := by decide +kernel
theorem dX8_settled_90 : decode cX8_settled 90 = .ok (.istore_n 2, 1) := by decide +kernel
theorem dX8_settled_91 : decode cX8_settled 91 = .ok (.iload 7, 2) := by decide +kernel
theorem dX8_settled_93 : decode cX8_settled 93 = .ok (.iload 6, 2) := by decide +kernel
theorem dX8_settled_95 : decode cX8_settled 95 = .ok (.if_icmp .ge 10, 3) := by decide +kernel
theorem dX8_settled_98 : decode cX8_settled 98 = .ok (.iload_n 3, 1) := by decide +kernel
theorem dX8_settled_99 : decode cX8_settled 99 = .ok (.iconst 1, 1) := by decide +kernel
theorem dX8_settled_100 : decode cX8_settled 100 = .ok (.iload 4, 2) := by decide +kernel
theorem dX8_settled_102 : decode cX8_settled 102 = .ok (.ishl, 1) := by decide +kernel
theorem dX8_settled_103 : decode cX8_settled 103 = .ok (.ior, 1) := by decide +kernel
theorem dX8_settled_104 : decode cX8_settled 104 = .ok (.istore_n 3, 1) := by decide +kernel
theorem dX8_settled_105 : decode cX8_settled 105 = .ok (.iinc 4 1, 3) := by decide +kernel
theorem dX8_settled_108 : decode cX8_settled 108 = .ok (.goto (-101), 3) := by decide +kernel
theorem dX8_settled_111 : decode cX8_settled 111 = .ok (.iload_n 1, 1) := by decide +kernel
theorem dX8_settled_112 : decode cX8_settled 112 = .ok (.ifCond .eq 7, 3) := by decide +kernel
theorem dX8_settled_115 : decode cX8_settled 115 = .ok (.iload_n 3, 1) := by decide +kernel
theorem dX8_settled_116 : decode cX8_settled 116 = .ok (.goto 4, 3) := by decide +kernel
theorem dX8_settled_119 : decode cX8_settled 119 = .ok (.iload_n 2, 1) := by decide +kernel
theorem dX8_settled_120 : decode cX8_settled 120 = .ok (.ireturn, 1) := by decide +kernel
theorem dX8_use_0 : decode cX8_use 0 = .ok (.aload_n 0, 1) := by decide +kernel
theorem dX8_use_1 : decode cX8_use 1 = .ok (.getfield 28, 3) := by decide +kernel
theorem dX8_use_4 : decode cX8_use 4 = .ok (.iload_n 2, 1) := by decide +kernel
theorem dX8_use_5 : decode cX8_use 5 = .ok (.invokevirtual 141, 3) := by decide +kernel
theorem dX8_use_8 : decode cX8_use 8 = .ok (.ifCond .ne 5, 3) := by decide +kernel
theorem dX8_use_11 : decode cX8_use 11 = .ok (.iconst (-1), 1) := by decide +kernel
theorem dX8_use_12 : decode cX8_use 12 = .ok (.ireturn, 1) := by decide +kernel
theorem dX8_use_13 : decode cX8_use 13 = .ok (.iload_n 1, 1) := by decide +kernel
theorem dX8_use_14 : decode cX8_use 14 = .ok (.ifCond .lt 19, 3) := by decide +kernel
theorem dX8_use_17 : decode cX8_use 17 = .ok (.iload_n 1, 1) := by decide +kernel
theorem dX8_use_18 : decode cX8_use 18 = .ok (.bipush 99, 2) := by decide +kernel
theorem dX8_use_20 : decode cX8_use 20 = .ok (.if_icmp .gt 13, 3) := by decide +kernel
theorem dX8_use_23 : decode cX8_use 23 = .ok (.iload_n 3, 1) := by decide +kernel
theorem dX8_use_24 : decode cX8_use 24 = .ok (.ifCond .lt 9, 3) := by decide +kernel
theorem dX8_use_27 : decode cX8_use 27 = .ok (.iload_n 3, 1) := by decide +kernel
theorem dX8_use_28 : decode cX8_use 28 = .ok (.bipush 99, 2) := by decide +kernel
theorem dX8_use_30 : decode cX8_use 30 = .ok (.if_icmp .le 6, 3) := by decide +kernel
theorem dX8_use_33 : decode cX8_use 33 = .ok (.bipush (-2), 2) := by decide +kernel
theorem dX8_use_35 : decode cX8_use 35 = .ok (.ireturn, 1) := by decide +kernel
theorem dX8_use_36 : decode cX8_use 36 = .ok (.aload_n 0, 1) := by decide +kernel
theorem dX8_use_37 : decode cX8_use 37 = .ok (.getfield 65, 3) := by decide +kernel
theorem dX8_use_40 : decode cX8_use 40 = .ok (.getfield 138, 3) := by decide +kernel
theorem dX8_use_43 : decode cX8_use 43 = .ok (.bipush 12, 2) := by decide +kernel
theorem dX8_use_45 : decode cX8_use 45 = .ok (.if_icmp .lt 6, 3) := by decide +kernel
theorem dX8_use_48 : decode cX8_use 48 = .ok (.bipush (-4), 2) := by decide +kernel
theorem dX8_use_50 : decode cX8_use 50 = .ok (.ireturn, 1) := by decide +kernel
theorem dX8_use_51 : decode cX8_use 51 = .ok (.aload_n 0, 1) := by decide +kernel
theorem dX8_use_52 : decode cX8_use 52 = .ok (.getfield 65, 3) := by decide +kernel
theorem dX8_use_55 : decode cX8_use 55 = .ok (.iload_n 1, 1) := by decide +kernel
theorem dX8_use_56 : decode cX8_use 56 = .ok (.iload_n 2, 1) := by decide +kernel
theorem dX8_use_57 : decode cX8_use 57 = .ok (.iload_n 3, 1) := by decide +kernel
theorem dX8_use_58 : decode cX8_use 58 = .ok (.invokevirtual 224, 3) := by decide +kernel
theorem dX8_use_61 : decode cX8_use 61 = .ok (.aload_n 0, 1) := by decide +kernel
theorem dX8_use_62 : decode cX8_use 62 = .ok (.getfield 65, 3) := by decide +kernel
theorem dX8_use_65 : decode cX8_use 65 = .ok (.getfield 138, 3) := by decide +kernel
theorem dX8_use_68 : decode cX8_use 68 = .ok (.ireturn, 1) := by decide +kernel
theorem dX8_burn_0 : decode cX8_burn 0 = .ok (.aload_n 0, 1) := by decide +kernel
theorem dX8_burn_1 : decode cX8_burn 1 = .ok (.getfield 65, 3) := by decide +kernel
theorem dX8_burn_4 : decode cX8_burn 4 = .ok (.getfield 138, 3) := by decide +kernel
theorem dX8_burn_7 : decode cX8_burn 7 = .ok (.istore_n 1, 1) := by decide +kernel
theorem dX8_burn_8 : decode cX8_burn 8 = .ok (.aload_n 0, 1) := by decide +kernel
theorem dX8_burn_9 : decode cX8_burn 9 = .ok (.getfield 65, 3) := by decide +kernel
theorem dX8_burn_12 : decode cX8_burn 12 = .ok (.iconst 0, 1) := by decide +kernel
theorem dX8_burn_13 : decode cX8_burn 13 = .ok (.putfield 138, 3) := by decide +kernel
theorem dX8_burn_16 : decode cX8_burn 16 = .ok (.iload_n 1, 1) := by decide +kernel
theorem dX8_burn_17 : decode cX8_burn 17 = .ok (.ireturn, 1) := by decide +kernel
theorem dX8_forged_0 : decode cX8_forged 0 = .ok (.iconst 0, 1) := by decide +kernel
theorem dX8_forged_1 : decode cX8_forged 1 = .ok (.istore_n 1, 1) := by decide +kernel
theorem dX8_forged_2 : decode cX8_forged 2 = .ok (.iconst 0, 1) := by decide +kernel
theorem dX8_forged_3 : decode cX8_forged 3 = .ok (.istore_n 2, 1) := by decide +kernel
theorem dX8_forged_4 : decode cX8_forged 4 = .ok (.iload_n 2, 1) := by decide +kernel
theorem dX8_forged_5 : decode cX8_forged 5 = .ok (.bipush 99, 2) := by decide +kernel
theorem dX8_forged_7 : decode cX8_forged 7 = .ok (.if_icmp .gt 27, 3) := by decide +kernel
theorem dX8_forged_10 : decode cX8_forged 10 = .ok (.aload_n 0, 1) := by decide +kernel
theorem dX8_forged_11 : decode cX8_forged 11 = .ok (.getfield 65, 3) := by decide +kernel
theorem dX8_forged_14 : decode cX8_forged 14 = .ok (.iload_n 2, 1) := by decide +kernel
theorem dX8_forged_15 : decode cX8_forged 15 = .ok (.aload_n 0, 1) := by decide +kernel
theorem dX8_forged_16 : decode cX8_forged 16 = .ok (.getfield 28, 3) := by decide +kernel
theorem dX8_forged_19 : decode cX8_forged 19 = .ok (.invokevirtual 228, 3) := by decide +kernel
theorem dX8_forged_22 : decode cX8_forged 22 = .ok (.ifCond .eq 6, 3) := by decide +kernel
theorem dX8_forged_25 : decode cX8_forged 25 = .ok (.iinc 1 1, 3) := by decide +kernel
theorem dX8_forged_28 : decode cX8_forged 28 = .ok (.iinc 2 1, 3) := by decide +kernel
theorem dX8_forged_31 : decode cX8_forged 31 = .ok (.goto (-27), 3) := by decide +kernel
theorem dX8_forged_34 : decode cX8_forged 34 = .ok (.iload_n 1, 1) := by decide +kernel
theorem dX8_forged_35 : decode cX8_forged 35 = .ok (.ireturn, 1) := by decide +kernel
theorem dX8_forgedAt_0 : decode cX8_forgedAt 0 = .ok (.iconst 0, 1) := by decide +kernel
theorem dX8_forgedAt_1 : decode cX8_forgedAt 1 = .ok (.istore_n 2, 1) := by decide +kernel
theorem dX8_forgedAt_2 : decode cX8_forgedAt 2 = .ok (.iconst 0, 1) := by decide +kernel
theorem dX8_forgedAt_3 : decode cX8_forgedAt 3 = .ok (.istore_n 3, 1) := by decide +kernel
theorem dX8_forgedAt_4 : decode cX8_forgedAt 4 = .ok (.iload_n 3, 1) := by decide +kernel
theorem dX8_forgedAt_5 : decode cX8_forgedAt 5 = .ok (.bipush 99, 2) := by decide +kernel
theorem dX8_forgedAt_7 : decode cX8_forgedAt 7 = .ok (.if_icmp .gt 34, 3) := by decide +kernel
theorem dX8_forgedAt_10 : decode cX8_forgedAt 10 = .ok (.aload_n 0, 1) := by decide +kernel
theorem dX8_forgedAt_11 : decode cX8_forgedAt 11 = .ok (.getfield 65, 3) := by decide +kernel
theorem dX8_forgedAt_14 : decode cX8_forgedAt 14 = .ok (.iload_n 3, 1) := by decide +kernel
theorem dX8_forgedAt_15 : decode cX8_forgedAt 15 = .ok (.aload_n 0, 1) := by decide +kernel
theorem dX8_forgedAt_16 : decode cX8_forgedAt 16 = .ok (.getfield 28, 3) := by decide +kernel
theorem dX8_forgedAt_19 : decode cX8_forgedAt 19 = .ok (.invokevirtual 228, 3) := by decide +kernel
theorem dX8_forgedAt_22 : decode cX8_forgedAt 22 = .ok (.ifCond .eq 13, 3) := by decide +kernel
theorem dX8_forgedAt_25 : decode cX8_forgedAt 25 = .ok (.iload_n 2, 1) := by decide +kernel
theorem dX8_forgedAt_26 : decode cX8_forgedAt 26 = .ok (.iload_n 1, 1) := by decide +kernel
theorem dX8_forgedAt_27 : decode cX8_forgedAt 27 = .ok (.if_icmp .ne 5, 3) := by decide +kernel
theorem dX8_forgedAt_30 : decode cX8_forgedAt 30 = .ok (.iload_n 3, 1) := by decide +kernel
theorem dX8_forgedAt_31 : decode cX8_forgedAt 31 = .ok (.ireturn, 1) := by decide +kernel
theorem dX8_forgedAt_32 : decode cX8_forgedAt 32 = .ok (.iinc 2 1, 3) := by decide +kernel
theorem dX8_forgedAt_35 : decode cX8_forgedAt 35 = .ok (.iinc 3 1, 3) := by decide +kernel
theorem dX8_forgedAt_38 : decode cX8_forgedAt 38 = .ok (.goto (-34), 3) := by decide +kernel
theorem dX8_forgedAt_41 : decode cX8_forgedAt 41 = .ok (.bipush (-9), 2) := by decide +kernel
theorem dX8_forgedAt_43 : decode cX8_forgedAt 43 = .ok (.ireturn, 1) := by decide +kernel
theorem dX8_forgers_0 : decode cX8_forgers 0 = .ok (.iconst 0, 1) := by decide +kernel
theorem dX8_forgers_1 : decode cX8_forgers 1 = .ok (.istore_n 1, 1) := by decide +kernel
theorem dX8_forgers_2 : decode cX8_forgers 2 = .ok (.iconst 0, 1) := by decide +kernel
theorem dX8_forgers_3 : decode cX8_forgers 3 = .ok (.istore_n 2, 1) := by decide +kernel
theorem dX8_forgers_4 : decode cX8_forgers 4 = .ok (.iload_n 2, 1) := by decide +kernel
theorem dX8_forgers_5 : decode cX8_forgers 5 = .ok (.aload_n 0, 1) := by decide +kernel
theorem dX8_forgers_6 : decode cX8_forgers 6 = .ok (.getfield 65, 3) := by decide +kernel
theorem dX8_forgers_9 : decode cX8_forgers 9 = .ok (.getfield 138, 3) := by decide +kernel
theorem dX8_forgers_12 : decode cX8_forgers 12 = .ok (.if_icmp .ge 46, 3) := by decide +kernel
theorem dX8_forgers_15 : decode cX8_forgers 15 = .ok (.aload_n 0, 1) := by decide +kernel
theorem dX8_forgers_16 : decode cX8_forgers 16 = .ok (.getfield 65, 3) := by decide +kernel
theorem dX8_forgers_19 : decode cX8_forgers 19 = .ok (.aload_n 0, 1) := by decide +kernel
theorem dX8_forgers_20 : decode cX8_forgers 20 = .ok (.getfield 65, 3) := by decide +kernel
theorem dX8_forgers_23 : decode cX8_forgers 23 = .ok (.getfield 232, 3) := by decide +kernel
theorem dX8_forgers_26 : decode cX8_forgers 26 = .ok (.iload_n 2, 1) := by decide +kernel
theorem dX8_forgers_27 : decode cX8_forgers 27 = .ok (.iaload, 1) := by decide +kernel
theorem dX8_forgers_28 : decode cX8_forgers 28 = .ok (.aload_n 0, 1) := by decide +kernel
theorem dX8_forgers_29 : decode cX8_forgers 29 = .ok (.getfield 28, 3) := by decide +kernel
theorem dX8_forgers_32 : decode cX8_forgers 32 = .ok (.invokevirtual 228, 3) := by decide +kernel
theorem dX8_forgers_35 : decode cX8_forgers 35 = .ok (.ifCond .eq 17, 3) := by decide +kernel
theorem dX8_forgers_38 : decode cX8_forgers 38 = .ok (.iload_n 1, 1) := by decide +kernel
theorem dX8_forgers_39 : decode cX8_forgers 39 = .ok (.iconst 1, 1) := by decide +kernel
theorem dX8_forgers_40 : decode cX8_forgers 40 = .ok (.aload_n 0, 1) := by decide +kernel
theorem dX8_forgers_41 : decode cX8_forgers 41 = .ok (.getfield 65, 3) := by decide +kernel
theorem dX8_forgers_44 : decode cX8_forgers 44 = .ok (.getfield 235, 3) := by decide +kernel
theorem dX8_forgers_47 : decode cX8_forgers 47 = .ok (.iload_n 2, 1) := by decide +kernel
theorem dX8_forgers_48 : decode cX8_forgers 48 = .ok (.iaload, 1) := by decide +kernel
theorem dX8_forgers_49 : decode cX8_forgers 49 = .ok (.ishl, 1) := by decide +kernel
theorem dX8_forgers_50 : decode cX8_forgers 50 = .ok (.ior, 1) := by decide +kernel
theorem dX8_forgers_51 : decode cX8_forgers 51 = .ok (.istore_n 1, 1) := by decide +kernel
theorem dX8_forgers_52 : decode cX8_forgers 52 = .ok (.iinc 2 1, 3) := by decide +kernel
theorem dX8_forgers_55 : decode cX8_forgers 55 = .ok (.goto (-51), 3) := by decide +kernel
theorem dX8_forgers_58 : decode cX8_forgers 58 = .ok (.iload_n 1, 1) := by decide +kernel
theorem dX8_forgers_59 : decode cX8_forgers 59 = .ok (.aload_n 0, 1) := by decide +kernel
theorem dX8_forgers_60 : decode cX8_forgers 60 = .ok (.getfield 28, 3) := by decide +kernel
theorem dX8_forgers_63 : decode cX8_forgers 63 = .ok (.invokevirtual 195, 3) := by decide +kernel
theorem dX8_forgers_66 : decode cX8_forgers 66 = .ok (.iand, 1) := by decide +kernel
theorem dX8_forgers_67 : decode cX8_forgers 67 = .ok (.ireturn, 1) := by decide +kernel
theorem dX8_keep_0 : decode cX8_keep 0 = .ok (.iload_n 1, 1) := by decide +kernel
theorem dX8_keep_1 : decode cX8_keep 1 = .ok (.ifCond .lt 8, 3) := by decide +kernel
theorem dX8_keep_4 : decode cX8_keep 4 = .ok (.iload_n 1, 1) := by decide +kernel
theorem dX8_keep_5 : decode cX8_keep 5 = .ok (.iconst 2, 1) := by decide +kernel
theorem dX8_keep_6 : decode cX8_keep 6 = .ok (.if_icmp .lt 5, 3) := by decide +kernel
theorem dX8_keep_9 : decode cX8_keep 9 = .ok (.iconst (-1), 1) := by decide +kernel
theorem dX8_keep_10 : decode cX8_keep 10 = .ok (.ireturn, 1) := by decide +kernel
theorem dX8_keep_11 : decode cX8_keep 11 = .ok (.aload_n 0, 1) := by decide +kernel
theorem dX8_keep_12 : decode cX8_keep 12 = .ok (.getfield 71, 3) := by decide +kernel
theorem dX8_keep_15 : decode cX8_keep 15 = .ok (.iload_n 1, 1) := by decide +kernel
theorem dX8_keep_16 : decode cX8_keep 16 = .ok (.aaload, 1) := by decide +kernel
theorem dX8_keep_17 : decode cX8_keep 17 = .ok (.aload_n 0, 1) := by decide +kernel
theorem dX8_keep_18 : decode cX8_keep 18 = .ok (.getfield 37, 3) := by decide +kernel
theorem dX8_keep_21 : decode cX8_keep 21 = .ok (.aload_n 0, 1) := by decide +kernel
theorem dX8_keep_22 : decode cX8_keep 22 = .ok (.getfield 44, 3) := by decide +kernel
theorem dX8_keep_25 : decode cX8_keep 25 = .ok (.invokevirtual 238, 3) := by decide +kernel
theorem dX8_keep_28 : decode cX8_keep 28 = .ok (.aload_n 0, 1) := by decide +kernel
theorem dX8_keep_29 : decode cX8_keep 29 = .ok (.getfield 37, 3) := by decide +kernel
theorem dX8_keep_32 : decode cX8_keep 32 = .ok (.getfield 123, 3) := by decide +kernel
theorem dX8_keep_35 : decode cX8_keep 35 = .ok (.ireturn, 1) := by decide +kernel
theorem dX8_again_0 : decode cX8_again 0 = .ok (.iload_n 1, 1) := by decide +kernel
theorem dX8_again_1 : decode cX8_again 1 = .ok (.ifCond .lt 8, 3) := by decide +kernel
theorem dX8_again_4 : decode cX8_again 4 = .ok (.iload_n 1, 1) := by decide +kernel
theorem dX8_again_5 : decode cX8_again 5 = .ok (.iconst 2, 1) := by decide +kernel
theorem dX8_again_6 : decode cX8_again 6 = .ok (.if_icmp .lt 5, 3) := by decide +kernel
theorem dX8_again_9 : decode cX8_again 9 = .ok (.iconst (-1), 1) := by decide +kernel
theorem dX8_again_10 : decode cX8_again 10 = .ok (.ireturn, 1) := by decide +kernel
theorem dX8_again_11 : decode cX8_again 11 = .ok (.aload_n 0, 1) := by decide +kernel
theorem dX8_again_12 : decode cX8_again 12 = .ok (.getfield 71, 3) := by decide +kernel
theorem dX8_again_15 : decode cX8_again 15 = .ok (.iload_n 1, 1) := by decide +kernel
theorem dX8_again_16 : decode cX8_again 16 = .ok (.aaload, 1) := by decide +kernel
theorem dX8_again_17 : decode cX8_again 17 = .ok (.getfield 110, 3) := by decide +kernel
theorem dX8_again_20 : decode cX8_again 20 = .ok (.ifCond .ne 6, 3) := by decide +kernel
theorem dX8_again_23 : decode cX8_again 23 = .ok (.bipush (-3), 2) := by decide +kernel
theorem dX8_again_25 : decode cX8_again 25 = .ok (.ireturn, 1) := by decide +kernel
theorem dX8_again_26 : decode cX8_again 26 = .ok (.aload_n 0, 1) := by decide +kernel
theorem dX8_again_27 : decode cX8_again 27 = .ok (.getfield 71, 3) := by decide +kernel
theorem dX8_again_30 : decode cX8_again 30 = .ok (.iload_n 1, 1) := by decide +kernel
theorem dX8_again_31 : decode cX8_again 31 = .ok (.aaload, 1) := by decide +kernel
theorem dX8_again_32 : decode cX8_again 32 = .ok (.aload_n 0, 1) := by decide +kernel
theorem dX8_again_33 : decode cX8_again 33 = .ok (.getfield 37, 3) := by decide +kernel
theorem dX8_again_36 : decode cX8_again 36 = .ok (.aload_n 0, 1) := by decide +kernel
theorem dX8_again_37 : decode cX8_again 37 = .ok (.getfield 44, 3) := by decide +kernel
theorem dX8_again_40 : decode cX8_again 40 = .ok (.invokevirtual 242, 3) := by decide +kernel
theorem dX8_again_43 : decode cX8_again 43 = .ok (.aload_n 0, 1) := by decide +kernel
theorem dX8_again_44 : decode cX8_again 44 = .ok (.getfield 51, 3) := by decide +kernel
theorem dX8_again_47 : decode cX8_again 47 = .ok (.iconst 0, 1) := by decide +kernel
theorem dX8_again_48 : decode cX8_again 48 = .ok (.putfield 104, 3) := by decide +kernel
theorem dX8_again_51 : decode cX8_again 51 = .ok (.aload_n 0, 1) := by decide +kernel
theorem dX8_again_52 : decode cX8_again 52 = .ok (.getfield 37, 3) := by decide +kernel
theorem dX8_again_55 : decode cX8_again 55 = .ok (.getfield 123, 3) := by decide +kernel
theorem dX8_again_58 : decode cX8_again 58 = .ok (.ireturn, 1) := by decide +kernel
theorem dX9_init_0 : decode cX9_init 0 = .ok (.aload_n 0, 1) := by decide +kernel
theorem dX9_init_1 : decode cX9_init 1 = .ok (.invokespecial 1, 3) := by decide +kernel
theorem dX9_init_4 : decode cX9_init 4 = .ok (.aload_n 0, 1) := by decide +kernel
theorem dX9_init_5 : decode cX9_init 5 = .ok (.bipush 48, 2) := by decide +kernel
theorem dX9_init_7 : decode cX9_init 7 = .ok (.newarray .int, 2) := by decide +kernel
theorem dX9_init_9 : decode cX9_init 9 = .ok (.putfield 7, 3) := by decide +kernel
theorem dX9_init_12 : decode cX9_init 12 = .ok (.aload_n 0, 1) := by decide +kernel
theorem dX9_init_13 : decode cX9_init 13 = .ok (.iconst 1, 1) := by decide +kernel
theorem dX9_init_14 : decode cX9_init 14 = .ok (.putfield 13, 3) := by decide +kernel
theorem dX9_init_17 : decode cX9_init 17 = .ok (.aload_n 0, 1) := by decide +kernel
theorem dX9_init_18 : decode cX9_init 18 = .ok (.iconst 5, 1) := by decide +kernel
theorem dX9_init_19 : decode cX9_init 19 = .ok (.newarray .int, 2) := by decide +kernel
theorem dX9_init_21 : decode cX9_init 21 = .ok (.putfield 17, 3) := by decide +kernel
theorem dX9_init_24 : decode cX9_init 24 = .ok (.aload_n 0, 1) := by decide +kernel
theorem dX9_init_25 : decode cX9_init 25 = .ok (.iconst 5, 1) := by decide +kernel
theorem dX9_init_26 : decode cX9_init 26 = .ok (.newarray .int, 2) := by decide +kernel
theorem dX9_init_28 : decode cX9_init 28 = .ok (.putfield 20, 3) := by decide +kernel
theorem dX9_init_31 : decode cX9_init 31 = .ok (.aload_n 0, 1) := by decide +kernel
theorem dX9_init_32 : decode cX9_init 32 = .ok (.iconst 5, 1) := by decide +kernel
theorem dX9_init_33 : decode cX9_init 33 = .ok (.newarray .int, 2) := by decide +kernel
theorem dX9_init_35 : decode cX9_init 35 = .ok (.putfield 23, 3) := by decide +kernel
theorem dX9_init_38 : decode cX9_init 38 = .ok (.aload_n 0, 1) := by decide +kernel
theorem dX9_init_39 : decode cX9_init 39 = .ok (.iconst 5, 1) := by decide +kernel
theorem dX9_init_40 : decode cX9_init 40 = .ok (.newarray .boolean, 2) := by decide +kernel
theorem dX9_init_42 : decode cX9_init 42 = .ok (.putfield 26, 3) := by decide +kernel
theorem dX9_init_45 : decode cX9_init 45 = .ok (.aload_n 0, 1) := by decide +kernel
theorem dX9_init_46 : decode cX9_init 46 = .ok (.iconst 5, 1) := by decide +kernel
theorem dX9_init_47 : decode cX9_init 47 = .ok (.newarray .boolean, 2) := by decide +kernel
theorem dX9_init_49 : decode cX9_init 49 = .ok (.putfield 30, 3) := by decide +kernel
theorem dX9_init_52 : decode cX9_init 52 = .ok (.aload_n 0, 1) := by decide +kernel
