theorem dX0_init_0 : decode cX0_init 0 = .ok (.aload_n 0, 1) := by decide +kernel
theorem dX0_init_1 : decode cX0_init 1 = .ok (.invokespecial 3, 3) := by decide +kernel
theorem dX0_init_4 : decode cX0_init 4 = .ok (.aload_n 0, 1) := by decide +kernel
theorem dX0_init_5 : decode cX0_init 5 = .ok (.bipush 12, 2) := by decide +kernel
theorem dX0_init_7 : decode cX0_init 7 = .ok (.anewarray 9, 3) := by decide +kernel
theorem dX0_init_10 : decode cX0_init 10 = .ok (.putfield 11, 3) := by decide +kernel
theorem dX0_init_13 : decode cX0_init 13 = .ok (.iconst 0, 1) := by decide +kernel
theorem dX0_init_14 : decode cX0_init 14 = .ok (.istore_n 2, 1) := by decide +kernel
theorem dX0_init_15 : decode cX0_init 15 = .ok (.iload_n 2, 1) := by decide +kernel
theorem dX0_init_16 : decode cX0_init 16 = .ok (.bipush 12, 2) := by decide +kernel
theorem dX0_init_18 : decode cX0_init 18 = .ok (.if_icmp .ge 23, 3) := by decide +kernel
theorem dX0_init_21 : decode cX0_init 21 = .ok (.aload_n 0, 1) := by decide +kernel
theorem dX0_init_22 : decode cX0_init 22 = .ok (.getfield 11, 3) := by decide +kernel
theorem dX0_init_25 : decode cX0_init 25 = .ok (.iload_n 2, 1) := by decide +kernel
theorem dX0_init_26 : decode cX0_init 26 = .ok (.new 9, 3) := by decide +kernel
theorem dX0_init_29 : decode cX0_init 29 = .ok (.dup, 1) := by decide +kernel
theorem dX0_init_30 : decode cX0_init 30 = .ok (.aload_n 1, 1) := by decide +kernel
theorem dX0_init_31 : decode cX0_init 31 = .ok (.invokespecial 17, 3) := by decide +kernel
theorem dX0_init_34 : decode cX0_init 34 = .ok (.aastore, 1) := by decide +kernel
theorem dX0_init_35 : decode cX0_init 35 = .ok (.iinc 2 1, 3) := by decide +kernel
theorem dX0_init_38 : decode cX0_init 38 = .ok (.goto (-23), 3) := by decide +kernel
theorem dX0_init_41 : decode cX0_init 41 = .ok (.return_, 1) := by decide +kernel
theorem dX0_push_0 : decode cX0_push 0 = .ok (.aload_n 0, 1) := by decide +kernel
theorem dX0_push_1 : decode cX0_push 1 = .ok (.getfield 11, 3) := by decide +kernel
theorem dX0_push_4 : decode cX0_push 4 = .ok (.aload_n 0, 1) := by decide +kernel
theorem dX0_push_5 : decode cX0_push 5 = .ok (.getfield 20, 3) := by decide +kernel
theorem dX0_push_8 : decode cX0_push 8 = .ok (.aaload, 1) := by decide +kernel
theorem dX0_push_9 : decode cX0_push 9 = .ok (.aload_n 1, 1) := by decide +kernel
theorem dX0_push_10 : decode cX0_push 10 = .ok (.invokevirtual 24, 3) := by decide +kernel
theorem dX0_push_13 : decode cX0_push 13 = .ok (.aload_n 0, 1) := by decide +kernel
theorem dX0_push_14 : decode cX0_push 14 = .ok (.aload_n 0, 1) := by decide +kernel
theorem dX0_push_15 : decode cX0_push 15 = .ok (.getfield 20, 3) := by decide +kernel
theorem dX0_push_18 : decode cX0_push 18 = .ok (.iconst 1, 1) := by decide +kernel
theorem dX0_push_19 : decode cX0_push 19 = .ok (.iadd, 1) := by decide +kernel
theorem dX0_push_20 : decode cX0_push 20 = .ok (.bipush 12, 2) := by decide +kernel
theorem dX0_push_22 : decode cX0_push 22 = .ok (.irem, 1) := by decide +kernel
theorem dX0_push_23 : decode cX0_push 23 = .ok (.putfield 20, 3) := by decide +kernel
theorem dX0_push_26 : decode cX0_push 26 = .ok (.aload_n 0, 1) := by decide +kernel
theorem dX0_push_27 : decode cX0_push 27 = .ok (.bipush 12, 2) := by decide +kernel
theorem dX0_push_29 : decode cX0_push 29 = .ok (.aload_n 0, 1) := by decide +kernel
theorem dX0_push_30 : decode cX0_push 30 = .ok (.getfield 28, 3) := by decide +kernel
theorem dX0_push_33 : decode cX0_push 33 = .ok (.iconst 1, 1) := by decide +kernel
theorem dX0_push_34 : decode cX0_push 34 = .ok (.iadd, 1) := by decide +kernel
theorem dX0_push_35 : decode cX0_push 35 = .ok (.invokestatic 31, 3) := by decide +kernel
theorem dX0_push_38 : decode cX0_push 38 = .ok (.putfield 28, 3) := by decide +kernel
theorem dX0_push_41 : decode cX0_push 41 = .ok (.return_, 1) := by decide +kernel
theorem dX0_pop_0 : decode cX0_pop 0 = .ok (.aload_n 0, 1) := by decide +kernel
theorem dX0_pop_1 : decode cX0_pop 1 = .ok (.aload_n 0, 1) := by decide +kernel
theorem dX0_pop_2 : decode cX0_pop 2 = .ok (.getfield 20, 3) := by decide +kernel
theorem dX0_pop_5 : decode cX0_pop 5 = .ok (.bipush 12, 2) := by decide +kernel
theorem dX0_pop_7 : decode cX0_pop 7 = .ok (.iadd, 1) := by decide +kernel
theorem dX0_pop_8 : decode cX0_pop 8 = .ok (.iconst 1, 1) := by decide +kernel
theorem dX0_pop_9 : decode cX0_pop 9 = .ok (.isub, 1) := by decide +kernel
theorem dX0_pop_10 : decode cX0_pop 10 = .ok (.bipush 12, 2) := by decide +kernel
theorem dX0_pop_12 : decode cX0_pop 12 = .ok (.irem, 1) := by decide +kernel
theorem dX0_pop_13 : decode cX0_pop 13 = .ok (.putfield 20, 3) := by decide +kernel
theorem dX0_pop_16 : decode cX0_pop 16 = .ok (.aload_n 0, 1) := by decide +kernel
theorem dX0_pop_17 : decode cX0_pop 17 = .ok (.dup, 1) := by decide +kernel
theorem dX0_pop_18 : decode cX0_pop 18 = .ok (.getfield 28, 3) := by decide +kernel
theorem dX0_pop_21 : decode cX0_pop 21 = .ok (.iconst 1, 1) := by decide +kernel
theorem dX0_pop_22 : decode cX0_pop 22 = .ok (.isub, 1) := by decide +kernel
theorem dX0_pop_23 : decode cX0_pop 23 = .ok (.putfield 28, 3) := by decide +kernel
theorem dX0_pop_26 : decode cX0_pop 26 = .ok (.aload_n 1, 1) := by decide +kernel
theorem dX0_pop_27 : decode cX0_pop 27 = .ok (.getfield 37, 3) := by decide +kernel
theorem dX0_pop_30 : decode cX0_pop 30 = .ok (.istore_n 2, 1) := by decide +kernel
theorem dX0_pop_31 : decode cX0_pop 31 = .ok (.aload_n 1, 1) := by decide +kernel
theorem dX0_pop_32 : decode cX0_pop 32 = .ok (.aload_n 0, 1) := by decide +kernel
theorem dX0_pop_33 : decode cX0_pop 33 = .ok (.getfield 11, 3) := by decide +kernel
theorem dX0_pop_36 : decode cX0_pop 36 = .ok (.aload_n 0, 1) := by decide +kernel
theorem dX0_pop_37 : decode cX0_pop 37 = .ok (.getfield 20, 3) := by decide +kernel
theorem dX0_pop_40 : decode cX0_pop 40 = .ok (.aaload, 1) := by decide +kernel
theorem dX0_pop_41 : decode cX0_pop 41 = .ok (.invokevirtual 24, 3) := by decide +kernel
theorem dX0_pop_44 : decode cX0_pop 44 = .ok (.aload_n 1, 1) := by decide +kernel
theorem dX0_pop_45 : decode cX0_pop 45 = .ok (.iload_n 2, 1) := by decide +kernel
theorem dX0_pop_46 : decode cX0_pop 46 = .ok (.putfield 37, 3) := by decide +kernel
theorem dX0_pop_49 : decode cX0_pop 49 = .ok (.return_, 1) := by decide +kernel
theorem dX1_init_0 : decode cX1_init 0 = .ok (.aload_n 0, 1) := by decide +kernel
theorem dX1_init_1 : decode cX1_init 1 = .ok (.invokespecial 3, 3) := by decide +kernel
theorem dX1_init_4 : decode cX1_init 4 = .ok (.aload_n 0, 1) := by decide +kernel
theorem dX1_init_5 : decode cX1_init 5 = .ok (.bipush 12, 2) := by decide +kernel
theorem dX1_init_7 : decode cX1_init 7 = .ok (.newarray .int, 2) := by decide +kernel
theorem dX1_init_9 : decode cX1_init 9 = .ok (.putfield 9, 3) := by decide +kernel
theorem dX1_init_12 : decode cX1_init 12 = .ok (.aload_n 0, 1) := by decide +kernel
theorem dX1_init_13 : decode cX1_init 13 = .ok (.bipush 12, 2) := by decide +kernel
theorem dX1_init_15 : decode cX1_init 15 = .ok (.newarray .int, 2) := by decide +kernel
theorem dX1_init_17 : decode cX1_init 17 = .ok (.putfield 15, 3) := by decide +kernel
theorem dX1_init_20 : decode cX1_init 20 = .ok (.aload_n 0, 1) := by decide +kernel
theorem dX1_init_21 : decode cX1_init 21 = .ok (.bipush 12, 2) := by decide +kernel
theorem dX1_init_23 : decode cX1_init 23 = .ok (.newarray .int, 2) := by decide +kernel
theorem dX1_init_25 : decode cX1_init 25 = .ok (.putfield 18, 3) := by decide +kernel
theorem dX1_init_28 : decode cX1_init 28 = .ok (.return_, 1) := by decide +kernel
theorem dX1_add_0 : decode cX1_add 0 = .ok (.aload_n 0, 1) := by decide +kernel
theorem dX1_add_1 : decode cX1_add 1 = .ok (.getfield 21, 3) := by decide +kernel
theorem dX1_add_4 : decode cX1_add 4 = .ok (.bipush 12, 2) := by decide +kernel
theorem dX1_add_6 : decode cX1_add 6 = .ok (.if_icmp .ge 43, 3) := by decide +kernel
theorem dX1_add_9 : decode cX1_add 9 = .ok (.aload_n 0, 1) := by decide +kernel
theorem dX1_add_10 : decode cX1_add 10 = .ok (.getfield 9, 3) := by decide +kernel
theorem dX1_add_13 : decode cX1_add 13 = .ok (.aload_n 0, 1) := by decide +kernel
theorem dX1_add_14 : decode cX1_add 14 = .ok (.getfield 21, 3) := by decide +kernel
theorem dX1_add_17 : decode cX1_add 17 = .ok (.iload_n 1, 1) := by decide +kernel
theorem dX1_add_18 : decode cX1_add 18 = .ok (.iastore, 1) := by decide +kernel
theorem dX1_add_19 : decode cX1_add 19 = .ok (.aload_n 0, 1) := by decide +kernel
theorem dX1_add_20 : decode cX1_add 20 = .ok (.getfield 15, 3) := by decide +kernel
theorem dX1_add_23 : decode cX1_add 23 = .ok (.aload_n 0, 1) := by decide +kernel
theorem dX1_add_24 : decode cX1_add 24 = .ok (.getfield 21, 3) := by decide +kernel
theorem dX1_add_27 : decode cX1_add 27 = .ok (.iload_n 2, 1) := by decide +kernel
theorem dX1_add_28 : decode cX1_add 28 = .ok (.iastore, 1) := by decide +kernel
theorem dX1_add_29 : decode cX1_add 29 = .ok (.aload_n 0, 1) := by decide +kernel
theorem dX1_add_30 : decode cX1_add 30 = .ok (.getfield 18, 3) := by decide +kernel
theorem dX1_add_33 : decode cX1_add 33 = .ok (.aload_n 0, 1) := by decide +kernel
theorem dX1_add_34 : decode cX1_add 34 = .ok (.getfield 21, 3) := by decide +kernel
theorem dX1_add_37 : decode cX1_add 37 = .ok (.iload_n 3, 1) := by decide +kernel
theorem dX1_add_38 : decode cX1_add 38 = .ok (.iastore, 1) := by decide +kernel
theorem dX1_add_39 : decode cX1_add 39 = .ok (.aload_n 0, 1) := by decide +kernel
theorem dX1_add_40 : decode cX1_add 40 = .ok (.dup, 1) := by decide +kernel
theorem dX1_add_41 : decode cX1_add 41 = .ok (.getfield 21, 3) := by decide +kernel
theorem dX1_add_44 : decode cX1_add 44 = .ok (.iconst 1, 1) := by decide +kernel
theorem dX1_add_45 : decode cX1_add 45 = .ok (.iadd, 1) := by decide +kernel
theorem dX1_add_46 : decode cX1_add 46 = .ok (.putfield 21, 3) := by decide +kernel
theorem dX1_add_49 : decode cX1_add 49 = .ok (.return_, 1) := by decide +kernel
theorem dX1_isFalse_0 : decode cX1_isFalse 0 = .ok (.iconst 0, 1) := by decide +kernel
theorem dX1_isFalse_1 : decode cX1_isFalse 1 = .ok (.istore_n 3, 1) := by decide +kernel
theorem dX1_isFalse_2 : decode cX1_isFalse 2 = .ok (.iload_n 3, 1) := by decide +kernel
theorem dX1_isFalse_3 : decode cX1_isFalse 3 = .ok (.aload_n 0, 1) := by decide +kernel
theorem dX1_isFalse_4 : decode cX1_isFalse 4 = .ok (.getfield 21, 3) := by decide +kernel
theorem dX1_isFalse_7 : decode cX1_isFalse 7 = .ok (.if_icmp .ge 58, 3) := by decide +kernel
theorem dX1_isFalse_10 : decode cX1_isFalse 10 = .ok (.iconst 0, 1) := by decide +kernel
theorem dX1_isFalse_11 : decode cX1_isFalse 11 = .ok (.istore 4, 2) := by decide +kernel
theorem dX1_isFalse_13 : decode cX1_isFalse 13 = .ok (.iload 4, 2) := by decide +kernel
theorem dX1_isFalse_15 : decode cX1_isFalse 15 = .ok (.iload_n 3, 1) := by decide +kernel
theorem dX1_isFalse_16 : decode cX1_isFalse 16 = .ok (.if_icmp .ge 43, 3) := by decide +kernel
theorem dX1_isFalse_19 : decode cX1_isFalse 19 = .ok (.aload_n 0, 1) := by decide +kernel
theorem dX1_isFalse_20 : decode cX1_isFalse 20 = .ok (.getfield 9, 3) := by decide +kernel
theorem dX1_isFalse_23 : decode cX1_isFalse 23 = .ok (.iload_n 3, 1) := by decide +kernel
theorem dX1_isFalse_24 : decode cX1_isFalse 24 = .ok (.iaload, 1) := by decide +kernel
theorem dX1_isFalse_25 : decode cX1_isFalse 25 = .ok (.iload_n 1, 1) := by decide +kernel
theorem dX1_isFalse_26 : decode cX1_isFalse 26 = .ok (.if_icmp .ne 33, 3) := by decide +kernel
theorem dX1_isFalse_29 : decode cX1_isFalse 29 = .ok (.aload_n 0, 1) := by decide +kernel
theorem dX1_isFalse_30 : decode cX1_isFalse 30 = .ok (.getfield 9, 3) := by decide +kernel
theorem dX1_isFalse_33 : decode cX1_isFalse 33 = .ok (.iload 4, 2) := by decide +kernel
theorem dX1_isFalse_35 : decode cX1_isFalse 35 = .ok (.iaload, 1) := by decide +kernel
theorem dX1_isFalse_36 : decode cX1_isFalse 36 = .ok (.iload_n 1, 1) := by decide +kernel
theorem dX1_isFalse_37 : decode cX1_isFalse 37 = .ok (.if_icmp .ne 16, 3) := by decide +kernel
theorem dX1_isFalse_40 : decode cX1_isFalse 40 = .ok (.aload_n 0, 1) := by decide +kernel
theorem dX1_isFalse_41 : decode cX1_isFalse 41 = .ok (.iload_n 3, 1) := by decide +kernel
theorem dX1_isFalse_42 : decode cX1_isFalse 42 = .ok (.iload 4, 2) := by decide +kernel
theorem dX1_isFalse_44 : decode cX1_isFalse 44 = .ok (.aload_n 2, 1) := by decide +kernel
theorem dX1_isFalse_45 : decode cX1_isFalse 45 = .ok (.invokevirtual 25, 3) := by decide +kernel
theorem dX1_isFalse_48 : decode cX1_isFalse 48 = .ok (.ifCond .eq 5, 3) := by decide +kernel
theorem dX1_isFalse_51 : decode cX1_isFalse 51 = .ok (.iconst 1, 1) := by decide +kernel
theorem dX1_isFalse_52 : decode cX1_isFalse 52 = .ok (.ireturn, 1) := by decide +kernel
theorem dX1_isFalse_53 : decode cX1_isFalse 53 = .ok (.iinc 4 1, 3) := by decide +kernel
theorem dX1_isFalse_56 : decode cX1_isFalse 56 = .ok (.goto (-43), 3) := by decide +kernel
theorem dX1_isFalse_59 : decode cX1_isFalse 59 = .ok (.iinc 3 1, 3) := by decide +kernel
theorem dX1_isFalse_62 : decode cX1_isFalse 62 = .ok (.goto (-60), 3) := by decide +kernel
theorem dX1_isFalse_65 : decode cX1_isFalse 65 = .ok (.iconst 0, 1) := by decide +kernel
theorem dX1_isFalse_66 : decode cX1_isFalse 66 = .ok (.ireturn, 1) := by decide +kernel
theorem dX1_clash_0 : decode cX1_clash 0 = .ok (.aload_n 0, 1) := by decide +kernel
theorem dX1_clash_1 : decode cX1_clash 1 = .ok (.getfield 18, 3) := by decide +kernel
theorem dX1_clash_4 : decode cX1_clash 4 = .ok (.iload_n 1, 1) := by decide +kernel
theorem dX1_clash_5 : decode cX1_clash 5 = .ok (.iaload, 1) := by decide +kernel
theorem dX1_clash_6 : decode cX1_clash 6 = .ok (.aload_n 0, 1) := by decide +kernel
theorem dX1_clash_7 : decode cX1_clash 7 = .ok (.getfield 18, 3) := by decide +kernel
theorem dX1_clash_10 : decode cX1_clash 10 = .ok (.iload_n 2, 1) := by decide +kernel
theorem dX1_clash_11 : decode cX1_clash 11 = .ok (.iaload, 1) := by decide +kernel
theorem dX1_clash_12 : decode cX1_clash 12 = .ok (.if_icmp .ne 23, 3) := by decide +kernel
theorem dX1_clash_15 : decode cX1_clash 15 = .ok (.aload_n 3, 1) := by decide +kernel
theorem dX1_clash_16 : decode cX1_clash 16 = .ok (.getfield 29, 3) := by decide +kernel
theorem dX1_clash_19 : decode cX1_clash 19 = .ok (.aload_n 0, 1) := by decide +kernel
theorem dX1_clash_20 : decode cX1_clash 20 = .ok (.getfield 15, 3) := by decide +kernel
theorem dX1_clash_23 : decode cX1_clash 23 = .ok (.iload_n 1, 1) := by decide +kernel
theorem dX1_clash_24 : decode cX1_clash 24 = .ok (.iaload, 1) := by decide +kernel
theorem dX1_clash_25 : decode cX1_clash 25 = .ok (.iaload, 1) := by decide +kernel
theorem dX1_clash_26 : decode cX1_clash 26 = .ok (.aload_n 0, 1) := by decide +kernel
theorem dX1_clash_27 : decode cX1_clash 27 = .ok (.getfield 15, 3) := by decide +kernel
theorem dX1_clash_30 : decode cX1_clash 30 = .ok (.iload_n 2, 1) := by decide +kernel
theorem dX1_clash_31 : decode cX1_clash 31 = .ok (.iaload, 1) := by decide +kernel
theorem dX1_clash_32 : decode cX1_clash 32 = .ok (.if_icmp .eq 7, 3) := by decide +kernel
theorem dX1_clash_35 : decode cX1_clash 35 = .ok (.iconst 1, 1) := by decide +kernel
theorem dX1_clash_36 : decode cX1_clash 36 = .ok (.goto 4, 3) := by decide +kernel
theorem dX1_clash_39 : decode cX1_clash 39 = .ok (.iconst 0, 1) := by decide +kernel
theorem dX1_clash_40 : decode cX1_clash 40 = .ok (.ireturn, 1) := by decide +kernel
theorem dX2_init_0 : decode cX2_init 0 = .ok (.aload_n 0, 1) := by decide +kernel
theorem dX2_init_1 : decode cX2_init 1 = .ok (.invokespecial 3, 3) := by decide +kernel
theorem dX2_init_4 : decode cX2_init 4 = .ok (.aload_n 0, 1) := by decide +kernel
theorem dX2_init_5 : decode cX2_init 5 = .ok (.iconst 5, 1) := by decide +kernel
theorem dX2_init_6 : decode cX2_init 6 = .ok (.newarray .int, 2) := by decide +kernel
theorem dX2_init_8 : decode cX2_init 8 = .ok (.putfield 9, 3) := by decide +kernel
theorem dX2_init_11 : decode cX2_init 11 = .ok (.aload_n 0, 1) := by decide +kernel
theorem dX2_init_12 : decode cX2_init 12 = .ok (.invokevirtual 15, 3) := by decide +kernel
theorem dX2_init_15 : decode cX2_init 15 = .ok (.return_, 1) := by decide +kernel
theorem dX2_clear_0 : decode cX2_clear 0 = .ok (.aload_n 0, 1) := by decide +kernel
theorem dX2_clear_1 : decode cX2_clear 1 = .ok (.getfield 9, 3) := by decide +kernel
theorem dX2_clear_4 : decode cX2_clear 4 = .ok (.bipush (-9), 2) := by decide +kernel
theorem dX2_clear_6 : decode cX2_clear 6 = .ok (.invokestatic 18, 3) := by decide +kernel
theorem dX2_clear_9 : decode cX2_clear 9 = .ok (.aload_n 0, 1) := by decide +kernel
theorem dX2_clear_10 : decode cX2_clear 10 = .ok (.iconst 0, 1) := by decide +kernel
theorem dX2_clear_11 : decode cX2_clear 11 = .ok (.putfield 24, 3) := by decide +kernel
theorem dX2_clear_14 : decode cX2_clear 14 = .ok (.aload_n 0, 1) := by decide +kernel
theorem dX2_clear_15 : decode cX2_clear 15 = .ok (.iconst 0, 1) := by decide +kernel
theorem dX2_clear_16 : decode cX2_clear 16 = .ok (.putfield 28, 3) := by decide +kernel
theorem dX2_clear_19 : decode cX2_clear 19 = .ok (.aload_n 0, 1) := by decide +kernel
theorem dX2_clear_20 : decode cX2_clear 20 = .ok (.iconst 1, 1) := by decide +kernel
theorem dX2_clear_21 : decode cX2_clear 21 = .ok (.putfield 31, 3) := by decide +kernel
theorem dX2_clear_24 : decode cX2_clear 24 = .ok (.return_, 1) := by decide +kernel
theorem dX2_copyFrom_0 : decode cX2_copyFrom 0 = .ok (.aload_n 1, 1) := by decide +kernel
theorem dX2_copyFrom_1 : decode cX2_copyFrom 1 = .ok (.getfield 9, 3) := by decide +kernel
theorem dX2_copyFrom_4 : decode cX2_copyFrom 4 = .ok (.iconst 0, 1) := by decide +kernel
theorem dX2_copyFrom_5 : decode cX2_copyFrom 5 = .ok (.aload_n 0, 1) := by decide +kernel
theorem dX2_copyFrom_6 : decode cX2_copyFrom 6 = .ok (.getfield 9, 3) := by decide +kernel
theorem dX2_copyFrom_9 : decode cX2_copyFrom 9 = .ok (.iconst 0, 1) := by decide +kernel
theorem dX2_copyFrom_10 : decode cX2_copyFrom 10 = .ok (.iconst 5, 1) := by decide +kernel
theorem dX2_copyFrom_11 : decode cX2_copyFrom 11 = .ok (.invokestatic 34, 3) := by decide +kernel
theorem dX2_copyFrom_14 : decode cX2_copyFrom 14 = .ok (.aload_n 0, 1) := by decide +kernel
theorem dX2_copyFrom_15 : decode cX2_copyFrom 15 = .ok (.aload_n 1, 1) := by decide +kernel
theorem dX2_copyFrom_16 : decode cX2_copyFrom 16 = .ok (.getfield 24, 3) := by decide +kernel
theorem dX2_copyFrom_19 : decode cX2_copyFrom 19 = .ok (.putfield 24, 3) := by decide +kernel
theorem dX2_copyFrom_22 : decode cX2_copyFrom 22 = .ok (.aload_n 0, 1) := by decide +kernel
theorem dX2_copyFrom_23 : decode cX2_copyFrom 23 = .ok (.aload_n 1, 1) := by decide +kernel
theorem dX2_copyFrom_24 : decode cX2_copyFrom 24 = .ok (.getfield 28, 3) := by decide +kernel
theorem dX2_copyFrom_27 : decode cX2_copyFrom 27 = .ok (.putfield 28, 3) := by decide +kernel
theorem dX2_copyFrom_30 : decode cX2_copyFrom 30 = .ok (.aload_n 0, 1) := by decide +kernel
theorem dX2_copyFrom_31 : decode cX2_copyFrom 31 = .ok (.aload_n 1, 1) := by decide +kernel
theorem dX2_copyFrom_32 : decode cX2_copyFrom 32 = .ok (.getfield 31, 3) := by decide +kernel
theorem dX2_copyFrom_35 : decode cX2_copyFrom 35 = .ok (.putfield 31, 3) := by decide +kernel
theorem dX2_copyFrom_38 : decode cX2_copyFrom 38 = .ok (.return_, 1) := by decide +kernel
theorem dX2_has_0 : decode cX2_has 0 = .ok (.iload_n 1, 1) := by decide +kernel
theorem dX2_has_1 : decode cX2_has 1 = .ok (.ifCond .lt 15, 3) := by decide +kernel
theorem dX2_has_4 : decode cX2_has 4 = .ok (.iload_n 1, 1) := by decide +kernel
theorem dX2_has_5 : decode cX2_has 5 = .ok (.aload_n 0, 1) := by decide +kernel
theorem dX2_has_6 : decode cX2_has 6 = .ok (.getfield 24, 3) := by decide +kernel
theorem dX2_has_9 : decode cX2_has 9 = .ok (.if_icmp .ge 7, 3) := by decide +kernel
theorem dX2_has_12 : decode cX2_has 12 = .ok (.iconst 1, 1) := by decide +kernel
theorem dX2_has_13 : decode cX2_has 13 = .ok (.goto 4, 3) := by decide +kernel
theorem dX2_has_16 : decode cX2_has 16 = .ok (.iconst 0, 1) := by decide +kernel
theorem dX2_has_17 : decode cX2_has 17 = .ok (.ireturn, 1) := by decide +kernel
theorem dX2_everyone_0 : decode cX2_everyone 0 = .ok (.iconst 1, 1) := by decide +kernel
theorem dX2_everyone_1 : decode cX2_everyone 1 = .ok (.aload_n 0, 1) := by decide +kernel
theorem dX2_everyone_2 : decode cX2_everyone 2 = .ok (.getfield 24, 3) := by decide +kernel
theorem dX2_everyone_5 : decode cX2_everyone 5 = .ok (.ishl, 1) := by decide +kernel
theorem dX2_everyone_6 : decode cX2_everyone 6 = .ok (.iconst 1, 1) := by decide +kernel
theorem dX2_everyone_7 : decode cX2_everyone 7 = .ok (.isub, 1) := by decide +kernel
theorem dX2_everyone_8 : decode cX2_everyone 8 = .ok (.ireturn, 1) := by decide +kernel
theorem dX2_hasAll_0 : decode cX2_hasAll 0 = .ok (.iload_n 1, 1) := by decide +kernel
theorem dX2_hasAll_1 : decode cX2_hasAll 1 = .ok (.aload_n 0, 1) := by decide +kernel
theorem dX2_hasAll_2 : decode cX2_hasAll 2 = .ok (.invokevirtual 40, 3) := by decide +kernel
theorem dX2_hasAll_5 : decode cX2_hasAll 5 = .ok (.iconst (-1), 1) := by decide +kernel
theorem dX2_hasAll_6 : decode cX2_hasAll 6 = .ok (.ixor, 1) := by decide +kernel
theorem dX2_hasAll_7 : decode cX2_hasAll 7 = .ok (.iand, 1) := by decide +kernel
theorem dX2_hasAll_8 : decode cX2_hasAll 8 = .ok (.ifCond .ne 7, 3) := by decide +kernel
theorem dX2_hasAll_11 : decode cX2_hasAll 11 = .ok (.iconst 1, 1) := by decide +kernel
theorem dX2_hasAll_12 : decode cX2_hasAll 12 = .ok (.goto 4, 3) := by decide +kernel
theorem dX2_hasAll_15 : decode cX2_hasAll 15 = .ok (.iconst 0, 1) := by decide +kernel
theorem dX2_hasAll_16 : decode cX2_hasAll 16 = .ok (.ireturn, 1) := by decide +kernel
theorem dX2_twinless_0 : decode cX2_twinless 0 = .ok (.iconst 0, 1) := by decide +kernel
theorem dX2_twinless_1 : decode cX2_twinless 1 = .ok (.istore_n 1, 1) := by decide +kernel
theorem dX2_twinless_2 : decode cX2_twinless 2 = .ok (.iconst 0, 1) := by decide +kernel
theorem dX2_twinless_3 : decode cX2_twinless 3 = .ok (.istore_n 2, 1) := by decide +kernel
theorem dX2_twinless_4 : decode cX2_twinless 4 = .ok (.iload_n 2, 1) := by decide +kernel
theorem dX2_twinless_5 : decode cX2_twinless 5 = .ok (.aload_n 0, 1) := by decide +kernel
theorem dX2_twinless_6 : decode cX2_twinless 6 = .ok (.getfield 24, 3) := by decide +kernel
theorem dX2_twinless_9 : decode cX2_twinless 9 = .ok (.if_icmp .ge 23, 3) := by decide +kernel
theorem dX2_twinless_12 : decode cX2_twinless 12 = .ok (.aload_n 0, 1) := by decide +kernel
theorem dX2_twinless_13 : decode cX2_twinless 13 = .ok (.getfield 9, 3) := by decide +kernel
theorem dX2_twinless_16 : decode cX2_twinless 16 = .ok (.iload_n 2, 1) := by decide +kernel
theorem dX2_twinless_17 : decode cX2_twinless 17 = .ok (.iaload, 1) := by decide +kernel
theorem dX2_twinless_18 : decode cX2_twinless 18 = .ok (.bipush (-9), 2) := by decide +kernel
theorem dX2_twinless_20 : decode cX2_twinless 20 = .ok (.if_icmp .ne 6, 3) := by decide +kernel
theorem dX2_twinless_23 : decode cX2_twinless 23 = .ok (.iinc 1 1, 3) := by decide +kernel
theorem dX2_twinless_26 : decode cX2_twinless 26 = .ok (.iinc 2 1, 3) := by decide +kernel
theorem dX2_twinless_29 : decode cX2_twinless 29 = .ok (.goto (-25), 3) := by decide +kernel
theorem dX2_twinless_32 : decode cX2_twinless 32 = .ok (.iload_n 1, 1) := by decide +kernel
theorem dX2_twinless_33 : decode cX2_twinless 33 = .ok (.ireturn, 1) := by decide +kernel
theorem dX3_init_0 : decode cX3_init 0 = .ok (.aload_n 0, 1) := by decide +kernel
theorem dX3_init_1 : decode cX3_init 1 = .ok (.invokespecial 3, 3) := by decide +kernel
theorem dX3_init_4 : decode cX3_init 4 = .ok (.aload_n 0, 1) := by decide +kernel
theorem dX3_init_5 : decode cX3_init 5 = .ok (.new 9, 3) := by decide +kernel
theorem dX3_init_8 : decode cX3_init 8 = .ok (.dup, 1) := by decide +kernel
theorem dX3_init_9 : decode cX3_init 9 = .ok (.invokespecial 11, 3) := by decide +kernel
theorem dX3_init_12 : decode cX3_init 12 = .ok (.putfield 12, 3) := by decide +kernel
theorem dX3_init_15 : decode cX3_init 15 = .ok (.aload_n 0, 1) := by decide +kernel
theorem dX3_init_16 : decode cX3_init 16 = .ok (.new 18, 3) := by decide +kernel
theorem dX3_init_19 : decode cX3_init 19 = .ok (.dup, 1) := by decide +kernel
theorem dX3_init_20 : decode cX3_init 20 = .ok (.aload_n 0, 1) := by decide +kernel
theorem dX3_init_21 : decode cX3_init 21 = .ok (.getfield 12, 3) := by decide +kernel
theorem dX3_init_24 : decode cX3_init 24 = .ok (.invokespecial 20, 3) := by decide +kernel
theorem dX3_init_27 : decode cX3_init 27 = .ok (.putfield 23, 3) := by decide +kernel
theorem dX3_init_30 : decode cX3_init 30 = .ok (.aload_n 0, 1) := by decide +kernel
theorem dX3_init_31 : decode cX3_init 31 = .ok (.aload_n 1, 1) := by decide +kernel
theorem dX3_init_32 : decode cX3_init 32 = .ok (.putfield 27, 3) := by decide +kernel
theorem dX3_init_35 : decode cX3_init 35 = .ok (.return_, 1) := by decide +kernel
theorem dX3_read_0 : decode cX3_read 0 = .ok (.aload_n 0, 1) := by decide +kernel
theorem dX3_read_1 : decode cX3_read 1 = .ok (.iconst 0, 1) := by decide +kernel
theorem dX3_read_2 : decode cX3_read 2 = .ok (.putfield 31, 3) := by decide +kernel
theorem dX3_read_5 : decode cX3_read 5 = .ok (.aload_n 0, 1) := by decide +kernel
theorem dX3_read_6 : decode cX3_read 6 = .ok (.bipush (-9), 2) := by decide +kernel
theorem dX3_read_8 : decode cX3_read 8 = .ok (.putfield 35, 3) := by decide +kernel
theorem dX3_read_11 : decode cX3_read 11 = .ok (.aload_n 0, 1) := by decide +kernel
theorem dX3_read_12 : decode cX3_read 12 = .ok (.getfield 12, 3) := by decide +kernel
theorem dX3_read_15 : decode cX3_read 15 = .ok (.invokevirtual 38, 3) := by decide +kernel
theorem dX3_read_18 : decode cX3_read 18 = .ok (.aload_n 0, 1) := by decide +kernel
theorem dX3_read_19 : decode cX3_read 19 = .ok (.invokevirtual 41, 3) := by decide +kernel
theorem dX3_read_22 : decode cX3_read 22 = .ok (.iconst 0, 1) := by decide +kernel
theorem dX3_read_23 : decode cX3_read 23 = .ok (.istore_n 1, 1) := by decide +kernel
theorem dX3_read_24 : decode cX3_read 24 = .ok (.iload_n 1, 1) := by decide +kernel
theorem dX3_read_25 : decode cX3_read 25 = .ok (.bipush 48, 2) := by decide +kernel
theorem dX3_read_27 : decode cX3_read 27 = .ok (.if_icmp .ge 36, 3) := by decide +kernel
theorem dX3_read_30 : decode cX3_read 30 = .ok (.aload_n 0, 1) := by decide +kernel
theorem dX3_read_31 : decode cX3_read 31 = .ok (.getfield 35, 3) := by decide +kernel
theorem dX3_read_34 : decode cX3_read 34 = .ok (.bipush (-9), 2) := by decide +kernel
theorem dX3_read_36 : decode cX3_read 36 = .ok (.if_icmp .ne 27, 3) := by decide +kernel
theorem dX3_read_39 : decode cX3_read 39 = .ok (.aload_n 0, 1) := by decide +kernel
theorem dX3_read_40 : decode cX3_read 40 = .ok (.getfield 31, 3) := by decide +kernel
theorem dX3_read_43 : decode cX3_read 43 = .ok (.aload_n 0, 1) := by decide +kernel
theorem dX3_read_44 : decode cX3_read 44 = .ok (.getfield 27, 3) := by decide +kernel
theorem dX3_read_47 : decode cX3_read 47 = .ok (.getfield 44, 3) := by decide +kernel
theorem dX3_read_50 : decode cX3_read 50 = .ok (.if_icmp .ge 13, 3) := by decide +kernel
theorem dX3_read_53 : decode cX3_read 53 = .ok (.aload_n 0, 1) := by decide +kernel
theorem dX3_read_54 : decode cX3_read 54 = .ok (.invokevirtual 49, 3) := by decide +kernel
theorem dX3_read_57 : decode cX3_read 57 = .ok (.iinc 1 1, 3) := by decide +kernel
theorem dX3_read_60 : decode cX3_read 60 = .ok (.goto (-36), 3) := by decide +kernel
theorem dX3_read_63 : decode cX3_read 63 = .ok (.aload_n 0, 1) := by decide +kernel
theorem dX3_read_64 : decode cX3_read 64 = .ok (.getfield 35, 3) := by decide +kernel
theorem dX3_read_67 : decode cX3_read 67 = .ok (.ireturn, 1) := by decide +kernel
theorem dX3_readHead_0 : decode cX3_readHead 0 = .ok (.aload_n 0, 1) := by decide +kernel
theorem dX3_readHead_1 : decode cX3_readHead 1 = .ok (.bipush 70, 2) := by decide +kernel
theorem dX3_readHead_3 : decode cX3_readHead 3 = .ok (.bipush 70, 2) := by decide +kernel
theorem dX3_readHead_5 : decode cX3_readHead 5 = .ok (.invokevirtual 52, 3) := by decide +kernel
theorem dX3_readHead_8 : decode cX3_readHead 8 = .ok (.pop, 1) := by decide +kernel
theorem dX3_readHead_9 : decode cX3_readHead 9 = .ok (.aload_n 0, 1) := by decide +kernel
theorem dX3_readHead_10 : decode cX3_readHead 10 = .ok (.getfield 12, 3) := by decide +kernel
theorem dX3_readHead_13 : decode cX3_readHead 13 = .ok (.aload_n 0, 1) := by decide +kernel
theorem dX3_readHead_14 : decode cX3_readHead 14 = .ok (.bipush 48, 2) := by decide +kernel
theorem dX3_readHead_16 : decode cX3_readHead 16 = .ok (.bipush 53, 2) := by decide +kernel
theorem dX3_readHead_18 : decode cX3_readHead 18 = .ok (.invokevirtual 52, 3) := by decide +kernel
theorem dX3_readHead_21 : decode cX3_readHead 21 = .ok (.putfield 56, 3) := by decide +kernel
theorem dX3_readHead_24 : decode cX3_readHead 24 = .ok (.aload_n 0, 1) := by decide +kernel
theorem dX3_readHead_25 : decode cX3_readHead 25 = .ok (.bipush 48, 2) := by decide +kernel
theorem dX3_readHead_27 : decode cX3_readHead 27 = .ok (.bipush 57, 2) := by decide +kernel
theorem dX3_readHead_29 : decode cX3_readHead 29 = .ok (.invokevirtual 52, 3) := by decide +kernel
theorem dX3_readHead_32 : decode cX3_readHead 32 = .ok (.istore_n 1, 1) := by decide +kernel
theorem dX3_readHead_33 : decode cX3_readHead 33 = .ok (.aload_n 0, 1) := by decide +kernel
theorem dX3_readHead_34 : decode cX3_readHead 34 = .ok (.iload_n 1, 1) := by decide +kernel
theorem dX3_readHead_35 : decode cX3_readHead 35 = .ok (.ifCond .ne 8, 3) := by decide +kernel
theorem dX3_readHead_38 : decode cX3_readHead 38 = .ok (.bipush 49, 2) := by decide +kernel
theorem dX3_readHead_40 : decode cX3_readHead 40 = .ok (.goto 5, 3) := by decide +kernel
theorem dX3_readHead_43 : decode cX3_readHead 43 = .ok (.bipush 48, 2) := by decide +kernel
theorem dX3_readHead_45 : decode cX3_readHead 45 = .ok (.bipush 57, 2) := by decide +kernel
theorem dX3_readHead_47 : decode cX3_readHead 47 = .ok (.invokevirtual 52, 3) := by decide +kernel
theorem dX3_readHead_50 : decode cX3_readHead 50 = .ok (.istore_n 2, 1) := by decide +kernel
theorem dX3_readHead_51 : decode cX3_readHead 51 = .ok (.aload_n 0, 1) := by decide +kernel
theorem dX3_readHead_52 : decode cX3_readHead 52 = .ok (.getfield 12, 3) := by decide +kernel
theorem dX3_readHead_55 : decode cX3_readHead 55 = .ok (.bipush 10, 2) := by decide +kernel
theorem dX3_readHead_57 : decode cX3_readHead 57 = .ok (.iload_n 1, 1) := by decide +kernel
theorem dX3_readHead_58 : decode cX3_readHead 58 = .ok (.imul, 1) := by decide +kernel
theorem dX3_readHead_59 : decode cX3_readHead 59 = .ok (.iload_n 1, 1) := by decide +kernel
theorem dX3_readHead_60 : decode cX3_readHead 60 = .ok (.ifCond .ne 9, 3) := by decide +kernel
theorem dX3_readHead_63 : decode cX3_readHead 63 = .ok (.iload_n 2, 1) := by decide +kernel
theorem dX3_readHead_64 : decode cX3_readHead 64 = .ok (.iconst 1, 1) := by decide +kernel
theorem dX3_readHead_65 : decode cX3_readHead 65 = .ok (.iadd, 1) := by decide +kernel
theorem dX3_readHead_66 : decode cX3_readHead 66 = .ok (.goto 4, 3) := by decide +kernel
theorem dX3_readHead_69 : decode cX3_readHead 69 = .ok (.iload_n 2, 1) := by decide +kernel
theorem dX3_readHead_70 : decode cX3_readHead 70 = .ok (.iadd, 1) := by decide +kernel
theorem dX3_readHead_71 : decode cX3_readHead 71 = .ok (.putfield 59, 3) := by decide +kernel
theorem dX3_readHead_74 : decode cX3_readHead 74 = .ok (.return_, 1) := by decide +kernel
theorem dX3_readPart_0 : decode cX3_readPart 0 = .ok (.aload_n 0, 1) := by decide +kernel
theorem dX3_readPart_1 : decode cX3_readPart 1 = .ok (.getfield 27, 3) := by decide +kernel
theorem dX3_readPart_4 : decode cX3_readPart 4 = .ok (.getfield 62, 3) := by decide +kernel
theorem dX3_readPart_7 : decode cX3_readPart 7 = .ok (.aload_n 0, 1) := by decide +kernel
theorem dX3_readPart_8 : decode cX3_readPart 8 = .ok (.getfield 31, 3) := by decide +kernel
theorem dX3_readPart_11 : decode cX3_readPart 11 = .ok (.baload, 1) := by decide +kernel
theorem dX3_readPart_12 : decode cX3_readPart 12 = .ok (.istore_n 1, 1) := by decide +kernel
theorem dX3_readPart_13 : decode cX3_readPart 13 = .ok (.iload_n 1, 1) := by decide +kernel
theorem dX3_readPart_14 : decode cX3_readPart 14 = .ok (.bipush 71, 2) := by decide +kernel
theorem dX3_readPart_16 : decode cX3_readPart 16 = .ok (.if_icmp .ne 31, 3) := by decide +kernel
theorem dX3_readPart_19 : decode cX3_readPart 19 = .ok (.aload_n 0, 1) := by decide +kernel
theorem dX3_readPart_20 : decode cX3_readPart 20 = .ok (.getfield 12, 3) := by decide +kernel
theorem dX3_readPart_23 : decode cX3_readPart 23 = .ok (.getfield 66, 3) := by decide +kernel
theorem dX3_readPart_26 : decode cX3_readPart 26 = .ok (.iconst 5, 1) := by decide +kernel
theorem dX3_readPart_27 : decode cX3_readPart 27 = .ok (.if_icmp .ge 20, 3) := by decide +kernel
theorem dX3_readPart_30 : decode cX3_readPart 30 = .ok (.aload_n 0, 1) := by decide +kernel
theorem dX3_readPart_31 : decode cX3_readPart 31 = .ok (.dup, 1) := by decide +kernel
theorem dX3_readPart_32 : decode cX3_readPart 32 = .ok (.getfield 31, 3) := by decide +kernel
theorem dX3_readPart_35 : decode cX3_readPart 35 = .ok (.iconst 1, 1) := by decide +kernel
theorem dX3_readPart_36 : decode cX3_readPart 36 = .ok (.iadd, 1) := by decide +kernel
theorem dX3_readPart_37 : decode cX3_readPart 37 = .ok (.putfield 31, 3) := by decide +kernel
theorem dX3_readPart_40 : decode cX3_readPart 40 = .ok (.aload_n 0, 1) := by decide +kernel
theorem dX3_readPart_41 : decode cX3_readPart 41 = .ok (.invokevirtual 69, 3) := by decide +kernel
theorem dX3_readPart_44 : decode cX3_readPart 44 = .ok (.goto 45, 3) := by decide +kernel
theorem dX3_readPart_47 : decode cX3_readPart 47 = .ok (.iload_n 1, 1) := by decide +kernel
theorem dX3_readPart_48 : decode cX3_readPart 48 = .ok (.bipush 84, 2) := by decide +kernel
theorem dX3_readPart_50 : decode cX3_readPart 50 = .ok (.if_icmp .ne 31, 3) := by decide +kernel
theorem dX3_readPart_53 : decode cX3_readPart 53 = .ok (.aload_n 0, 1) := by decide +kernel
theorem dX3_readPart_54 : decode cX3_readPart 54 = .ok (.getfield 12, 3) := by decide +kernel
theorem dX3_readPart_57 : decode cX3_readPart 57 = .ok (.invokevirtual 72, 3) := by decide +kernel
theorem dX3_readPart_60 : decode cX3_readPart 60 = .ok (.iconst 2, 1) := by decide +kernel
theorem dX3_readPart_61 : decode cX3_readPart 61 = .ok (.if_icmp .lt 20, 3) := by decide +kernel
theorem dX3_readPart_64 : decode cX3_readPart 64 = .ok (.aload_n 0, 1) := by decide +kernel
theorem dX3_readPart_65 : decode cX3_readPart 65 = .ok (.dup, 1) := by decide +kernel
theorem dX3_readPart_66 : decode cX3_readPart 66 = .ok (.getfield 31, 3) := by decide +kernel
theorem dX3_readPart_69 : decode cX3_readPart 69 = .ok (.iconst 1, 1) := by decide +kernel
theorem dX3_readPart_70 : decode cX3_readPart 70 = .ok (.iadd, 1) := by decide +kernel
theorem dX3_readPart_71 : decode cX3_readPart 71 = .ok (.putfield 31, 3) := by decide +kernel
theorem dX3_readPart_74 : decode cX3_readPart 74 = .ok (.aload_n 0, 1) := by decide +kernel
theorem dX3_readPart_75 : decode cX3_readPart 75 = .ok (.invokevirtual 76, 3) := by decide +kernel
theorem dX3_readPart_78 : decode cX3_readPart 78 = .ok (.goto 11, 3) := by decide +kernel
theorem dX3_readPart_81 : decode cX3_readPart 81 = .ok (.aload_n 0, 1) := by decide +kernel
theorem dX3_readPart_82 : decode cX3_readPart 82 = .ok (.aload_n 0, 1) := by decide +kernel
theorem dX3_readPart_83 : decode cX3_readPart 83 = .ok (.getfield 31, 3) := by decide +kernel
theorem dX3_readPart_86 : decode cX3_readPart 86 = .ok (.putfield 35, 3) := by decide +kernel
theorem dX3_readPart_89 : decode cX3_readPart 89 = .ok (.return_, 1) := by decide +kernel
theorem dX3_readGuard_0 : decode cX3_readGuard 0 = .ok (.aload_n 0, 1) := by decide +kernel
theorem dX3_readGuard_1 : decode cX3_readGuard 1 = .ok (.getfield 12, 3) := by decide +kernel
theorem dX3_readGuard_4 : decode cX3_readGuard 4 = .ok (.getfield 66, 3) := by decide +kernel
theorem dX3_readGuard_7 : decode cX3_readGuard 7 = .ok (.istore_n 1, 1) := by decide +kernel
theorem dX3_readGuard_8 : decode cX3_readGuard 8 = .ok (.aload_n 0, 1) := by decide +kernel
theorem dX3_readGuard_9 : decode cX3_readGuard 9 = .ok (.bipush 48, 2) := by decide +kernel
theorem dX3_readGuard_11 : decode cX3_readGuard 11 = .ok (.bipush 57, 2) := by decide +kernel
theorem dX3_readGuard_13 : decode cX3_readGuard 13 = .ok (.invokevirtual 52, 3) := by decide +kernel
theorem dX3_readGuard_16 : decode cX3_readGuard 16 = .ok (.istore_n 2, 1) := by decide +kernel
theorem dX3_readGuard_17 : decode cX3_readGuard 17 = .ok (.aload_n 0, 1) := by decide +kernel
theorem dX3_readGuard_18 : decode cX3_readGuard 18 = .ok (.getfield 23, 3) := by decide +kernel
theorem dX3_readGuard_21 : decode cX3_readGuard 21 = .ok (.getfield 79, 3) := by decide +kernel
theorem dX3_readGuard_24 : decode cX3_readGuard 24 = .ok (.iload_n 1, 1) := by decide +kernel
theorem dX3_readGuard_25 : decode cX3_readGuard 25 = .ok (.bipush 10, 2) := by decide +kernel
theorem dX3_readGuard_27 : decode cX3_readGuard 27 = .ok (.iload_n 2, 1) := by decide +kernel
theorem dX3_readGuard_28 : decode cX3_readGuard 28 = .ok (.imul, 1) := by decide +kernel
theorem dX3_readGuard_29 : decode cX3_readGuard 29 = .ok (.aload_n 0, 1) := by decide +kernel
theorem dX3_readGuard_30 : decode cX3_readGuard 30 = .ok (.bipush 48, 2) := by decide +kernel
theorem dX3_readGuard_32 : decode cX3_readGuard 32 = .ok (.bipush 57, 2) := by decide +kernel
theorem dX3_readGuard_34 : decode cX3_readGuard 34 = .ok (.invokevirtual 52, 3) := by decide +kernel
theorem dX3_readGuard_37 : decode cX3_readGuard 37 = .ok (.iadd, 1) := by decide +kernel
theorem dX3_readGuard_38 : decode cX3_readGuard 38 = .ok (.iastore, 1) := by decide +kernel
theorem dX3_readGuard_39 : decode cX3_readGuard 39 = .ok (.aload_n 0, 1) := by decide +kernel
theorem dX3_readGuard_40 : decode cX3_readGuard 40 = .ok (.getfield 23, 3) := by decide +kernel
theorem dX3_readGuard_43 : decode cX3_readGuard 43 = .ok (.getfield 83, 3) := by decide +kernel
theorem dX3_readGuard_46 : decode cX3_readGuard 46 = .ok (.iload_n 1, 1) := by decide +kernel
theorem dX3_readGuard_47 : decode cX3_readGuard 47 = .ok (.aload_n 0, 1) := by decide +kernel
theorem dX3_readGuard_48 : decode cX3_readGuard 48 = .ok (.bipush 48, 2) := by decide +kernel
theorem dX3_readGuard_50 : decode cX3_readGuard 50 = .ok (.bipush 57, 2) := by decide +kernel
theorem dX3_readGuard_52 : decode cX3_readGuard 52 = .ok (.invokevirtual 52, 3) := by decide +kernel
theorem dX3_readGuard_55 : decode cX3_readGuard 55 = .ok (.iastore, 1) := by decide +kernel
theorem dX3_readGuard_56 : decode cX3_readGuard 56 = .ok (.aload_n 0, 1) := by decide +kernel
theorem dX3_readGuard_57 : decode cX3_readGuard 57 = .ok (.getfield 23, 3) := by decide +kernel
theorem dX3_readGuard_60 : decode cX3_readGuard 60 = .ok (.getfield 86, 3) := by decide +kernel
theorem dX3_readGuard_63 : decode cX3_readGuard 63 = .ok (.iload_n 1, 1) := by decide +kernel
theorem dX3_readGuard_64 : decode cX3_readGuard 64 = .ok (.aload_n 0, 1) := by decide +kernel
theorem dX3_readGuard_65 : decode cX3_readGuard 65 = .ok (.bipush 48, 2) := by decide +kernel
theorem dX3_readGuard_67 : decode cX3_readGuard 67 = .ok (.bipush 57, 2) := by decide +kernel
theorem dX3_readGuard_69 : decode cX3_readGuard 69 = .ok (.invokevirtual 52, 3) := by decide +kernel
theorem dX3_readGuard_72 : decode cX3_readGuard 72 = .ok (.iastore, 1) := by decide +kernel
theorem dX3_readGuard_73 : decode cX3_readGuard 73 = .ok (.aload_n 0, 1) := by decide +kernel
theorem dX3_readGuard_74 : decode cX3_readGuard 74 = .ok (.getfield 12, 3) := by decide +kernel
theorem dX3_readGuard_77 : decode cX3_readGuard 77 = .ok (.iload_n 1, 1) := by decide +kernel
theorem dX3_readGuard_78 : decode cX3_readGuard 78 = .ok (.iconst 1, 1) := by decide +kernel
theorem dX3_readGuard_79 : decode cX3_readGuard 79 = .ok (.iadd, 1) := by decide +kernel
theorem dX3_readGuard_80 : decode cX3_readGuard 80 = .ok (.putfield 66, 3) := by decide +kernel
theorem dX3_readGuard_83 : decode cX3_readGuard 83 = .ok (.return_, 1) := by decide +kernel
theorem dX3_readTwins_0 : decode cX3_readTwins 0 = .ok (.aload_n 0, 1) := by decide +kernel
theorem dX3_readTwins_1 : decode cX3_readTwins 1 = .ok (.bipush (-9), 2) := by decide +kernel
theorem dX3_readTwins_3 : decode cX3_readTwins 3 = .ok (.invokevirtual 89, 3) := by decide +kernel
theorem dX3_readTwins_6 : decode cX3_readTwins 6 = .ok (.istore_n 1, 1) := by decide +kernel
theorem dX3_readTwins_7 : decode cX3_readTwins 7 = .ok (.aload_n 0, 1) := by decide +kernel
theorem dX3_readTwins_8 : decode cX3_readTwins 8 = .ok (.iload_n 1, 1) := by decide +kernel
theorem dX3_readTwins_9 : decode cX3_readTwins 9 = .ok (.invokevirtual 89, 3) := by decide +kernel
theorem dX3_readTwins_12 : decode cX3_readTwins 12 = .ok (.istore_n 2, 1) := by decide +kernel
theorem dX3_readTwins_13 : decode cX3_readTwins 13 = .ok (.aload_n 0, 1) := by decide +kernel
theorem dX3_readTwins_14 : decode cX3_readTwins 14 = .ok (.getfield 35, 3) := by decide +kernel
theorem dX3_readTwins_17 : decode cX3_readTwins 17 = .ok (.bipush (-9), 2) := by decide +kernel
theorem dX3_readTwins_19 : decode cX3_readTwins 19 = .ok (.if_icmp .ne 23, 3) := by decide +kernel
theorem dX3_readTwins_22 : decode cX3_readTwins 22 = .ok (.aload_n 0, 1) := by decide +kernel
theorem dX3_readTwins_23 : decode cX3_readTwins 23 = .ok (.getfield 12, 3) := by decide +kernel
theorem dX3_readTwins_26 : decode cX3_readTwins 26 = .ok (.getfield 93, 3) := by decide +kernel
theorem dX3_readTwins_29 : decode cX3_readTwins 29 = .ok (.iload_n 1, 1) := by decide +kernel
theorem dX3_readTwins_30 : decode cX3_readTwins 30 = .ok (.iload_n 2, 1) := by decide +kernel
theorem dX3_readTwins_31 : decode cX3_readTwins 31 = .ok (.iastore, 1) := by decide +kernel
theorem dX3_readTwins_32 : decode cX3_readTwins 32 = .ok (.aload_n 0, 1) := by decide +kernel
theorem dX3_readTwins_33 : decode cX3_readTwins 33 = .ok (.getfield 12, 3) := by decide +kernel
theorem dX3_readTwins_36 : decode cX3_readTwins 36 = .ok (.getfield 93, 3) := by decide +kernel
theorem dX3_readTwins_39 : decode cX3_readTwins 39 = .ok (.iload_n 2, 1) := by decide +kernel
theorem dX3_readTwins_40 : decode cX3_readTwins 40 = .ok (.iload_n 1, 1) := by decide +kernel
theorem dX3_readTwins_41 : decode cX3_readTwins 41 = .ok (.iastore, 1) := by decide +kernel
theorem dX3_readTwins_42 : decode cX3_readTwins 42 = .ok (.return_, 1) := by decide +kernel
theorem dX3_nextTwin_0 : decode cX3_nextTwin 0 = .ok (.aload_n 0, 1) := by decide +kernel
theorem dX3_nextTwin_1 : decode cX3_nextTwin 1 = .ok (.getfield 31, 3) := by decide +kernel
theorem dX3_nextTwin_4 : decode cX3_nextTwin 4 = .ok (.istore_n 2, 1) := by decide +kernel
theorem dX3_nextTwin_5 : decode cX3_nextTwin 5 = .ok (.aload_n 0, 1) := by decide +kernel
theorem dX3_nextTwin_6 : decode cX3_nextTwin 6 = .ok (.bipush 48, 2) := by decide +kernel
theorem dX3_nextTwin_8 : decode cX3_nextTwin 8 = .ok (.bipush 57, 2) := by decide +kernel
theorem dX3_nextTwin_10 : decode cX3_nextTwin 10 = .ok (.invokevirtual 52, 3) := by decide +kernel
theorem dX3_nextTwin_13 : decode cX3_nextTwin 13 = .ok (.istore_n 3, 1) := by decide +kernel
theorem dX3_nextTwin_14 : decode cX3_nextTwin 14 = .ok (.aload_n 0, 1) := by decide +kernel
theorem dX3_nextTwin_15 : decode cX3_nextTwin 15 = .ok (.getfield 35, 3) := by decide +kernel
theorem dX3_nextTwin_18 : decode cX3_nextTwin 18 = .ok (.bipush (-9), 2) := by decide +kernel
theorem dX3_nextTwin_20 : decode cX3_nextTwin 20 = .ok (.if_icmp .ne 38, 3) := by decide +kernel
theorem dX3_nextTwin_23 : decode cX3_nextTwin 23 = .ok (.aload_n 0, 1) := by decide +kernel
theorem dX3_nextTwin_24 : decode cX3_nextTwin 24 = .ok (.getfield 12, 3) := by decide +kernel
theorem dX3_nextTwin_27 : decode cX3_nextTwin 27 = .ok (.iload_n 3, 1) := by decide +kernel
theorem dX3_nextTwin_28 : decode cX3_nextTwin 28 = .ok (.invokevirtual 96, 3) := by decide +kernel
theorem dX3_nextTwin_31 : decode cX3_nextTwin 31 = .ok (.ifCond .eq 22, 3) := by decide +kernel
theorem dX3_nextTwin_34 : decode cX3_nextTwin 34 = .ok (.aload_n 0, 1) := by decide +kernel
theorem dX3_nextTwin_35 : decode cX3_nextTwin 35 = .ok (.getfield 12, 3) := by decide +kernel
theorem dX3_nextTwin_38 : decode cX3_nextTwin 38 = .ok (.getfield 93, 3) := by decide +kernel
theorem dX3_nextTwin_41 : decode cX3_nextTwin 41 = .ok (.iload_n 3, 1) := by decide +kernel
theorem dX3_nextTwin_42 : decode cX3_nextTwin 42 = .ok (.iaload, 1) := by decide +kernel
theorem dX3_nextTwin_43 : decode cX3_nextTwin 43 = .ok (.bipush (-9), 2) := by decide +kernel
theorem dX3_nextTwin_45 : decode cX3_nextTwin 45 = .ok (.if_icmp .ne 8, 3) := by decide +kernel
theorem dX3_nextTwin_48 : decode cX3_nextTwin 48 = .ok (.iload_n 3, 1) := by decide +kernel
theorem dX3_nextTwin_49 : decode cX3_nextTwin 49 = .ok (.iload_n 1, 1) := by decide +kernel
theorem dX3_nextTwin_50 : decode cX3_nextTwin 50 = .ok (.if_icmp .ne 8, 3) := by decide +kernel
theorem dX3_nextTwin_53 : decode cX3_nextTwin 53 = .ok (.aload_n 0, 1) := by decide +kernel
theorem dX3_nextTwin_54 : decode cX3_nextTwin 54 = .ok (.iload_n 2, 1) := by decide +kernel
theorem dX3_nextTwin_55 : decode cX3_nextTwin 55 = .ok (.putfield 35, 3) := by decide +kernel
theorem dX3_nextTwin_58 : decode cX3_nextTwin 58 = .ok (.iload_n 3, 1) := by decide +kernel
theorem dX3_nextTwin_59 : decode cX3_nextTwin 59 = .ok (.ireturn, 1) := by decide +kernel
theorem dX3_next_0 : decode cX3_next 0 = .ok (.aload_n 0, 1) := by decide +kernel
theorem dX3_next_1 : decode cX3_next 1 = .ok (.getfield 35, 3) := by decide +kernel
theorem dX3_next_4 : decode cX3_next 4 = .ok (.bipush (-9), 2) := by decide +kernel
theorem dX3_next_6 : decode cX3_next 6 = .ok (.if_icmp .eq 5, 3) := by decide +kernel
theorem dX3_next_9 : decode cX3_next 9 = .ok (.iconst 0, 1) := by decide +kernel
theorem dX3_next_10 : decode cX3_next 10 = .ok (.ireturn, 1) := by decide +kernel
theorem dX3_next_11 : decode cX3_next 11 = .ok (.aload_n 0, 1) := by decide +kernel
theorem dX3_next_12 : decode cX3_next 12 = .ok (.getfield 31, 3) := by decide +kernel
theorem dX3_next_15 : decode cX3_next 15 = .ok (.aload_n 0, 1) := by decide +kernel
theorem dX3_next_16 : decode cX3_next 16 = .ok (.getfield 27, 3) := by decide +kernel
theorem dX3_next_19 : decode cX3_next 19 = .ok (.getfield 44, 3) := by decide +kernel
theorem dX3_next_22 : decode cX3_next 22 = .ok (.if_icmp .lt 16, 3) := by decide +kernel
theorem dX3_next_25 : decode cX3_next 25 = .ok (.aload_n 0, 1) := by decide +kernel
theorem dX3_next_26 : decode cX3_next 26 = .ok (.aload_n 0, 1) := by decide +kernel
theorem dX3_next_27 : decode cX3_next 27 = .ok (.getfield 27, 3) := by decide +kernel
theorem dX3_next_30 : decode cX3_next 30 = .ok (.getfield 44, 3) := by decide +kernel
theorem dX3_next_33 : decode cX3_next 33 = .ok (.putfield 35, 3) := by decide +kernel
theorem dX3_next_36 : decode cX3_next 36 = .ok (.iconst 0, 1) := by decide +kernel
theorem dX3_next_37 : decode cX3_next 37 = .ok (.ireturn, 1) := by decide +kernel
theorem dX3_next_38 : decode cX3_next 38 = .ok (.aload_n 0, 1) := by decide +kernel
theorem dX3_next_39 : decode cX3_next 39 = .ok (.getfield 27, 3) := by decide +kernel
theorem dX3_next_42 : decode cX3_next 42 = .ok (.getfield 62, 3) := by decide +kernel
theorem dX3_next_45 : decode cX3_next 45 = .ok (.aload_n 0, 1) := by decide +kernel
theorem dX3_next_46 : decode cX3_next 46 = .ok (.getfield 31, 3) := by decide +kernel
theorem dX3_next_49 : decode cX3_next 49 = .ok (.baload, 1) := by decide +kernel
theorem dX3_next_50 : decode cX3_next 50 = .ok (.istore_n 3, 1) := by decide +kernel
theorem dX3_next_51 : decode cX3_next 51 = .ok (.iload_n 3, 1) := by decide +kernel
theorem dX3_next_52 : decode cX3_next 52 = .ok (.iload_n 1, 1) := by decide +kernel
theorem dX3_next_53 : decode cX3_next 53 = .ok (.if_icmp .lt 8, 3) := by decide +kernel
theorem dX3_next_56 : decode cX3_next 56 = .ok (.iload_n 3, 1) := by decide +kernel
theorem dX3_next_57 : decode cX3_next 57 = .ok (.iload_n 2, 1) := by decide +kernel
theorem dX3_next_58 : decode cX3_next 58 = .ok (.if_icmp .le 13, 3) := by decide +kernel
theorem dX3_next_61 : decode cX3_next 61 = .ok (.aload_n 0, 1) := by decide +kernel
theorem dX3_next_62 : decode cX3_next 62 = .ok (.aload_n 0, 1) := by decide +kernel
theorem dX3_next_63 : decode cX3_next 63 = .ok (.getfield 31, 3) := by decide +kernel
theorem dX3_next_66 : decode cX3_next 66 = .ok (.putfield 35, 3) := by decide +kernel
theorem dX3_next_69 : decode cX3_next 69 = .ok (.iconst 0, 1) := by decide +kernel
theorem dX3_next_70 : decode cX3_next 70 = .ok (.ireturn, 1) := by decide +kernel
theorem dX3_next_71 : decode cX3_next 71 = .ok (.aload_n 0, 1) := by decide +kernel
theorem dX3_next_72 : decode cX3_next 72 = .ok (.dup, 1) := by decide +kernel
theorem dX3_next_73 : decode cX3_next 73 = .ok (.getfield 31, 3) := by decide +kernel
theorem dX3_next_76 : decode cX3_next 76 = .ok (.iconst 1, 1) := by decide +kernel
theorem dX3_next_77 : decode cX3_next 77 = .ok (.iadd, 1) := by decide +kernel
theorem dX3_next_78 : decode cX3_next 78 = .ok (.putfield 31, 3) := by decide +kernel
theorem dX3_next_81 : decode cX3_next 81 = .ok (.iload_n 3, 1) := by decide +kernel
theorem dX3_next_82 : decode cX3_next 82 = .ok (.iload_n 1, 1) := by decide +kernel
theorem dX3_next_83 : decode cX3_next 83 = .ok (.isub, 1) := by decide +kernel
theorem dX3_next_84 : decode cX3_next 84 = .ok (.ireturn, 1) := by decide +kernel
theorem dX4_init_0 : decode cX4_init 0 = .ok (.aload_n 0, 1) := by decide +kernel
theorem dX4_init_1 : decode cX4_init 1 = .ok (.invokespecial 3, 3) := by decide +kernel
theorem dX4_init_4 : decode cX4_init 4 = .ok (.aload_n 0, 1) := by decide +kernel
theorem dX4_init_5 : decode cX4_init 5 = .ok (.iconst 5, 1) := by decide +kernel
theorem dX4_init_6 : decode cX4_init 6 = .ok (.newarray .int, 2) := by decide +kernel
theorem dX4_init_8 : decode cX4_init 8 = .ok (.putfield 9, 3) := by decide +kernel
theorem dX4_init_11 : decode cX4_init 11 = .ok (.aload_n 0, 1) := by decide +kernel
theorem dX4_init_12 : decode cX4_init 12 = .ok (.iconst 5, 1) := by decide +kernel
theorem dX4_init_13 : decode cX4_init 13 = .ok (.newarray .int, 2) := by decide +kernel
theorem dX4_init_15 : decode cX4_init 15 = .ok (.putfield 15, 3) := by decide +kernel
theorem dX4_init_18 : decode cX4_init 18 = .ok (.aload_n 0, 1) := by decide +kernel
theorem dX4_init_19 : decode cX4_init 19 = .ok (.iconst 5, 1) := by decide +kernel
theorem dX4_init_20 : decode cX4_init 20 = .ok (.newarray .int, 2) := by decide +kernel
theorem dX4_init_22 : decode cX4_init 22 = .ok (.putfield 18, 3) := by decide +kernel
theorem dX4_init_25 : decode cX4_init 25 = .ok (.aload_n 0, 1) := by decide +kernel
theorem dX4_init_26 : decode cX4_init 26 = .ok (.iconst 5, 1) := by decide +kernel
theorem dX4_init_27 : decode cX4_init 27 = .ok (.newarray .int, 2) := by decide +kernel
theorem dX4_init_29 : decode cX4_init 29 = .ok (.putfield 21, 3) := by decide +kernel
theorem dX4_init_32 : decode cX4_init 32 = .ok (.aload_n 0, 1) := by decide +kernel
theorem dX4_init_33 : decode cX4_init 33 = .ok (.aload_n 1, 1) := by decide +kernel
theorem dX4_init_34 : decode cX4_init 34 = .ok (.putfield 24, 3) := by decide +kernel
theorem dX4_init_37 : decode cX4_init 37 = .ok (.return_, 1) := by decide +kernel
theorem dX4_copyFrom_0 : decode cX4_copyFrom 0 = .ok (.aload_n 1, 1) := by decide +kernel
theorem dX4_copyFrom_1 : decode cX4_copyFrom 1 = .ok (.getfield 9, 3) := by decide +kernel
theorem dX4_copyFrom_4 : decode cX4_copyFrom 4 = .ok (.iconst 0, 1) := by decide +kernel
theorem dX4_copyFrom_5 : decode cX4_copyFrom 5 = .ok (.aload_n 0, 1) := by decide +kernel
theorem dX4_copyFrom_6 : decode cX4_copyFrom 6 = .ok (.getfield 9, 3) := by decide +kernel
theorem dX4_copyFrom_9 : decode cX4_copyFrom 9 = .ok (.iconst 0, 1) := by decide +kernel
theorem dX4_copyFrom_10 : decode cX4_copyFrom 10 = .ok (.iconst 5, 1) := by decide +kernel
theorem dX4_copyFrom_11 : decode cX4_copyFrom 11 = .ok (.invokestatic 28, 3) := by decide +kernel
theorem dX4_copyFrom_14 : decode cX4_copyFrom 14 = .ok (.aload_n 1, 1) := by decide +kernel
theorem dX4_copyFrom_15 : decode cX4_copyFrom 15 = .ok (.getfield 15, 3) := by decide +kernel
theorem dX4_copyFrom_18 : decode cX4_copyFrom 18 = .ok (.iconst 0, 1) := by decide +kernel
theorem dX4_copyFrom_19 : decode cX4_copyFrom 19 = .ok (.aload_n 0, 1) := by decide +kernel
theorem dX4_copyFrom_20 : decode cX4_copyFrom 20 = .ok (.getfield 15, 3) := by decide +kernel
theorem dX4_copyFrom_23 : decode cX4_copyFrom 23 = .ok (.iconst 0, 1) := by decide +kernel
theorem dX4_copyFrom_24 : decode cX4_copyFrom 24 = .ok (.iconst 5, 1) := by decide +kernel
theorem dX4_copyFrom_25 : decode cX4_copyFrom 25 = .ok (.invokestatic 28, 3) := by decide +kernel
theorem dX4_copyFrom_28 : decode cX4_copyFrom 28 = .ok (.aload_n 1, 1) := by decide +kernel
theorem dX4_copyFrom_29 : decode cX4_copyFrom 29 = .ok (.getfield 18, 3) := by decide +kernel
theorem dX4_copyFrom_32 : decode cX4_copyFrom 32 = .ok (.iconst 0, 1) := by decide +kernel
theorem dX4_copyFrom_33 : decode cX4_copyFrom 33 = .ok (.aload_n 0, 1) := by decide +kernel
theorem dX4_copyFrom_34 : decode cX4_copyFrom 34 = .ok (.getfield 18, 3) := by decide +kernel
theorem dX4_copyFrom_37 : decode cX4_copyFrom 37 = .ok (.iconst 0, 1) := by decide +kernel
theorem dX4_copyFrom_38 : decode cX4_copyFrom 38 = .ok (.iconst 5, 1) := by decide +kernel
theorem dX4_copyFrom_39 : decode cX4_copyFrom 39 = .ok (.invokestatic 28, 3) := by decide +kernel
theorem dX4_copyFrom_42 : decode cX4_copyFrom 42 = .ok (.aload_n 1, 1) := by decide +kernel
theorem dX4_copyFrom_43 : decode cX4_copyFrom 43 = .ok (.getfield 21, 3) := by decide +kernel
theorem dX4_copyFrom_46 : decode cX4_copyFrom 46 = .ok (.iconst 0, 1) := by decide +kernel
theorem dX4_copyFrom_47 : decode cX4_copyFrom 47 = .ok (.aload_n 0, 1) := by decide +kernel
theorem dX4_copyFrom_48 : decode cX4_copyFrom 48 = .ok (.getfield 21, 3) := by decide +kernel
theorem dX4_copyFrom_51 : decode cX4_copyFrom 51 = .ok (.iconst 0, 1) := by decide +kernel
theorem dX4_copyFrom_52 : decode cX4_copyFrom 52 = .ok (.iconst 5, 1) := by decide +kernel
theorem dX4_copyFrom_53 : decode cX4_copyFrom 53 = .ok (.invokestatic 28, 3) := by decide +kernel
theorem dX4_copyFrom_56 : decode cX4_copyFrom 56 = .ok (.aload_n 0, 1) := by decide +kernel
theorem dX4_copyFrom_57 : decode cX4_copyFrom 57 = .ok (.aload_n 1, 1) := by decide +kernel
theorem dX4_copyFrom_58 : decode cX4_copyFrom 58 = .ok (.getfield 34, 3) := by decide +kernel
theorem dX4_copyFrom_61 : decode cX4_copyFrom 61 = .ok (.putfield 34, 3) := by decide +kernel
theorem dX4_copyFrom_64 : decode cX4_copyFrom 64 = .ok (.aload_n 0, 1) := by decide +kernel
theorem dX4_copyFrom_65 : decode cX4_copyFrom 65 = .ok (.aload_n 1, 1) := by decide +kernel
theorem dX4_copyFrom_66 : decode cX4_copyFrom 66 = .ok (.getfield 38, 3) := by decide +kernel
theorem dX4_copyFrom_69 : decode cX4_copyFrom 69 = .ok (.putfield 38, 3) := by decide +kernel
theorem dX4_copyFrom_72 : decode cX4_copyFrom 72 = .ok (.aload_n 0, 1) := by decide +kernel
theorem dX4_copyFrom_73 : decode cX4_copyFrom 73 = .ok (.aload_n 1, 1) := by decide +kernel
theorem dX4_copyFrom_74 : decode cX4_copyFrom 74 = .ok (.getfield 41, 3) := by decide +kernel
theorem dX4_copyFrom_77 : decode cX4_copyFrom 77 = .ok (.putfield 41, 3) := by decide +kernel
theorem dX4_copyFrom_80 : decode cX4_copyFrom 80 = .ok (.aload_n 0, 1) := by decide +kernel
theorem dX4_copyFrom_81 : decode cX4_copyFrom 81 = .ok (.aload_n 1, 1) := by decide +kernel
theorem dX4_copyFrom_82 : decode cX4_copyFrom 82 = .ok (.getfield 44, 3) := by decide +kernel
theorem dX4_copyFrom_85 : decode cX4_copyFrom 85 = .ok (.putfield 44, 3) := by decide +kernel
theorem dX4_copyFrom_88 : decode cX4_copyFrom 88 = .ok (.return_, 1) := by decide +kernel
theorem dX4_tiredOfAll_0 : decode cX4_tiredOfAll 0 = .ok (.iconst 0, 1) := by decide +kernel
theorem dX4_tiredOfAll_1 : decode cX4_tiredOfAll 1 = .ok (.istore_n 1, 1) := by decide +kernel
theorem dX4_tiredOfAll_2 : decode cX4_tiredOfAll 2 = .ok (.iconst 0, 1) := by decide +kernel
theorem dX4_tiredOfAll_3 : decode cX4_tiredOfAll 3 = .ok (.istore_n 2, 1) := by decide +kernel
theorem dX4_tiredOfAll_4 : decode cX4_tiredOfAll 4 = .ok (.iload_n 2, 1) := by decide +kernel
theorem dX4_tiredOfAll_5 : decode cX4_tiredOfAll 5 = .ok (.aload_n 0, 1) := by decide +kernel
theorem dX4_tiredOfAll_6 : decode cX4_tiredOfAll 6 = .ok (.getfield 24, 3) := by decide +kernel
theorem dX4_tiredOfAll_9 : decode cX4_tiredOfAll 9 = .ok (.getfield 47, 3) := by decide +kernel
theorem dX4_tiredOfAll_12 : decode cX4_tiredOfAll 12 = .ok (.if_icmp .ge 18, 3) := by decide +kernel
theorem dX4_tiredOfAll_15 : decode cX4_tiredOfAll 15 = .ok (.iload_n 1, 1) := by decide +kernel
theorem dX4_tiredOfAll_16 : decode cX4_tiredOfAll 16 = .ok (.aload_n 0, 1) := by decide +kernel
theorem dX4_tiredOfAll_17 : decode cX4_tiredOfAll 17 = .ok (.getfield 9, 3) := by decide +kernel
theorem dX4_tiredOfAll_20 : decode cX4_tiredOfAll 20 = .ok (.iload_n 2, 1) := by decide +kernel
theorem dX4_tiredOfAll_21 : decode cX4_tiredOfAll 21 = .ok (.iaload, 1) := by decide +kernel
theorem dX4_tiredOfAll_22 : decode cX4_tiredOfAll 22 = .ok (.iadd, 1) := by decide +kernel
theorem dX4_tiredOfAll_23 : decode cX4_tiredOfAll 23 = .ok (.istore_n 1, 1) := by decide +kernel
theorem dX4_tiredOfAll_24 : decode cX4_tiredOfAll 24 = .ok (.iinc 2 1, 3) := by decide +kernel
theorem dX4_tiredOfAll_27 : decode cX4_tiredOfAll 27 = .ok (.goto (-23), 3) := by decide +kernel
theorem dX4_tiredOfAll_30 : decode cX4_tiredOfAll 30 = .ok (.iload_n 1, 1) := by decide +kernel
theorem dX4_tiredOfAll_31 : decode cX4_tiredOfAll 31 = .ok (.ireturn, 1) := by decide +kernel
theorem dX4_leastTiredBehind_0 : decode cX4_leastTiredBehind 0 = .ok (.iconst 0, 1) := by decide +kernel
theorem dX4_leastTiredBehind_1 : decode cX4_leastTiredBehind 1 = .ok (.istore_n 2, 1) := by decide +kernel
theorem dX4_leastTiredBehind_2 : decode cX4_leastTiredBehind 2 = .ok (.iconst 0, 1) := by decide +kernel
theorem dX4_leastTiredBehind_3 : decode cX4_leastTiredBehind 3 = .ok (.istore_n 3, 1) := by decide +kernel
theorem dX4_leastTiredBehind_4 : decode cX4_leastTiredBehind 4 = .ok (.iload_n 3, 1) := by decide +kernel
theorem dX4_leastTiredBehind_5 : decode cX4_leastTiredBehind 5 = .ok (.aload_n 0, 1) := by decide +kernel
theorem dX4_leastTiredBehind_6 : decode cX4_leastTiredBehind 6 = .ok (.getfield 24, 3) := by decide +kernel
theorem dX4_leastTiredBehind_9 : decode cX4_leastTiredBehind 9 = .ok (.getfield 47, 3) := by decide +kernel
theorem dX4_leastTiredBehind_12 : decode cX4_leastTiredBehind 12 = .ok (.if_icmp .ge 26, 3) := by decide +kernel
theorem dX4_leastTiredBehind_15 : decode cX4_leastTiredBehind 15 = .ok (.iload_n 2, 1) := by decide +kernel
theorem dX4_leastTiredBehind_16 : decode cX4_leastTiredBehind 16 = .ok (.iconst 0, 1) := by decide +kernel
theorem dX4_leastTiredBehind_17 : decode cX4_leastTiredBehind 17 = .ok (.aload_n 0, 1) := by decide +kernel
theorem dX4_leastTiredBehind_18 : decode cX4_leastTiredBehind 18 = .ok (.getfield 9, 3) := by decide +kernel
theorem dX4_leastTiredBehind_21 : decode cX4_leastTiredBehind 21 = .ok (.iload_n 3, 1) := by decide +kernel
theorem dX4_leastTiredBehind_22 : decode cX4_leastTiredBehind 22 = .ok (.iaload, 1) := by decide +kernel
theorem dX4_leastTiredBehind_23 : decode cX4_leastTiredBehind 23 = .ok (.iconst 4, 1) := by decide +kernel
theorem dX4_leastTiredBehind_24 : decode cX4_leastTiredBehind 24 = .ok (.iload_n 1, 1) := by decide +kernel
theorem dX4_leastTiredBehind_25 : decode cX4_leastTiredBehind 25 = .ok (.imul, 1) := by decide +kernel
theorem dX4_leastTiredBehind_26 : decode cX4_leastTiredBehind 26 = .ok (.isub, 1) := by decide +kernel
theorem dX4_leastTiredBehind_27 : decode cX4_leastTiredBehind 27 = .ok (.invokestatic 52, 3) := by decide +kernel
theorem dX4_leastTiredBehind_30 : decode cX4_leastTiredBehind 30 = .ok (.iadd, 1) := by decide +kernel
theorem dX4_leastTiredBehind_31 : decode cX4_leastTiredBehind 31 = .ok (.istore_n 2, 1) := by decide +kernel
theorem dX4_leastTiredBehind_32 : decode cX4_leastTiredBehind 32 = .ok (.iinc 3 1, 3) := by decide +kernel
theorem dX4_leastTiredBehind_35 : decode cX4_leastTiredBehind 35 = .ok (.goto (-31), 3) := by decide +kernel
theorem dX4_leastTiredBehind_38 : decode cX4_leastTiredBehind 38 = .ok (.iload_n 2, 1) := by decide +kernel
theorem dX4_leastTiredBehind_39 : decode cX4_leastTiredBehind 39 = .ok (.ireturn, 1) := by decide +kernel
theorem dX4_isLike_0 : decode cX4_isLike 0 = .ok (.iconst 0, 1) := by decide +kernel
theorem dX4_isLike_1 : decode cX4_isLike 1 = .ok (.istore_n 2, 1) := by decide +kernel
theorem dX4_isLike_2 : decode cX4_isLike 2 = .ok (.iload_n 2, 1) := by decide +kernel
theorem dX4_isLike_3 : decode cX4_isLike 3 = .ok (.aload_n 0, 1) := by decide +kernel
theorem dX4_isLike_4 : decode cX4_isLike 4 = .ok (.getfield 24, 3) := by decide +kernel
theorem dX4_isLike_7 : decode cX4_isLike 7 = .ok (.getfield 47, 3) := by decide +kernel
theorem dX4_isLike_10 : decode cX4_isLike 10 = .ok (.if_icmp .ge 56, 3) := by decide +kernel
theorem dX4_isLike_13 : decode cX4_isLike 13 = .ok (.aload_n 0, 1) := by decide +kernel
theorem dX4_isLike_14 : decode cX4_isLike 14 = .ok (.getfield 9, 3) := by decide +kernel
theorem dX4_isLike_17 : decode cX4_isLike 17 = .ok (.iload_n 2, 1) := by decide +kernel
theorem dX4_isLike_18 : decode cX4_isLike 18 = .ok (.iaload, 1) := by decide +kernel
theorem dX4_isLike_19 : decode cX4_isLike 19 = .ok (.aload_n 1, 1) := by decide +kernel
theorem dX4_isLike_20 : decode cX4_isLike 20 = .ok (.getfield 9, 3) := by decide +kernel
theorem dX4_isLike_23 : decode cX4_isLike 23 = .ok (.iload_n 2, 1) := by decide +kernel
theorem dX4_isLike_24 : decode cX4_isLike 24 = .ok (.iaload, 1) := by decide +kernel
theorem dX4_isLike_25 : decode cX4_isLike 25 = .ok (.if_icmp .ne 33, 3) := by decide +kernel
theorem dX4_isLike_28 : decode cX4_isLike 28 = .ok (.aload_n 0, 1) := by decide +kernel
theorem dX4_isLike_29 : decode cX4_isLike 29 = .ok (.getfield 15, 3) := by decide +kernel
theorem dX4_isLike_32 : decode cX4_isLike 32 = .ok (.iload_n 2, 1) := by decide +kernel
theorem dX4_isLike_33 : decode cX4_isLike 33 = .ok (.iaload, 1) := by decide +kernel
theorem dX4_isLike_34 : decode cX4_isLike 34 = .ok (.aload_n 1, 1) := by decide +kernel
theorem dX4_isLike_35 : decode cX4_isLike 35 = .ok (.getfield 15, 3) := by decide +kernel
theorem dX4_isLike_38 : decode cX4_isLike 38 = .ok (.iload_n 2, 1) := by decide +kernel
theorem dX4_isLike_39 : decode cX4_isLike 39 = .ok (.iaload, 1) := by decide +kernel
theorem dX4_isLike_40 : decode cX4_isLike 40 = .ok (.if_icmp .ne 18, 3) := by decide +kernel
theorem dX4_isLike_43 : decode cX4_isLike 43 = .ok (.aload_n 0, 1) := by decide +kernel
theorem dX4_isLike_44 : decode cX4_isLike 44 = .ok (.getfield 18, 3) := by decide +kernel
theorem dX4_isLike_47 : decode cX4_isLike 47 = .ok (.iload_n 2, 1) := by decide +kernel
theorem dX4_isLike_48 : decode cX4_isLike 48 = .ok (.iaload, 1) := by decide +kernel
theorem dX4_isLike_49 : decode cX4_isLike 49 = .ok (.aload_n 1, 1) := by decide +kernel
theorem dX4_isLike_50 : decode cX4_isLike 50 = .ok (.getfield 18, 3) := by decide +kernel
theorem dX4_isLike_53 : decode cX4_isLike 53 = .ok (.iload_n 2, 1) := by decide +kernel
theorem dX4_isLike_54 : decode cX4_isLike 54 = .ok (.iaload, 1) := by decide +kernel
theorem dX4_isLike_55 : decode cX4_isLike 55 = .ok (.if_icmp .eq 5, 3) := by decide +kernel
theorem dX4_isLike_58 : decode cX4_isLike 58 = .ok (.iconst 0, 1) := by decide +kernel
theorem dX4_isLike_59 : decode cX4_isLike 59 = .ok (.ireturn, 1) := by decide +kernel
theorem dX4_isLike_60 : decode cX4_isLike 60 = .ok (.iinc 2 1, 3) := by decide +kernel
theorem dX4_isLike_63 : decode cX4_isLike 63 = .ok (.goto (-61), 3) := by decide +kernel
theorem dX4_isLike_66 : decode cX4_isLike 66 = .ok (.aload_n 0, 1) := by decide +kernel
theorem dX4_isLike_67 : decode cX4_isLike 67 = .ok (.getfield 34, 3) := by decide +kernel
theorem dX4_isLike_70 : decode cX4_isLike 70 = .ok (.aload_n 1, 1) := by decide +kernel
theorem dX4_isLike_71 : decode cX4_isLike 71 = .ok (.getfield 34, 3) := by decide +kernel
theorem dX4_isLike_74 : decode cX4_isLike 74 = .ok (.if_icmp .ne 18, 3) := by decide +kernel
theorem dX4_isLike_77 : decode cX4_isLike 77 = .ok (.aload_n 0, 1) := by decide +kernel
theorem dX4_isLike_78 : decode cX4_isLike 78 = .ok (.getfield 38, 3) := by decide +kernel
theorem dX4_isLike_81 : decode cX4_isLike 81 = .ok (.aload_n 1, 1) := by decide +kernel
theorem dX4_isLike_82 : decode cX4_isLike 82 = .ok (.getfield 38, 3) := by decide +kernel
theorem dX4_isLike_85 : decode cX4_isLike 85 = .ok (.if_icmp .ne 7, 3) := by decide +kernel
theorem dX4_isLike_88 : decode cX4_isLike 88 = .ok (.iconst 1, 1) := by decide +kernel
theorem dX4_isLike_89 : decode cX4_isLike 89 = .ok (.goto 4, 3) := by decide +kernel
theorem dX4_isLike_92 : decode cX4_isLike 92 = .ok (.iconst 0, 1) := by decide +kernel
theorem dX4_isLike_93 : decode cX4_isLike 93 = .ok (.ireturn, 1) := by decide +kernel
theorem dX4_allows_0 : decode cX4_allows 0 = .ok (.iload_n 1, 1) := by decide +kernel
theorem dX4_allows_1 : decode cX4_allows 1 = .ok (.invokestatic 58, 3) := by decide +kernel
theorem dX4_allows_4 : decode cX4_allows 4 = .ok (.aload_n 0, 1) := by decide +kernel
theorem dX4_allows_5 : decode cX4_allows 5 = .ok (.getfield 24, 3) := by decide +kernel
theorem dX4_allows_8 : decode cX4_allows 8 = .ok (.getfield 64, 3) := by decide +kernel
theorem dX4_allows_11 : decode cX4_allows 11 = .ok (.if_icmp .le 5, 3) := by decide +kernel
theorem dX4_allows_14 : decode cX4_allows 14 = .ok (.iconst 0, 1) := by decide +kernel
theorem dX4_allows_15 : decode cX4_allows 15 = .ok (.ireturn, 1) := by decide +kernel
theorem dX4_allows_16 : decode cX4_allows 16 = .ok (.aload_n 0, 1) := by decide +kernel
theorem dX4_allows_17 : decode cX4_allows 17 = .ok (.iload_n 1, 1) := by decide +kernel
theorem dX4_allows_18 : decode cX4_allows 18 = .ok (.invokevirtual 67, 3) := by decide +kernel
theorem dX4_allows_21 : decode cX4_allows 21 = .ok (.istore_n 2, 1) := by decide +kernel
theorem dX4_allows_22 : decode cX4_allows 22 = .ok (.iconst 0, 1) := by decide +kernel
theorem dX4_allows_23 : decode cX4_allows 23 = .ok (.istore_n 3, 1) := by decide +kernel
theorem dX4_allows_24 : decode cX4_allows 24 = .ok (.iload_n 3, 1) := by decide +kernel
theorem dX4_allows_25 : decode cX4_allows 25 = .ok (.aload_n 0, 1) := by decide +kernel
theorem dX4_allows_26 : decode cX4_allows 26 = .ok (.getfield 24, 3) := by decide +kernel
theorem dX4_allows_29 : decode cX4_allows 29 = .ok (.getfield 47, 3) := by decide +kernel
theorem dX4_allows_32 : decode cX4_allows 32 = .ok (.if_icmp .ge 58, 3) := by decide +kernel
theorem dX4_allows_35 : decode cX4_allows 35 = .ok (.iconst 1, 1) := by decide +kernel
theorem dX4_allows_36 : decode cX4_allows 36 = .ok (.iload_n 3, 1) := by decide +kernel
theorem dX4_allows_37 : decode cX4_allows 37 = .ok (.ishl, 1) := by decide +kernel
theorem dX4_allows_38 : decode cX4_allows 38 = .ok (.istore 4, 2) := by decide +kernel
theorem dX4_allows_40 : decode cX4_allows 40 = .ok (.iload_n 2, 1) := by decide +kernel
theorem dX4_allows_41 : decode cX4_allows 41 = .ok (.iload 4, 2) := by decide +kernel
theorem dX4_allows_43 : decode cX4_allows 43 = .ok (.iand, 1) := by decide +kernel
theorem dX4_allows_44 : decode cX4_allows 44 = .ok (.ifCond .eq 15, 3) := by decide +kernel
theorem dX4_allows_47 : decode cX4_allows 47 = .ok (.aload_n 0, 1) := by decide +kernel
theorem dX4_allows_48 : decode cX4_allows 48 = .ok (.getfield 15, 3) := by decide +kernel
theorem dX4_allows_51 : decode cX4_allows 51 = .ok (.iload_n 3, 1) := by decide +kernel
theorem dX4_allows_52 : decode cX4_allows 52 = .ok (.iaload, 1) := by decide +kernel
theorem dX4_allows_53 : decode cX4_allows 53 = .ok (.iconst 1, 1) := by decide +kernel
theorem dX4_allows_54 : decode cX4_allows 54 = .ok (.if_icmp .ge 5, 3) := by decide +kernel
theorem dX4_allows_57 : decode cX4_allows 57 = .ok (.iconst 0, 1) := by decide +kernel
theorem dX4_allows_58 : decode cX4_allows 58 = .ok (.ireturn, 1) := by decide +kernel
theorem dX4_allows_59 : decode cX4_allows 59 = .ok (.iload_n 1, 1) := by decide +kernel
theorem dX4_allows_60 : decode cX4_allows 60 = .ok (.aload_n 0, 1) := by decide +kernel
theorem dX4_allows_61 : decode cX4_allows 61 = .ok (.getfield 38, 3) := by decide +kernel
theorem dX4_allows_64 : decode cX4_allows 64 = .ok (.iand, 1) := by decide +kernel
theorem dX4_allows_65 : decode cX4_allows 65 = .ok (.iload 4, 2) := by decide +kernel
theorem dX4_allows_67 : decode cX4_allows 67 = .ok (.iand, 1) := by decide +kernel
theorem dX4_allows_68 : decode cX4_allows 68 = .ok (.ifCond .eq 16, 3) := by decide +kernel
theorem dX4_allows_71 : decode cX4_allows 71 = .ok (.aload_n 0, 1) := by decide +kernel
theorem dX4_allows_72 : decode cX4_allows 72 = .ok (.getfield 18, 3) := by decide +kernel
theorem dX4_allows_75 : decode cX4_allows 75 = .ok (.iload_n 3, 1) := by decide +kernel
theorem dX4_allows_76 : decode cX4_allows 76 = .ok (.iaload, 1) := by decide +kernel
theorem dX4_allows_77 : decode cX4_allows 77 = .ok (.bipush 9, 2) := by decide +kernel
theorem dX4_allows_79 : decode cX4_allows 79 = .ok (.if_icmp .lt 5, 3) := by decide +kernel
theorem dX4_allows_82 : decode cX4_allows 82 = .ok (.iconst 0, 1) := by decide +kernel
theorem dX4_allows_83 : decode cX4_allows 83 = .ok (.ireturn, 1) := by decide +kernel
theorem dX4_allows_84 : decode cX4_allows 84 = .ok (.iinc 3 1, 3) := by decide +kernel
theorem dX4_allows_87 : decode cX4_allows 87 = .ok (.goto (-63), 3) := by decide +kernel
theorem dX4_allows_90 : decode cX4_allows 90 = .ok (.iconst 1, 1) := by decide +kernel
theorem dX4_allows_91 : decode cX4_allows 91 = .ok (.ireturn, 1) := by decide +kernel
theorem dX4_giversOf_0 : decode cX4_giversOf 0 = .ok (.iload_n 1, 1) := by decide +kernel
theorem dX4_giversOf_1 : decode cX4_giversOf 1 = .ok (.aload_n 0, 1) := by decide +kernel
theorem dX4_giversOf_2 : decode cX4_giversOf 2 = .ok (.getfield 38, 3) := by decide +kernel
theorem dX4_giversOf_5 : decode cX4_giversOf 5 = .ok (.iconst (-1), 1) := by decide +kernel
theorem dX4_giversOf_6 : decode cX4_giversOf 6 = .ok (.ixor, 1) := by decide +kernel
theorem dX4_giversOf_7 : decode cX4_giversOf 7 = .ok (.iand, 1) := by decide +kernel
theorem dX4_giversOf_8 : decode cX4_giversOf 8 = .ok (.istore_n 2, 1) := by decide +kernel
theorem dX4_giversOf_9 : decode cX4_giversOf 9 = .ok (.iload_n 2, 1) := by decide +kernel
theorem dX4_giversOf_10 : decode cX4_giversOf 10 = .ok (.istore_n 3, 1) := by decide +kernel
theorem dX4_giversOf_11 : decode cX4_giversOf 11 = .ok (.iconst 0, 1) := by decide +kernel
theorem dX4_giversOf_12 : decode cX4_giversOf 12 = .ok (.istore 4, 2) := by decide +kernel
theorem dX4_giversOf_14 : decode cX4_giversOf 14 = .ok (.iload 4, 2) := by decide +kernel
theorem dX4_giversOf_16 : decode cX4_giversOf 16 = .ok (.aload_n 0, 1) := by decide +kernel
theorem dX4_giversOf_17 : decode cX4_giversOf 17 = .ok (.getfield 24, 3) := by decide +kernel
theorem dX4_giversOf_20 : decode cX4_giversOf 20 = .ok (.getfield 47, 3) := by decide +kernel
theorem dX4_giversOf_23 : decode cX4_giversOf 23 = .ok (.if_icmp .ge 73, 3) := by decide +kernel
theorem dX4_giversOf_26 : decode cX4_giversOf 26 = .ok (.aload_n 0, 1) := by decide +kernel
theorem dX4_giversOf_27 : decode cX4_giversOf 27 = .ok (.getfield 24, 3) := by decide +kernel
theorem dX4_giversOf_30 : decode cX4_giversOf 30 = .ok (.getfield 70, 3) := by decide +kernel
theorem dX4_giversOf_33 : decode cX4_giversOf 33 = .ok (.iload 4, 2) := by decide +kernel
theorem dX4_giversOf_35 : decode cX4_giversOf 35 = .ok (.iaload, 1) := by decide +kernel
theorem dX4_giversOf_36 : decode cX4_giversOf 36 = .ok (.istore 5, 2) := by decide +kernel
theorem dX4_giversOf_38 : decode cX4_giversOf 38 = .ok (.iload 5, 2) := by decide +kernel
theorem dX4_giversOf_40 : decode cX4_giversOf 40 = .ok (.iload 4, 2) := by decide +kernel
theorem dX4_giversOf_42 : decode cX4_giversOf 42 = .ok (.if_icmp .le 48, 3) := by decide +kernel
theorem dX4_giversOf_45 : decode cX4_giversOf 45 = .ok (.iload_n 2, 1) := by decide +kernel
theorem dX4_giversOf_46 : decode cX4_giversOf 46 = .ok (.iload 4, 2) := by decide +kernel
theorem dX4_giversOf_48 : decode cX4_giversOf 48 = .ok (.ishr, 1) := by decide +kernel
theorem dX4_giversOf_49 : decode cX4_giversOf 49 = .ok (.iload_n 2, 1) := by decide +kernel
theorem dX4_giversOf_50 : decode cX4_giversOf 50 = .ok (.iload 5, 2) := by decide +kernel
theorem dX4_giversOf_52 : decode cX4_giversOf 52 = .ok (.ishr, 1) := by decide +kernel
theorem dX4_giversOf_53 : decode cX4_giversOf 53 = .ok (.iand, 1) := by decide +kernel
theorem dX4_giversOf_54 : decode cX4_giversOf 54 = .ok (.iconst 1, 1) := by decide +kernel
theorem dX4_giversOf_55 : decode cX4_giversOf 55 = .ok (.iand, 1) := by decide +kernel
theorem dX4_giversOf_56 : decode cX4_giversOf 56 = .ok (.ifCond .eq 34, 3) := by decide +kernel
theorem dX4_giversOf_59 : decode cX4_giversOf 59 = .ok (.iload_n 3, 1) := by decide +kernel
theorem dX4_giversOf_60 : decode cX4_giversOf 60 = .ok (.iconst 1, 1) := by decide +kernel
theorem dX4_giversOf_61 : decode cX4_giversOf 61 = .ok (.aload_n 0, 1) := by decide +kernel
theorem dX4_giversOf_62 : decode cX4_giversOf 62 = .ok (.getfield 15, 3) := by decide +kernel
theorem dX4_giversOf_65 : decode cX4_giversOf 65 = .ok (.iload 5, 2) := by decide +kernel
theorem dX4_giversOf_67 : decode cX4_giversOf 67 = .ok (.iaload, 1) := by decide +kernel
theorem dX4_giversOf_68 : decode cX4_giversOf 68 = .ok (.aload_n 0, 1) := by decide +kernel
theorem dX4_giversOf_69 : decode cX4_giversOf 69 = .ok (.getfield 15, 3) := by decide +kernel
theorem dX4_giversOf_72 : decode cX4_giversOf 72 = .ok (.iload 4, 2) := by decide +kernel
theorem dX4_giversOf_74 : decode cX4_giversOf 74 = .ok (.iaload, 1) := by decide +kernel
theorem dX4_giversOf_75 : decode cX4_giversOf 75 = .ok (.if_icmp .le 8, 3) := by decide +kernel
theorem dX4_giversOf_78 : decode cX4_giversOf 78 = .ok (.iload 4, 2) := by decide +kernel
theorem dX4_giversOf_80 : decode cX4_giversOf 80 = .ok (.goto 5, 3) := by decide +kernel
theorem dX4_giversOf_83 : decode cX4_giversOf 83 = .ok (.iload 5, 2) := by decide +kernel
theorem dX4_giversOf_85 : decode cX4_giversOf 85 = .ok (.ishl, 1) := by decide +kernel
theorem dX4_giversOf_86 : decode cX4_giversOf 86 = .ok (.iconst (-1), 1) := by decide +kernel
theorem dX4_giversOf_87 : decode cX4_giversOf 87 = .ok (.ixor, 1) := by decide +kernel
theorem dX4_giversOf_88 : decode cX4_giversOf 88 = .ok (.iand, 1) := by decide +kernel
theorem dX4_giversOf_89 : decode cX4_giversOf 89 = .ok (.istore_n 3, 1) := by decide +kernel
theorem dX4_giversOf_90 : decode cX4_giversOf 90 = .ok (.iinc 4 1, 3) := by decide +kernel
theorem dX4_giversOf_93 : decode cX4_giversOf 93 = .ok (.goto (-79), 3) := by decide +kernel
theorem dX4_giversOf_96 : decode cX4_giversOf 96 = .ok (.iload_n 3, 1) := by decide +kernel
theorem dX4_giversOf_97 : decode cX4_giversOf 97 = .ok (.ireturn, 1) := by decide +kernel
theorem dX4_pass_0 : decode cX4_pass 0 = .ok (.aload_n 0, 1) := by decide +kernel
theorem dX4_pass_1 : decode cX4_pass 1 = .ok (.iload_n 1, 1) := by decide +kernel
theorem dX4_pass_2 : decode cX4_pass 2 = .ok (.invokevirtual 67, 3) := by decide +kernel
theorem dX4_pass_5 : decode cX4_pass 5 = .ok (.istore_n 2, 1) := by decide +kernel
theorem dX4_pass_6 : decode cX4_pass 6 = .ok (.iconst 0, 1) := by decide +kernel
theorem dX4_pass_7 : decode cX4_pass 7 = .ok (.istore_n 3, 1) := by decide +kernel
theorem dX4_pass_8 : decode cX4_pass 8 = .ok (.iload_n 3, 1) := by decide +kernel
theorem dX4_pass_9 : decode cX4_pass 9 = .ok (.aload_n 0, 1) := by decide +kernel
theorem dX4_pass_10 : decode cX4_pass 10 = .ok (.getfield 24, 3) := by decide +kernel
theorem dX4_pass_13 : decode cX4_pass 13 = .ok (.getfield 47, 3) := by decide +kernel
theorem dX4_pass_16 : decode cX4_pass 16 = .ok (.if_icmp .ge 46, 3) := by decide +kernel
theorem dX4_pass_19 : decode cX4_pass 19 = .ok (.iconst 1, 1) := by decide +kernel
theorem dX4_pass_20 : decode cX4_pass 20 = .ok (.iload_n 3, 1) := by decide +kernel
theorem dX4_pass_21 : decode cX4_pass 21 = .ok (.ishl, 1) := by decide +kernel
theorem dX4_pass_22 : decode cX4_pass 22 = .ok (.istore 4, 2) := by decide +kernel
theorem dX4_pass_24 : decode cX4_pass 24 = .ok (.iload_n 1, 1) := by decide +kernel
theorem dX4_pass_25 : decode cX4_pass 25 = .ok (.iload 4, 2) := by decide +kernel
theorem dX4_pass_27 : decode cX4_pass 27 = .ok (.iand, 1) := by decide +kernel
theorem dX4_pass_28 : decode cX4_pass 28 = .ok (.ifCond .ne 11, 3) := by decide +kernel
theorem dX4_pass_31 : decode cX4_pass 31 = .ok (.aload_n 0, 1) := by decide +kernel
theorem dX4_pass_32 : decode cX4_pass 32 = .ok (.iload_n 3, 1) := by decide +kernel
theorem dX4_pass_33 : decode cX4_pass 33 = .ok (.invokevirtual 73, 3) := by decide +kernel
theorem dX4_pass_36 : decode cX4_pass 36 = .ok (.goto 20, 3) := by decide +kernel
theorem dX4_pass_39 : decode cX4_pass 39 = .ok (.aload_n 0, 1) := by decide +kernel
theorem dX4_pass_40 : decode cX4_pass 40 = .ok (.iload_n 3, 1) := by decide +kernel
theorem dX4_pass_41 : decode cX4_pass 41 = .ok (.iload_n 2, 1) := by decide +kernel
theorem dX4_pass_42 : decode cX4_pass 42 = .ok (.iload 4, 2) := by decide +kernel
theorem dX4_pass_44 : decode cX4_pass 44 = .ok (.iand, 1) := by decide +kernel
theorem dX4_pass_45 : decode cX4_pass 45 = .ok (.ifCond .eq 7, 3) := by decide +kernel
theorem dX4_pass_48 : decode cX4_pass 48 = .ok (.iconst 1, 1) := by decide +kernel
theorem dX4_pass_49 : decode cX4_pass 49 = .ok (.goto 4, 3) := by decide +kernel
theorem dX4_pass_52 : decode cX4_pass 52 = .ok (.iconst 0, 1) := by decide +kernel
theorem dX4_pass_53 : decode cX4_pass 53 = .ok (.invokevirtual 77, 3) := by decide +kernel
theorem dX4_pass_56 : decode cX4_pass 56 = .ok (.iinc 3 1, 3) := by decide +kernel
theorem dX4_pass_59 : decode cX4_pass 59 = .ok (.goto (-51), 3) := by decide +kernel
theorem dX4_pass_62 : decode cX4_pass 62 = .ok (.aload_n 0, 1) := by decide +kernel
theorem dX4_pass_63 : decode cX4_pass 63 = .ok (.getfield 24, 3) := by decide +kernel
theorem dX4_pass_66 : decode cX4_pass 66 = .ok (.invokevirtual 81, 3) := by decide +kernel
theorem dX4_pass_69 : decode cX4_pass 69 = .ok (.iload_n 1, 1) := by decide +kernel
theorem dX4_pass_70 : decode cX4_pass 70 = .ok (.iconst (-1), 1) := by decide +kernel
theorem dX4_pass_71 : decode cX4_pass 71 = .ok (.ixor, 1) := by decide +kernel
theorem dX4_pass_72 : decode cX4_pass 72 = .ok (.iand, 1) := by decide +kernel
theorem dX4_pass_73 : decode cX4_pass 73 = .ok (.aload_n 0, 1) := by decide +kernel
theorem dX4_pass_74 : decode cX4_pass 74 = .ok (.getfield 34, 3) := by decide +kernel
theorem dX4_pass_77 : decode cX4_pass 77 = .ok (.iconst (-1), 1) := by decide +kernel
theorem dX4_pass_78 : decode cX4_pass 78 = .ok (.ixor, 1) := by decide +kernel
theorem dX4_pass_79 : decode cX4_pass 79 = .ok (.iand, 1) := by decide +kernel
theorem dX4_pass_80 : decode cX4_pass 80 = .ok (.istore_n 3, 1) := by decide +kernel
theorem dX4_pass_81 : decode cX4_pass 81 = .ok (.aload_n 0, 1) := by decide +kernel
theorem dX4_pass_82 : decode cX4_pass 82 = .ok (.dup, 1) := by decide +kernel
theorem dX4_pass_83 : decode cX4_pass 83 = .ok (.getfield 41, 3) := by decide +kernel
theorem dX4_pass_86 : decode cX4_pass 86 = .ok (.iconst 1, 1) := by decide +kernel
theorem dX4_pass_87 : decode cX4_pass 87 = .ok (.iadd, 1) := by decide +kernel
theorem dX4_pass_88 : decode cX4_pass 88 = .ok (.putfield 41, 3) := by decide +kernel
theorem dX4_pass_91 : decode cX4_pass 91 = .ok (.iload_n 3, 1) := by decide +kernel
theorem dX4_pass_92 : decode cX4_pass 92 = .ok (.ifCond .ne 13, 3) := by decide +kernel
theorem dX4_pass_95 : decode cX4_pass 95 = .ok (.aload_n 0, 1) := by decide +kernel
theorem dX4_pass_96 : decode cX4_pass 96 = .ok (.dup, 1) := by decide +kernel
theorem dX4_pass_97 : decode cX4_pass 97 = .ok (.getfield 44, 3) := by decide +kernel
theorem dX4_pass_100 : decode cX4_pass 100 = .ok (.iconst 1, 1) := by decide +kernel
theorem dX4_pass_101 : decode cX4_pass 101 = .ok (.iadd, 1) := by decide +kernel
theorem dX4_pass_102 : decode cX4_pass 102 = .ok (.putfield 44, 3) := by decide +kernel
theorem dX4_pass_105 : decode cX4_pass 105 = .ok (.iload_n 3, 1) := by decide +kernel
theorem dX4_pass_106 : decode cX4_pass 106 = .ok (.ireturn, 1) := by decide +kernel
theorem dX4_rest_0 : decode cX4_rest 0 = .ok (.iconst 1, 1) := by decide +kernel
theorem dX4_rest_1 : decode cX4_rest 1 = .ok (.iload_n 1, 1) := by decide +kernel
theorem dX4_rest_2 : decode cX4_rest 2 = .ok (.ishl, 1) := by decide +kernel
theorem dX4_rest_3 : decode cX4_rest 3 = .ok (.istore_n 3, 1) := by decide +kernel
theorem dX4_rest_4 : decode cX4_rest 4 = .ok (.aload_n 0, 1) := by decide +kernel
theorem dX4_rest_5 : decode cX4_rest 5 = .ok (.getfield 38, 3) := by decide +kernel
theorem dX4_rest_8 : decode cX4_rest 8 = .ok (.iload_n 3, 1) := by decide +kernel
theorem dX4_rest_9 : decode cX4_rest 9 = .ok (.iand, 1) := by decide +kernel
theorem dX4_rest_10 : decode cX4_rest 10 = .ok (.ifCond .eq 16, 3) := by decide +kernel
theorem dX4_rest_13 : decode cX4_rest 13 = .ok (.aload_n 0, 1) := by decide +kernel
theorem dX4_rest_14 : decode cX4_rest 14 = .ok (.getfield 18, 3) := by decide +kernel
theorem dX4_rest_17 : decode cX4_rest 17 = .ok (.iload_n 1, 1) := by decide +kernel
theorem dX4_rest_18 : decode cX4_rest 18 = .ok (.dup2, 1) := by decide +kernel
theorem dX4_rest_19 : decode cX4_rest 19 = .ok (.iaload, 1) := by decide +kernel
theorem dX4_rest_20 : decode cX4_rest 20 = .ok (.iconst 1, 1) := by decide +kernel
theorem dX4_rest_21 : decode cX4_rest 21 = .ok (.iadd, 1) := by decide +kernel
theorem dX4_rest_22 : decode cX4_rest 22 = .ok (.iastore, 1) := by decide +kernel
theorem dX4_rest_23 : decode cX4_rest 23 = .ok (.goto 17, 3) := by decide +kernel
theorem dX4_rest_26 : decode cX4_rest 26 = .ok (.iload_n 2, 1) := by decide +kernel
theorem dX4_rest_27 : decode cX4_rest 27 = .ok (.ifCond .eq 13, 3) := by decide +kernel
theorem dX4_rest_30 : decode cX4_rest 30 = .ok (.aload_n 0, 1) := by decide +kernel
theorem dX4_rest_31 : decode cX4_rest 31 = .ok (.getfield 15, 3) := by decide +kernel
theorem dX4_rest_34 : decode cX4_rest 34 = .ok (.iload_n 1, 1) := by decide +kernel
theorem dX4_rest_35 : decode cX4_rest 35 = .ok (.dup2, 1) := by decide +kernel
theorem dX4_rest_36 : decode cX4_rest 36 = .ok (.iaload, 1) := by decide +kernel
theorem dX4_rest_37 : decode cX4_rest 37 = .ok (.iconst 1, 1) := by decide +kernel
theorem dX4_rest_38 : decode cX4_rest 38 = .ok (.isub, 1) := by decide +kernel
theorem dX4_rest_39 : decode cX4_rest 39 = .ok (.iastore, 1) := by decide +kernel
theorem dX4_rest_40 : decode cX4_rest 40 = .ok (.aload_n 0, 1) := by decide +kernel
theorem dX4_rest_41 : decode cX4_rest 41 = .ok (.getfield 9, 3) := by decide +kernel
theorem dX4_rest_44 : decode cX4_rest 44 = .ok (.iload_n 1, 1) := by decide +kernel
theorem dX4_rest_45 : decode cX4_rest 45 = .ok (.iconst 0, 1) := by decide +kernel
theorem dX4_rest_46 : decode cX4_rest 46 = .ok (.aload_n 0, 1) := by decide +kernel
theorem dX4_rest_47 : decode cX4_rest 47 = .ok (.getfield 9, 3) := by decide +kernel
theorem dX4_rest_50 : decode cX4_rest 50 = .ok (.iload_n 1, 1) := by decide +kernel
theorem dX4_rest_51 : decode cX4_rest 51 = .ok (.iaload, 1) := by decide +kernel
theorem dX4_rest_52 : decode cX4_rest 52 = .ok (.iconst 4, 1) := by decide +kernel
theorem dX4_rest_53 : decode cX4_rest 53 = .ok (.isub, 1) := by decide +kernel
theorem dX4_rest_54 : decode cX4_rest 54 = .ok (.invokestatic 52, 3) := by decide +kernel
theorem dX4_rest_57 : decode cX4_rest 57 = .ok (.iastore, 1) := by decide +kernel
theorem dX4_rest_58 : decode cX4_rest 58 = .ok (.aload_n 0, 1) := by decide +kernel
theorem dX4_rest_59 : decode cX4_rest 59 = .ok (.dup, 1) := by decide +kernel
theorem dX4_rest_60 : decode cX4_rest 60 = .ok (.getfield 34, 3) := by decide +kernel
theorem dX4_rest_63 : decode cX4_rest 63 = .ok (.iload_n 3, 1) := by decide +kernel
theorem dX4_rest_64 : decode cX4_rest 64 = .ok (.iconst (-1), 1) := by decide +kernel
theorem dX4_rest_65 : decode cX4_rest 65 = .ok (.ixor, 1) := by decide +kernel
theorem dX4_rest_66 : decode cX4_rest 66 = .ok (.iand, 1) := by decide +kernel
theorem dX4_rest_67 : decode cX4_rest 67 = .ok (.putfield 34, 3) := by decide +kernel
theorem dX4_rest_70 : decode cX4_rest 70 = .ok (.aload_n 0, 1) := by decide +kernel
theorem dX4_rest_71 : decode cX4_rest 71 = .ok (.getfield 21, 3) := by decide +kernel
theorem dX4_rest_74 : decode cX4_rest 74 = .ok (.iload_n 1, 1) := by decide +kernel
theorem dX4_rest_75 : decode cX4_rest 75 = .ok (.dup2, 1) := by decide +kernel
theorem dX4_rest_76 : decode cX4_rest 76 = .ok (.iaload, 1) := by decide +kernel
theorem dX4_rest_77 : decode cX4_rest 77 = .ok (.iconst 1, 1) := by decide +kernel
theorem dX4_rest_78 : decode cX4_rest 78 = .ok (.iadd, 1) := by decide +kernel
theorem dX4_rest_79 : decode cX4_rest 79 = .ok (.iastore, 1) := by decide +kernel
theorem dX4_rest_80 : decode cX4_rest 80 = .ok (.return_, 1) := by decide +kernel
theorem dX4_watch_0 : decode cX4_watch 0 = .ok (.iconst 1, 1) := by decide +kernel
theorem dX4_watch_1 : decode cX4_watch 1 = .ok (.iload_n 1, 1) := by decide +kernel
theorem dX4_watch_2 : decode cX4_watch 2 = .ok (.ishl, 1) := by decide +kernel
theorem dX4_watch_3 : decode cX4_watch 3 = .ok (.istore_n 2, 1) := by decide +kernel
theorem dX4_watch_4 : decode cX4_watch 4 = .ok (.aload_n 0, 1) := by decide +kernel
theorem dX4_watch_5 : decode cX4_watch 5 = .ok (.getfield 34, 3) := by decide +kernel
theorem dX4_watch_8 : decode cX4_watch 8 = .ok (.iload_n 2, 1) := by decide +kernel
theorem dX4_watch_9 : decode cX4_watch 9 = .ok (.iand, 1) := by decide +kernel
theorem dX4_watch_10 : decode cX4_watch 10 = .ok (.ifCond .eq 54, 3) := by decide +kernel
theorem dX4_watch_13 : decode cX4_watch 13 = .ok (.aload_n 0, 1) := by decide +kernel
theorem dX4_watch_14 : decode cX4_watch 14 = .ok (.getfield 9, 3) := by decide +kernel
theorem dX4_watch_17 : decode cX4_watch 17 = .ok (.iload_n 1, 1) := by decide +kernel
theorem dX4_watch_18 : decode cX4_watch 18 = .ok (.iconst 0, 1) := by decide +kernel
theorem dX4_watch_19 : decode cX4_watch 19 = .ok (.aload_n 0, 1) := by decide +kernel
theorem dX4_watch_20 : decode cX4_watch 20 = .ok (.getfield 9, 3) := by decide +kernel
theorem dX4_watch_23 : decode cX4_watch 23 = .ok (.iload_n 1, 1) := by decide +kernel
theorem dX4_watch_24 : decode cX4_watch 24 = .ok (.iaload, 1) := by decide +kernel
theorem dX4_watch_25 : decode cX4_watch 25 = .ok (.iconst 1, 1) := by decide +kernel
theorem dX4_watch_26 : decode cX4_watch 26 = .ok (.isub, 1) := by decide +kernel
theorem dX4_watch_27 : decode cX4_watch 27 = .ok (.invokestatic 52, 3) := by decide +kernel
theorem dX4_watch_30 : decode cX4_watch 30 = .ok (.iastore, 1) := by decide +kernel
theorem dX4_watch_31 : decode cX4_watch 31 = .ok (.aload_n 0, 1) := by decide +kernel
theorem dX4_watch_32 : decode cX4_watch 32 = .ok (.getfield 9, 3) := by decide +kernel
theorem dX4_watch_35 : decode cX4_watch 35 = .ok (.iload_n 1, 1) := by decide +kernel
theorem dX4_watch_36 : decode cX4_watch 36 = .ok (.iaload, 1) := by decide +kernel
theorem dX4_watch_37 : decode cX4_watch 37 = .ok (.aload_n 0, 1) := by decide +kernel
theorem dX4_watch_38 : decode cX4_watch 38 = .ok (.getfield 24, 3) := by decide +kernel
theorem dX4_watch_41 : decode cX4_watch 41 = .ok (.getfield 85, 3) := by decide +kernel
theorem dX4_watch_44 : decode cX4_watch 44 = .ok (.iconst 4, 1) := by decide +kernel
theorem dX4_watch_45 : decode cX4_watch 45 = .ok (.isub, 1) := by decide +kernel
theorem dX4_watch_46 : decode cX4_watch 46 = .ok (.if_icmp .gt 63, 3) := by decide +kernel
theorem dX4_watch_49 : decode cX4_watch 49 = .ok (.aload_n 0, 1) := by decide +kernel
theorem dX4_watch_50 : decode cX4_watch 50 = .ok (.dup, 1) := by decide +kernel
theorem dX4_watch_51 : decode cX4_watch 51 = .ok (.getfield 34, 3) := by decide +kernel
theorem dX4_watch_54 : decode cX4_watch 54 = .ok (.iload_n 2, 1) := by decide +kernel
theorem dX4_watch_55 : decode cX4_watch 55 = .ok (.iconst (-1), 1) := by decide +kernel
theorem dX4_watch_56 : decode cX4_watch 56 = .ok (.ixor, 1) := by decide +kernel
theorem dX4_watch_57 : decode cX4_watch 57 = .ok (.iand, 1) := by decide +kernel
theorem dX4_watch_58 : decode cX4_watch 58 = .ok (.putfield 34, 3) := by decide +kernel
theorem dX4_watch_61 : decode cX4_watch 61 = .ok (.goto 48, 3) := by decide +kernel
theorem dX4_watch_64 : decode cX4_watch 64 = .ok (.aload_n 0, 1) := by decide +kernel
theorem dX4_watch_65 : decode cX4_watch 65 = .ok (.getfield 9, 3) := by decide +kernel
theorem dX4_watch_68 : decode cX4_watch 68 = .ok (.iload_n 1, 1) := by decide +kernel
theorem dX4_watch_69 : decode cX4_watch 69 = .ok (.bipush 99, 2) := by decide +kernel
theorem dX4_watch_71 : decode cX4_watch 71 = .ok (.aload_n 0, 1) := by decide +kernel
theorem dX4_watch_72 : decode cX4_watch 72 = .ok (.getfield 9, 3) := by decide +kernel
theorem dX4_watch_75 : decode cX4_watch 75 = .ok (.iload_n 1, 1) := by decide +kernel
theorem dX4_watch_76 : decode cX4_watch 76 = .ok (.iaload, 1) := by decide +kernel
theorem dX4_watch_77 : decode cX4_watch 77 = .ok (.iconst 2, 1) := by decide +kernel
theorem dX4_watch_78 : decode cX4_watch 78 = .ok (.iadd, 1) := by decide +kernel
theorem dX4_watch_79 : decode cX4_watch 79 = .ok (.invokestatic 88, 3) := by decide +kernel
theorem dX4_watch_82 : decode cX4_watch 82 = .ok (.iastore, 1) := by decide +kernel
theorem dX4_watch_83 : decode cX4_watch 83 = .ok (.aload_n 0, 1) := by decide +kernel
theorem dX4_watch_84 : decode cX4_watch 84 = .ok (.getfield 9, 3) := by decide +kernel
theorem dX4_watch_87 : decode cX4_watch 87 = .ok (.iload_n 1, 1) := by decide +kernel
theorem dX4_watch_88 : decode cX4_watch 88 = .ok (.iaload, 1) := by decide +kernel
theorem dX4_watch_89 : decode cX4_watch 89 = .ok (.aload_n 0, 1) := by decide +kernel
theorem dX4_watch_90 : decode cX4_watch 90 = .ok (.getfield 24, 3) := by decide +kernel
theorem dX4_watch_93 : decode cX4_watch 93 = .ok (.getfield 85, 3) := by decide +kernel
theorem dX4_watch_96 : decode cX4_watch 96 = .ok (.if_icmp .lt 13, 3) := by decide +kernel
theorem dX4_watch_99 : decode cX4_watch 99 = .ok (.aload_n 0, 1) := by decide +kernel
theorem dX4_watch_100 : decode cX4_watch 100 = .ok (.dup, 1) := by decide +kernel
theorem dX4_watch_101 : decode cX4_watch 101 = .ok (.getfield 34, 3) := by decide +kernel
theorem dX4_watch_104 : decode cX4_watch 104 = .ok (.iload_n 2, 1) := by decide +kernel
theorem dX4_watch_105 : decode cX4_watch 105 = .ok (.ior, 1) := by decide +kernel
theorem dX4_watch_106 : decode cX4_watch 106 = .ok (.putfield 34, 3) := by decide +kernel
theorem dX4_watch_109 : decode cX4_watch 109 = .ok (.return_, 1) := by decide +kernel
theorem dX4_wakeAll_0 : decode cX4_wakeAll 0 = .ok (.iconst 0, 1) := by decide +kernel
theorem dX4_wakeAll_1 : decode cX4_wakeAll 1 = .ok (.istore_n 1, 1) := by decide +kernel
theorem dX4_wakeAll_2 : decode cX4_wakeAll 2 = .ok (.iload_n 1, 1) := by decide +kernel
theorem dX4_wakeAll_3 : decode cX4_wakeAll 3 = .ok (.aload_n 0, 1) := by decide +kernel
theorem dX4_wakeAll_4 : decode cX4_wakeAll 4 = .ok (.getfield 24, 3) := by decide +kernel
theorem dX4_wakeAll_7 : decode cX4_wakeAll 7 = .ok (.getfield 47, 3) := by decide +kernel
theorem dX4_wakeAll_10 : decode cX4_wakeAll 10 = .ok (.if_icmp .ge 39, 3) := by decide +kernel
theorem dX4_wakeAll_13 : decode cX4_wakeAll 13 = .ok (.aload_n 0, 1) := by decide +kernel
theorem dX4_wakeAll_14 : decode cX4_wakeAll 14 = .ok (.getfield 34, 3) := by decide +kernel
theorem dX4_wakeAll_17 : decode cX4_wakeAll 17 = .ok (.iload_n 1, 1) := by decide +kernel
theorem dX4_wakeAll_18 : decode cX4_wakeAll 18 = .ok (.ishr, 1) := by decide +kernel
theorem dX4_wakeAll_19 : decode cX4_wakeAll 19 = .ok (.iconst 1, 1) := by decide +kernel
theorem dX4_wakeAll_20 : decode cX4_wakeAll 20 = .ok (.iand, 1) := by decide +kernel
theorem dX4_wakeAll_21 : decode cX4_wakeAll 21 = .ok (.ifCond .eq 22, 3) := by decide +kernel
theorem dX4_wakeAll_24 : decode cX4_wakeAll 24 = .ok (.aload_n 0, 1) := by decide +kernel
theorem dX4_wakeAll_25 : decode cX4_wakeAll 25 = .ok (.getfield 9, 3) := by decide +kernel
theorem dX4_wakeAll_28 : decode cX4_wakeAll 28 = .ok (.iload_n 1, 1) := by decide +kernel
theorem dX4_wakeAll_29 : decode cX4_wakeAll 29 = .ok (.bipush 99, 2) := by decide +kernel
theorem dX4_wakeAll_31 : decode cX4_wakeAll 31 = .ok (.aload_n 0, 1) := by decide +kernel
theorem dX4_wakeAll_32 : decode cX4_wakeAll 32 = .ok (.getfield 9, 3) := by decide +kernel
theorem dX4_wakeAll_35 : decode cX4_wakeAll 35 = .ok (.iload_n 1, 1) := by decide +kernel
theorem dX4_wakeAll_36 : decode cX4_wakeAll 36 = .ok (.iaload, 1) := by decide +kernel
theorem dX4_wakeAll_37 : decode cX4_wakeAll 37 = .ok (.iconst 3, 1) := by decide +kernel
theorem dX4_wakeAll_38 : decode cX4_wakeAll 38 = .ok (.iadd, 1) := by decide +kernel
theorem dX4_wakeAll_39 : decode cX4_wakeAll 39 = .ok (.invokestatic 88, 3) := by decide +kernel
theorem dX4_wakeAll_42 : decode cX4_wakeAll 42 = .ok (.iastore, 1) := by decide +kernel
theorem dX4_wakeAll_43 : decode cX4_wakeAll 43 = .ok (.iinc 1 1, 3) := by decide +kernel
theorem dX4_wakeAll_46 : decode cX4_wakeAll 46 = .ok (.goto (-44), 3) := by decide +kernel
theorem dX4_wakeAll_49 : decode cX4_wakeAll 49 = .ok (.aload_n 0, 1) := by decide +kernel
theorem dX4_wakeAll_50 : decode cX4_wakeAll 50 = .ok (.getfield 34, 3) := by decide +kernel
theorem dX4_wakeAll_53 : decode cX4_wakeAll 53 = .ok (.invokestatic 58, 3) := by decide +kernel
theorem dX4_wakeAll_56 : decode cX4_wakeAll 56 = .ok (.istore_n 1, 1) := by decide +kernel
theorem dX4_wakeAll_57 : decode cX4_wakeAll 57 = .ok (.aload_n 0, 1) := by decide +kernel
theorem dX4_wakeAll_58 : decode cX4_wakeAll 58 = .ok (.iconst 0, 1) := by decide +kernel
theorem dX4_wakeAll_59 : decode cX4_wakeAll 59 = .ok (.putfield 34, 3) := by decide +kernel
theorem dX4_wakeAll_62 : decode cX4_wakeAll 62 = .ok (.iload_n 1, 1) := by decide +kernel
theorem dX4_wakeAll_63 : decode cX4_wakeAll 63 = .ok (.ireturn, 1) := by decide +kernel
theorem dX4_waysAwake_0 : decode cX4_waysAwake 0 = .ok (.aload_n 0, 1) := by decide +kernel
theorem dX4_waysAwake_1 : decode cX4_waysAwake 1 = .ok (.getfield 34, 3) := by decide +kernel
theorem dX4_waysAwake_4 : decode cX4_waysAwake 4 = .ok (.iload_n 1, 1) := by decide +kernel
theorem dX4_waysAwake_5 : decode cX4_waysAwake 5 = .ok (.ishr, 1) := by decide +kernel
theorem dX4_waysAwake_6 : decode cX4_waysAwake 6 = .ok (.iconst 1, 1) := by decide +kernel
theorem dX4_waysAwake_7 : decode cX4_waysAwake 7 = .ok (.iand, 1) := by decide +kernel
theorem dX4_waysAwake_8 : decode cX4_waysAwake 8 = .ok (.ifCond .eq 5, 3) := by decide +kernel
theorem dX4_waysAwake_11 : decode cX4_waysAwake 11 = .ok (.lconst 0, 1) := by decide +kernel
theorem dX4_waysAwake_12 : decode cX4_waysAwake 12 = .ok (.lreturn, 1) := by decide +kernel
theorem dX4_waysAwake_13 : decode cX4_waysAwake 13 = .ok (.lconst 1, 1) := by decide +kernel
theorem dX4_waysAwake_14 : decode cX4_waysAwake 14 = .ok (.lstore 4, 2) := by decide +kernel
theorem dX4_waysAwake_16 : decode cX4_waysAwake 16 = .ok (.iconst 1, 1) := by decide +kernel
theorem dX4_waysAwake_17 : decode cX4_waysAwake 17 = .ok (.istore 6, 2) := by decide +kernel
theorem dX4_waysAwake_19 : decode cX4_waysAwake 19 = .ok (.iload 6, 2) := by decide +kernel
theorem dX4_waysAwake_21 : decode cX4_waysAwake 21 = .ok (.iload_n 2, 1) := by decide +kernel
theorem dX4_waysAwake_22 : decode cX4_waysAwake 22 = .ok (.if_icmp .gt 66, 3) := by decide +kernel
theorem dX4_waysAwake_25 : decode cX4_waysAwake 25 = .ok (.aload_n 0, 1) := by decide +kernel
theorem dX4_waysAwake_26 : decode cX4_waysAwake 26 = .ok (.getfield 9, 3) := by decide +kernel
theorem dX4_waysAwake_29 : decode cX4_waysAwake 29 = .ok (.iload_n 1, 1) := by decide +kernel
theorem dX4_waysAwake_30 : decode cX4_waysAwake 30 = .ok (.iaload, 1) := by decide +kernel
theorem dX4_waysAwake_31 : decode cX4_waysAwake 31 = .ok (.iconst 2, 1) := by decide +kernel
theorem dX4_waysAwake_32 : decode cX4_waysAwake 32 = .ok (.iload 6, 2) := by decide +kernel
theorem dX4_waysAwake_34 : decode cX4_waysAwake 34 = .ok (.imul, 1) := by decide +kernel
theorem dX4_waysAwake_35 : decode cX4_waysAwake 35 = .ok (.iadd, 1) := by decide +kernel
theorem dX4_waysAwake_36 : decode cX4_waysAwake 36 = .ok (.istore 7, 2) := by decide +kernel
theorem dX4_waysAwake_38 : decode cX4_waysAwake 38 = .ok (.iload 7, 2) := by decide +kernel
theorem dX4_waysAwake_40 : decode cX4_waysAwake 40 = .ok (.aload_n 0, 1) := by decide +kernel
theorem dX4_waysAwake_41 : decode cX4_waysAwake 41 = .ok (.getfield 24, 3) := by decide +kernel
theorem dX4_waysAwake_44 : decode cX4_waysAwake 44 = .ok (.getfield 85, 3) := by decide +kernel
theorem dX4_waysAwake_47 : decode cX4_waysAwake 47 = .ok (.if_icmp .lt 5, 3) := by decide +kernel
theorem dX4_waysAwake_50 : decode cX4_waysAwake 50 = .ok (.lconst 0, 1) := by decide +kernel
theorem dX4_waysAwake_51 : decode cX4_waysAwake 51 = .ok (.lreturn, 1) := by decide +kernel
theorem dX4_waysAwake_52 : decode cX4_waysAwake 52 = .ok (.lload 4, 2) := by decide +kernel
theorem dX4_waysAwake_54 : decode cX4_waysAwake 54 = .ok (.iconst 2, 1) := by decide +kernel
theorem dX4_waysAwake_55 : decode cX4_waysAwake 55 = .ok (.iload 7, 2) := by decide +kernel
theorem dX4_waysAwake_57 : decode cX4_waysAwake 57 = .ok (.imul, 1) := by decide +kernel
theorem dX4_waysAwake_58 : decode cX4_waysAwake 58 = .ok (.aload_n 0, 1) := by decide +kernel
theorem dX4_waysAwake_59 : decode cX4_waysAwake 59 = .ok (.getfield 24, 3) := by decide +kernel
theorem dX4_waysAwake_62 : decode cX4_waysAwake 62 = .ok (.getfield 85, 3) := by decide +kernel
theorem dX4_waysAwake_65 : decode cX4_waysAwake 65 = .ok (.if_icmp .lt 11, 3) := by decide +kernel
theorem dX4_waysAwake_68 : decode cX4_waysAwake 68 = .ok (.bipush 10, 2) := by decide +kernel
theorem dX4_waysAwake_70 : decode cX4_waysAwake 70 = .ok (.iload_n 3, 1) := by decide +kernel
theorem dX4_waysAwake_71 : decode cX4_waysAwake 71 = .ok (.isub, 1) := by decide +kernel
theorem dX4_waysAwake_72 : decode cX4_waysAwake 72 = .ok (.i2l, 1) := by decide +kernel
theorem dX4_waysAwake_73 : decode cX4_waysAwake 73 = .ok (.goto 6, 3) := by decide +kernel
theorem dX4_waysAwake_76 : decode cX4_waysAwake 76 = .ok (.ldc2_w 91, 3) := by decide +kernel
theorem dX4_waysAwake_79 : decode cX4_waysAwake 79 = .ok (.lmul, 1) := by decide +kernel
theorem dX4_waysAwake_80 : decode cX4_waysAwake 80 = .ok (.lstore 4, 2) := by decide +kernel
theorem dX4_waysAwake_82 : decode cX4_waysAwake 82 = .ok (.iinc 6 1, 3) := by decide +kernel
theorem dX4_waysAwake_85 : decode cX4_waysAwake 85 = .ok (.goto (-66), 3) := by decide +kernel
theorem dX4_waysAwake_88 : decode cX4_waysAwake 88 = .ok (.lload 4, 2) := by decide +kernel
theorem dX4_waysAwake_90 : decode cX4_waysAwake 90 = .ok (.lreturn, 1) := by decide +kernel
theorem dX4_spareOf_0 : decode cX4_spareOf 0 = .ok (.aload_n 0, 1) := by decide +kernel
theorem dX4_spareOf_1 : decode cX4_spareOf 1 = .ok (.getfield 24, 3) := by decide +kernel
theorem dX4_spareOf_4 : decode cX4_spareOf 4 = .ok (.iload_n 1, 1) := by decide +kernel
theorem dX4_spareOf_5 : decode cX4_spareOf 5 = .ok (.invokevirtual 93, 3) := by decide +kernel
theorem dX4_spareOf_8 : decode cX4_spareOf 8 = .ok (.ifCond .eq 23, 3) := by decide +kernel
theorem dX4_spareOf_11 : decode cX4_spareOf 11 = .ok (.iconst 0, 1) := by decide +kernel
theorem dX4_spareOf_12 : decode cX4_spareOf 12 = .ok (.aload_n 0, 1) := by decide +kernel
theorem dX4_spareOf_13 : decode cX4_spareOf 13 = .ok (.getfield 15, 3) := by decide +kernel
theorem dX4_spareOf_16 : decode cX4_spareOf 16 = .ok (.iload_n 1, 1) := by decide +kernel
theorem dX4_spareOf_17 : decode cX4_spareOf 17 = .ok (.iaload, 1) := by decide +kernel
theorem dX4_spareOf_18 : decode cX4_spareOf 18 = .ok (.aload_n 0, 1) := by decide +kernel
theorem dX4_spareOf_19 : decode cX4_spareOf 19 = .ok (.getfield 18, 3) := by decide +kernel
theorem dX4_spareOf_22 : decode cX4_spareOf 22 = .ok (.iload_n 1, 1) := by decide +kernel
theorem dX4_spareOf_23 : decode cX4_spareOf 23 = .ok (.iaload, 1) := by decide +kernel
theorem dX4_spareOf_24 : decode cX4_spareOf 24 = .ok (.isub, 1) := by decide +kernel
theorem dX4_spareOf_25 : decode cX4_spareOf 25 = .ok (.invokestatic 52, 3) := by decide +kernel
theorem dX4_spareOf_28 : decode cX4_spareOf 28 = .ok (.goto 4, 3) := by decide +kernel
theorem dX4_spareOf_31 : decode cX4_spareOf 31 = .ok (.iconst 0, 1) := by decide +kernel
theorem dX4_spareOf_32 : decode cX4_spareOf 32 = .ok (.ireturn, 1) := by decide +kernel
theorem dX5_init_0 : decode cX5_init 0 = .ok (.aload_n 0, 1) := by decide +kernel
theorem dX5_init_1 : decode cX5_init 1 = .ok (.invokespecial 3, 3) := by decide +kernel
theorem dX5_init_4 : decode cX5_init 4 = .ok (.aload_n 0, 1) := by decide +kernel
theorem dX5_init_5 : decode cX5_init 5 = .ok (.iconst 5, 1) := by decide +kernel
theorem dX5_init_6 : decode cX5_init 6 = .ok (.anewarray 9, 3) := by decide +kernel
theorem dX5_init_9 : decode cX5_init 9 = .ok (.putfield 11, 3) := by decide +kernel
theorem dX5_init_12 : decode cX5_init 12 = .ok (.aload_n 0, 1) := by decide +kernel
theorem dX5_init_13 : decode cX5_init 13 = .ok (.iconst 4, 1) := by decide +kernel
theorem dX5_init_14 : decode cX5_init 14 = .ok (.newarray .int, 2) := by decide +kernel
theorem dX5_init_16 : decode cX5_init 16 = .ok (.putfield 17, 3) := by decide +kernel
theorem dX5_init_19 : decode cX5_init 19 = .ok (.aload_n 0, 1) := by decide +kernel
theorem dX5_init_20 : decode cX5_init 20 = .ok (.iconst 4, 1) := by decide +kernel
theorem dX5_init_21 : decode cX5_init 21 = .ok (.newarray .int, 2) := by decide +kernel
theorem dX5_init_23 : decode cX5_init 23 = .ok (.putfield 21, 3) := by decide +kernel
theorem dX5_init_26 : decode cX5_init 26 = .ok (.aload_n 0, 1) := by decide +kernel
theorem dX5_init_27 : decode cX5_init 27 = .ok (.aload_n 1, 1) := by decide +kernel
theorem dX5_init_28 : decode cX5_init 28 = .ok (.putfield 24, 3) := by decide +kernel
theorem dX5_init_31 : decode cX5_init 31 = .ok (.iconst 0, 1) := by decide +kernel
theorem dX5_init_32 : decode cX5_init 32 = .ok (.istore_n 2, 1) := by decide +kernel
theorem dX5_init_33 : decode cX5_init 33 = .ok (.iload_n 2, 1) := by decide +kernel
theorem dX5_init_34 : decode cX5_init 34 = .ok (.iconst 4, 1) := by decide +kernel
theorem dX5_init_35 : decode cX5_init 35 = .ok (.if_icmp .gt 23, 3) := by decide +kernel
theorem dX5_init_38 : decode cX5_init 38 = .ok (.aload_n 0, 1) := by decide +kernel
theorem dX5_init_39 : decode cX5_init 39 = .ok (.getfield 11, 3) := by decide +kernel
theorem dX5_init_42 : decode cX5_init 42 = .ok (.iload_n 2, 1) := by decide +kernel
theorem dX5_init_43 : decode cX5_init 43 = .ok (.new 9, 3) := by decide +kernel
theorem dX5_init_46 : decode cX5_init 46 = .ok (.dup, 1) := by decide +kernel
theorem dX5_init_47 : decode cX5_init 47 = .ok (.aload_n 1, 1) := by decide +kernel
theorem dX5_init_48 : decode cX5_init 48 = .ok (.invokespecial 28, 3) := by decide +kernel
theorem dX5_init_51 : decode cX5_init 51 = .ok (.aastore, 1) := by decide +kernel
theorem dX5_init_52 : decode cX5_init 52 = .ok (.iinc 2 1, 3) := by decide +kernel
theorem dX5_init_55 : decode cX5_init 55 = .ok (.goto (-22), 3) := by decide +kernel
theorem dX5_init_58 : decode cX5_init 58 = .ok (.return_, 1) := by decide +kernel
theorem dX5_forget_0 : decode cX5_forget 0 = .ok (.aload_n 0, 1) := by decide +kernel
theorem dX5_forget_1 : decode cX5_forget 1 = .ok (.iconst 0, 1) := by decide +kernel
theorem dX5_forget_2 : decode cX5_forget 2 = .ok (.putfield 31, 3) := by decide +kernel
theorem dX5_forget_5 : decode cX5_forget 5 = .ok (.return_, 1) := by decide +kernel
theorem dX5_run_0 : decode cX5_run 0 = .ok (.aload_n 0, 1) := by decide +kernel
theorem dX5_run_1 : decode cX5_run 1 = .ok (.getfield 31, 3) := by decide +kernel
theorem dX5_run_4 : decode cX5_run 4 = .ok (.iload_n 2, 1) := by decide +kernel
theorem dX5_run_5 : decode cX5_run 5 = .ok (.if_icmp .ne 17, 3) := by decide +kernel
theorem dX5_run_8 : decode cX5_run 8 = .ok (.aload_n 0, 1) := by decide +kernel
theorem dX5_run_9 : decode cX5_run 9 = .ok (.getfield 11, 3) := by decide +kernel
theorem dX5_run_12 : decode cX5_run 12 = .ok (.iconst 0, 1) := by decide +kernel
theorem dX5_run_13 : decode cX5_run 13 = .ok (.aaload, 1) := by decide +kernel
theorem dX5_run_14 : decode cX5_run 14 = .ok (.aload_n 1, 1) := by decide +kernel
theorem dX5_run_15 : decode cX5_run 15 = .ok (.invokevirtual 35, 3) := by decide +kernel
theorem dX5_run_18 : decode cX5_run 18 = .ok (.ifCond .eq 4, 3) := by decide +kernel
theorem dX5_run_21 : decode cX5_run 21 = .ok (.return_, 1) := by decide +kernel
theorem dX5_run_22 : decode cX5_run 22 = .ok (.aload_n 0, 1) := by decide +kernel
theorem dX5_run_23 : decode cX5_run 23 = .ok (.iload_n 2, 1) := by decide +kernel
theorem dX5_run_24 : decode cX5_run 24 = .ok (.putfield 31, 3) := by decide +kernel
theorem dX5_run_27 : decode cX5_run 27 = .ok (.aload_n 0, 1) := by decide +kernel
theorem dX5_run_28 : decode cX5_run 28 = .ok (.iconst 0, 1) := by decide +kernel
theorem dX5_run_29 : decode cX5_run 29 = .ok (.putfield 39, 3) := by decide +kernel
theorem dX5_run_32 : decode cX5_run 32 = .ok (.aload_n 0, 1) := by decide +kernel
theorem dX5_run_33 : decode cX5_run 33 = .ok (.sipush 496, 3) := by decide +kernel
theorem dX5_run_36 : decode cX5_run 36 = .ok (.putfield 43, 3) := by decide +kernel
theorem dX5_run_39 : decode cX5_run 39 = .ok (.aload_n 0, 1) := by decide +kernel
theorem dX5_run_40 : decode cX5_run 40 = .ok (.getfield 11, 3) := by decide +kernel
