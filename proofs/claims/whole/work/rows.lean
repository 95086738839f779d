section
-- ===== PART A: goes FIRST, ahead of the names: the tables' words, and 'selects' of the private methods out of them =====
/-- a private method of a class that the tables say can be made, by its rows of tables_1 -/
def lw_okq (q : MethodName × Nat) : Prop := (q.1.cls ≠ "java/lang/invoke/MethodHandle" ∧ q.1.cls ≠ "java/lang/invoke/VarHandle") ∧ Cond.instantiable q.1.cls q.2 ∈ tables_1 ∧ Cond.privateMethod q.1 ∈ tables_1 ∧ Cond.instanceMethod q.1 ∈ tables_1
theorem lw_p0 : lw_okq (⟨"SleepByRation$Charter", "clear", "()V"⟩, 4) := ⟨⟨by decide +kernel, by decide +kernel⟩, List.mem_of_getElem? (i := 47) (by decide +kernel), List.mem_of_getElem? (i := 53) (by decide +kernel), List.mem_of_getElem? (i := 54) (by decide +kernel)⟩
theorem lw_p1 : lw_okq (⟨"SleepByRation$Text", "append", "(IJ)V"⟩, 2) := ⟨⟨by decide +kernel, by decide +kernel⟩, List.mem_of_getElem? (i := 24) (by decide +kernel), List.mem_of_getElem? (i := 285) (by decide +kernel), List.mem_of_getElem? (i := 286) (by decide +kernel)⟩
theorem lw_p2 : lw_okq (⟨"SleepByRation$Reader", "read", "()I"⟩, 5) := ⟨⟨by decide +kernel, by decide +kernel⟩, List.mem_of_getElem? (i := 41) (by decide +kernel), List.mem_of_getElem? (i := 297) (by decide +kernel), List.mem_of_getElem? (i := 298) (by decide +kernel)⟩
theorem lw_p3 : lw_okq (⟨"SleepByRation$Reader", "readHead", "()V"⟩, 5) := ⟨⟨by decide +kernel, by decide +kernel⟩, List.mem_of_getElem? (i := 41) (by decide +kernel), List.mem_of_getElem? (i := 302) (by decide +kernel), List.mem_of_getElem? (i := 303) (by decide +kernel)⟩
theorem lw_p4 : lw_okq (⟨"SleepByRation$Reader", "next", "(CC)I"⟩, 5) := ⟨⟨by decide +kernel, by decide +kernel⟩, List.mem_of_getElem? (i := 41) (by decide +kernel), List.mem_of_getElem? (i := 306) (by decide +kernel), List.mem_of_getElem? (i := 307) (by decide +kernel)⟩
theorem lw_p5 : lw_okq (⟨"SleepByRation$Reader", "readPart", "()V"⟩, 5) := ⟨⟨by decide +kernel, by decide +kernel⟩, List.mem_of_getElem? (i := 41) (by decide +kernel), List.mem_of_getElem? (i := 310) (by decide +kernel), List.mem_of_getElem? (i := 311) (by decide +kernel)⟩
theorem lw_p6 : lw_okq (⟨"SleepByRation$Reader", "readGuard", "()V"⟩, 5) := ⟨⟨by decide +kernel, by decide +kernel⟩, List.mem_of_getElem? (i := 41) (by decide +kernel), List.mem_of_getElem? (i := 314) (by decide +kernel), List.mem_of_getElem? (i := 315) (by decide +kernel)⟩
theorem lw_p7 : lw_okq (⟨"SleepByRation$Charter", "twinless", "()I"⟩, 4) := ⟨⟨by decide +kernel, by decide +kernel⟩, List.mem_of_getElem? (i := 47) (by decide +kernel), List.mem_of_getElem? (i := 318) (by decide +kernel), List.mem_of_getElem? (i := 319) (by decide +kernel)⟩
theorem lw_p8 : lw_okq (⟨"SleepByRation$Reader", "readTwins", "()V"⟩, 5) := ⟨⟨by decide +kernel, by decide +kernel⟩, List.mem_of_getElem? (i := 41) (by decide +kernel), List.mem_of_getElem? (i := 322) (by decide +kernel), List.mem_of_getElem? (i := 323) (by decide +kernel)⟩
theorem lw_p9 : lw_okq (⟨"SleepByRation$Reader", "nextTwin", "(I)I"⟩, 5) := ⟨⟨by decide +kernel, by decide +kernel⟩, List.mem_of_getElem? (i := 41) (by decide +kernel), List.mem_of_getElem? (i := 326) (by decide +kernel), List.mem_of_getElem? (i := 327) (by decide +kernel)⟩
theorem lw_p10 : lw_okq (⟨"SleepByRation$Charter", "has", "(I)Z"⟩, 4) := ⟨⟨by decide +kernel, by decide +kernel⟩, List.mem_of_getElem? (i := 47) (by decide +kernel), List.mem_of_getElem? (i := 330) (by decide +kernel), List.mem_of_getElem? (i := 331) (by decide +kernel)⟩
theorem lw_p11 : lw_okq (⟨"SleepByRation$Charter", "copyFrom", "(LSleepByRation$Charter;)V"⟩, 4) := ⟨⟨by decide +kernel, by decide +kernel⟩, List.mem_of_getElem? (i := 47) (by decide +kernel), List.mem_of_getElem? (i := 338) (by decide +kernel), List.mem_of_getElem? (i := 339) (by decide +kernel)⟩
theorem lw_p12 : lw_okq (⟨"SleepByRation$Roll", "copyFrom", "(LSleepByRation$Roll;)V"⟩, 9) := ⟨⟨by decide +kernel, by decide +kernel⟩, List.mem_of_getElem? (i := 87) (by decide +kernel), List.mem_of_getElem? (i := 345) (by decide +kernel), List.mem_of_getElem? (i := 346) (by decide +kernel)⟩
theorem lw_p13 : lw_okq (⟨"SleepByRation$RotaSearch", "forget", "()V"⟩, 7) := ⟨⟨by decide +kernel, by decide +kernel⟩, List.mem_of_getElem? (i := 175) (by decide +kernel), List.mem_of_getElem? (i := 351) (by decide +kernel), List.mem_of_getElem? (i := 352) (by decide +kernel)⟩
theorem lw_p14 : lw_okq (⟨"SleepByRation$Roll", "tiredOfAll", "()I"⟩, 9) := ⟨⟨by decide +kernel, by decide +kernel⟩, List.mem_of_getElem? (i := 87) (by decide +kernel), List.mem_of_getElem? (i := 359) (by decide +kernel), List.mem_of_getElem? (i := 360) (by decide +kernel)⟩
theorem lw_p15 : lw_okq (⟨"SleepByRation$Charter", "hasAll", "(I)Z"⟩, 4) := ⟨⟨by decide +kernel, by decide +kernel⟩, List.mem_of_getElem? (i := 47) (by decide +kernel), List.mem_of_getElem? (i := 384) (by decide +kernel), List.mem_of_getElem? (i := 385) (by decide +kernel)⟩
def lw_privs_1 : List (MethodName × Nat) := [(⟨"SleepByRation$Charter", "clear", "()V"⟩, 4), (⟨"SleepByRation$Text", "append", "(IJ)V"⟩, 2), (⟨"SleepByRation$Reader", "read", "()I"⟩, 5), (⟨"SleepByRation$Reader", "readHead", "()V"⟩, 5), (⟨"SleepByRation$Reader", "next", "(CC)I"⟩, 5), (⟨"SleepByRation$Reader", "readPart", "()V"⟩, 5), (⟨"SleepByRation$Reader", "readGuard", "()V"⟩, 5), (⟨"SleepByRation$Charter", "twinless", "()I"⟩, 4), (⟨"SleepByRation$Reader", "readTwins", "()V"⟩, 5), (⟨"SleepByRation$Reader", "nextTwin", "(I)I"⟩, 5), (⟨"SleepByRation$Charter", "has", "(I)Z"⟩, 4), (⟨"SleepByRation$Charter", "copyFrom", "(LSleepByRation$Charter;)V"⟩, 4), (⟨"SleepByRation$Roll", "copyFrom", "(LSleepByRation$Roll;)V"⟩, 9), (⟨"SleepByRation$RotaSearch", "forget", "()V"⟩, 7), (⟨"SleepByRation$Roll", "tiredOfAll", "()I"⟩, 9), (⟨"SleepByRation$Charter", "hasAll", "(I)Z"⟩, 4)]
theorem lw_r1 : ∀ q ∈ lw_privs_1, lw_okq q := List.forall_mem_cons.mpr ⟨lw_p0, List.forall_mem_cons.mpr ⟨lw_p1, List.forall_mem_cons.mpr ⟨lw_p2, List.forall_mem_cons.mpr ⟨lw_p3, List.forall_mem_cons.mpr ⟨lw_p4, List.forall_mem_cons.mpr ⟨lw_p5, List.forall_mem_cons.mpr ⟨lw_p6, List.forall_mem_cons.mpr ⟨lw_p7, List.forall_mem_cons.mpr ⟨lw_p8, List.forall_mem_cons.mpr ⟨lw_p9, List.forall_mem_cons.mpr ⟨lw_p10, List.forall_mem_cons.mpr ⟨lw_p11, List.forall_mem_cons.mpr ⟨lw_p12, List.forall_mem_cons.mpr ⟨lw_p13, List.forall_mem_cons.mpr ⟨lw_p14, List.forall_mem_cons.mpr ⟨lw_p15, fun _ h => absurd h List.not_mem_nil⟩⟩⟩⟩⟩⟩⟩⟩⟩⟩⟩⟩⟩⟩⟩⟩
theorem lw_p16 : lw_okq (⟨"SleepByRation$Charter", "everyone", "()I"⟩, 4) := ⟨⟨by decide +kernel, by decide +kernel⟩, List.mem_of_getElem? (i := 47) (by decide +kernel), List.mem_of_getElem? (i := 388) (by decide +kernel), List.mem_of_getElem? (i := 389) (by decide +kernel)⟩
theorem lw_p17 : lw_okq (⟨"SleepByRation$Roll", "allows", "(I)Z"⟩, 9) := ⟨⟨by decide +kernel, by decide +kernel⟩, List.mem_of_getElem? (i := 87) (by decide +kernel), List.mem_of_getElem? (i := 392) (by decide +kernel), List.mem_of_getElem? (i := 393) (by decide +kernel)⟩
theorem lw_p18 : lw_okq (⟨"SleepByRation$Roll", "giversOf", "(I)I"⟩, 9) := ⟨⟨by decide +kernel, by decide +kernel⟩, List.mem_of_getElem? (i := 87) (by decide +kernel), List.mem_of_getElem? (i := 402) (by decide +kernel), List.mem_of_getElem? (i := 403) (by decide +kernel)⟩
theorem lw_p19 : lw_okq (⟨"SleepByRation$Acts", "push", "(LSleepByRation$Roll;)V"⟩, 3) := ⟨⟨by decide +kernel, by decide +kernel⟩, List.mem_of_getElem? (i := 155) (by decide +kernel), List.mem_of_getElem? (i := 410) (by decide +kernel), List.mem_of_getElem? (i := 411) (by decide +kernel)⟩
theorem lw_p20 : lw_okq (⟨"SleepByRation$Roll", "pass", "(I)I"⟩, 9) := ⟨⟨by decide +kernel, by decide +kernel⟩, List.mem_of_getElem? (i := 87) (by decide +kernel), List.mem_of_getElem? (i := 418) (by decide +kernel), List.mem_of_getElem? (i := 419) (by decide +kernel)⟩
theorem lw_p21 : lw_okq (⟨"SleepByRation$Roll", "watch", "(I)V"⟩, 9) := ⟨⟨by decide +kernel, by decide +kernel⟩, List.mem_of_getElem? (i := 87) (by decide +kernel), List.mem_of_getElem? (i := 422) (by decide +kernel), List.mem_of_getElem? (i := 423) (by decide +kernel)⟩
theorem lw_p22 : lw_okq (⟨"SleepByRation$Roll", "rest", "(IZ)V"⟩, 9) := ⟨⟨by decide +kernel, by decide +kernel⟩, List.mem_of_getElem? (i := 87) (by decide +kernel), List.mem_of_getElem? (i := 430) (by decide +kernel), List.mem_of_getElem? (i := 431) (by decide +kernel)⟩
theorem lw_p23 : lw_okq (⟨"SleepByRation$Roll", "wakeAll", "()I"⟩, 9) := ⟨⟨by decide +kernel, by decide +kernel⟩, List.mem_of_getElem? (i := 87) (by decide +kernel), List.mem_of_getElem? (i := 439) (by decide +kernel), List.mem_of_getElem? (i := 440) (by decide +kernel)⟩
theorem lw_p24 : lw_okq (⟨"SleepByRation$Acts", "pop", "(LSleepByRation$Roll;)V"⟩, 3) := ⟨⟨by decide +kernel, by decide +kernel⟩, List.mem_of_getElem? (i := 155) (by decide +kernel), List.mem_of_getElem? (i := 447) (by decide +kernel), List.mem_of_getElem? (i := 448) (by decide +kernel)⟩
theorem lw_p25 : lw_okq (⟨"SleepByRation", "rotaRefusal", "(I)I"⟩, 10) := ⟨⟨by decide +kernel, by decide +kernel⟩, List.mem_of_getElem? (i := 16) (by decide +kernel), List.mem_of_getElem? (i := 455) (by decide +kernel), List.mem_of_getElem? (i := 456) (by decide +kernel)⟩
theorem lw_p26 : lw_okq (⟨"SleepByRation$RotaSearch", "run", "(LSleepByRation$Roll;I)V"⟩, 7) := ⟨⟨by decide +kernel, by decide +kernel⟩, List.mem_of_getElem? (i := 175) (by decide +kernel), List.mem_of_getElem? (i := 459) (by decide +kernel), List.mem_of_getElem? (i := 460) (by decide +kernel)⟩
theorem lw_p27 : lw_okq (⟨"SleepByRation$Roll", "isLike", "(LSleepByRation$Roll;)Z"⟩, 9) := ⟨⟨by decide +kernel, by decide +kernel⟩, List.mem_of_getElem? (i := 87) (by decide +kernel), List.mem_of_getElem? (i := 463) (by decide +kernel), List.mem_of_getElem? (i := 464) (by decide +kernel)⟩
theorem lw_p28 : lw_okq (⟨"SleepByRation$Roll", "leastTiredBehind", "(I)I"⟩, 9) := ⟨⟨by decide +kernel, by decide +kernel⟩, List.mem_of_getElem? (i := 87) (by decide +kernel), List.mem_of_getElem? (i := 471) (by decide +kernel), List.mem_of_getElem? (i := 472) (by decide +kernel)⟩
theorem lw_p29 : lw_okq (⟨"SleepByRation$Roll", "waysAwake", "(III)J"⟩, 9) := ⟨⟨by decide +kernel, by decide +kernel⟩, List.mem_of_getElem? (i := 87) (by decide +kernel), List.mem_of_getElem? (i := 495) (by decide +kernel), List.mem_of_getElem? (i := 496) (by decide +kernel)⟩
theorem lw_p30 : lw_okq (⟨"SleepByRation$Roll", "spareOf", "(I)I"⟩, 9) := ⟨⟨by decide +kernel, by decide +kernel⟩, List.mem_of_getElem? (i := 87) (by decide +kernel), List.mem_of_getElem? (i := 517) (by decide +kernel), List.mem_of_getElem? (i := 518) (by decide +kernel)⟩
theorem lw_p31 : lw_okq (⟨"SleepByRation$Book", "add", "(III)V"⟩, 4) := ⟨⟨by decide +kernel, by decide +kernel⟩, List.mem_of_getElem? (i := 208) (by decide +kernel), List.mem_of_getElem? (i := 526) (by decide +kernel), List.mem_of_getElem? (i := 527) (by decide +kernel)⟩
def lw_privs_2 : List (MethodName × Nat) := [(⟨"SleepByRation$Charter", "everyone", "()I"⟩, 4), (⟨"SleepByRation$Roll", "allows", "(I)Z"⟩, 9), (⟨"SleepByRation$Roll", "giversOf", "(I)I"⟩, 9), (⟨"SleepByRation$Acts", "push", "(LSleepByRation$Roll;)V"⟩, 3), (⟨"SleepByRation$Roll", "pass", "(I)I"⟩, 9), (⟨"SleepByRation$Roll", "watch", "(I)V"⟩, 9), (⟨"SleepByRation$Roll", "rest", "(IZ)V"⟩, 9), (⟨"SleepByRation$Roll", "wakeAll", "()I"⟩, 9), (⟨"SleepByRation$Acts", "pop", "(LSleepByRation$Roll;)V"⟩, 3), (⟨"SleepByRation", "rotaRefusal", "(I)I"⟩, 10), (⟨"SleepByRation$RotaSearch", "run", "(LSleepByRation$Roll;I)V"⟩, 7), (⟨"SleepByRation$Roll", "isLike", "(LSleepByRation$Roll;)Z"⟩, 9), (⟨"SleepByRation$Roll", "leastTiredBehind", "(I)I"⟩, 9), (⟨"SleepByRation$Roll", "waysAwake", "(III)J"⟩, 9), (⟨"SleepByRation$Roll", "spareOf", "(I)I"⟩, 9), (⟨"SleepByRation$Book", "add", "(III)V"⟩, 4)]
theorem lw_r2 : ∀ q ∈ lw_privs_2, lw_okq q := List.forall_mem_cons.mpr ⟨lw_p16, List.forall_mem_cons.mpr ⟨lw_p17, List.forall_mem_cons.mpr ⟨lw_p18, List.forall_mem_cons.mpr ⟨lw_p19, List.forall_mem_cons.mpr ⟨lw_p20, List.forall_mem_cons.mpr ⟨lw_p21, List.forall_mem_cons.mpr ⟨lw_p22, List.forall_mem_cons.mpr ⟨lw_p23, List.forall_mem_cons.mpr ⟨lw_p24, List.forall_mem_cons.mpr ⟨lw_p25, List.forall_mem_cons.mpr ⟨lw_p26, List.forall_mem_cons.mpr ⟨lw_p27, List.forall_mem_cons.mpr ⟨lw_p28, List.forall_mem_cons.mpr ⟨lw_p29, List.forall_mem_cons.mpr ⟨lw_p30, List.forall_mem_cons.mpr ⟨lw_p31, fun _ h => absurd h List.not_mem_nil⟩⟩⟩⟩⟩⟩⟩⟩⟩⟩⟩⟩⟩⟩⟩⟩
theorem lw_p32 : lw_okq (⟨"SleepByRation$Book", "isFalse", "(ILSleepByRation$Charter;)Z"⟩, 4) := ⟨⟨by decide +kernel, by decide +kernel⟩, List.mem_of_getElem? (i := 208) (by decide +kernel), List.mem_of_getElem? (i := 538) (by decide +kernel), List.mem_of_getElem? (i := 539) (by decide +kernel)⟩
theorem lw_p33 : lw_okq (⟨"SleepByRation$Book", "clash", "(IILSleepByRation$Charter;)Z"⟩, 4) := ⟨⟨by decide +kernel, by decide +kernel⟩, List.mem_of_getElem? (i := 208) (by decide +kernel), List.mem_of_getElem? (i := 542) (by decide +kernel), List.mem_of_getElem? (i := 543) (by decide +kernel)⟩
theorem lw_p34 : lw_okq (⟨"SleepByRation$Slot", "store", "(LSleepByRation$Roll;[I)V"⟩, 3) := ⟨⟨by decide +kernel, by decide +kernel⟩, List.mem_of_getElem? (i := 231) (by decide +kernel), List.mem_of_getElem? (i := 558) (by decide +kernel), List.mem_of_getElem? (i := 559) (by decide +kernel)⟩
theorem lw_p35 : lw_okq (⟨"SleepByRation$Slot", "restore", "(LSleepByRation$Roll;[I)V"⟩, 3) := ⟨⟨by decide +kernel, by decide +kernel⟩, List.mem_of_getElem? (i := 231) (by decide +kernel), List.mem_of_getElem? (i := 568) (by decide +kernel), List.mem_of_getElem? (i := 569) (by decide +kernel)⟩
theorem lw_p36 : lw_okq (⟨"SleepByRationModel", "readFortress", "()I"⟩, 37) := ⟨⟨by decide +kernel, by decide +kernel⟩, List.mem_of_getElem? (i := 572) (by decide +kernel), List.mem_of_getElem? (i := 707) (by decide +kernel), List.mem_of_getElem? (i := 708) (by decide +kernel)⟩
theorem lw_p37 : lw_okq (⟨"SleepByRationModel", "figure", "(II)I"⟩, 37) := ⟨⟨by decide +kernel, by decide +kernel⟩, List.mem_of_getElem? (i := 572) (by decide +kernel), List.mem_of_getElem? (i := 711) (by decide +kernel), List.mem_of_getElem? (i := 712) (by decide +kernel)⟩
theorem lw_p38 : lw_okq (⟨"SleepByRationModel", "readPart", "()Z"⟩, 37) := ⟨⟨by decide +kernel, by decide +kernel⟩, List.mem_of_getElem? (i := 572) (by decide +kernel), List.mem_of_getElem? (i := 715) (by decide +kernel), List.mem_of_getElem? (i := 716) (by decide +kernel)⟩
theorem lw_p39 : lw_okq (⟨"SleepByRationModel", "readGuard", "()Z"⟩, 37) := ⟨⟨by decide +kernel, by decide +kernel⟩, List.mem_of_getElem? (i := 572) (by decide +kernel), List.mem_of_getElem? (i := 719) (by decide +kernel), List.mem_of_getElem? (i := 720) (by decide +kernel)⟩
theorem lw_p40 : lw_okq (⟨"SleepByRationModel", "single", "()I"⟩, 37) := ⟨⟨by decide +kernel, by decide +kernel⟩, List.mem_of_getElem? (i := 572) (by decide +kernel), List.mem_of_getElem? (i := 723) (by decide +kernel), List.mem_of_getElem? (i := 724) (by decide +kernel)⟩
theorem lw_p41 : lw_okq (⟨"SleepByRationModel", "readTwins", "()Z"⟩, 37) := ⟨⟨by decide +kernel, by decide +kernel⟩, List.mem_of_getElem? (i := 572) (by decide +kernel), List.mem_of_getElem? (i := 727) (by decide +kernel), List.mem_of_getElem? (i := 728) (by decide +kernel)⟩
theorem lw_p42 : lw_okq (⟨"SleepByRationModel", "readSingle", "(I)I"⟩, 37) := ⟨⟨by decide +kernel, by decide +kernel⟩, List.mem_of_getElem? (i := 572) (by decide +kernel), List.mem_of_getElem? (i := 731) (by decide +kernel), List.mem_of_getElem? (i := 732) (by decide +kernel)⟩
theorem lw_p43 : lw_okq (⟨"SleepByRationModel", "noGuard", "(I)Z"⟩, 37) := ⟨⟨by decide +kernel, by decide +kernel⟩, List.mem_of_getElem? (i := 572) (by decide +kernel), List.mem_of_getElem? (i := 747) (by decide +kernel), List.mem_of_getElem? (i := 748) (by decide +kernel)⟩
theorem lw_p44 : lw_okq (⟨"SleepByRationModel", "noSet", "(I)Z"⟩, 37) := ⟨⟨by decide +kernel, by decide +kernel⟩, List.mem_of_getElem? (i := 572) (by decide +kernel), List.mem_of_getElem? (i := 768) (by decide +kernel), List.mem_of_getElem? (i := 769) (by decide +kernel)⟩
theorem lw_p45 : lw_okq (⟨"SleepByRationModel", "begin", "()V"⟩, 37) := ⟨⟨by decide +kernel, by decide +kernel⟩, List.mem_of_getElem? (i := 572) (by decide +kernel), List.mem_of_getElem? (i := 772) (by decide +kernel), List.mem_of_getElem? (i := 773) (by decide +kernel)⟩
theorem lw_p46 : lw_okq (⟨"SleepByRationModel", "canBe", "(I)Z"⟩, 37) := ⟨⟨by decide +kernel, by decide +kernel⟩, List.mem_of_getElem? (i := 572) (by decide +kernel), List.mem_of_getElem? (i := 776) (by decide +kernel), List.mem_of_getElem? (i := 777) (by decide +kernel)⟩
theorem lw_p47 : lw_okq (⟨"SleepByRationModel", "giver", "(II)I"⟩, 37) := ⟨⟨by decide +kernel, by decide +kernel⟩, List.mem_of_getElem? (i := 572) (by decide +kernel), List.mem_of_getElem? (i := 783) (by decide +kernel), List.mem_of_getElem? (i := 784) (by decide +kernel)⟩
def lw_privs_3 : List (MethodName × Nat) := [(⟨"SleepByRation$Book", "isFalse", "(ILSleepByRation$Charter;)Z"⟩, 4), (⟨"SleepByRation$Book", "clash", "(IILSleepByRation$Charter;)Z"⟩, 4), (⟨"SleepByRation$Slot", "store", "(LSleepByRation$Roll;[I)V"⟩, 3), (⟨"SleepByRation$Slot", "restore", "(LSleepByRation$Roll;[I)V"⟩, 3), (⟨"SleepByRationModel", "readFortress", "()I"⟩, 37), (⟨"SleepByRationModel", "figure", "(II)I"⟩, 37), (⟨"SleepByRationModel", "readPart", "()Z"⟩, 37), (⟨"SleepByRationModel", "readGuard", "()Z"⟩, 37), (⟨"SleepByRationModel", "single", "()I"⟩, 37), (⟨"SleepByRationModel", "readTwins", "()Z"⟩, 37), (⟨"SleepByRationModel", "readSingle", "(I)I"⟩, 37), (⟨"SleepByRationModel", "noGuard", "(I)Z"⟩, 37), (⟨"SleepByRationModel", "noSet", "(I)Z"⟩, 37), (⟨"SleepByRationModel", "begin", "()V"⟩, 37), (⟨"SleepByRationModel", "canBe", "(I)Z"⟩, 37), (⟨"SleepByRationModel", "giver", "(II)I"⟩, 37)]
theorem lw_r3 : ∀ q ∈ lw_privs_3, lw_okq q := List.forall_mem_cons.mpr ⟨lw_p32, List.forall_mem_cons.mpr ⟨lw_p33, List.forall_mem_cons.mpr ⟨lw_p34, List.forall_mem_cons.mpr ⟨lw_p35, List.forall_mem_cons.mpr ⟨lw_p36, List.forall_mem_cons.mpr ⟨lw_p37, List.forall_mem_cons.mpr ⟨lw_p38, List.forall_mem_cons.mpr ⟨lw_p39, List.forall_mem_cons.mpr ⟨lw_p40, List.forall_mem_cons.mpr ⟨lw_p41, List.forall_mem_cons.mpr ⟨lw_p42, List.forall_mem_cons.mpr ⟨lw_p43, List.forall_mem_cons.mpr ⟨lw_p44, List.forall_mem_cons.mpr ⟨lw_p45, List.forall_mem_cons.mpr ⟨lw_p46, List.forall_mem_cons.mpr ⟨lw_p47, fun _ h => absurd h List.not_mem_nil⟩⟩⟩⟩⟩⟩⟩⟩⟩⟩⟩⟩⟩⟩⟩⟩
theorem lw_p48 : lw_okq (⟨"SleepByRationModel", "note", "()V"⟩, 37) := ⟨⟨by decide +kernel, by decide +kernel⟩, List.mem_of_getElem? (i := 572) (by decide +kernel), List.mem_of_getElem? (i := 791) (by decide +kernel), List.mem_of_getElem? (i := 792) (by decide +kernel)⟩
theorem lw_p49 : lw_okq (⟨"SleepByRationModel", "layPage", "([II)V"⟩, 37) := ⟨⟨by decide +kernel, by decide +kernel⟩, List.mem_of_getElem? (i := 572) (by decide +kernel), List.mem_of_getElem? (i := 795) (by decide +kernel), List.mem_of_getElem? (i := 796) (by decide +kernel)⟩
theorem lw_p50 : lw_okq (⟨"SleepByRationModel", "go", "(I)I"⟩, 37) := ⟨⟨by decide +kernel, by decide +kernel⟩, List.mem_of_getElem? (i := 572) (by decide +kernel), List.mem_of_getElem? (i := 799) (by decide +kernel), List.mem_of_getElem? (i := 800) (by decide +kernel)⟩
theorem lw_p51 : lw_okq (⟨"SleepByRationModel", "takePage", "([II)V"⟩, 37) := ⟨⟨by decide +kernel, by decide +kernel⟩, List.mem_of_getElem? (i := 572) (by decide +kernel), List.mem_of_getElem? (i := 811) (by decide +kernel), List.mem_of_getElem? (i := 812) (by decide +kernel)⟩
theorem lw_p52 : lw_okq (⟨"SleepByRationModel", "noRota", "(I)I"⟩, 37) := ⟨⟨by decide +kernel, by decide +kernel⟩, List.mem_of_getElem? (i := 572) (by decide +kernel), List.mem_of_getElem? (i := 819) (by decide +kernel), List.mem_of_getElem? (i := 820) (by decide +kernel)⟩
theorem lw_p53 : lw_okq (⟨"SleepByRationModel", "findRota", "(I)I"⟩, 37) := ⟨⟨by decide +kernel, by decide +kernel⟩, List.mem_of_getElem? (i := 572) (by decide +kernel), List.mem_of_getElem? (i := 824) (by decide +kernel), List.mem_of_getElem? (i := 825) (by decide +kernel)⟩
theorem lw_p54 : lw_okq (⟨"SleepByRationModel", "allTired", "()I"⟩, 37) := ⟨⟨by decide +kernel, by decide +kernel⟩, List.mem_of_getElem? (i := 572) (by decide +kernel), List.mem_of_getElem? (i := 828) (by decide +kernel), List.mem_of_getElem? (i := 829) (by decide +kernel)⟩
theorem lw_p55 : lw_okq (⟨"SleepByRationModel", "doAllNod", "()Z"⟩, 37) := ⟨⟨by decide +kernel, by decide +kernel⟩, List.mem_of_getElem? (i := 572) (by decide +kernel), List.mem_of_getElem? (i := 840) (by decide +kernel), List.mem_of_getElem? (i := 841) (by decide +kernel)⟩
theorem lw_p56 : lw_okq (⟨"SleepByRationModel", "awakeBy", "(III)J"⟩, 37) := ⟨⟨by decide +kernel, by decide +kernel⟩, List.mem_of_getElem? (i := 572) (by decide +kernel), List.mem_of_getElem? (i := 853) (by decide +kernel), List.mem_of_getElem? (i := 854) (by decide +kernel)⟩
theorem lw_p57 : lw_okq (⟨"SleepByRationModel", "isForged", "(I)Z"⟩, 37) := ⟨⟨by decide +kernel, by decide +kernel⟩, List.mem_of_getElem? (i := 572) (by decide +kernel), List.mem_of_getElem? (i := 886) (by decide +kernel), List.mem_of_getElem? (i := 887) (by decide +kernel)⟩
theorem lw_p58 : lw_okq (⟨"SleepByRationModel", "areTwins", "(II)Z"⟩, 37) := ⟨⟨by decide +kernel, by decide +kernel⟩, List.mem_of_getElem? (i := 572) (by decide +kernel), List.mem_of_getElem? (i := 890) (by decide +kernel), List.mem_of_getElem? (i := 891) (by decide +kernel)⟩
def lw_privs_4 : List (MethodName × Nat) := [(⟨"SleepByRationModel", "note", "()V"⟩, 37), (⟨"SleepByRationModel", "layPage", "([II)V"⟩, 37), (⟨"SleepByRationModel", "go", "(I)I"⟩, 37), (⟨"SleepByRationModel", "takePage", "([II)V"⟩, 37), (⟨"SleepByRationModel", "noRota", "(I)I"⟩, 37), (⟨"SleepByRationModel", "findRota", "(I)I"⟩, 37), (⟨"SleepByRationModel", "allTired", "()I"⟩, 37), (⟨"SleepByRationModel", "doAllNod", "()Z"⟩, 37), (⟨"SleepByRationModel", "awakeBy", "(III)J"⟩, 37), (⟨"SleepByRationModel", "isForged", "(I)Z"⟩, 37), (⟨"SleepByRationModel", "areTwins", "(II)Z"⟩, 37)]
theorem lw_r4 : ∀ q ∈ lw_privs_4, lw_okq q := List.forall_mem_cons.mpr ⟨lw_p48, List.forall_mem_cons.mpr ⟨lw_p49, List.forall_mem_cons.mpr ⟨lw_p50, List.forall_mem_cons.mpr ⟨lw_p51, List.forall_mem_cons.mpr ⟨lw_p52, List.forall_mem_cons.mpr ⟨lw_p53, List.forall_mem_cons.mpr ⟨lw_p54, List.forall_mem_cons.mpr ⟨lw_p55, List.forall_mem_cons.mpr ⟨lw_p56, List.forall_mem_cons.mpr ⟨lw_p57, List.forall_mem_cons.mpr ⟨lw_p58, fun _ h => absurd h List.not_mem_nil⟩⟩⟩⟩⟩⟩⟩⟩⟩⟩⟩
def lw_privs : List (MethodName × Nat) := lw_privs_1 ++ (lw_privs_2 ++ (lw_privs_3 ++ (lw_privs_4)))
def lw_tbl : List Cond := k2_sels lw_privs ++ tables_1
theorem lw_privs_ok : ∀ q ∈ lw_privs, lw_okq q := by
  show ∀ q ∈ lw_privs_1 ++ (lw_privs_2 ++ (lw_privs_3 ++ (lw_privs_4))), lw_okq q
  exact List.forall_mem_append.mpr ⟨lw_r1, List.forall_mem_append.mpr ⟨lw_r2, List.forall_mem_append.mpr ⟨lw_r3, lw_r4⟩⟩⟩
end
section
/-! ===== BEGIN words of one list among another's, by their places ===== -/
theorem goodIn_r {big : List Cond} (ws : List Cond) (ps : List Nat) (hp : ws = ps.filterMap (fun i => big[i]?)) (h : ws.all goodWord = true) : GoodIn big ws := by
  intro w hw
  have h1 := List.all_eq_true.mp h w hw
  rw [hp] at hw
  obtain ⟨i, -, hi⟩ := List.mem_filterMap.mp hw
  have hm : w ∈ big := by first | exact List.mem_of_getElem? hi | exact List.getElem?_mem hi
  exact ⟨hm, good_of_word h1⟩
theorem goodIn_app {big a b : List Cond} (ha : GoodIn big a) (hb : GoodIn big b) : GoodIn big (a ++ b) := fun w h => (List.mem_append.mp h).elim (ha w) (hb w)
theorem goodIn_ca {big a b : List Cond} {c : Cond} (ha : GoodIn big (c :: a)) (hb : GoodIn big b) : GoodIn big (c :: (a ++ b)) := fun w h => (List.mem_cons.mp h).elim (fun e => ha w (List.mem_cons.mpr (Or.inl e))) (fun h => (List.mem_append.mp h).elim (fun h => ha w (List.mem_cons.mpr (Or.inr h))) (hb w))
theorem goodIn_sub {big ws : List Cond} (hm : ∀ w ∈ ws, w ∈ big) (h : ws.all goodWord = true) : GoodIn big ws := fun w hw => ⟨hm w hw, good_of_word (List.all_eq_true.mp h w hw)⟩
/-! ===== END ===== -/

/-! ===== BEGIN printed: names, fields, word lists, decode rows ===== -/
def RX0 : String := "SleepByRation$Acts"
def TX0 : u_T := fun k => match k with
  | 0 => ("SleepByRation$Acts", "ahead", "[LSleepByRation$Roll;", true)
  | 1 => ("SleepByRation$Acts", "end", "I", false)
  | _ => ("SleepByRation$Acts", "count", "I", false)
def tyX0 : Nat → FieldType := fun k => match k with
  | 0 => .array (.object "SleepByRation$Roll")
  | 1 => .int
  | _ => .int
abbrev wsX00 : List Cond := u_ws RX0 TX0 3
theorem nmX0 : ∀ a, a < 3 → ∀ b, b < 3 → a ≠ b → (TX0 a).2.1 ≠ (TX0 b).2.1 := by decide +kernel
theorem tyX0_ok : ∀ k, k < 3 → parseFieldDescriptor (TX0 k).2.2.1 = some (tyX0 k) := by decide +kernel
abbrev cX0_init : ByteArray := prog_2_method_1_code
def yX0_init : MethodName := ⟨RX0, "<init>", "(LSleepByRation$Charter;)V"⟩
abbrev cX0_push : ByteArray := prog_2_method_2_code
def yX0_push : MethodName := ⟨RX0, "push", "(LSleepByRation$Roll;)V"⟩
abbrev cX0_pop : ByteArray := prog_2_method_3_code
def yX0_pop : MethodName := ⟨RX0, "pop", "(LSleepByRation$Roll;)V"⟩
def RX1 : String := "SleepByRation$Book"
def TX1 : u_T := fun k => match k with
  | 0 => ("SleepByRation$Book", "numbers", "[I", true)
  | 1 => ("SleepByRation$Book", "users", "[I", true)
  | 2 => ("SleepByRation$Book", "hours", "[I", true)
  | _ => ("SleepByRation$Book", "uses", "I", false)
def tyX1 : Nat → FieldType := fun k => match k with
  | 0 => .array .int
  | 1 => .array .int
  | 2 => .array .int
  | _ => .int
abbrev wsX10 : List Cond := u_ws RX1 TX1 4
theorem nmX1 : ∀ a, a < 4 → ∀ b, b < 4 → a ≠ b → (TX1 a).2.1 ≠ (TX1 b).2.1 := by decide +kernel
theorem tyX1_ok : ∀ k, k < 4 → parseFieldDescriptor (TX1 k).2.2.1 = some (tyX1 k) := by decide +kernel
abbrev cX1_init : ByteArray := prog_3_method_1_code
def yX1_init : MethodName := ⟨RX1, "<init>", "()V"⟩
abbrev cX1_add : ByteArray := prog_3_method_2_code
def yX1_add : MethodName := ⟨RX1, "add", "(III)V"⟩
abbrev cX1_isFalse : ByteArray := prog_3_method_3_code
def yX1_isFalse : MethodName := ⟨RX1, "isFalse", "(ILSleepByRation$Charter;)Z"⟩
abbrev cX1_clash : ByteArray := prog_3_method_4_code
def yX1_clash : MethodName := ⟨RX1, "clash", "(IILSleepByRation$Charter;)Z"⟩
def RX2 : String := "SleepByRation$Charter"
def TX2 : u_T := fun k => match k with
  | 0 => ("SleepByRation$Charter", "twin", "[I", true)
  | 1 => ("SleepByRation$Charter", "guards", "I", false)
  | 2 => ("SleepByRation$Charter", "beds", "I", false)
  | _ => ("SleepByRation$Charter", "limit", "I", false)
def tyX2 : Nat → FieldType := fun k => match k with
  | 0 => .array .int
  | 1 => .int
  | 2 => .int
  | _ => .int
abbrev wsX20 : List Cond := u_ws RX2 TX2 4
theorem nmX2 : ∀ a, a < 4 → ∀ b, b < 4 → a ≠ b → (TX2 a).2.1 ≠ (TX2 b).2.1 := by decide +kernel
theorem tyX2_ok : ∀ k, k < 4 → parseFieldDescriptor (TX2 k).2.2.1 = some (tyX2 k) := by decide +kernel
abbrev cX2_init : ByteArray := prog_4_method_1_code
def yX2_init : MethodName := ⟨RX2, "<init>", "()V"⟩
abbrev cX2_clear : ByteArray := prog_4_method_2_code
def yX2_clear : MethodName := ⟨RX2, "clear", "()V"⟩
abbrev cX2_copyFrom : ByteArray := prog_4_method_3_code
def yX2_copyFrom : MethodName := ⟨RX2, "copyFrom", "(LSleepByRation$Charter;)V"⟩
abbrev cX2_has : ByteArray := prog_4_method_4_code
def yX2_has : MethodName := ⟨RX2, "has", "(I)Z"⟩
abbrev cX2_everyone : ByteArray := prog_4_method_5_code
def yX2_everyone : MethodName := ⟨RX2, "everyone", "()I"⟩
abbrev cX2_hasAll : ByteArray := prog_4_method_6_code
def yX2_hasAll : MethodName := ⟨RX2, "hasAll", "(I)Z"⟩
abbrev cX2_twinless : ByteArray := prog_4_method_7_code
def yX2_twinless : MethodName := ⟨RX2, "twinless", "()I"⟩
def RX3 : String := "SleepByRation$Reader"
def TX3 : u_T := fun k => match k with
  | 0 => ("SleepByRation$Reader", "text", "LSleepByRation$Text;", true)
  | 1 => ("SleepByRation$Reader", "charter", "LSleepByRation$Charter;", true)
  | 2 => ("SleepByRation$Reader", "roll", "LSleepByRation$Roll;", true)
  | 3 => ("SleepByRation$Reader", "at", "I", false)
  | _ => ("SleepByRation$Reader", "wrongAt", "I", false)
def tyX3 : Nat → FieldType := fun k => match k with
  | 0 => .object "SleepByRation$Text"
  | 1 => .object "SleepByRation$Charter"
  | 2 => .object "SleepByRation$Roll"
  | 3 => .int
  | _ => .int
abbrev wsX30 : List Cond := u_ws RX3 TX3 5
theorem nmX3 : ∀ a, a < 5 → ∀ b, b < 5 → a ≠ b → (TX3 a).2.1 ≠ (TX3 b).2.1 := by decide +kernel
theorem tyX3_ok : ∀ k, k < 5 → parseFieldDescriptor (TX3 k).2.2.1 = some (tyX3 k) := by decide +kernel
abbrev cX3_init : ByteArray := prog_5_method_1_code
def yX3_init : MethodName := ⟨RX3, "<init>", "(LSleepByRation$Text;)V"⟩
abbrev cX3_read : ByteArray := prog_5_method_2_code
def yX3_read : MethodName := ⟨RX3, "read", "()I"⟩
abbrev cX3_readHead : ByteArray := prog_5_method_3_code
def yX3_readHead : MethodName := ⟨RX3, "readHead", "()V"⟩
abbrev cX3_readPart : ByteArray := prog_5_method_4_code
def yX3_readPart : MethodName := ⟨RX3, "readPart", "()V"⟩
abbrev cX3_readGuard : ByteArray := prog_5_method_5_code
def yX3_readGuard : MethodName := ⟨RX3, "readGuard", "()V"⟩
abbrev cX3_readTwins : ByteArray := prog_5_method_6_code
def yX3_readTwins : MethodName := ⟨RX3, "readTwins", "()V"⟩
abbrev cX3_nextTwin : ByteArray := prog_5_method_7_code
def yX3_nextTwin : MethodName := ⟨RX3, "nextTwin", "(I)I"⟩
abbrev cX3_next : ByteArray := prog_5_method_8_code
def yX3_next : MethodName := ⟨RX3, "next", "(CC)I"⟩
def RX4 : String := "SleepByRation$Roll"
def TX4 : u_T := fun k => match k with
  | 0 => ("SleepByRation$Roll", "charter", "LSleepByRation$Charter;", true)
  | 1 => ("SleepByRation$Roll", "tired", "[I", true)
  | 2 => ("SleepByRation$Roll", "stamps", "[I", true)
  | 3 => ("SleepByRation$Roll", "owed", "[I", true)
  | 4 => ("SleepByRation$Roll", "bedded", "[I", true)
  | 5 => ("SleepByRation$Roll", "nodding", "I", false)
  | 6 => ("SleepByRation$Roll", "ill", "I", false)
  | 7 => ("SleepByRation$Roll", "quarters", "I", false)
  | _ => ("SleepByRation$Roll", "blind", "I", false)
def tyX4 : Nat → FieldType := fun k => match k with
  | 0 => .object "SleepByRation$Charter"
  | 1 => .array .int
  | 2 => .array .int
  | 3 => .array .int
  | 4 => .array .int
  | 5 => .int
  | 6 => .int
  | 7 => .int
  | _ => .int
abbrev wsX40 : List Cond := u_ws RX4 TX4 9
theorem nmX4 : ∀ a, a < 9 → ∀ b, b < 9 → a ≠ b → (TX4 a).2.1 ≠ (TX4 b).2.1 := by decide +kernel
theorem tyX4_ok : ∀ k, k < 9 → parseFieldDescriptor (TX4 k).2.2.1 = some (tyX4 k) := by decide +kernel
abbrev cX4_init : ByteArray := prog_6_method_1_code
def yX4_init : MethodName := ⟨RX4, "<init>", "(LSleepByRation$Charter;)V"⟩
abbrev cX4_copyFrom : ByteArray := prog_6_method_2_code
def yX4_copyFrom : MethodName := ⟨RX4, "copyFrom", "(LSleepByRation$Roll;)V"⟩
abbrev cX4_tiredOfAll : ByteArray := prog_6_method_3_code
def yX4_tiredOfAll : MethodName := ⟨RX4, "tiredOfAll", "()I"⟩
abbrev cX4_leastTiredBehind : ByteArray := prog_6_method_4_code
def yX4_leastTiredBehind : MethodName := ⟨RX4, "leastTiredBehind", "(I)I"⟩
abbrev cX4_isLike : ByteArray := prog_6_method_5_code
def yX4_isLike : MethodName := ⟨RX4, "isLike", "(LSleepByRation$Roll;)Z"⟩
abbrev cX4_allows : ByteArray := prog_6_method_6_code
def yX4_allows : MethodName := ⟨RX4, "allows", "(I)Z"⟩
abbrev cX4_giversOf : ByteArray := prog_6_method_7_code
def yX4_giversOf : MethodName := ⟨RX4, "giversOf", "(I)I"⟩
abbrev cX4_pass : ByteArray := prog_6_method_8_code
def yX4_pass : MethodName := ⟨RX4, "pass", "(I)I"⟩
abbrev cX4_rest : ByteArray := prog_6_method_9_code
def yX4_rest : MethodName := ⟨RX4, "rest", "(IZ)V"⟩
abbrev cX4_watch : ByteArray := prog_6_method_10_code
def yX4_watch : MethodName := ⟨RX4, "watch", "(I)V"⟩
abbrev cX4_wakeAll : ByteArray := prog_6_method_11_code
def yX4_wakeAll : MethodName := ⟨RX4, "wakeAll", "()I"⟩
abbrev cX4_waysAwake : ByteArray := prog_6_method_12_code
def yX4_waysAwake : MethodName := ⟨RX4, "waysAwake", "(III)J"⟩
abbrev cX4_spareOf : ByteArray := prog_6_method_13_code
def yX4_spareOf : MethodName := ⟨RX4, "spareOf", "(I)I"⟩
def RX5 : String := "SleepByRation$RotaSearch"
def TX5 : u_T := fun k => match k with
  | 0 => ("SleepByRation$RotaSearch", "charter", "LSleepByRation$Charter;", true)
  | 1 => ("SleepByRation$RotaSearch", "behind", "[LSleepByRation$Roll;", true)
  | 2 => ("SleepByRation$RotaSearch", "sets", "[I", true)
  | 3 => ("SleepByRation$RotaSearch", "best", "[I", true)
  | 4 => ("SleepByRation$RotaSearch", "soughtFor", "I", false)
  | 5 => ("SleepByRation$RotaSearch", "least", "I", false)
  | _ => ("SleepByRation$RotaSearch", "found", "Z", false)
def tyX5 : Nat → FieldType := fun k => match k with
  | 0 => .object "SleepByRation$Charter"
  | 1 => .array (.object "SleepByRation$Roll")
  | 2 => .array .int
  | 3 => .array .int
  | 4 => .int
  | 5 => .int
  | _ => .boolean
abbrev wsX50 : List Cond := u_ws RX5 TX5 7
theorem nmX5 : ∀ a, a < 7 → ∀ b, b < 7 → a ≠ b → (TX5 a).2.1 ≠ (TX5 b).2.1 := by decide +kernel
theorem tyX5_ok : ∀ k, k < 7 → parseFieldDescriptor (TX5 k).2.2.1 = some (tyX5 k) := by decide +kernel
abbrev cX5_init : ByteArray := prog_7_method_1_code
def yX5_init : MethodName := ⟨RX5, "<init>", "(LSleepByRation$Charter;)V"⟩
abbrev cX5_forget : ByteArray := prog_7_method_2_code
def yX5_forget : MethodName := ⟨RX5, "forget", "()V"⟩
abbrev cX5_run : ByteArray := prog_7_method_3_code
def yX5_run : MethodName := ⟨RX5, "run", "(LSleepByRation$Roll;I)V"⟩
abbrev cX5_seek : ByteArray := prog_7_method_4_code
def yX5_seek : MethodName := ⟨RX5, "seek", "(LSleepByRation$RotaSearch;II)V"⟩
def RX6 : String := "SleepByRation$Slot"
def TX6 : u_T := fun k => match k with
  | 0 => ("SleepByRation$Slot", "roll", "LSleepByRation$Roll;", true)
  | 1 => ("SleepByRation$Slot", "sets", "[I", true)
  | _ => ("SleepByRation$Slot", "filled", "Z", false)
def tyX6 : Nat → FieldType := fun k => match k with
  | 0 => .object "SleepByRation$Roll"
  | 1 => .array .int
  | _ => .boolean
abbrev wsX60 : List Cond := u_ws RX6 TX6 3
theorem nmX6 : ∀ a, a < 3 → ∀ b, b < 3 → a ≠ b → (TX6 a).2.1 ≠ (TX6 b).2.1 := by decide +kernel
theorem tyX6_ok : ∀ k, k < 3 → parseFieldDescriptor (TX6 k).2.2.1 = some (tyX6 k) := by decide +kernel
abbrev cX6_init : ByteArray := prog_8_method_1_code
def yX6_init : MethodName := ⟨RX6, "<init>", "(LSleepByRation$Charter;)V"⟩
abbrev cX6_store : ByteArray := prog_8_method_2_code
def yX6_store : MethodName := ⟨RX6, "store", "(LSleepByRation$Roll;[I)V"⟩
abbrev cX6_restore : ByteArray := prog_8_method_3_code
def yX6_restore : MethodName := ⟨RX6, "restore", "(LSleepByRation$Roll;[I)V"⟩
def RX7 : String := "SleepByRation$Text"
def TX7 : u_T := fun k => match k with
  | 0 => ("SleepByRation$Text", "bytes", "[B", true)
  | _ => ("SleepByRation$Text", "length", "I", false)
def tyX7 : Nat → FieldType := fun k => match k with
  | 0 => .array .byte
  | _ => .int
abbrev wsX70 : List Cond := u_ws RX7 TX7 2
theorem nmX7 : ∀ a, a < 2 → ∀ b, b < 2 → a ≠ b → (TX7 a).2.1 ≠ (TX7 b).2.1 := by decide +kernel
theorem tyX7_ok : ∀ k, k < 2 → parseFieldDescriptor (TX7 k).2.2.1 = some (tyX7 k) := by decide +kernel
abbrev cX7_init : ByteArray := prog_9_method_1_code
def yX7_init : MethodName := ⟨RX7, "<init>", "()V"⟩
abbrev cX7_append : ByteArray := prog_9_method_2_code
def yX7_append : MethodName := ⟨RX7, "append", "(IJ)V"⟩
def RX8 : String := "SleepByRation"
def TX8 : u_T := fun k => match k with
  | 0 => ("SleepByRation", "text", "LSleepByRation$Text;", true)
  | 1 => ("SleepByRation", "reader", "LSleepByRation$Reader;", true)
  | 2 => ("SleepByRation", "charter", "LSleepByRation$Charter;", true)
  | 3 => ("SleepByRation", "now", "LSleepByRation$Roll;", true)
  | 4 => ("SleepByRation", "trial", "LSleepByRation$Roll;", true)
  | 5 => ("SleepByRation", "planned", "[I", true)
  | 6 => ("SleepByRation", "acts", "LSleepByRation$Acts;", true)
  | 7 => ("SleepByRation", "search", "LSleepByRation$RotaSearch;", true)
  | 8 => ("SleepByRation", "book", "LSleepByRation$Book;", true)
  | _ => ("SleepByRation", "slots", "[LSleepByRation$Slot;", true)
def tyX8 : Nat → FieldType := fun k => match k with
  | 0 => .object "SleepByRation$Text"
  | 1 => .object "SleepByRation$Reader"
  | 2 => .object "SleepByRation$Charter"
  | 3 => .object "SleepByRation$Roll"
  | 4 => .object "SleepByRation$Roll"
  | 5 => .array .int
  | 6 => .object "SleepByRation$Acts"
  | 7 => .object "SleepByRation$RotaSearch"
  | 8 => .object "SleepByRation$Book"
  | _ => .array (.object "SleepByRation$Slot")
abbrev wsX80 : List Cond := u_ws RX8 TX8 10
theorem nmX8 : ∀ a, a < 10 → ∀ b, b < 10 → a ≠ b → (TX8 a).2.1 ≠ (TX8 b).2.1 := by decide +kernel
theorem tyX8_ok : ∀ k, k < 10 → parseFieldDescriptor (TX8 k).2.2.1 = some (tyX8 k) := by decide +kernel
abbrev cX8_init : ByteArray := prog_1_method_1_code
def yX8_init : MethodName := ⟨RX8, "<init>", "()V"⟩
abbrev cX8_write : ByteArray := prog_1_method_2_code
def yX8_write : MethodName := ⟨RX8, "write", "(IJ)I"⟩
abbrev cX8_wipe : ByteArray := prog_1_method_3_code
def yX8_wipe : MethodName := ⟨RX8, "wipe", "()I"⟩
abbrev cX8_fault : ByteArray := prog_1_method_4_code
def yX8_fault : MethodName := ⟨RX8, "fault", "()I"⟩
abbrev cX8_fortress : ByteArray := prog_1_method_5_code
def yX8_fortress : MethodName := ⟨RX8, "fortress", "()I"⟩
abbrev cX8_about : ByteArray := prog_1_method_6_code
def yX8_about : MethodName := ⟨RX8, "about", "(I)I"⟩
abbrev cX8_guard : ByteArray := prog_1_method_7_code
def yX8_guard : MethodName := ⟨RX8, "guard", "(II)I"⟩
abbrev cX8_sick : ByteArray := prog_1_method_8_code
def yX8_sick : MethodName := ⟨RX8, "sick", "(IZ)I"⟩
abbrev cX8_hand : ByteArray := prog_1_method_9_code
def yX8_hand : MethodName := ⟨RX8, "hand", "(III)I"⟩
abbrev cX8_pay : ByteArray := prog_1_method_10_code
def yX8_pay : MethodName := ⟨RX8, "pay", "(II)I"⟩
abbrev cX8_may : ByteArray := prog_1_method_11_code
def yX8_may : MethodName := ⟨RX8, "may", "(I)I"⟩
abbrev cX8_quarter : ByteArray := prog_1_method_12_code
def yX8_quarter : MethodName := ⟨RX8, "quarter", "(I)I"⟩
abbrev cX8_drum : ByteArray := prog_1_method_13_code
def yX8_drum : MethodName := ⟨RX8, "drum", "()I"⟩
abbrev cX8_undo : ByteArray := prog_1_method_14_code
def yX8_undo : MethodName := ⟨RX8, "undo", "()I"⟩
abbrev cX8_rota : ByteArray := prog_1_method_15_code
def yX8_rota : MethodName := ⟨RX8, "rota", "(I)I"⟩
abbrev cX8_rotaAt : ByteArray := prog_1_method_16_code
def yX8_rotaAt : MethodName := ⟨RX8, "rotaAt", "(II)I"⟩
abbrev cX8_rotaRefusal : ByteArray := prog_1_method_17_code
def yX8_rotaRefusal : MethodName := ⟨RX8, "rotaRefusal", "(I)I"⟩
abbrev cX8_allNod : ByteArray := prog_1_method_18_code
def yX8_allNod : MethodName := ⟨RX8, "allNod", "()I"⟩
abbrev cX8_chance : ByteArray := prog_1_method_19_code
def yX8_chance : MethodName := ⟨RX8, "chance", "(IIZ)J"⟩
abbrev cX8_greatestDivisor : ByteArray := prog_1_method_20_code
def yX8_greatestDivisor : MethodName := ⟨RX8, "greatestDivisor", "(JJ)J"⟩
abbrev cX8_plan : ByteArray := prog_1_method_21_code
def yX8_plan : MethodName := ⟨RX8, "plan", "(II)I"⟩
abbrev cX8_weakest : ByteArray := prog_1_method_22_code
def yX8_weakest : MethodName := ⟨RX8, "weakest", "()I"⟩
abbrev cX8_settled : ByteArray := prog_1_method_23_code
def yX8_settled : MethodName := ⟨RX8, "settled", "(Z)I"⟩
abbrev cX8_use : ByteArray := prog_1_method_24_code
def yX8_use : MethodName := ⟨RX8, "use", "(III)I"⟩
abbrev cX8_burn : ByteArray := prog_1_method_25_code
def yX8_burn : MethodName := ⟨RX8, "burn", "()I"⟩
abbrev cX8_forged : ByteArray := prog_1_method_26_code
def yX8_forged : MethodName := ⟨RX8, "forged", "()I"⟩
abbrev cX8_forgedAt : ByteArray := prog_1_method_27_code
def yX8_forgedAt : MethodName := ⟨RX8, "forgedAt", "(I)I"⟩
abbrev cX8_forgers : ByteArray := prog_1_method_28_code
def yX8_forgers : MethodName := ⟨RX8, "forgers", "()I"⟩
abbrev cX8_keep : ByteArray := prog_1_method_29_code
def yX8_keep : MethodName := ⟨RX8, "keep", "(I)I"⟩
abbrev cX8_again : ByteArray := prog_1_method_30_code
def yX8_again : MethodName := ⟨RX8, "again", "(I)I"⟩
def RX9 : String := "SleepByRationModel"
def TX9 : u_T := fun k => match k with
  | 0 => ("SleepByRationModel", "thrown", "I", false)
  | 1 => ("SleepByRationModel", "text", "[I", true)
  | 2 => ("SleepByRationModel", "textSize", "I", false)
  | 3 => ("SleepByRationModel", "place", "I", false)
  | 4 => ("SleepByRationModel", "guards", "I", false)
  | 5 => ("SleepByRationModel", "beds", "I", false)
  | 6 => ("SleepByRationModel", "limit", "I", false)
  | 7 => ("SleepByRationModel", "tired", "[I", true)
  | 8 => ("SleepByRationModel", "stamps", "[I", true)
  | 9 => ("SleepByRationModel", "owes", "[I", true)
  | 10 => ("SleepByRationModel", "nods", "[Z", true)
  | 11 => ("SleepByRationModel", "sick", "[Z", true)
  | 12 => ("SleepByRationModel", "twin", "[I", true)
  | 13 => ("SleepByRationModel", "slept", "[I", true)
  | 14 => ("SleepByRationModel", "quarters", "I", false)
  | 15 => ("SleepByRationModel", "blind", "I", false)
  | 16 => ("SleepByRationModel", "plan", "[I", true)
  | 17 => ("SleepByRationModel", "readGuards", "I", false)
  | 18 => ("SleepByRationModel", "readBeds", "I", false)
  | 19 => ("SleepByRationModel", "readLimit", "I", false)
  | 20 => ("SleepByRationModel", "readTired", "[I", true)
  | 21 => ("SleepByRationModel", "readStamps", "[I", true)
  | 22 => ("SleepByRationModel", "readOwes", "[I", true)
  | 23 => ("SleepByRationModel", "readTwin", "[I", true)
  | 24 => ("SleepByRationModel", "book", "[I", true)
  | 25 => ("SleepByRationModel", "acts", "I", false)
  | 26 => ("SleepByRationModel", "kept", "[I", true)
  | 27 => ("SleepByRationModel", "isKept", "[Z", true)
  | 28 => ("SleepByRationModel", "uses", "I", false)
  | 29 => ("SleepByRationModel", "useNumber", "[I", true)
  | 30 => ("SleepByRationModel", "useGuard", "[I", true)
  | 31 => ("SleepByRationModel", "useQuarter", "[I", true)
  | 32 => ("SleepByRationModel", "t", "[I", true)
  | 33 => ("SleepByRationModel", "s", "[I", true)
  | 34 => ("SleepByRationModel", "d", "[I", true)
  | 35 => ("SleepByRationModel", "n", "[Z", true)
  | _ => ("SleepByRationModel", "rota", "[I", true)
def tyX9 : Nat → FieldType := fun k => match k with
  | 0 => .int
  | 1 => .array .int
  | 2 => .int
  | 3 => .int
  | 4 => .int
  | 5 => .int
  | 6 => .int
  | 7 => .array .int
  | 8 => .array .int
  | 9 => .array .int
  | 10 => .array .boolean
  | 11 => .array .boolean
  | 12 => .array .int
  | 13 => .array .int
  | 14 => .int
  | 15 => .int
  | 16 => .array .int
  | 17 => .int
  | 18 => .int
  | 19 => .int
  | 20 => .array .int
  | 21 => .array .int
  | 22 => .array .int
  | 23 => .array .int
  | 24 => .array .int
  | 25 => .int
  | 26 => .array .int
  | 27 => .array .boolean
  | 28 => .int
  | 29 => .array .int
  | 30 => .array .int
  | 31 => .array .int
  | 32 => .array .int
  | 33 => .array .int
  | 34 => .array .int
  | 35 => .array .boolean
  | _ => .array .int
abbrev wsX90 : List Cond := u_ws RX9 TX9 37
theorem nmX9 : ∀ a, a < 37 → ∀ b, b < 37 → a ≠ b → (TX9 a).2.1 ≠ (TX9 b).2.1 := by decide +kernel
theorem tyX9_ok : ∀ k, k < 37 → parseFieldDescriptor (TX9 k).2.2.1 = some (tyX9 k) := by decide +kernel
abbrev cX9_init : ByteArray := prog_11_method_1_code
def yX9_init : MethodName := ⟨RX9, "<init>", "()V"⟩
abbrev cX9_in : ByteArray := prog_11_method_3_code
def yX9_in : MethodName := ⟨RX9, "in", "(JJJ)Z"⟩
abbrev cX9_has : ByteArray := prog_11_method_4_code
def yX9_has : MethodName := ⟨RX9, "has", "(II)Z"⟩
abbrev cX9_noGuard : ByteArray := prog_11_method_5_code
def yX9_noGuard : MethodName := ⟨RX9, "noGuard", "(I)Z"⟩
abbrev cX9_noSet : ByteArray := prog_11_method_6_code
def yX9_noSet : MethodName := ⟨RX9, "noSet", "(I)Z"⟩
abbrev cX9_write : ByteArray := prog_11_method_7_code
def yX9_write : MethodName := ⟨RX9, "write", "(IJ)I"⟩
abbrev cX9_wipe : ByteArray := prog_11_method_8_code
def yX9_wipe : MethodName := ⟨RX9, "wipe", "()I"⟩
abbrev cX9_figure : ByteArray := prog_11_method_9_code
def yX9_figure : MethodName := ⟨RX9, "figure", "(II)I"⟩
abbrev cX9_readGuard : ByteArray := prog_11_method_10_code
def yX9_readGuard : MethodName := ⟨RX9, "readGuard", "()Z"⟩
abbrev cX9_single : ByteArray := prog_11_method_11_code
def yX9_single : MethodName := ⟨RX9, "single", "()I"⟩
abbrev cX9_readSingle : ByteArray := prog_11_method_12_code
def yX9_readSingle : MethodName := ⟨RX9, "readSingle", "(I)I"⟩
abbrev cX9_readTwins : ByteArray := prog_11_method_13_code
def yX9_readTwins : MethodName := ⟨RX9, "readTwins", "()Z"⟩
abbrev cX9_readPart : ByteArray := prog_11_method_14_code
def yX9_readPart : MethodName := ⟨RX9, "readPart", "()Z"⟩
abbrev cX9_readFortress : ByteArray := prog_11_method_15_code
def yX9_readFortress : MethodName := ⟨RX9, "readFortress", "()I"⟩
abbrev cX9_fault : ByteArray := prog_11_method_16_code
def yX9_fault : MethodName := ⟨RX9, "fault", "()I"⟩
abbrev cX9_fortress : ByteArray := prog_11_method_17_code
def yX9_fortress : MethodName := ⟨RX9, "fortress", "()I"⟩
abbrev cX9_about : ByteArray := prog_11_method_18_code
def yX9_about : MethodName := ⟨RX9, "about", "(I)I"⟩
abbrev cX9_guard : ByteArray := prog_11_method_19_code
def yX9_guard : MethodName := ⟨RX9, "guard", "(II)I"⟩
abbrev cX9_sick : ByteArray := prog_11_method_20_code
def yX9_sick : MethodName := ⟨RX9, "sick", "(IZ)I"⟩
abbrev cX9_hand : ByteArray := prog_11_method_21_code
def yX9_hand : MethodName := ⟨RX9, "hand", "(III)I"⟩
abbrev cX9_pay : ByteArray := prog_11_method_22_code
def yX9_pay : MethodName := ⟨RX9, "pay", "(II)I"⟩
abbrev cX9_begin : ByteArray := prog_11_method_23_code
def yX9_begin : MethodName := ⟨RX9, "begin", "()V"⟩
abbrev cX9_giver : ByteArray := prog_11_method_24_code
def yX9_giver : MethodName := ⟨RX9, "giver", "(II)I"⟩
abbrev cX9_canBe : ByteArray := prog_11_method_25_code
def yX9_canBe : MethodName := ⟨RX9, "canBe", "(I)Z"⟩
abbrev cX9_go : ByteArray := prog_11_method_26_code
def yX9_go : MethodName := ⟨RX9, "go", "(I)I"⟩
abbrev cX9_may : ByteArray := prog_11_method_27_code
def yX9_may : MethodName := ⟨RX9, "may", "(I)I"⟩
abbrev cX9_layPage : ByteArray := prog_11_method_28_code
def yX9_layPage : MethodName := ⟨RX9, "layPage", "([II)V"⟩
abbrev cX9_takePage : ByteArray := prog_11_method_29_code
def yX9_takePage : MethodName := ⟨RX9, "takePage", "([II)V"⟩
abbrev cX9_note : ByteArray := prog_11_method_30_code
def yX9_note : MethodName := ⟨RX9, "note", "()V"⟩
abbrev cX9_quarter : ByteArray := prog_11_method_31_code
def yX9_quarter : MethodName := ⟨RX9, "quarter", "(I)I"⟩
abbrev cX9_drum : ByteArray := prog_11_method_32_code
def yX9_drum : MethodName := ⟨RX9, "drum", "()I"⟩
abbrev cX9_undo : ByteArray := prog_11_method_33_code
def yX9_undo : MethodName := ⟨RX9, "undo", "()I"⟩
abbrev cX9_allTired : ByteArray := prog_11_method_34_code
def yX9_allTired : MethodName := ⟨RX9, "allTired", "()I"⟩
abbrev cX9_findRota : ByteArray := prog_11_method_35_code
def yX9_findRota : MethodName := ⟨RX9, "findRota", "(I)I"⟩
abbrev cX9_noRota : ByteArray := prog_11_method_36_code
def yX9_noRota : MethodName := ⟨RX9, "noRota", "(I)I"⟩
abbrev cX9_rota : ByteArray := prog_11_method_37_code
def yX9_rota : MethodName := ⟨RX9, "rota", "(I)I"⟩
abbrev cX9_rotaAt : ByteArray := prog_11_method_38_code
def yX9_rotaAt : MethodName := ⟨RX9, "rotaAt", "(II)I"⟩
abbrev cX9_doAllNod : ByteArray := prog_11_method_39_code
def yX9_doAllNod : MethodName := ⟨RX9, "doAllNod", "()Z"⟩
abbrev cX9_allNod : ByteArray := prog_11_method_40_code
def yX9_allNod : MethodName := ⟨RX9, "allNod", "()I"⟩
abbrev cX9_divisor : ByteArray := prog_11_method_41_code
def yX9_divisor : MethodName := ⟨RX9, "divisor", "(JJ)J"⟩
abbrev cX9_awakeBy : ByteArray := prog_11_method_42_code
def yX9_awakeBy : MethodName := ⟨RX9, "awakeBy", "(III)J"⟩
abbrev cX9_chance : ByteArray := prog_11_method_43_code
def yX9_chance : MethodName := ⟨RX9, "chance", "(IIZ)J"⟩
abbrev cX9_plan : ByteArray := prog_11_method_44_code
def yX9_plan : MethodName := ⟨RX9, "plan", "(II)I"⟩
abbrev cX9_weakest : ByteArray := prog_11_method_45_code
def yX9_weakest : MethodName := ⟨RX9, "weakest", "()I"⟩
abbrev cX9_settled : ByteArray := prog_11_method_46_code
def yX9_settled : MethodName := ⟨RX9, "settled", "(Z)I"⟩
abbrev cX9_use : ByteArray := prog_11_method_47_code
def yX9_use : MethodName := ⟨RX9, "use", "(III)I"⟩
abbrev cX9_burn : ByteArray := prog_11_method_48_code
def yX9_burn : MethodName := ⟨RX9, "burn", "()I"⟩
abbrev cX9_areTwins : ByteArray := prog_11_method_49_code
def yX9_areTwins : MethodName := ⟨RX9, "areTwins", "(II)Z"⟩
abbrev cX9_isForged : ByteArray := prog_11_method_50_code
def yX9_isForged : MethodName := ⟨RX9, "isForged", "(I)Z"⟩
abbrev cX9_forged : ByteArray := prog_11_method_51_code
def yX9_forged : MethodName := ⟨RX9, "forged", "()I"⟩
abbrev cX9_forgedAt : ByteArray := prog_11_method_52_code
def yX9_forgedAt : MethodName := ⟨RX9, "forgedAt", "(I)I"⟩
abbrev cX9_forgers : ByteArray := prog_11_method_53_code
def yX9_forgers : MethodName := ⟨RX9, "forgers", "()I"⟩
abbrev cX9_keep : ByteArray := prog_11_method_54_code
def yX9_keep : MethodName := ⟨RX9, "keep", "(I)I"⟩
abbrev cX9_again : ByteArray := prog_11_method_55_code
def yX9_again : MethodName := ⟨RX9, "again", "(I)I"⟩
def RJ6 : String := "java/lang/Integer"
def TJ6 : u_T := fun k => match k with
  | _ => ("", "", "", false)
def tyJ6 : Nat → FieldType := fun k => match k with
  | _ => .int
abbrev wsJ60 : List Cond := u_ws RJ6 TJ6 0
theorem nmJ6 : ∀ a, a < 0 → ∀ b, b < 0 → a ≠ b → (TJ6 a).2.1 ≠ (TJ6 b).2.1 := by decide +kernel
theorem tyJ6_ok : ∀ k, k < 0 → parseFieldDescriptor (TJ6 k).2.2.1 = some (tyJ6 k) := by decide +kernel
abbrev cJ6_bitCount_0f7a4 : ByteArray := prog_12_method_49_code
def yJ6_bitCount_0f7a4 : MethodName := ⟨RJ6, "bitCount", "(I)I"⟩
def RJ9 : String := "java/lang/Math"
def TJ9 : u_T := fun k => match k with
  | _ => ("", "", "", false)
def tyJ9 : Nat → FieldType := fun k => match k with
  | _ => .int
abbrev wsJ90 : List Cond := u_ws RJ9 TJ9 0
theorem nmJ9 : ∀ a, a < 0 → ∀ b, b < 0 → a ≠ b → (TJ9 a).2.1 ≠ (TJ9 b).2.1 := by decide +kernel
theorem tyJ9_ok : ∀ k, k < 0 → parseFieldDescriptor (TJ9 k).2.2.1 = some (tyJ9 k) := by decide +kernel
abbrev cJ9_max_7cf53 : ByteArray := prog_13_method_65_code
def yJ9_max_7cf53 : MethodName := ⟨RJ9, "max", "(II)I"⟩
abbrev cJ9_min_7cf53 : ByteArray := prog_13_method_69_code
def yJ9_min_7cf53 : MethodName := ⟨RJ9, "min", "(II)I"⟩
def RJ10 : String := "java/lang/System"
def TJ10 : u_T := fun k => match k with
  | _ => ("", "", "", false)
def tyJ10 : Nat → FieldType := fun k => match k with
  | _ => .int
abbrev wsJ100 : List Cond := u_ws RJ10 TJ10 0
theorem nmJ10 : ∀ a, a < 0 → ∀ b, b < 0 → a ≠ b → (TJ10 a).2.1 ≠ (TJ10 b).2.1 := by decide +kernel
theorem tyJ10_ok : ∀ k, k < 0 → parseFieldDescriptor (TJ10 k).2.2.1 = some (tyJ10 k) := by decide +kernel
def RJ7 : String := "java/util/Arrays"
def TJ7 : u_T := fun k => match k with
  | _ => ("", "", "", false)
def tyJ7 : Nat → FieldType := fun k => match k with
  | _ => .int
abbrev wsJ70 : List Cond := u_ws RJ7 TJ7 0
theorem nmJ7 : ∀ a, a < 0 → ∀ b, b < 0 → a ≠ b → (TJ7 a).2.1 ≠ (TJ7 b).2.1 := by decide +kernel
theorem tyJ7_ok : ∀ k, k < 0 → parseFieldDescriptor (TJ7 k).2.2.1 = some (tyJ7 k) := by decide +kernel
abbrev cJ7_fill_53178 : ByteArray := prog_15_method_103_code
def yJ7_fill_53178 : MethodName := ⟨RJ7, "fill", "([II)V"⟩
def RL : String := "SleepByRationLaw"
abbrev cL_law : ByteArray := code
def yL_law : MethodName := ⟨RL, "law", "([I)Z"⟩
abbrev vwCl : List vw_C := [(RX0, TX0, 3), (RX1, TX1, 4), (RX2, TX2, 4), (RX3, TX3, 5), (RX4, TX4, 9), (RX5, TX5, 7), (RX6, TX6, 3), (RX7, TX7, 2), (RX8, TX8, 10), (RX9, TX9, 37)]
end
section
theorem dX0_init_0 : decode cX0_init 0 = .ok (.aload_n 0, 1) := by decide +kernel
theorem dX0_init_1 : decode cX0_init 1 = .ok (.invokespecial 3, 3) := by decide +kernel
theorem dX0_init_4 : decode cX0_init 4 = .ok (.aload_n 0, 1) := by decide +kernel
theorem dX0_init_5 : decode cX0_init 5 = .ok (.bipush 12, 2) := by decide +kernel
theorem dX0_init_7 : decode cX0_init 7 = .ok (.anewarray 9, 3) := by decide +kernel
theorem dX0_init_10 : decode cX0_init 10 = .ok (.putfield 11, 3) := by decide +kernel
theorem dX0_init_13 : decode cX0_init 13 = .ok (.iconst 0, 1) := by decide +kernel
theorem dX0_init_14 : decode cX0_init 14 = .ok (.istore_n 2, 1) := by decide +kernel
theorem dX0_init_15 : decode cX0_init 15 = .ok (.iload_n 2, 1) := by decide +kernel
theorem dX0_init_16 : decode cX0_init 16 = .ok (.bipush 12, 2) := by decide +kernel
theorem dX0_init_18 : decode cX0_init 18 = .ok (.if_icmp .ge 23, 3) := by decide +kernel
theorem dX0_init_21 : decode cX0_init 21 = .ok (.aload_n 0, 1) := by decide +kernel
theorem dX0_init_22 : decode cX0_init 22 = .ok (.getfield 11, 3) := by decide +kernel
theorem dX0_init_25 : decode cX0_init 25 = .ok (.iload_n 2, 1) := by decide +kernel
theorem dX0_init_26 : decode cX0_init 26 = .ok (.new 9, 3) := by decide +kernel
theorem dX0_init_29 : decode cX0_init 29 = .ok (.dup, 1) := by decide +kernel
theorem dX0_init_30 : decode cX0_init 30 = .ok (.aload_n 1, 1) := by decide +kernel
theorem dX0_init_31 : decode cX0_init 31 = .ok (.invokespecial 17, 3) := by decide +kernel
theorem dX0_init_34 : decode cX0_init 34 = .ok (.aastore, 1) := by decide +kernel
theorem dX0_init_35 : decode cX0_init 35 = .ok (.iinc 2 1, 3) := by decide +kernel
theorem dX0_init_38 : decode cX0_init 38 = .ok (.goto (-23), 3) := by decide +kernel
theorem dX0_init_41 : decode cX0_init 41 = .ok (.return_, 1) := by decide +kernel
theorem dX0_push_0 : decode cX0_push 0 = .ok (.aload_n 0, 1) := by decide +kernel
theorem dX0_push_1 : decode cX0_push 1 = .ok (.getfield 11, 3) := by decide +kernel
theorem dX0_push_4 : decode cX0_push 4 = .ok (.aload_n 0, 1) := by decide +kernel
theorem dX0_push_5 : decode cX0_push 5 = .ok (.getfield 20, 3) := by decide +kernel
theorem dX0_push_8 : decode cX0_push 8 = .ok (.aaload, 1) := by decide +kernel
theorem dX0_push_9 : decode cX0_push 9 = .ok (.aload_n 1, 1) := by decide +kernel
theorem dX0_push_10 : decode cX0_push 10 = .ok (.invokevirtual 24, 3) := by decide +kernel
theorem dX0_push_13 : decode cX0_push 13 = .ok (.aload_n 0, 1) := by decide +kernel
theorem dX0_push_14 : decode cX0_push 14 = .ok (.aload_n 0, 1) := by decide +kernel
theorem dX0_push_15 : decode cX0_push 15 = .ok (.getfield 20, 3) := by decide +kernel
theorem dX0_push_18 : decode cX0_push 18 = .ok (.iconst 1, 1) := by decide +kernel
theorem dX0_push_19 : decode cX0_push 19 = .ok (.iadd, 1) := by decide +kernel
theorem dX0_push_20 : decode cX0_push 20 = .ok (.bipush 12, 2) := by decide +kernel
theorem dX0_push_22 : decode cX0_push 22 = .ok (.irem, 1) := by decide +kernel
theorem dX0_push_23 : decode cX0_push 23 = .ok (.putfield 20, 3) := by decide +kernel
theorem dX0_push_26 : decode cX0_push 26 = .ok (.aload_n 0, 1) := by decide +kernel
theorem dX0_push_27 : decode cX0_push 27 = .ok (.bipush 12, 2) := by decide +kernel
theorem dX0_push_29 : decode cX0_push 29 = .ok (.aload_n 0, 1) := by decide +kernel
theorem dX0_push_30 : decode cX0_push 30 = .ok (.getfield 28, 3) := by decide +kernel
theorem dX0_push_33 : decode cX0_push 33 = .ok (.iconst 1, 1) := by decide +kernel
theorem dX0_push_34 : decode cX0_push 34 = .ok (.iadd, 1) := by decide +kernel
theorem dX0_push_35 : decode cX0_push 35 = .ok (.invokestatic 31, 3) := by decide +kernel
theorem dX0_push_38 : decode cX0_push 38 = .ok (.putfield 28, 3) := by decide +kernel
theorem dX0_push_41 : decode cX0_push 41 = .ok (.return_, 1) := by decide +kernel
theorem dX0_pop_0 : decode cX0_pop 0 = .ok (.aload_n 0, 1) := by decide +kernel
theorem dX0_pop_1 : decode cX0_pop 1 = .ok (.aload_n 0, 1) := by decide +kernel
theorem dX0_pop_2 : decode cX0_pop 2 = .ok (.getfield 20, 3) := by decide +kernel
theorem dX0_pop_5 : decode cX0_pop 5 = .ok (.bipush 12, 2) := by decide +kernel
theorem dX0_pop_7 : decode cX0_pop 7 = .ok (.iadd, 1) := by decide +kernel
theorem dX0_pop_8 : decode cX0_pop 8 = .ok (.iconst 1, 1) := by decide +kernel
theorem dX0_pop_9 : decode cX0_pop 9 = .ok (.isub, 1) := by decide +kernel
theorem dX0_pop_10 : decode cX0_pop 10 = .ok (.bipush 12, 2) := by decide +kernel
theorem dX0_pop_12 : decode cX0_pop 12 = .ok (.irem, 1) := by decide +kernel
theorem dX0_pop_13 : decode cX0_pop 13 = .ok (.putfield 20, 3) := by decide +kernel
theorem dX0_pop_16 : decode cX0_pop 16 = .ok (.aload_n 0, 1) := by decide +kernel
theorem dX0_pop_17 : decode cX0_pop 17 = .ok (.dup, 1) := by decide +kernel
theorem dX0_pop_18 : decode cX0_pop 18 = .ok (.getfield 28, 3) := by decide +kernel
theorem dX0_pop_21 : decode cX0_pop 21 = .ok (.iconst 1, 1) := by decide +kernel
theorem dX0_pop_22 : decode cX0_pop 22 = .ok (.isub, 1) := by decide +kernel
theorem dX0_pop_23 : decode cX0_pop 23 = .ok (.putfield 28, 3) := by decide +kernel
theorem dX0_pop_26 : decode cX0_pop 26 = .ok (.aload_n 1, 1) := by decide +kernel
theorem dX0_pop_27 : decode cX0_pop 27 = .ok (.getfield 37, 3) := by decide +kernel
theorem dX0_pop_30 : decode cX0_pop 30 = .ok (.istore_n 2, 1) := by decide +kernel
theorem dX0_pop_31 : decode cX0_pop 31 = .ok (.aload_n 1, 1) := by decide +kernel
theorem dX0_pop_32 : decode cX0_pop 32 = .ok (.aload_n 0, 1) := by decide +kernel
theorem dX0_pop_33 : decode cX0_pop 33 = .ok (.getfield 11, 3) := by decide +kernel
theorem dX0_pop_36 : decode cX0_pop 36 = .ok (.aload_n 0, 1) := by decide +kernel
theorem dX0_pop_37 : decode cX0_pop 37 = .ok (.getfield 20, 3) := by decide +kernel
theorem dX0_pop_40 : decode cX0_pop 40 = .ok (.aaload, 1) := by decide +kernel
theorem dX0_pop_41 : decode cX0_pop 41 = .ok (.invokevirtual 24, 3) := by decide +kernel
theorem dX0_pop_44 : decode cX0_pop 44 = .ok (.aload_n 1, 1) := by decide +kernel
theorem dX0_pop_45 : decode cX0_pop 45 = .ok (.iload_n 2, 1) := by decide +kernel
theorem dX0_pop_46 : decode cX0_pop 46 = .ok (.putfield 37, 3) := by decide +kernel
theorem dX0_pop_49 : decode cX0_pop 49 = .ok (.return_, 1) := by decide +kernel
theorem dX1_init_0 : decode cX1_init 0 = .ok (.aload_n 0, 1) := by decide +kernel
theorem dX1_init_1 : decode cX1_init 1 = .ok (.invokespecial 3, 3) := by decide +kernel
theorem dX1_init_4 : decode cX1_init 4 = .ok (.aload_n 0, 1) := by decide +kernel
theorem dX1_init_5 : decode cX1_init 5 = .ok (.bipush 12, 2) := by decide +kernel
theorem dX1_init_7 : decode cX1_init 7 = .ok (.newarray .int, 2) := by decide +kernel
theorem dX1_init_9 : decode cX1_init 9 = .ok (.putfield 9, 3) := by decide +kernel
theorem dX1_init_12 : decode cX1_init 12 = .ok (.aload_n 0, 1) := by decide +kernel
theorem dX1_init_13 : decode cX1_init 13 = .ok (.bipush 12, 2) := by decide +kernel
theorem dX1_init_15 : decode cX1_init 15 = .ok (.newarray .int, 2) := by decide +kernel
theorem dX1_init_17 : decode cX1_init 17 = .ok (.putfield 15, 3) := by decide +kernel
theorem dX1_init_20 : decode cX1_init 20 = .ok (.aload_n 0, 1) := by decide +kernel
theorem dX1_init_21 : decode cX1_init 21 = .ok (.bipush 12, 2) := by decide +kernel
theorem dX1_init_23 : decode cX1_init 23 = .ok (.newarray .int, 2) := by decide +kernel
theorem dX1_init_25 : decode cX1_init 25 = .ok (.putfield 18, 3) := by decide +kernel
theorem dX1_init_28 : decode cX1_init 28 = .ok (.return_, 1) := by decide +kernel
theorem dX1_add_0 : decode cX1_add 0 = .ok (.aload_n 0, 1) := by decide +kernel
theorem dX1_add_1 : decode cX1_add 1 = .ok (.getfield 21, 3) := by decide +kernel
theorem dX1_add_4 : decode cX1_add 4 = .ok (.bipush 12, 2) := by decide +kernel
theorem dX1_add_6 : decode cX1_add 6 = .ok (.if_icmp .ge 43, 3) := by decide +kernel
theorem dX1_add_9 : decode cX1_add 9 = .ok (.aload_n 0, 1) := by decide +kernel
theorem dX1_add_10 : decode cX1_add 10 = .ok (.getfield 9, 3) := by decide +kernel
theorem dX1_add_13 : decode cX1_add 13 = .ok (.aload_n 0, 1) := by decide +kernel
theorem dX1_add_14 : decode cX1_add 14 = .ok (.getfield 21, 3) := by decide +kernel
theorem dX1_add_17 : decode cX1_add 17 = .ok (.iload_n 1, 1) := by decide +kernel
theorem dX1_add_18 : decode cX1_add 18 = .ok (.iastore, 1) := by decide +kernel
theorem dX1_add_19 : decode cX1_add 19 = .ok (.aload_n 0, 1) := by decide +kernel
theorem dX1_add_20 : decode cX1_add 20 = .ok (.getfield 15, 3) := by decide +kernel
theorem dX1_add_23 : decode cX1_add 23 = .ok (.aload_n 0, 1) := by decide +kernel
theorem dX1_add_24 : decode cX1_add 24 = .ok (.getfield 21, 3) := by decide +kernel
theorem dX1_add_27 : decode cX1_add 27 = .ok (.iload_n 2, 1) := by decide +kernel
theorem dX1_add_28 : decode cX1_add 28 = .ok (.iastore, 1) := by decide +kernel
theorem dX1_add_29 : decode cX1_add 29 = .ok (.aload_n 0, 1) := by decide +kernel
theorem dX1_add_30 : decode cX1_add 30 = .ok (.getfield 18, 3) := by decide +kernel
theorem dX1_add_33 : decode cX1_add 33 = .ok (.aload_n 0, 1) := by decide +kernel
theorem dX1_add_34 : decode cX1_add 34 = .ok (.getfield 21, 3) := by decide +kernel
theorem dX1_add_37 : decode cX1_add 37 = .ok (.iload_n 3, 1) := by decide +kernel
theorem dX1_add_38 : decode cX1_add 38 = .ok (.iastore, 1) := by decide +kernel
theorem dX1_add_39 : decode cX1_add 39 = .ok (.aload_n 0, 1) := by decide +kernel
theorem dX1_add_40 : decode cX1_add 40 = .ok (.dup, 1) := by decide +kernel
theorem dX1_add_41 : decode cX1_add 41 = .ok (.getfield 21, 3) := by decide +kernel
theorem dX1_add_44 : decode cX1_add 44 = .ok (.iconst 1, 1) := by decide +kernel
theorem dX1_add_45 : decode cX1_add 45 = .ok (.iadd, 1) := by decide +kernel
theorem dX1_add_46 : decode cX1_add 46 = .ok (.putfield 21, 3) := by decide +kernel
theorem dX1_add_49 : decode cX1_add 49 = .ok (.return_, 1) := by decide +kernel
theorem dX1_isFalse_0 : decode cX1_isFalse 0 = .ok (.iconst 0, 1) := by decide +kernel
theorem dX1_isFalse_1 : decode cX1_isFalse 1 = .ok (.istore_n 3, 1) := by decide +kernel
theorem dX1_isFalse_2 : decode cX1_isFalse 2 = .ok (.iload_n 3, 1) := by decide +kernel
theorem dX1_isFalse_3 : decode cX1_isFalse 3 = .ok (.aload_n 0, 1) := by decide +kernel
theorem dX1_isFalse_4 : decode cX1_isFalse 4 = .ok (.getfield 21, 3) := by decide +kernel
theorem dX1_isFalse_7 : decode cX1_isFalse 7 = .ok (.if_icmp .ge 58, 3) := by decide +kernel
theorem dX1_isFalse_10 : decode cX1_isFalse 10 = .ok (.iconst 0, 1) := by decide +kernel
theorem dX1_isFalse_11 : decode cX1_isFalse 11 = .ok (.istore 4, 2) := by decide +kernel
theorem dX1_isFalse_13 : decode cX1_isFalse 13 = .ok (.iload 4, 2) := by decide +kernel
theorem dX1_isFalse_15 : decode cX1_isFalse 15 = .ok (.iload_n 3, 1) := by decide +kernel
theorem dX1_isFalse_16 : decode cX1_isFalse 16 = .ok (.if_icmp .ge 43, 3) := by decide +kernel
theorem dX1_isFalse_19 : decode cX1_isFalse 19 = .ok (.aload_n 0, 1) := by decide +kernel
theorem dX1_isFalse_20 : decode cX1_isFalse 20 = .ok (.getfield 9, 3) := by decide +kernel
theorem dX1_isFalse_23 : decode cX1_isFalse 23 = .ok (.iload_n 3, 1) := by decide +kernel
theorem dX1_isFalse_24 : decode cX1_isFalse 24 = .ok (.iaload, 1) := by decide +kernel
theorem dX1_isFalse_25 : decode cX1_isFalse 25 = .ok (.iload_n 1, 1) := by decide +kernel
theorem dX1_isFalse_26 : decode cX1_isFalse 26 = .ok (.if_icmp .ne 33, 3) := by decide +kernel
theorem dX1_isFalse_29 : decode cX1_isFalse 29 = .ok (.aload_n 0, 1) := by decide +kernel
theorem dX1_isFalse_30 : decode cX1_isFalse 30 = .ok (.getfield 9, 3) := by decide +kernel
theorem dX1_isFalse_33 : decode cX1_isFalse 33 = .ok (.iload 4, 2) := by decide +kernel
theorem dX1_isFalse_35 : decode cX1_isFalse 35 = .ok (.iaload, 1) := by decide +kernel
theorem dX1_isFalse_36 : decode cX1_isFalse 36 = .ok (.iload_n 1, 1) := by decide +kernel
theorem dX1_isFalse_37 : decode cX1_isFalse 37 = .ok (.if_icmp .ne 16, 3) := by decide +kernel
theorem dX1_isFalse_40 : decode cX1_isFalse 40 = .ok (.aload_n 0, 1) := by decide +kernel
theorem dX1_isFalse_41 : decode cX1_isFalse 41 = .ok (.iload_n 3, 1) := by decide +kernel
theorem dX1_isFalse_42 : decode cX1_isFalse 42 = .ok (.iload 4, 2) := by decide +kernel
theorem dX1_isFalse_44 : decode cX1_isFalse 44 = .ok (.aload_n 2, 1) := by decide +kernel
theorem dX1_isFalse_45 : decode cX1_isFalse 45 = .ok (.invokevirtual 25, 3) := by decide +kernel
theorem dX1_isFalse_48 : decode cX1_isFalse 48 = .ok (.ifCond .eq 5, 3) := by decide +kernel
theorem dX1_isFalse_51 : decode cX1_isFalse 51 = .ok (.iconst 1, 1) := by decide +kernel
theorem dX1_isFalse_52 : decode cX1_isFalse 52 = .ok (.ireturn, 1) := by decide +kernel
theorem dX1_isFalse_53 : decode cX1_isFalse 53 = .ok (.iinc 4 1, 3) := by decide +kernel
theorem dX1_isFalse_56 : decode cX1_isFalse 56 = .ok (.goto (-43), 3) := by decide +kernel
theorem dX1_isFalse_59 : decode cX1_isFalse 59 = .ok (.iinc 3 1, 3) := by decide +kernel
theorem dX1_isFalse_62 : decode cX1_isFalse 62 = .ok (.goto (-60), 3) := by decide +kernel
theorem dX1_isFalse_65 : decode cX1_isFalse 65 = .ok (.iconst 0, 1) := by decide +kernel
theorem dX1_isFalse_66 : decode cX1_isFalse 66 = .ok (.ireturn, 1) := by decide +kernel
theorem dX1_clash_0 : decode cX1_clash 0 = .ok (.aload_n 0, 1) := by decide +kernel
theorem dX1_clash_1 : decode cX1_clash 1 = .ok (.getfield 18, 3) := by decide +kernel
theorem dX1_clash_4 : decode cX1_clash 4 = .ok (.iload_n 1, 1) := by decide +kernel
theorem dX1_clash_5 : decode cX1_clash 5 = .ok (.iaload, 1) := by decide +kernel
theorem dX1_clash_6 : decode cX1_clash 6 = .ok (.aload_n 0, 1) := by decide +kernel
theorem dX1_clash_7 : decode cX1_clash 7 = .ok (.getfield 18, 3) := by decide +kernel
theorem dX1_clash_10 : decode cX1_clash 10 = .ok (.iload_n 2, 1) := by decide +kernel
theorem dX1_clash_11 : decode cX1_clash 11 = .ok (.iaload, 1) := by decide +kernel
theorem dX1_clash_12 : decode cX1_clash 12 = .ok (.if_icmp .ne 23, 3) := by decide +kernel
theorem dX1_clash_15 : decode cX1_clash 15 = .ok (.aload_n 3, 1) := by decide +kernel
theorem dX1_clash_16 : decode cX1_clash 16 = .ok (.getfield 29, 3) := by decide +kernel
theorem dX1_clash_19 : decode cX1_clash 19 = .ok (.aload_n 0, 1) := by decide +kernel
theorem dX1_clash_20 : decode cX1_clash 20 = .ok (.getfield 15, 3) := by decide +kernel
theorem dX1_clash_23 : decode cX1_clash 23 = .ok (.iload_n 1, 1) := by decide +kernel
theorem dX1_clash_24 : decode cX1_clash 24 = .ok (.iaload, 1) := by decide +kernel
theorem dX1_clash_25 : decode cX1_clash 25 = .ok (.iaload, 1) := by decide +kernel
theorem dX1_clash_26 : decode cX1_clash 26 = .ok (.aload_n 0, 1) := by decide +kernel
theorem dX1_clash_27 : decode cX1_clash 27 = .ok (.getfield 15, 3) := by decide +kernel
theorem dX1_clash_30 : decode cX1_clash 30 = .ok (.iload_n 2, 1) := by decide +kernel
theorem dX1_clash_31 : decode cX1_clash 31 = .ok (.iaload, 1) := by decide +kernel
theorem dX1_clash_32 : decode cX1_clash 32 = .ok (.if_icmp .eq 7, 3) := by decide +kernel
theorem dX1_clash_35 : decode cX1_clash 35 = .ok (.iconst 1, 1) := by decide +kernel
theorem dX1_clash_36 : decode cX1_clash 36 = .ok (.goto 4, 3) := by decide +kernel
theorem dX1_clash_39 : decode cX1_clash 39 = .ok (.iconst 0, 1) := by decide +kernel
theorem dX1_clash_40 : decode cX1_clash 40 = .ok (.ireturn, 1) := by decide +kernel
theorem dX2_init_0 : decode cX2_init 0 = .ok (.aload_n 0, 1) := by decide +kernel
theorem dX2_init_1 : decode cX2_init 1 = .ok (.invokespecial 3, 3) := by decide +kernel
theorem dX2_init_4 : decode cX2_init 4 = .ok (.aload_n 0, 1) := by decide +kernel
theorem dX2_init_5 : decode cX2_init 5 = .ok (.iconst 5, 1) := by decide +kernel
theorem dX2_init_6 : decode cX2_init 6 = .ok (.newarray .int, 2) := by decide +kernel
theorem dX2_init_8 : decode cX2_init 8 = .ok (.putfield 9, 3) := by decide +kernel
theorem dX2_init_11 : decode cX2_init 11 = .ok (.aload_n 0, 1) := by decide +kernel
theorem dX2_init_12 : decode cX2_init 12 = .ok (.invokevirtual 15, 3) := by decide +kernel
theorem dX2_init_15 : decode cX2_init 15 = .ok (.return_, 1) := by decide +kernel
theorem dX2_clear_0 : decode cX2_clear 0 = .ok (.aload_n 0, 1) := by decide +kernel
theorem dX2_clear_1 : decode cX2_clear 1 = .ok (.getfield 9, 3) := by decide +kernel
theorem dX2_clear_4 : decode cX2_clear 4 = .ok (.bipush (-9), 2) := by decide +kernel
theorem dX2_clear_6 : decode cX2_clear 6 = .ok (.invokestatic 18, 3) := by decide +kernel
theorem dX2_clear_9 : decode cX2_clear 9 = .ok (.aload_n 0, 1) := by decide +kernel
theorem dX2_clear_10 : decode cX2_clear 10 = .ok (.iconst 0, 1) := by decide +kernel
theorem dX2_clear_11 : decode cX2_clear 11 = .ok (.putfield 24, 3) := by decide +kernel
theorem dX2_clear_14 : decode cX2_clear 14 = .ok (.aload_n 0, 1) := by decide +kernel
theorem dX2_clear_15 : decode cX2_clear 15 = .ok (.iconst 0, 1) := by decide +kernel
theorem dX2_clear_16 : decode cX2_clear 16 = .ok (.putfield 28, 3) := by decide +kernel
theorem dX2_clear_19 : decode cX2_clear 19 = .ok (.aload_n 0, 1) := by decide +kernel
theorem dX2_clear_20 : decode cX2_clear 20 = .ok (.iconst 1, 1) := by decide +kernel
theorem dX2_clear_21 : decode cX2_clear 21 = .ok (.putfield 31, 3) := by decide +kernel
theorem dX2_clear_24 : decode cX2_clear 24 = .ok (.return_, 1) := by decide +kernel
theorem dX2_copyFrom_0 : decode cX2_copyFrom 0 = .ok (.aload_n 1, 1) := by decide +kernel
theorem dX2_copyFrom_1 : decode cX2_copyFrom 1 = .ok (.getfield 9, 3) := by decide +kernel
theorem dX2_copyFrom_4 : decode cX2_copyFrom 4 = .ok (.iconst 0, 1) := by decide +kernel
theorem dX2_copyFrom_5 : decode cX2_copyFrom 5 = .ok (.aload_n 0, 1) := by decide +kernel
theorem dX2_copyFrom_6 : decode cX2_copyFrom 6 = .ok (.getfield 9, 3) := by decide +kernel
theorem dX2_copyFrom_9 : decode cX2_copyFrom 9 = .ok (.iconst 0, 1) := by decide +kernel
theorem dX2_copyFrom_10 : decode cX2_copyFrom 10 = .ok (.iconst 5, 1) := by decide +kernel
theorem dX2_copyFrom_11 : decode cX2_copyFrom 11 = .ok (.invokestatic 34, 3) := by decide +kernel
theorem dX2_copyFrom_14 : decode cX2_copyFrom 14 = .ok (.aload_n 0, 1) := by decide +kernel
theorem dX2_copyFrom_15 : decode cX2_copyFrom 15 = .ok (.aload_n 1, 1) := by decide +kernel
theorem dX2_copyFrom_16 : decode cX2_copyFrom 16 = .ok (.getfield 24, 3) := by decide +kernel
theorem dX2_copyFrom_19 : decode cX2_copyFrom 19 = .ok (.putfield 24, 3) := by decide +kernel
theorem dX2_copyFrom_22 : decode cX2_copyFrom 22 = .ok (.aload_n 0, 1) := by decide +kernel
theorem dX2_copyFrom_23 : decode cX2_copyFrom 23 = .ok (.aload_n 1, 1) := by decide +kernel
theorem dX2_copyFrom_24 : decode cX2_copyFrom 24 = .ok (.getfield 28, 3) := by decide +kernel
theorem dX2_copyFrom_27 : decode cX2_copyFrom 27 = .ok (.putfield 28, 3) := by decide +kernel
theorem dX2_copyFrom_30 : decode cX2_copyFrom 30 = .ok (.aload_n 0, 1) := by decide +kernel
theorem dX2_copyFrom_31 : decode cX2_copyFrom 31 = .ok (.aload_n 1, 1) := by decide +kernel
theorem dX2_copyFrom_32 : decode cX2_copyFrom 32 = .ok (.getfield 31, 3) := by decide +kernel
theorem dX2_copyFrom_35 : decode cX2_copyFrom 35 = .ok (.putfield 31, 3) := by decide +kernel
theorem dX2_copyFrom_38 : decode cX2_copyFrom 38 = .ok (.return_, 1) := by decide +kernel
theorem dX2_has_0 : decode cX2_has 0 = .ok (.iload_n 1, 1) := by decide +kernel
theorem dX2_has_1 : decode cX2_has 1 = .ok (.ifCond .lt 15, 3) := by decide +kernel
theorem dX2_has_4 : decode cX2_has 4 = .ok (.iload_n 1, 1) := by decide +kernel
theorem dX2_has_5 : decode cX2_has 5 = .ok (.aload_n 0, 1) := by decide +kernel
theorem dX2_has_6 : decode cX2_has 6 = .ok (.getfield 24, 3) := by decide +kernel
theorem dX2_has_9 : decode cX2_has 9 = .ok (.if_icmp .ge 7, 3) := by decide +kernel
theorem dX2_has_12 : decode cX2_has 12 = .ok (.iconst 1, 1) := by decide +kernel
theorem dX2_has_13 : decode cX2_has 13 = .ok (.goto 4, 3) := by decide +kernel
theorem dX2_has_16 : decode cX2_has 16 = .ok (.iconst 0, 1) := by decide +kernel
theorem dX2_has_17 : decode cX2_has 17 = .ok (.ireturn, 1) := by decide +kernel
theorem dX2_everyone_0 : decode cX2_everyone 0 = .ok (.iconst 1, 1) := by decide +kernel
theorem dX2_everyone_1 : decode cX2_everyone 1 = .ok (.aload_n 0, 1) := by decide +kernel
theorem dX2_everyone_2 : decode cX2_everyone 2 = .ok (.getfield 24, 3) := by decide +kernel
theorem dX2_everyone_5 : decode cX2_everyone 5 = .ok (.ishl, 1) := by decide +kernel
theorem dX2_everyone_6 : decode cX2_everyone 6 = .ok (.iconst 1, 1) := by decide +kernel
theorem dX2_everyone_7 : decode cX2_everyone 7 = .ok (.isub, 1) := by decide +kernel
theorem dX2_everyone_8 : decode cX2_everyone 8 = .ok (.ireturn, 1) := by decide +kernel
theorem dX2_hasAll_0 : decode cX2_hasAll 0 = .ok (.iload_n 1, 1) := by decide +kernel
theorem dX2_hasAll_1 : decode cX2_hasAll 1 = .ok (.aload_n 0, 1) := by decide +kernel
theorem dX2_hasAll_2 : decode cX2_hasAll 2 = .ok (.invokevirtual 40, 3) := by decide +kernel
theorem dX2_hasAll_5 : decode cX2_hasAll 5 = .ok (.iconst (-1), 1) := by decide +kernel
theorem dX2_hasAll_6 : decode cX2_hasAll 6 = .ok (.ixor, 1) := by decide +kernel
theorem dX2_hasAll_7 : decode cX2_hasAll 7 = .ok (.iand, 1) := by decide +kernel
theorem dX2_hasAll_8 : decode cX2_hasAll 8 = .ok (.ifCond .ne 7, 3) := by decide +kernel
theorem dX2_hasAll_11 : decode cX2_hasAll 11 = .ok (.iconst 1, 1) := by decide +kernel
theorem dX2_hasAll_12 : decode cX2_hasAll 12 = .ok (.goto 4, 3) := by decide +kernel
theorem dX2_hasAll_15 : decode cX2_hasAll 15 = .ok (.iconst 0, 1) := by decide +kernel
theorem dX2_hasAll_16 : decode cX2_hasAll 16 = .ok (.ireturn, 1) := by decide +kernel
theorem dX2_twinless_0 : decode cX2_twinless 0 = .ok (.iconst 0, 1) := by decide +kernel
theorem dX2_twinless_1 : decode cX2_twinless 1 = .ok (.istore_n 1, 1) := by decide +kernel
theorem dX2_twinless_2 : decode cX2_twinless 2 = .ok (.iconst 0, 1) := by decide +kernel
theorem dX2_twinless_3 : decode cX2_twinless 3 = .ok (.istore_n 2, 1) := by decide +kernel
theorem dX2_twinless_4 : decode cX2_twinless 4 = .ok (.iload_n 2, 1) := by decide +kernel
theorem dX2_twinless_5 : decode cX2_twinless 5 = .ok (.aload_n 0, 1) := by decide +kernel
theorem dX2_twinless_6 : decode cX2_twinless 6 = .ok (.getfield 24, 3) := by decide +kernel
theorem dX2_twinless_9 : decode cX2_twinless 9 = .ok (.if_icmp .ge 23, 3) := by decide +kernel
theorem dX2_twinless_12 : decode cX2_twinless 12 = .ok (.aload_n 0, 1) := by decide +kernel
theorem dX2_twinless_13 : decode cX2_twinless 13 = .ok (.getfield 9, 3) := by decide +kernel
theorem dX2_twinless_16 : decode cX2_twinless 16 = .ok (.iload_n 2, 1) := by decide +kernel
theorem dX2_twinless_17 : decode cX2_twinless 17 = .ok (.iaload, 1) := by decide +kernel
theorem dX2_twinless_18 : decode cX2_twinless 18 = .ok (.bipush (-9), 2) := by decide +kernel
theorem dX2_twinless_20 : decode cX2_twinless 20 = .ok (.if_icmp .ne 6, 3) := by decide +kernel
theorem dX2_twinless_23 : decode cX2_twinless 23 = .ok (.iinc 1 1, 3) := by decide +kernel
theorem dX2_twinless_26 : decode cX2_twinless 26 = .ok (.iinc 2 1, 3) := by decide +kernel
theorem dX2_twinless_29 : decode cX2_twinless 29 = .ok (.goto (-25), 3) := by decide +kernel
theorem dX2_twinless_32 : decode cX2_twinless 32 = .ok (.iload_n 1, 1) := by decide +kernel
theorem dX2_twinless_33 : decode cX2_twinless 33 = .ok (.ireturn, 1) := by decide +kernel
theorem dX3_init_0 : decode cX3_init 0 = .ok (.aload_n 0, 1) := by decide +kernel
theorem dX3_init_1 : decode cX3_init 1 = .ok (.invokespecial 3, 3) := by decide +kernel
theorem dX3_init_4 : decode cX3_init 4 = .ok (.aload_n 0, 1) := by decide +kernel
theorem dX3_init_5 : decode cX3_init 5 = .ok (.new 9, 3) := by decide +kernel
theorem dX3_init_8 : decode cX3_init 8 = .ok (.dup, 1) := by decide +kernel
theorem dX3_init_9 : decode cX3_init 9 = .ok (.invokespecial 11, 3) := by decide +kernel
theorem dX3_init_12 : decode cX3_init 12 = .ok (.putfield 12, 3) := by decide +kernel
theorem dX3_init_15 : decode cX3_init 15 = .ok (.aload_n 0, 1) := by decide +kernel
theorem dX3_init_16 : decode cX3_init 16 = .ok (.new 18, 3) := by decide +kernel
theorem dX3_init_19 : decode cX3_init 19 = .ok (.dup, 1) := by decide +kernel
theorem dX3_init_20 : decode cX3_init 20 = .ok (.aload_n 0, 1) := by decide +kernel
theorem dX3_init_21 : decode cX3_init 21 = .ok (.getfield 12, 3) := by decide +kernel
theorem dX3_init_24 : decode cX3_init 24 = .ok (.invokespecial 20, 3) := by decide +kernel
theorem dX3_init_27 : decode cX3_init 27 = .ok (.putfield 23, 3) := by decide +kernel
theorem dX3_init_30 : decode cX3_init 30 = .ok (.aload_n 0, 1) := by decide +kernel
theorem dX3_init_31 : decode cX3_init 31 = .ok (.aload_n 1, 1) := by decide +kernel
theorem dX3_init_32 : decode cX3_init 32 = .ok (.putfield 27, 3) := by decide +kernel
theorem dX3_init_35 : decode cX3_init 35 = .ok (.return_, 1) := by decide +kernel
theorem dX3_read_0 : decode cX3_read 0 = .ok (.aload_n 0, 1) := by decide +kernel
theorem dX3_read_1 : decode cX3_read 1 = .ok (.iconst 0, 1) := by decide +kernel
theorem dX3_read_2 : decode cX3_read 2 = .ok (.putfield 31, 3) := by decide +kernel
theorem dX3_read_5 : decode cX3_read 5 = .ok (.aload_n 0, 1) := by decide +kernel
theorem dX3_read_6 : decode cX3_read 6 = .ok (.bipush (-9), 2) := by decide +kernel
theorem dX3_read_8 : decode cX3_read 8 = .ok (.putfield 35, 3) := by decide +kernel
theorem dX3_read_11 : decode cX3_read 11 = .ok (.aload_n 0, 1) := by decide +kernel
theorem dX3_read_12 : decode cX3_read 12 = .ok (.getfield 12, 3) := by decide +kernel
theorem dX3_read_15 : decode cX3_read 15 = .ok (.invokevirtual 38, 3) := by decide +kernel
theorem dX3_read_18 : decode cX3_read 18 = .ok (.aload_n 0, 1) := by decide +kernel
theorem dX3_read_19 : decode cX3_read 19 = .ok (.invokevirtual 41, 3) := by decide +kernel
theorem dX3_read_22 : decode cX3_read 22 = .ok (.iconst 0, 1) := by decide +kernel
theorem dX3_read_23 : decode cX3_read 23 = .ok (.istore_n 1, 1) := by decide +kernel
theorem dX3_read_24 : decode cX3_read 24 = .ok (.iload_n 1, 1) := by decide +kernel
theorem dX3_read_25 : decode cX3_read 25 = .ok (.bipush 48, 2) := by decide +kernel
theorem dX3_read_27 : decode cX3_read 27 = .ok (.if_icmp .ge 36, 3) := by decide +kernel
theorem dX3_read_30 : decode cX3_read 30 = .ok (.aload_n 0, 1) := by decide +kernel
theorem dX3_read_31 : decode cX3_read 31 = .ok (.getfield 35, 3) := by decide +kernel
theorem dX3_read_34 : decode cX3_read 34 = .ok (.bipush (-9), 2) := by decide +kernel
theorem dX3_read_36 : decode cX3_read 36 = .ok (.if_icmp .ne 27, 3) := by decide +kernel
theorem dX3_read_39 : decode cX3_read 39 = .ok (.aload_n 0, 1) := by decide +kernel
theorem dX3_read_40 : decode cX3_read 40 = .ok (.getfield 31, 3) := by decide +kernel
theorem dX3_read_43 : decode cX3_read 43 = .ok (.aload_n 0, 1) := by decide +kernel
theorem dX3_read_44 : decode cX3_read 44 = .ok (.getfield 27, 3) := by decide +kernel
theorem dX3_read_47 : decode cX3_read 47 = .ok (.getfield 44, 3) := by decide +kernel
theorem dX3_read_50 : decode cX3_read 50 = .ok (.if_icmp .ge 13, 3) := by decide +kernel
theorem dX3_read_53 : decode cX3_read 53 = .ok (.aload_n 0, 1) := by decide +kernel
theorem dX3_read_54 : decode cX3_read 54 = .ok (.invokevirtual 49, 3) := by decide +kernel
theorem dX3_read_57 : decode cX3_read 57 = .ok (.iinc 1 1, 3) := by decide +kernel
theorem dX3_read_60 : decode cX3_read 60 = .ok (.goto (-36), 3) := by decide +kernel
theorem dX3_read_63 : decode cX3_read 63 = .ok (.aload_n 0, 1) := by decide +kernel
theorem dX3_read_64 : decode cX3_read 64 = .ok (.getfield 35, 3) := by decide +kernel
theorem dX3_read_67 : decode cX3_read 67 = .ok (.ireturn, 1) := by decide +kernel
theorem dX3_readHead_0 : decode cX3_readHead 0 = .ok (.aload_n 0, 1) := by decide +kernel
theorem dX3_readHead_1 : decode cX3_readHead 1 = .ok (.bipush 70, 2) := by decide +kernel
theorem dX3_readHead_3 : decode cX3_readHead 3 = .ok (.bipush 70, 2) := by decide +kernel
theorem dX3_readHead_5 : decode cX3_readHead 5 = .ok (.invokevirtual 52, 3) := by decide +kernel
theorem dX3_readHead_8 : decode cX3_readHead 8 = .ok (.pop, 1) := by decide +kernel
theorem dX3_readHead_9 : decode cX3_readHead 9 = .ok (.aload_n 0, 1) := by decide +kernel
theorem dX3_readHead_10 : decode cX3_readHead 10 = .ok (.getfield 12, 3) := by decide +kernel
theorem dX3_readHead_13 : decode cX3_readHead 13 = .ok (.aload_n 0, 1) := by decide +kernel
theorem dX3_readHead_14 : decode cX3_readHead 14 = .ok (.bipush 48, 2) := by decide +kernel
theorem dX3_readHead_16 : decode cX3_readHead 16 = .ok (.bipush 53, 2) := by decide +kernel
theorem dX3_readHead_18 : decode cX3_readHead 18 = .ok (.invokevirtual 52, 3) := by decide +kernel
theorem dX3_readHead_21 : decode cX3_readHead 21 = .ok (.putfield 56, 3) := by decide +kernel
theorem dX3_readHead_24 : decode cX3_readHead 24 = .ok (.aload_n 0, 1) := by decide +kernel
theorem dX3_readHead_25 : decode cX3_readHead 25 = .ok (.bipush 48, 2) := by decide +kernel
theorem dX3_readHead_27 : decode cX3_readHead 27 = .ok (.bipush 57, 2) := by decide +kernel
theorem dX3_readHead_29 : decode cX3_readHead 29 = .ok (.invokevirtual 52, 3) := by decide +kernel
theorem dX3_readHead_32 : decode cX3_readHead 32 = .ok (.istore_n 1, 1) := by decide +kernel
theorem dX3_readHead_33 : decode cX3_readHead 33 = .ok (.aload_n 0, 1) := by decide +kernel
theorem dX3_readHead_34 : decode cX3_readHead 34 = .ok (.iload_n 1, 1) := by decide +kernel
theorem dX3_readHead_35 : decode cX3_readHead 35 = .ok (.ifCond .ne 8, 3) := by decide +kernel
theorem dX3_readHead_38 : decode cX3_readHead 38 = .ok (.bipush 49, 2) := by decide +kernel
theorem dX3_readHead_40 : decode cX3_readHead 40 = .ok (.goto 5, 3) := by decide +kernel
theorem dX3_readHead_43 : decode cX3_readHead 43 = .ok (.bipush 48, 2) := by decide +kernel
theorem dX3_readHead_45 : decode cX3_readHead 45 = .ok (.bipush 57, 2) := by decide +kernel
theorem dX3_readHead_47 : decode cX3_readHead 47 = .ok (.invokevirtual 52, 3) := by decide +kernel
theorem dX3_readHead_50 : decode cX3_readHead 50 = .ok (.istore_n 2, 1) := by decide +kernel
theorem dX3_readHead_51 : decode cX3_readHead 51 = .ok (.aload_n 0, 1) := by decide +kernel
theorem dX3_readHead_52 : decode cX3_readHead 52 = .ok (.getfield 12, 3) := by decide +kernel
theorem dX3_readHead_55 : decode cX3_readHead 55 = .ok (.bipush 10, 2) := by decide +kernel
theorem dX3_readHead_57 : decode cX3_readHead 57 = .ok (.iload_n 1, 1) := by decide +kernel
theorem dX3_readHead_58 : decode cX3_readHead 58 = .ok (.imul, 1) := by decide +kernel
theorem dX3_readHead_59 : decode cX3_readHead 59 = .ok (.iload_n 1, 1) := by decide +kernel
theorem dX3_readHead_60 : decode cX3_readHead 60 = .ok (.ifCond .ne 9, 3) := by decide +kernel
theorem dX3_readHead_63 : decode cX3_readHead 63 = .ok (.iload_n 2, 1) := by decide +kernel
theorem dX3_readHead_64 : decode cX3_readHead 64 = .ok (.iconst 1, 1) := by decide +kernel
theorem dX3_readHead_65 : decode cX3_readHead 65 = .ok (.iadd, 1) := by decide +kernel
theorem dX3_readHead_66 : decode cX3_readHead 66 = .ok (.goto 4, 3) := by decide +kernel
theorem dX3_readHead_69 : decode cX3_readHead 69 = .ok (.iload_n 2, 1) := by decide +kernel
theorem dX3_readHead_70 : decode cX3_readHead 70 = .ok (.iadd, 1) := by decide +kernel
theorem dX3_readHead_71 : decode cX3_readHead 71 = .ok (.putfield 59, 3) := by decide +kernel
theorem dX3_readHead_74 : decode cX3_readHead 74 = .ok (.return_, 1) := by decide +kernel
theorem dX3_readPart_0 : decode cX3_readPart 0 = .ok (.aload_n 0, 1) := by decide +kernel
theorem dX3_readPart_1 : decode cX3_readPart 1 = .ok (.getfield 27, 3) := by decide +kernel
theorem dX3_readPart_4 : decode cX3_readPart 4 = .ok (.getfield 62, 3) := by decide +kernel
theorem dX3_readPart_7 : decode cX3_readPart 7 = .ok (.aload_n 0, 1) := by decide +kernel
theorem dX3_readPart_8 : decode cX3_readPart 8 = .ok (.getfield 31, 3) := by decide +kernel
theorem dX3_readPart_11 : decode cX3_readPart 11 = .ok (.baload, 1) := by decide +kernel
theorem dX3_readPart_12 : decode cX3_readPart 12 = .ok (.istore_n 1, 1) := by decide +kernel
theorem dX3_readPart_13 : decode cX3_readPart 13 = .ok (.iload_n 1, 1) := by decide +kernel
theorem dX3_readPart_14 : decode cX3_readPart 14 = .ok (.bipush 71, 2) := by decide +kernel
theorem dX3_readPart_16 : decode cX3_readPart 16 = .ok (.if_icmp .ne 31, 3) := by decide +kernel
theorem dX3_readPart_19 : decode cX3_readPart 19 = .ok (.aload_n 0, 1) := by decide +kernel
theorem dX3_readPart_20 : decode cX3_readPart 20 = .ok (.getfield 12, 3) := by decide +kernel
theorem dX3_readPart_23 : decode cX3_readPart 23 = .ok (.getfield 66, 3) := by decide +kernel
theorem dX3_readPart_26 : decode cX3_readPart 26 = .ok (.iconst 5, 1) := by decide +kernel
theorem dX3_readPart_27 : decode cX3_readPart 27 = .ok (.if_icmp .ge 20, 3) := by decide +kernel
theorem dX3_readPart_30 : decode cX3_readPart 30 = .ok (.aload_n 0, 1) := by decide +kernel
theorem dX3_readPart_31 : decode cX3_readPart 31 = .ok (.dup, 1) := by decide +kernel
theorem dX3_readPart_32 : decode cX3_readPart 32 = .ok (.getfield 31, 3) := by decide +kernel
theorem dX3_readPart_35 : decode cX3_readPart 35 = .ok (.iconst 1, 1) := by decide +kernel
theorem dX3_readPart_36 : decode cX3_readPart 36 = .ok (.iadd, 1) := by decide +kernel
theorem dX3_readPart_37 : decode cX3_readPart 37 = .ok (.putfield 31, 3) := by decide +kernel
theorem dX3_readPart_40 : decode cX3_readPart 40 = .ok (.aload_n 0, 1) := by decide +kernel
theorem dX3_readPart_41 : decode cX3_readPart 41 = .ok (.invokevirtual 69, 3) := by decide +kernel
theorem dX3_readPart_44 : decode cX3_readPart 44 = .ok (.goto 45, 3) := by decide +kernel
theorem dX3_readPart_47 : decode cX3_readPart 47 = .ok (.iload_n 1, 1) := by decide +kernel
theorem dX3_readPart_48 : decode cX3_readPart 48 = .ok (.bipush 84, 2) := by decide +kernel
theorem dX3_readPart_50 : decode cX3_readPart 50 = .ok (.if_icmp .ne 31, 3) := by decide +kernel
theorem dX3_readPart_53 : decode cX3_readPart 53 = .ok (.aload_n 0, 1) := by decide +kernel
theorem dX3_readPart_54 : decode cX3_readPart 54 = .ok (.getfield 12, 3) := by decide +kernel
theorem dX3_readPart_57 : decode cX3_readPart 57 = .ok (.invokevirtual 72, 3) := by decide +kernel
theorem dX3_readPart_60 : decode cX3_readPart 60 = .ok (.iconst 2, 1) := by decide +kernel
theorem dX3_readPart_61 : decode cX3_readPart 61 = .ok (.if_icmp .lt 20, 3) := by decide +kernel
theorem dX3_readPart_64 : decode cX3_readPart 64 = .ok (.aload_n 0, 1) := by decide +kernel
theorem dX3_readPart_65 : decode cX3_readPart 65 = .ok (.dup, 1) := by decide +kernel
theorem dX3_readPart_66 : decode cX3_readPart 66 = .ok (.getfield 31, 3) := by decide +kernel
theorem dX3_readPart_69 : decode cX3_readPart 69 = .ok (.iconst 1, 1) := by decide +kernel
theorem dX3_readPart_70 : decode cX3_readPart 70 = .ok (.iadd, 1) := by decide +kernel
theorem dX3_readPart_71 : decode cX3_readPart 71 = .ok (.putfield 31, 3) := by decide +kernel
theorem dX3_readPart_74 : decode cX3_readPart 74 = .ok (.aload_n 0, 1) := by decide +kernel
theorem dX3_readPart_75 : decode cX3_readPart 75 = .ok (.invokevirtual 76, 3) := by decide +kernel
theorem dX3_readPart_78 : decode cX3_readPart 78 = .ok (.goto 11, 3) := by decide +kernel
theorem dX3_readPart_81 : decode cX3_readPart 81 = .ok (.aload_n 0, 1) := by decide +kernel
theorem dX3_readPart_82 : decode cX3_readPart 82 = .ok (.aload_n 0, 1) := by decide +kernel
theorem dX3_readPart_83 : decode cX3_readPart 83 = .ok (.getfield 31, 3) := by decide +kernel
theorem dX3_readPart_86 : decode cX3_readPart 86 = .ok (.putfield 35, 3) := by decide +kernel
theorem dX3_readPart_89 : decode cX3_readPart 89 = .ok (.return_, 1) := by decide +kernel
theorem dX3_readGuard_0 : decode cX3_readGuard 0 = .ok (.aload_n 0, 1) := by decide +kernel
theorem dX3_readGuard_1 : decode cX3_readGuard 1 = .ok (.getfield 12, 3) := by decide +kernel
theorem dX3_readGuard_4 : decode cX3_readGuard 4 = .ok (.getfield 66, 3) := by decide +kernel
theorem dX3_readGuard_7 : decode cX3_readGuard 7 = .ok (.istore_n 1, 1) := by decide +kernel
theorem dX3_readGuard_8 : decode cX3_readGuard 8 = .ok (.aload_n 0, 1) := by decide +kernel
theorem dX3_readGuard_9 : decode cX3_readGuard 9 = .ok (.bipush 48, 2) := by decide +kernel
theorem dX3_readGuard_11 : decode cX3_readGuard 11 = .ok (.bipush 57, 2) := by decide +kernel
theorem dX3_readGuard_13 : decode cX3_readGuard 13 = .ok (.invokevirtual 52, 3) := by decide +kernel
theorem dX3_readGuard_16 : decode cX3_readGuard 16 = .ok (.istore_n 2, 1) := by decide +kernel
theorem dX3_readGuard_17 : decode cX3_readGuard 17 = .ok (.aload_n 0, 1) := by decide +kernel
theorem dX3_readGuard_18 : decode cX3_readGuard 18 = .ok (.getfield 23, 3) := by decide +kernel
theorem dX3_readGuard_21 : decode cX3_readGuard 21 = .ok (.getfield 79, 3) := by decide +kernel
theorem dX3_readGuard_24 : decode cX3_readGuard 24 = .ok (.iload_n 1, 1) := by decide +kernel
theorem dX3_readGuard_25 : decode cX3_readGuard 25 = .ok (.bipush 10, 2) := by decide +kernel
theorem dX3_readGuard_27 : decode cX3_readGuard 27 = .ok (.iload_n 2, 1) := by decide +kernel
theorem dX3_readGuard_28 : decode cX3_readGuard 28 = .ok (.imul, 1) := by decide +kernel
theorem dX3_readGuard_29 : decode cX3_readGuard 29 = .ok (.aload_n 0, 1) := by decide +kernel
theorem dX3_readGuard_30 : decode cX3_readGuard 30 = .ok (.bipush 48, 2) := by decide +kernel
theorem dX3_readGuard_32 : decode cX3_readGuard 32 = .ok (.bipush 57, 2) := by decide +kernel
theorem dX3_readGuard_34 : decode cX3_readGuard 34 = .ok (.invokevirtual 52, 3) := by decide +kernel
theorem dX3_readGuard_37 : decode cX3_readGuard 37 = .ok (.iadd, 1) := by decide +kernel
theorem dX3_readGuard_38 : decode cX3_readGuard 38 = .ok (.iastore, 1) := by decide +kernel
theorem dX3_readGuard_39 : decode cX3_readGuard 39 = .ok (.aload_n 0, 1) := by decide +kernel
theorem dX3_readGuard_40 : decode cX3_readGuard 40 = .ok (.getfield 23, 3) := by decide +kernel
theorem dX3_readGuard_43 : decode cX3_readGuard 43 = .ok (.getfield 83, 3) := by decide +kernel
theorem dX3_readGuard_46 : decode cX3_readGuard 46 = .ok (.iload_n 1, 1) := by decide +kernel
theorem dX3_readGuard_47 : decode cX3_readGuard 47 = .ok (.aload_n 0, 1) := by decide +kernel
theorem dX3_readGuard_48 : decode cX3_readGuard 48 = .ok (.bipush 48, 2) := by decide +kernel
theorem dX3_readGuard_50 : decode cX3_readGuard 50 = .ok (.bipush 57, 2) := by decide +kernel
theorem dX3_readGuard_52 : decode cX3_readGuard 52 = .ok (.invokevirtual 52, 3) := by decide +kernel
theorem dX3_readGuard_55 : decode cX3_readGuard 55 = .ok (.iastore, 1) := by decide +kernel
theorem dX3_readGuard_56 : decode cX3_readGuard 56 = .ok (.aload_n 0, 1) := by decide +kernel
theorem dX3_readGuard_57 : decode cX3_readGuard 57 = .ok (.getfield 23, 3) := by decide +kernel
theorem dX3_readGuard_60 : decode cX3_readGuard 60 = .ok (.getfield 86, 3) := by decide +kernel
theorem dX3_readGuard_63 : decode cX3_readGuard 63 = .ok (.iload_n 1, 1) := by decide +kernel
theorem dX3_readGuard_64 : decode cX3_readGuard 64 = .ok (.aload_n 0, 1) := by decide +kernel
theorem dX3_readGuard_65 : decode cX3_readGuard 65 = .ok (.bipush 48, 2) := by decide +kernel
theorem dX3_readGuard_67 : decode cX3_readGuard 67 = .ok (.bipush 57, 2) := by decide +kernel
theorem dX3_readGuard_69 : decode cX3_readGuard 69 = .ok (.invokevirtual 52, 3) := by decide +kernel
theorem dX3_readGuard_72 : decode cX3_readGuard 72 = .ok (.iastore, 1) := by decide +kernel
theorem dX3_readGuard_73 : decode cX3_readGuard 73 = .ok (.aload_n 0, 1) := by decide +kernel
theorem dX3_readGuard_74 : decode cX3_readGuard 74 = .ok (.getfield 12, 3) := by decide +kernel
theorem dX3_readGuard_77 : decode cX3_readGuard 77 = .ok (.iload_n 1, 1) := by decide +kernel
theorem dX3_readGuard_78 : decode cX3_readGuard 78 = .ok (.iconst 1, 1) := by decide +kernel
theorem dX3_readGuard_79 : decode cX3_readGuard 79 = .ok (.iadd, 1) := by decide +kernel
theorem dX3_readGuard_80 : decode cX3_readGuard 80 = .ok (.putfield 66, 3) := by decide +kernel
theorem dX3_readGuard_83 : decode cX3_readGuard 83 = .ok (.return_, 1) := by decide +kernel
theorem dX3_readTwins_0 : decode cX3_readTwins 0 = .ok (.aload_n 0, 1) := by decide +kernel
theorem dX3_readTwins_1 : decode cX3_readTwins 1 = .ok (.bipush (-9), 2) := by decide +kernel
theorem dX3_readTwins_3 : decode cX3_readTwins 3 = .ok (.invokevirtual 89, 3) := by decide +kernel
theorem dX3_readTwins_6 : decode cX3_readTwins 6 = .ok (.istore_n 1, 1) := by decide +kernel
theorem dX3_readTwins_7 : decode cX3_readTwins 7 = .ok (.aload_n 0, 1) := by decide +kernel
theorem dX3_readTwins_8 : decode cX3_readTwins 8 = .ok (.iload_n 1, 1) := by decide +kernel
theorem dX3_readTwins_9 : decode cX3_readTwins 9 = .ok (.invokevirtual 89, 3) := by decide +kernel
theorem dX3_readTwins_12 : decode cX3_readTwins 12 = .ok (.istore_n 2, 1) := by decide +kernel
theorem dX3_readTwins_13 : decode cX3_readTwins 13 = .ok (.aload_n 0, 1) := by decide +kernel
theorem dX3_readTwins_14 : decode cX3_readTwins 14 = .ok (.getfield 35, 3) := by decide +kernel
theorem dX3_readTwins_17 : decode cX3_readTwins 17 = .ok (.bipush (-9), 2) := by decide +kernel
theorem dX3_readTwins_19 : decode cX3_readTwins 19 = .ok (.if_icmp .ne 23, 3) := by decide +kernel
theorem dX3_readTwins_22 : decode cX3_readTwins 22 = .ok (.aload_n 0, 1) := by decide +kernel
theorem dX3_readTwins_23 : decode cX3_readTwins 23 = .ok (.getfield 12, 3) := by decide +kernel
theorem dX3_readTwins_26 : decode cX3_readTwins 26 = .ok (.getfield 93, 3) := by decide +kernel
theorem dX3_readTwins_29 : decode cX3_readTwins 29 = .ok (.iload_n 1, 1) := by decide +kernel
theorem dX3_readTwins_30 : decode cX3_readTwins 30 = .ok (.iload_n 2, 1) := by decide +kernel
theorem dX3_readTwins_31 : decode cX3_readTwins 31 = .ok (.iastore, 1) := by decide +kernel
theorem dX3_readTwins_32 : decode cX3_readTwins 32 = .ok (.aload_n 0, 1) := by decide +kernel
theorem dX3_readTwins_33 : decode cX3_readTwins 33 = .ok (.getfield 12, 3) := by decide +kernel
theorem dX3_readTwins_36 : decode cX3_readTwins 36 = .ok (.getfield 93, 3) := by decide +kernel
theorem dX3_readTwins_39 : decode cX3_readTwins 39 = .ok (.iload_n 2, 1) := by decide +kernel
theorem dX3_readTwins_40 : decode cX3_readTwins 40 = .ok (.iload_n 1, 1) := by decide +kernel
theorem dX3_readTwins_41 : decode cX3_readTwins 41 = .ok (.iastore, 1) := by decide +kernel
theorem dX3_readTwins_42 : decode cX3_readTwins 42 = .ok (.return_, 1) := by decide +kernel
theorem dX3_nextTwin_0 : decode cX3_nextTwin 0 = .ok (.aload_n 0, 1) := by decide +kernel
theorem dX3_nextTwin_1 : decode cX3_nextTwin 1 = .ok (.getfield 31, 3) := by decide +kernel
theorem dX3_nextTwin_4 : decode cX3_nextTwin 4 = .ok (.istore_n 2, 1) := by decide +kernel
theorem dX3_nextTwin_5 : decode cX3_nextTwin 5 = .ok (.aload_n 0, 1) := by decide +kernel
theorem dX3_nextTwin_6 : decode cX3_nextTwin 6 = .ok (.bipush 48, 2) := by decide +kernel
theorem dX3_nextTwin_8 : decode cX3_nextTwin 8 = .ok (.bipush 57, 2) := by decide +kernel
theorem dX3_nextTwin_10 : decode cX3_nextTwin 10 = .ok (.invokevirtual 52, 3) := by decide +kernel
theorem dX3_nextTwin_13 : decode cX3_nextTwin 13 = .ok (.istore_n 3, 1) := by decide +kernel
theorem dX3_nextTwin_14 : decode cX3_nextTwin 14 = .ok (.aload_n 0, 1) := by decide +kernel
theorem dX3_nextTwin_15 : decode cX3_nextTwin 15 = .ok (.getfield 35, 3) := by decide +kernel
theorem dX3_nextTwin_18 : decode cX3_nextTwin 18 = .ok (.bipush (-9), 2) := by decide +kernel
theorem dX3_nextTwin_20 : decode cX3_nextTwin 20 = .ok (.if_icmp .ne 38, 3) := by decide +kernel
theorem dX3_nextTwin_23 : decode cX3_nextTwin 23 = .ok (.aload_n 0, 1) := by decide +kernel
theorem dX3_nextTwin_24 : decode cX3_nextTwin 24 = .ok (.getfield 12, 3) := by decide +kernel
theorem dX3_nextTwin_27 : decode cX3_nextTwin 27 = .ok (.iload_n 3, 1) := by decide +kernel
theorem dX3_nextTwin_28 : decode cX3_nextTwin 28 = .ok (.invokevirtual 96, 3) := by decide +kernel
theorem dX3_nextTwin_31 : decode cX3_nextTwin 31 = .ok (.ifCond .eq 22, 3) := by decide +kernel
theorem dX3_nextTwin_34 : decode cX3_nextTwin 34 = .ok (.aload_n 0, 1) := by decide +kernel
theorem dX3_nextTwin_35 : decode cX3_nextTwin 35 = .ok (.getfield 12, 3) := by decide +kernel
theorem dX3_nextTwin_38 : decode cX3_nextTwin 38 = .ok (.getfield 93, 3) := by decide +kernel
theorem dX3_nextTwin_41 : decode cX3_nextTwin 41 = .ok (.iload_n 3, 1) := by decide +kernel
theorem dX3_nextTwin_42 : decode cX3_nextTwin 42 = .ok (.iaload, 1) := by decide +kernel
theorem dX3_nextTwin_43 : decode cX3_nextTwin 43 = .ok (.bipush (-9), 2) := by decide +kernel
theorem dX3_nextTwin_45 : decode cX3_nextTwin 45 = .ok (.if_icmp .ne 8, 3) := by decide +kernel
theorem dX3_nextTwin_48 : decode cX3_nextTwin 48 = .ok (.iload_n 3, 1) := by decide +kernel
theorem dX3_nextTwin_49 : decode cX3_nextTwin 49 = .ok (.iload_n 1, 1) := by decide +kernel
theorem dX3_nextTwin_50 : decode cX3_nextTwin 50 = .ok (.if_icmp .ne 8, 3) := by decide +kernel
theorem dX3_nextTwin_53 : decode cX3_nextTwin 53 = .ok (.aload_n 0, 1) := by decide +kernel
theorem dX3_nextTwin_54 : decode cX3_nextTwin 54 = .ok (.iload_n 2, 1) := by decide +kernel
theorem dX3_nextTwin_55 : decode cX3_nextTwin 55 = .ok (.putfield 35, 3) := by decide +kernel
theorem dX3_nextTwin_58 : decode cX3_nextTwin 58 = .ok (.iload_n 3, 1) := by decide +kernel
theorem dX3_nextTwin_59 : decode cX3_nextTwin 59 = .ok (.ireturn, 1) := by decide +kernel
theorem dX3_next_0 : decode cX3_next 0 = .ok (.aload_n 0, 1) := by decide +kernel
theorem dX3_next_1 : decode cX3_next 1 = .ok (.getfield 35, 3) := by decide +kernel
theorem dX3_next_4 : decode cX3_next 4 = .ok (.bipush (-9), 2) := by decide +kernel
theorem dX3_next_6 : decode cX3_next 6 = .ok (.if_icmp .eq 5, 3) := by decide +kernel
theorem dX3_next_9 : decode cX3_next 9 = .ok (.iconst 0, 1) := by decide +kernel
theorem dX3_next_10 : decode cX3_next 10 = .ok (.ireturn, 1) := by decide +kernel
theorem dX3_next_11 : decode cX3_next 11 = .ok (.aload_n 0, 1) := by decide +kernel
theorem dX3_next_12 : decode cX3_next 12 = .ok (.getfield 31, 3) := by decide +kernel
theorem dX3_next_15 : decode cX3_next 15 = .ok (.aload_n 0, 1) := by decide +kernel
theorem dX3_next_16 : decode cX3_next 16 = .ok (.getfield 27, 3) := by decide +kernel
theorem dX3_next_19 : decode cX3_next 19 = .ok (.getfield 44, 3) := by decide +kernel
theorem dX3_next_22 : decode cX3_next 22 = .ok (.if_icmp .lt 16, 3) := by decide +kernel
theorem dX3_next_25 : decode cX3_next 25 = .ok (.aload_n 0, 1) := by decide +kernel
theorem dX3_next_26 : decode cX3_next 26 = .ok (.aload_n 0, 1) := by decide +kernel
theorem dX3_next_27 : decode cX3_next 27 = .ok (.getfield 27, 3) := by decide +kernel
theorem dX3_next_30 : decode cX3_next 30 = .ok (.getfield 44, 3) := by decide +kernel
theorem dX3_next_33 : decode cX3_next 33 = .ok (.putfield 35, 3) := by decide +kernel
theorem dX3_next_36 : decode cX3_next 36 = .ok (.iconst 0, 1) := by decide +kernel
theorem dX3_next_37 : decode cX3_next 37 = .ok (.ireturn, 1) := by decide +kernel
theorem dX3_next_38 : decode cX3_next 38 = .ok (.aload_n 0, 1) := by decide +kernel
theorem dX3_next_39 : decode cX3_next 39 = .ok (.getfield 27, 3) := by decide +kernel
theorem dX3_next_42 : decode cX3_next 42 = .ok (.getfield 62, 3) := by decide +kernel
theorem dX3_next_45 : decode cX3_next 45 = .ok (.aload_n 0, 1) := by decide +kernel
theorem dX3_next_46 : decode cX3_next 46 = .ok (.getfield 31, 3) := by decide +kernel
theorem dX3_next_49 : decode cX3_next 49 = .ok (.baload, 1) := by decide +kernel
theorem dX3_next_50 : decode cX3_next 50 = .ok (.istore_n 3, 1) := by decide +kernel
theorem dX3_next_51 : decode cX3_next 51 = .ok (.iload_n 3, 1) := by decide +kernel
theorem dX3_next_52 : decode cX3_next 52 = .ok (.iload_n 1, 1) := by decide +kernel
theorem dX3_next_53 : decode cX3_next 53 = .ok (.if_icmp .lt 8, 3) := by decide +kernel
theorem dX3_next_56 : decode cX3_next 56 = .ok (.iload_n 3, 1) := by decide +kernel
theorem dX3_next_57 : decode cX3_next 57 = .ok (.iload_n 2, 1) := by decide +kernel
theorem dX3_next_58 : decode cX3_next 58 = .ok (.if_icmp .le 13, 3) := by decide +kernel
theorem dX3_next_61 : decode cX3_next 61 = .ok (.aload_n 0, 1) := by decide +kernel
theorem dX3_next_62 : decode cX3_next 62 = .ok (.aload_n 0, 1) := by decide +kernel
theorem dX3_next_63 : decode cX3_next 63 = .ok (.getfield 31, 3) := by decide +kernel
theorem dX3_next_66 : decode cX3_next 66 = .ok (.putfield 35, 3) := by decide +kernel
theorem dX3_next_69 : decode cX3_next 69 = .ok (.iconst 0, 1) := by decide +kernel
theorem dX3_next_70 : decode cX3_next 70 = .ok (.ireturn, 1) := by decide +kernel
theorem dX3_next_71 : decode cX3_next 71 = .ok (.aload_n 0, 1) := by decide +kernel
theorem dX3_next_72 : decode cX3_next 72 = .ok (.dup, 1) := by decide +kernel
theorem dX3_next_73 : decode cX3_next 73 = .ok (.getfield 31, 3) := by decide +kernel
theorem dX3_next_76 : decode cX3_next 76 = .ok (.iconst 1, 1) := by decide +kernel
theorem dX3_next_77 : decode cX3_next 77 = .ok (.iadd, 1) := by decide +kernel
theorem dX3_next_78 : decode cX3_next 78 = .ok (.putfield 31, 3) := by decide +kernel
theorem dX3_next_81 : decode cX3_next 81 = .ok (.iload_n 3, 1) := by decide +kernel
theorem dX3_next_82 : decode cX3_next 82 = .ok (.iload_n 1, 1) := by decide +kernel
theorem dX3_next_83 : decode cX3_next 83 = .ok (.isub, 1) := by decide +kernel
theorem dX3_next_84 : decode cX3_next 84 = .ok (.ireturn, 1) := by decide +kernel
theorem dX4_init_0 : decode cX4_init 0 = .ok (.aload_n 0, 1) := by decide +kernel
theorem dX4_init_1 : decode cX4_init 1 = .ok (.invokespecial 3, 3) := by decide +kernel
theorem dX4_init_4 : decode cX4_init 4 = .ok (.aload_n 0, 1) := by decide +kernel
theorem dX4_init_5 : decode cX4_init 5 = .ok (.iconst 5, 1) := by decide +kernel
theorem dX4_init_6 : decode cX4_init 6 = .ok (.newarray .int, 2) := by decide +kernel
theorem dX4_init_8 : decode cX4_init 8 = .ok (.putfield 9, 3) := by decide +kernel
theorem dX4_init_11 : decode cX4_init 11 = .ok (.aload_n 0, 1) := by decide +kernel
theorem dX4_init_12 : decode cX4_init 12 = .ok (.iconst 5, 1) := by decide +kernel
theorem dX4_init_13 : decode cX4_init 13 = .ok (.newarray .int, 2) := by decide +kernel
theorem dX4_init_15 : decode cX4_init 15 = .ok (.putfield 15, 3) := by decide +kernel
theorem dX4_init_18 : decode cX4_init 18 = .ok (.aload_n 0, 1) := by decide +kernel
theorem dX4_init_19 : decode cX4_init 19 = .ok (.iconst 5, 1) := by decide +kernel
theorem dX4_init_20 : decode cX4_init 20 = .ok (.newarray .int, 2) := by decide +kernel
theorem dX4_init_22 : decode cX4_init 22 = .ok (.putfield 18, 3) := by decide +kernel
theorem dX4_init_25 : decode cX4_init 25 = .ok (.aload_n 0, 1) := by decide +kernel
theorem dX4_init_26 : decode cX4_init 26 = .ok (.iconst 5, 1) := by decide +kernel
theorem dX4_init_27 : decode cX4_init 27 = .ok (.newarray .int, 2) := by decide +kernel
theorem dX4_init_29 : decode cX4_init 29 = .ok (.putfield 21, 3) := by decide +kernel
theorem dX4_init_32 : decode cX4_init 32 = .ok (.aload_n 0, 1) := by decide +kernel
theorem dX4_init_33 : decode cX4_init 33 = .ok (.aload_n 1, 1) := by decide +kernel
theorem dX4_init_34 : decode cX4_init 34 = .ok (.putfield 24, 3) := by decide +kernel
theorem dX4_init_37 : decode cX4_init 37 = .ok (.return_, 1) := by decide +kernel
theorem dX4_copyFrom_0 : decode cX4_copyFrom 0 = .ok (.aload_n 1, 1) := by decide +kernel
theorem dX4_copyFrom_1 : decode cX4_copyFrom 1 = .ok (.getfield 9, 3) := by decide +kernel
theorem dX4_copyFrom_4 : decode cX4_copyFrom 4 = .ok (.iconst 0, 1) := by decide +kernel
theorem dX4_copyFrom_5 : decode cX4_copyFrom 5 = .ok (.aload_n 0, 1) := by decide +kernel
theorem dX4_copyFrom_6 : decode cX4_copyFrom 6 = .ok (.getfield 9, 3) := by decide +kernel
theorem dX4_copyFrom_9 : decode cX4_copyFrom 9 = .ok (.iconst 0, 1) := by decide +kernel
theorem dX4_copyFrom_10 : decode cX4_copyFrom 10 = .ok (.iconst 5, 1) := by decide +kernel
theorem dX4_copyFrom_11 : decode cX4_copyFrom 11 = .ok (.invokestatic 28, 3) := by decide +kernel
theorem dX4_copyFrom_14 : decode cX4_copyFrom 14 = .ok (.aload_n 1, 1) := by decide +kernel
theorem dX4_copyFrom_15 : decode cX4_copyFrom 15 = .ok (.getfield 15, 3) := by decide +kernel
theorem dX4_copyFrom_18 : decode cX4_copyFrom 18 = .ok (.iconst 0, 1) := by decide +kernel
theorem dX4_copyFrom_19 : decode cX4_copyFrom 19 = .ok (.aload_n 0, 1) := by decide +kernel
theorem dX4_copyFrom_20 : decode cX4_copyFrom 20 = .ok (.getfield 15, 3) := by decide +kernel
theorem dX4_copyFrom_23 : decode cX4_copyFrom 23 = .ok (.iconst 0, 1) := by decide +kernel
theorem dX4_copyFrom_24 : decode cX4_copyFrom 24 = .ok (.iconst 5, 1) := by decide +kernel
theorem dX4_copyFrom_25 : decode cX4_copyFrom 25 = .ok (.invokestatic 28, 3) := by decide +kernel
theorem dX4_copyFrom_28 : decode cX4_copyFrom 28 = .ok (.aload_n 1, 1) := by decide +kernel
theorem dX4_copyFrom_29 : decode cX4_copyFrom 29 = .ok (.getfield 18, 3) := by decide +kernel
theorem dX4_copyFrom_32 : decode cX4_copyFrom 32 = .ok (.iconst 0, 1) := by decide +kernel
theorem dX4_copyFrom_33 : decode cX4_copyFrom 33 = .ok (.aload_n 0, 1) := by decide +kernel
theorem dX4_copyFrom_34 : decode cX4_copyFrom 34 = .ok (.getfield 18, 3) := by decide +kernel
theorem dX4_copyFrom_37 : decode cX4_copyFrom 37 = .ok (.iconst 0, 1) := by decide +kernel
theorem dX4_copyFrom_38 : decode cX4_copyFrom 38 = .ok (.iconst 5, 1) := by decide +kernel
theorem dX4_copyFrom_39 : decode cX4_copyFrom 39 = .ok (.invokestatic 28, 3) := by decide +kernel
theorem dX4_copyFrom_42 : decode cX4_copyFrom 42 = .ok (.aload_n 1, 1) := by decide +kernel
theorem dX4_copyFrom_43 : decode cX4_copyFrom 43 = .ok (.getfield 21, 3) := by decide +kernel
theorem dX4_copyFrom_46 : decode cX4_copyFrom 46 = .ok (.iconst 0, 1) := by decide +kernel
theorem dX4_copyFrom_47 : decode cX4_copyFrom 47 = .ok (.aload_n 0, 1) := by decide +kernel
theorem dX4_copyFrom_48 : decode cX4_copyFrom 48 = .ok (.getfield 21, 3) := by decide +kernel
theorem dX4_copyFrom_51 : decode cX4_copyFrom 51 = .ok (.iconst 0, 1) := by decide +kernel
theorem dX4_copyFrom_52 : decode cX4_copyFrom 52 = .ok (.iconst 5, 1) := by decide +kernel
theorem dX4_copyFrom_53 : decode cX4_copyFrom 53 = .ok (.invokestatic 28, 3) := by decide +kernel
theorem dX4_copyFrom_56 : decode cX4_copyFrom 56 = .ok (.aload_n 0, 1) := by decide +kernel
theorem dX4_copyFrom_57 : decode cX4_copyFrom 57 = .ok (.aload_n 1, 1) := by decide +kernel
theorem dX4_copyFrom_58 : decode cX4_copyFrom 58 = .ok (.getfield 34, 3) := by decide +kernel
theorem dX4_copyFrom_61 : decode cX4_copyFrom 61 = .ok (.putfield 34, 3) := by decide +kernel
theorem dX4_copyFrom_64 : decode cX4_copyFrom 64 = .ok (.aload_n 0, 1) := by decide +kernel
theorem dX4_copyFrom_65 : decode cX4_copyFrom 65 = .ok (.aload_n 1, 1) := by decide +kernel
theorem dX4_copyFrom_66 : decode cX4_copyFrom 66 = .ok (.getfield 38, 3) := by decide +kernel
theorem dX4_copyFrom_69 : decode cX4_copyFrom 69 = .ok (.putfield 38, 3) := by decide +kernel
theorem dX4_copyFrom_72 : decode cX4_copyFrom 72 = .ok (.aload_n 0, 1) := by decide +kernel
theorem dX4_copyFrom_73 : decode cX4_copyFrom 73 = .ok (.aload_n 1, 1) := by decide +kernel
theorem dX4_copyFrom_74 : decode cX4_copyFrom 74 = .ok (.getfield 41, 3) := by decide +kernel
theorem dX4_copyFrom_77 : decode cX4_copyFrom 77 = .ok (.putfield 41, 3) := by decide +kernel
theorem dX4_copyFrom_80 : decode cX4_copyFrom 80 = .ok (.aload_n 0, 1) := by decide +kernel
theorem dX4_copyFrom_81 : decode cX4_copyFrom 81 = .ok (.aload_n 1, 1) := by decide +kernel
theorem dX4_copyFrom_82 : decode cX4_copyFrom 82 = .ok (.getfield 44, 3) := by decide +kernel
theorem dX4_copyFrom_85 : decode cX4_copyFrom 85 = .ok (.putfield 44, 3) := by decide +kernel
theorem dX4_copyFrom_88 : decode cX4_copyFrom 88 = .ok (.return_, 1) := by decide +kernel
theorem dX4_tiredOfAll_0 : decode cX4_tiredOfAll 0 = .ok (.iconst 0, 1) := by decide +kernel
theorem dX4_tiredOfAll_1 : decode cX4_tiredOfAll 1 = .ok (.istore_n 1, 1) := by decide +kernel
theorem dX4_tiredOfAll_2 : decode cX4_tiredOfAll 2 = .ok (.iconst 0, 1) := by decide +kernel
theorem dX4_tiredOfAll_3 : decode cX4_tiredOfAll 3 = .ok (.istore_n 2, 1) := by decide +kernel
theorem dX4_tiredOfAll_4 : decode cX4_tiredOfAll 4 = .ok (.iload_n 2, 1) := by decide +kernel
theorem dX4_tiredOfAll_5 : decode cX4_tiredOfAll 5 = .ok (.aload_n 0, 1) := by decide +kernel
theorem dX4_tiredOfAll_6 : decode cX4_tiredOfAll 6 = .ok (.getfield 24, 3) := by decide +kernel
theorem dX4_tiredOfAll_9 : decode cX4_tiredOfAll 9 = .ok (.getfield 47, 3) := by decide +kernel
theorem dX4_tiredOfAll_12 : decode cX4_tiredOfAll 12 = .ok (.if_icmp .ge 18, 3) := by decide +kernel
theorem dX4_tiredOfAll_15 : decode cX4_tiredOfAll 15 = .ok (.iload_n 1, 1) := by decide +kernel
theorem dX4_tiredOfAll_16 : decode cX4_tiredOfAll 16 = .ok (.aload_n 0, 1) := by decide +kernel
theorem dX4_tiredOfAll_17 : decode cX4_tiredOfAll 17 = .ok (.getfield 9, 3) := by decide +kernel
theorem dX4_tiredOfAll_20 : decode cX4_tiredOfAll 20 = .ok (.iload_n 2, 1) := by decide +kernel
theorem dX4_tiredOfAll_21 : decode cX4_tiredOfAll 21 = .ok (.iaload, 1) := by decide +kernel
theorem dX4_tiredOfAll_22 : decode cX4_tiredOfAll 22 = .ok (.iadd, 1) := by decide +kernel
theorem dX4_tiredOfAll_23 : decode cX4_tiredOfAll 23 = .ok (.istore_n 1, 1) := by decide +kernel
theorem dX4_tiredOfAll_24 : decode cX4_tiredOfAll 24 = .ok (.iinc 2 1, 3) := by decide +kernel
theorem dX4_tiredOfAll_27 : decode cX4_tiredOfAll 27 = .ok (.goto (-23), 3) := by decide +kernel
theorem dX4_tiredOfAll_30 : decode cX4_tiredOfAll 30 = .ok (.iload_n 1, 1) := by decide +kernel
theorem dX4_tiredOfAll_31 : decode cX4_tiredOfAll 31 = .ok (.ireturn, 1) := by decide +kernel
theorem dX4_leastTiredBehind_0 : decode cX4_leastTiredBehind 0 = .ok (.iconst 0, 1) := by decide +kernel
theorem dX4_leastTiredBehind_1 : decode cX4_leastTiredBehind 1 = .ok (.istore_n 2, 1) := by decide +kernel
theorem dX4_leastTiredBehind_2 : decode cX4_leastTiredBehind 2 = .ok (.iconst 0, 1) := by decide +kernel
theorem dX4_leastTiredBehind_3 : decode cX4_leastTiredBehind 3 = .ok (.istore_n 3, 1) := by decide +kernel
theorem dX4_leastTiredBehind_4 : decode cX4_leastTiredBehind 4 = .ok (.iload_n 3, 1) := by decide +kernel
theorem dX4_leastTiredBehind_5 : decode cX4_leastTiredBehind 5 = .ok (.aload_n 0, 1) := by decide +kernel
theorem dX4_leastTiredBehind_6 : decode cX4_leastTiredBehind 6 = .ok (.getfield 24, 3) := by decide +kernel
theorem dX4_leastTiredBehind_9 : decode cX4_leastTiredBehind 9 = .ok (.getfield 47, 3) := by decide +kernel
theorem dX4_leastTiredBehind_12 : decode cX4_leastTiredBehind 12 = .ok (.if_icmp .ge 26, 3) := by decide +kernel
theorem dX4_leastTiredBehind_15 : decode cX4_leastTiredBehind 15 = .ok (.iload_n 2, 1) := by decide +kernel
theorem dX4_leastTiredBehind_16 : decode cX4_leastTiredBehind 16 = .ok (.iconst 0, 1) := by decide +kernel
theorem dX4_leastTiredBehind_17 : decode cX4_leastTiredBehind 17 = .ok (.aload_n 0, 1) := by decide +kernel
theorem dX4_leastTiredBehind_18 : decode cX4_leastTiredBehind 18 = .ok (.getfield 9, 3) := by decide +kernel
theorem dX4_leastTiredBehind_21 : decode cX4_leastTiredBehind 21 = .ok (.iload_n 3, 1) := by decide +kernel
theorem dX4_leastTiredBehind_22 : decode cX4_leastTiredBehind 22 = .ok (.iaload, 1) := by decide +kernel
theorem dX4_leastTiredBehind_23 : decode cX4_leastTiredBehind 23 = .ok (.iconst 4, 1) := by decide +kernel
theorem dX4_leastTiredBehind_24 : decode cX4_leastTiredBehind 24 = .ok (.iload_n 1, 1) := by decide +kernel
theorem dX4_leastTiredBehind_25 : decode cX4_leastTiredBehind 25 = .ok (.imul, 1) := by decide +kernel
theorem dX4_leastTiredBehind_26 : decode cX4_leastTiredBehind 26 = .ok (.isub, 1) := by decide +kernel
theorem dX4_leastTiredBehind_27 : decode cX4_leastTiredBehind 27 = .ok (.invokestatic 52, 3) := by decide +kernel
theorem dX4_leastTiredBehind_30 : decode cX4_leastTiredBehind 30 = .ok (.iadd, 1) := by decide +kernel
theorem dX4_leastTiredBehind_31 : decode cX4_leastTiredBehind 31 = .ok (.istore_n 2, 1) := by decide +kernel
theorem dX4_leastTiredBehind_32 : decode cX4_leastTiredBehind 32 = .ok (.iinc 3 1, 3) := by decide +kernel
theorem dX4_leastTiredBehind_35 : decode cX4_leastTiredBehind 35 = .ok (.goto (-31), 3) := by decide +kernel
theorem dX4_leastTiredBehind_38 : decode cX4_leastTiredBehind 38 = .ok (.iload_n 2, 1) := by decide +kernel
theorem dX4_leastTiredBehind_39 : decode cX4_leastTiredBehind 39 = .ok (.ireturn, 1) := by decide +kernel
theorem dX4_isLike_0 : decode cX4_isLike 0 = .ok (.iconst 0, 1) := by decide +kernel
theorem dX4_isLike_1 : decode cX4_isLike 1 = .ok (.istore_n 2, 1) := by decide +kernel
theorem dX4_isLike_2 : decode cX4_isLike 2 = .ok (.iload_n 2, 1) := by decide +kernel
theorem dX4_isLike_3 : decode cX4_isLike 3 = .ok (.aload_n 0, 1) := by decide +kernel
theorem dX4_isLike_4 : decode cX4_isLike 4 = .ok (.getfield 24, 3) := by decide +kernel
theorem dX4_isLike_7 : decode cX4_isLike 7 = .ok (.getfield 47, 3) := by decide +kernel
theorem dX4_isLike_10 : decode cX4_isLike 10 = .ok (.if_icmp .ge 56, 3) := by decide +kernel
theorem dX4_isLike_13 : decode cX4_isLike 13 = .ok (.aload_n 0, 1) := by decide +kernel
theorem dX4_isLike_14 : decode cX4_isLike 14 = .ok (.getfield 9, 3) := by decide +kernel
theorem dX4_isLike_17 : decode cX4_isLike 17 = .ok (.iload_n 2, 1) := by decide +kernel
theorem dX4_isLike_18 : decode cX4_isLike 18 = .ok (.iaload, 1) := by decide +kernel
theorem dX4_isLike_19 : decode cX4_isLike 19 = .ok (.aload_n 1, 1) := by decide +kernel
theorem dX4_isLike_20 : decode cX4_isLike 20 = .ok (.getfield 9, 3) := by decide +kernel
theorem dX4_isLike_23 : decode cX4_isLike 23 = .ok (.iload_n 2, 1) := by decide +kernel
theorem dX4_isLike_24 : decode cX4_isLike 24 = .ok (.iaload, 1) := by decide +kernel
theorem dX4_isLike_25 : decode cX4_isLike 25 = .ok (.if_icmp .ne 33, 3) := by decide +kernel
theorem dX4_isLike_28 : decode cX4_isLike 28 = .ok (.aload_n 0, 1) := by decide +kernel
theorem dX4_isLike_29 : decode cX4_isLike 29 = .ok (.getfield 15, 3) := by decide +kernel
theorem dX4_isLike_32 : decode cX4_isLike 32 = .ok (.iload_n 2, 1) := by decide +kernel
theorem dX4_isLike_33 : decode cX4_isLike 33 = .ok (.iaload, 1) := by decide +kernel
theorem dX4_isLike_34 : decode cX4_isLike 34 = .ok (.aload_n 1, 1) := by decide +kernel
theorem dX4_isLike_35 : decode cX4_isLike 35 = .ok (.getfield 15, 3) := by decide +kernel
theorem dX4_isLike_38 : decode cX4_isLike 38 = .ok (.iload_n 2, 1) := by decide +kernel
theorem dX4_isLike_39 : decode cX4_isLike 39 = .ok (.iaload, 1) := by decide +kernel
theorem dX4_isLike_40 : decode cX4_isLike 40 = .ok (.if_icmp .ne 18, 3) := by decide +kernel
theorem dX4_isLike_43 : decode cX4_isLike 43 = .ok (.aload_n 0, 1) := by decide +kernel
theorem dX4_isLike_44 : decode cX4_isLike 44 = .ok (.getfield 18, 3) := by decide +kernel
theorem dX4_isLike_47 : decode cX4_isLike 47 = .ok (.iload_n 2, 1) := by decide +kernel
theorem dX4_isLike_48 : decode cX4_isLike 48 = .ok (.iaload, 1) := by decide +kernel
theorem dX4_isLike_49 : decode cX4_isLike 49 = .ok (.aload_n 1, 1) := by decide +kernel
theorem dX4_isLike_50 : decode cX4_isLike 50 = .ok (.getfield 18, 3) := by decide +kernel
theorem dX4_isLike_53 : decode cX4_isLike 53 = .ok (.iload_n 2, 1) := by decide +kernel
theorem dX4_isLike_54 : decode cX4_isLike 54 = .ok (.iaload, 1) := by decide +kernel
theorem dX4_isLike_55 : decode cX4_isLike 55 = .ok (.if_icmp .eq 5, 3) := by decide +kernel
theorem dX4_isLike_58 : decode cX4_isLike 58 = .ok (.iconst 0, 1) := by decide +kernel
theorem dX4_isLike_59 : decode cX4_isLike 59 = .ok (.ireturn, 1) := by decide +kernel
theorem dX4_isLike_60 : decode cX4_isLike 60 = .ok (.iinc 2 1, 3) := by decide +kernel
theorem dX4_isLike_63 : decode cX4_isLike 63 = .ok (.goto (-61), 3) := by decide +kernel
theorem dX4_isLike_66 : decode cX4_isLike 66 = .ok (.aload_n 0, 1) := by decide +kernel
theorem dX4_isLike_67 : decode cX4_isLike 67 = .ok (.getfield 34, 3) := by decide +kernel
theorem dX4_isLike_70 : decode cX4_isLike 70 = .ok (.aload_n 1, 1) := by decide +kernel
theorem dX4_isLike_71 : decode cX4_isLike 71 = .ok (.getfield 34, 3) := by decide +kernel
theorem dX4_isLike_74 : decode cX4_isLike 74 = .ok (.if_icmp .ne 18, 3) := by decide +kernel
theorem dX4_isLike_77 : decode cX4_isLike 77 = .ok (.aload_n 0, 1) := by decide +kernel
theorem dX4_isLike_78 : decode cX4_isLike 78 = .ok (.getfield 38, 3) := by decide +kernel
theorem dX4_isLike_81 : decode cX4_isLike 81 = .ok (.aload_n 1, 1) := by decide +kernel
theorem dX4_isLike_82 : decode cX4_isLike 82 = .ok (.getfield 38, 3) := by decide +kernel
theorem dX4_isLike_85 : decode cX4_isLike 85 = .ok (.if_icmp .ne 7, 3) := by decide +kernel
theorem dX4_isLike_88 : decode cX4_isLike 88 = .ok (.iconst 1, 1) := by decide +kernel
theorem dX4_isLike_89 : decode cX4_isLike 89 = .ok (.goto 4, 3) := by decide +kernel
theorem dX4_isLike_92 : decode cX4_isLike 92 = .ok (.iconst 0, 1) := by decide +kernel
theorem dX4_isLike_93 : decode cX4_isLike 93 = .ok (.ireturn, 1) := by decide +kernel
theorem dX4_allows_0 : decode cX4_allows 0 = .ok (.iload_n 1, 1) := by decide +kernel
theorem dX4_allows_1 : decode cX4_allows 1 = .ok (.invokestatic 58, 3) := by decide +kernel
theorem dX4_allows_4 : decode cX4_allows 4 = .ok (.aload_n 0, 1) := by decide +kernel
theorem dX4_allows_5 : decode cX4_allows 5 = .ok (.getfield 24, 3) := by decide +kernel
theorem dX4_allows_8 : decode cX4_allows 8 = .ok (.getfield 64, 3) := by decide +kernel
theorem dX4_allows_11 : decode cX4_allows 11 = .ok (.if_icmp .le 5, 3) := by decide +kernel
theorem dX4_allows_14 : decode cX4_allows 14 = .ok (.iconst 0, 1) := by decide +kernel
theorem dX4_allows_15 : decode cX4_allows 15 = .ok (.ireturn, 1) := by decide +kernel
theorem dX4_allows_16 : decode cX4_allows 16 = .ok (.aload_n 0, 1) := by decide +kernel
theorem dX4_allows_17 : decode cX4_allows 17 = .ok (.iload_n 1, 1) := by decide +kernel
theorem dX4_allows_18 : decode cX4_allows 18 = .ok (.invokevirtual 67, 3) := by decide +kernel
theorem dX4_allows_21 : decode cX4_allows 21 = .ok (.istore_n 2, 1) := by decide +kernel
theorem dX4_allows_22 : decode cX4_allows 22 = .ok (.iconst 0, 1) := by decide +kernel
theorem dX4_allows_23 : decode cX4_allows 23 = .ok (.istore_n 3, 1) := by decide +kernel
theorem dX4_allows_24 : decode cX4_allows 24 = .ok (.iload_n 3, 1) := by decide +kernel
theorem dX4_allows_25 : decode cX4_allows 25 = .ok (.aload_n 0, 1) := by decide +kernel
theorem dX4_allows_26 : decode cX4_allows 26 = .ok (.getfield 24, 3) := by decide +kernel
theorem dX4_allows_29 : decode cX4_allows 29 = .ok (.getfield 47, 3) := by decide +kernel
theorem dX4_allows_32 : decode cX4_allows 32 = .ok (.if_icmp .ge 58, 3) := by decide +kernel
theorem dX4_allows_35 : decode cX4_allows 35 = .ok (.iconst 1, 1) := by decide +kernel
theorem dX4_allows_36 : decode cX4_allows 36 = .ok (.iload_n 3, 1) := by decide +kernel
theorem dX4_allows_37 : decode cX4_allows 37 = .ok (.ishl, 1) := by decide +kernel
theorem dX4_allows_38 : decode cX4_allows 38 = .ok (.istore 4, 2) := by decide +kernel
theorem dX4_allows_40 : decode cX4_allows 40 = .ok (.iload_n 2, 1) := by decide +kernel
theorem dX4_allows_41 : decode cX4_allows 41 = .ok (.iload 4, 2) := by decide +kernel
theorem dX4_allows_43 : decode cX4_allows 43 = .ok (.iand, 1) := by decide +kernel
theorem dX4_allows_44 : decode cX4_allows 44 = .ok (.ifCond .eq 15, 3) := by decide +kernel
theorem dX4_allows_47 : decode cX4_allows 47 = .ok (.aload_n 0, 1) := by decide +kernel
theorem dX4_allows_48 : decode cX4_allows 48 = .ok (.getfield 15, 3) := by decide +kernel
theorem dX4_allows_51 : decode cX4_allows 51 = .ok (.iload_n 3, 1) := by decide +kernel
theorem dX4_allows_52 : decode cX4_allows 52 = .ok (.iaload, 1) := by decide +kernel
theorem dX4_allows_53 : decode cX4_allows 53 = .ok (.iconst 1, 1) := by decide +kernel
theorem dX4_allows_54 : decode cX4_allows 54 = .ok (.if_icmp .ge 5, 3) := by decide +kernel
theorem dX4_allows_57 : decode cX4_allows 57 = .ok (.iconst 0, 1) := by decide +kernel
theorem dX4_allows_58 : decode cX4_allows 58 = .ok (.ireturn, 1) := by decide +kernel
theorem dX4_allows_59 : decode cX4_allows 59 = .ok (.iload_n 1, 1) := by decide +kernel
theorem dX4_allows_60 : decode cX4_allows 60 = .ok (.aload_n 0, 1) := by decide +kernel
theorem dX4_allows_61 : decode cX4_allows 61 = .ok (.getfield 38, 3) := by decide +kernel
theorem dX4_allows_64 : decode cX4_allows 64 = .ok (.iand, 1) := by decide +kernel
theorem dX4_allows_65 : decode cX4_allows 65 = .ok (.iload 4, 2) := by decide +kernel
theorem dX4_allows_67 : decode cX4_allows 67 = .ok (.iand, 1) := by decide +kernel
theorem dX4_allows_68 : decode cX4_allows 68 = .ok (.ifCond .eq 16, 3) := by decide +kernel
theorem dX4_allows_71 : decode cX4_allows 71 = .ok (.aload_n 0, 1) := by decide +kernel
theorem dX4_allows_72 : decode cX4_allows 72 = .ok (.getfield 18, 3) := by decide +kernel
theorem dX4_allows_75 : decode cX4_allows 75 = .ok (.iload_n 3, 1) := by decide +kernel
theorem dX4_allows_76 : decode cX4_allows 76 = .ok (.iaload, 1) := by decide +kernel
theorem dX4_allows_77 : decode cX4_allows 77 = .ok (.bipush 9, 2) := by decide +kernel
theorem dX4_allows_79 : decode cX4_allows 79 = .ok (.if_icmp .lt 5, 3) := by decide +kernel
theorem dX4_allows_82 : decode cX4_allows 82 = .ok (.iconst 0, 1) := by decide +kernel
theorem dX4_allows_83 : decode cX4_allows 83 = .ok (.ireturn, 1) := by decide +kernel
theorem dX4_allows_84 : decode cX4_allows 84 = .ok (.iinc 3 1, 3) := by decide +kernel
theorem dX4_allows_87 : decode cX4_allows 87 = .ok (.goto (-63), 3) := by decide +kernel
theorem dX4_allows_90 : decode cX4_allows 90 = .ok (.iconst 1, 1) := by decide +kernel
theorem dX4_allows_91 : decode cX4_allows 91 = .ok (.ireturn, 1) := by decide +kernel
theorem dX4_giversOf_0 : decode cX4_giversOf 0 = .ok (.iload_n 1, 1) := by decide +kernel
theorem dX4_giversOf_1 : decode cX4_giversOf 1 = .ok (.aload_n 0, 1) := by decide +kernel
theorem dX4_giversOf_2 : decode cX4_giversOf 2 = .ok (.getfield 38, 3) := by decide +kernel
theorem dX4_giversOf_5 : decode cX4_giversOf 5 = .ok (.iconst (-1), 1) := by decide +kernel
theorem dX4_giversOf_6 : decode cX4_giversOf 6 = .ok (.ixor, 1) := by decide +kernel
theorem dX4_giversOf_7 : decode cX4_giversOf 7 = .ok (.iand, 1) := by decide +kernel
theorem dX4_giversOf_8 : decode cX4_giversOf 8 = .ok (.istore_n 2, 1) := by decide +kernel
theorem dX4_giversOf_9 : decode cX4_giversOf 9 = .ok (.iload_n 2, 1) := by decide +kernel
theorem dX4_giversOf_10 : decode cX4_giversOf 10 = .ok (.istore_n 3, 1) := by decide +kernel
theorem dX4_giversOf_11 : decode cX4_giversOf 11 = .ok (.iconst 0, 1) := by decide +kernel
theorem dX4_giversOf_12 : decode cX4_giversOf 12 = .ok (.istore 4, 2) := by decide +kernel
theorem dX4_giversOf_14 : decode cX4_giversOf 14 = .ok (.iload 4, 2) := by decide +kernel
theorem dX4_giversOf_16 : decode cX4_giversOf 16 = .ok (.aload_n 0, 1) := by decide +kernel
theorem dX4_giversOf_17 : decode cX4_giversOf 17 = .ok (.getfield 24, 3) := by decide +kernel
theorem dX4_giversOf_20 : decode cX4_giversOf 20 = .ok (.getfield 47, 3) := by decide +kernel
theorem dX4_giversOf_23 : decode cX4_giversOf 23 = .ok (.if_icmp .ge 73, 3) := by decide +kernel
theorem dX4_giversOf_26 : decode cX4_giversOf 26 = .ok (.aload_n 0, 1) := by decide +kernel
theorem dX4_giversOf_27 : decode cX4_giversOf 27 = .ok (.getfield 24, 3) := by decide +kernel
theorem dX4_giversOf_30 : decode cX4_giversOf 30 = .ok (.getfield 70, 3) := by decide +kernel
theorem dX4_giversOf_33 : decode cX4_giversOf 33 = .ok (.iload 4, 2) := by decide +kernel
theorem dX4_giversOf_35 : decode cX4_giversOf 35 = .ok (.iaload, 1) := by decide +kernel
theorem dX4_giversOf_36 : decode cX4_giversOf 36 = .ok (.istore 5, 2) := by decide +kernel
theorem dX4_giversOf_38 : decode cX4_giversOf 38 = .ok (.iload 5, 2) := by decide +kernel
theorem dX4_giversOf_40 : decode cX4_giversOf 40 = .ok (.iload 4, 2) := by decide +kernel
theorem dX4_giversOf_42 : decode cX4_giversOf 42 = .ok (.if_icmp .le 48, 3) := by decide +kernel
theorem dX4_giversOf_45 : decode cX4_giversOf 45 = .ok (.iload_n 2, 1) := by decide +kernel
theorem dX4_giversOf_46 : decode cX4_giversOf 46 = .ok (.iload 4, 2) := by decide +kernel
theorem dX4_giversOf_48 : decode cX4_giversOf 48 = .ok (.ishr, 1) := by decide +kernel
theorem dX4_giversOf_49 : decode cX4_giversOf 49 = .ok (.iload_n 2, 1) := by decide +kernel
theorem dX4_giversOf_50 : decode cX4_giversOf 50 = .ok (.iload 5, 2) := by decide +kernel
theorem dX4_giversOf_52 : decode cX4_giversOf 52 = .ok (.ishr, 1) := by decide +kernel
theorem dX4_giversOf_53 : decode cX4_giversOf 53 = .ok (.iand, 1) := by decide +kernel
theorem dX4_giversOf_54 : decode cX4_giversOf 54 = .ok (.iconst 1, 1) := by decide +kernel
theorem dX4_giversOf_55 : decode cX4_giversOf 55 = .ok (.iand, 1) := by decide +kernel
theorem dX4_giversOf_56 : decode cX4_giversOf 56 = .ok (.ifCond .eq 34, 3) := by decide +kernel
theorem dX4_giversOf_59 : decode cX4_giversOf 59 = .ok (.iload_n 3, 1) := by decide +kernel
theorem dX4_giversOf_60 : decode cX4_giversOf 60 = .ok (.iconst 1, 1) := by decide +kernel
theorem dX4_giversOf_61 : decode cX4_giversOf 61 = .ok (.aload_n 0, 1) := by decide +kernel
theorem dX4_giversOf_62 : decode cX4_giversOf 62 = .ok (.getfield 15, 3) := by decide +kernel
theorem dX4_giversOf_65 : decode cX4_giversOf 65 = .ok (.iload 5, 2) := by decide +kernel
theorem dX4_giversOf_67 : decode cX4_giversOf 67 = .ok (.iaload, 1) := by decide +kernel
theorem dX4_giversOf_68 : decode cX4_giversOf 68 = .ok (.aload_n 0, 1) := by decide +kernel
theorem dX4_giversOf_69 : decode cX4_giversOf 69 = .ok (.getfield 15, 3) := by decide +kernel
theorem dX4_giversOf_72 : decode cX4_giversOf 72 = .ok (.iload 4, 2) := by decide +kernel
theorem dX4_giversOf_74 : decode cX4_giversOf 74 = .ok (.iaload, 1) := by decide +kernel
theorem dX4_giversOf_75 : decode cX4_giversOf 75 = .ok (.if_icmp .le 8, 3) := by decide +kernel
theorem dX4_giversOf_78 : decode cX4_giversOf 78 = .ok (.iload 4, 2) := by decide +kernel
theorem dX4_giversOf_80 : decode cX4_giversOf 80 = .ok (.goto 5, 3) := by decide +kernel
theorem dX4_giversOf_83 : decode cX4_giversOf 83 = .ok (.iload 5, 2) := by decide +kernel
theorem dX4_giversOf_85 : decode cX4_giversOf 85 = .ok (.ishl, 1) := by decide +kernel
theorem dX4_giversOf_86 : decode cX4_giversOf 86 = .ok (.iconst (-1), 1) := by decide +kernel
theorem dX4_giversOf_87 : decode cX4_giversOf 87 = .ok (.ixor, 1) := by decide +kernel
theorem dX4_giversOf_88 : decode cX4_giversOf 88 = .ok (.iand, 1) := by decide +kernel
theorem dX4_giversOf_89 : decode cX4_giversOf 89 = .ok (.istore_n 3, 1) := by decide +kernel
theorem dX4_giversOf_90 : decode cX4_giversOf 90 = .ok (.iinc 4 1, 3) := by decide +kernel
theorem dX4_giversOf_93 : decode cX4_giversOf 93 = .ok (.goto (-79), 3) := by decide +kernel
theorem dX4_giversOf_96 : decode cX4_giversOf 96 = .ok (.iload_n 3, 1) := by decide +kernel
theorem dX4_giversOf_97 : decode cX4_giversOf 97 = .ok (.ireturn, 1) := by decide +kernel
theorem dX4_pass_0 : decode cX4_pass 0 = .ok (.aload_n 0, 1) := by decide +kernel
theorem dX4_pass_1 : decode cX4_pass 1 = .ok (.iload_n 1, 1) := by decide +kernel
theorem dX4_pass_2 : decode cX4_pass 2 = .ok (.invokevirtual 67, 3) := by decide +kernel
theorem dX4_pass_5 : decode cX4_pass 5 = .ok (.istore_n 2, 1) := by decide +kernel
theorem dX4_pass_6 : decode cX4_pass 6 = .ok (.iconst 0, 1) := by decide +kernel
theorem dX4_pass_7 : decode cX4_pass 7 = .ok (.istore_n 3, 1) := by decide +kernel
theorem dX4_pass_8 : decode cX4_pass 8 = .ok (.iload_n 3, 1) := by decide +kernel
theorem dX4_pass_9 : decode cX4_pass 9 = .ok (.aload_n 0, 1) := by decide +kernel
theorem dX4_pass_10 : decode cX4_pass 10 = .ok (.getfield 24, 3) := by decide +kernel
theorem dX4_pass_13 : decode cX4_pass 13 = .ok (.getfield 47, 3) := by decide +kernel
theorem dX4_pass_16 : decode cX4_pass 16 = .ok (.if_icmp .ge 46, 3) := by decide +kernel
theorem dX4_pass_19 : decode cX4_pass 19 = .ok (.iconst 1, 1) := by decide +kernel
theorem dX4_pass_20 : decode cX4_pass 20 = .ok (.iload_n 3, 1) := by decide +kernel
theorem dX4_pass_21 : decode cX4_pass 21 = .ok (.ishl, 1) := by decide +kernel
theorem dX4_pass_22 : decode cX4_pass 22 = .ok (.istore 4, 2) := by decide +kernel
theorem dX4_pass_24 : decode cX4_pass 24 = .ok (.iload_n 1, 1) := by decide +kernel
theorem dX4_pass_25 : decode cX4_pass 25 = .ok (.iload 4, 2) := by decide +kernel
theorem dX4_pass_27 : decode cX4_pass 27 = .ok (.iand, 1) := by decide +kernel
theorem dX4_pass_28 : decode cX4_pass 28 = .ok (.ifCond .ne 11, 3) := by decide +kernel
theorem dX4_pass_31 : decode cX4_pass 31 = .ok (.aload_n 0, 1) := by decide +kernel
theorem dX4_pass_32 : decode cX4_pass 32 = .ok (.iload_n 3, 1) := by decide +kernel
theorem dX4_pass_33 : decode cX4_pass 33 = .ok (.invokevirtual 73, 3) := by decide +kernel
theorem dX4_pass_36 : decode cX4_pass 36 = .ok (.goto 20, 3) := by decide +kernel
theorem dX4_pass_39 : decode cX4_pass 39 = .ok (.aload_n 0, 1) := by decide +kernel
theorem dX4_pass_40 : decode cX4_pass 40 = .ok (.iload_n 3, 1) := by decide +kernel
theorem dX4_pass_41 : decode cX4_pass 41 = .ok (.iload_n 2, 1) := by decide +kernel
theorem dX4_pass_42 : decode cX4_pass 42 = .ok (.iload 4, 2) := by decide +kernel
theorem dX4_pass_44 : decode cX4_pass 44 = .ok (.iand, 1) := by decide +kernel
theorem dX4_pass_45 : decode cX4_pass 45 = .ok (.ifCond .eq 7, 3) := by decide +kernel
theorem dX4_pass_48 : decode cX4_pass 48 = .ok (.iconst 1, 1) := by decide +kernel
theorem dX4_pass_49 : decode cX4_pass 49 = .ok (.goto 4, 3) := by decide +kernel
theorem dX4_pass_52 : decode cX4_pass 52 = .ok (.iconst 0, 1) := by decide +kernel
theorem dX4_pass_53 : decode cX4_pass 53 = .ok (.invokevirtual 77, 3) := by decide +kernel
theorem dX4_pass_56 : decode cX4_pass 56 = .ok (.iinc 3 1, 3) := by decide +kernel
theorem dX4_pass_59 : decode cX4_pass 59 = .ok (.goto (-51), 3) := by decide +kernel
theorem dX4_pass_62 : decode cX4_pass 62 = .ok (.aload_n 0, 1) := by decide +kernel
theorem dX4_pass_63 : decode cX4_pass 63 = .ok (.getfield 24, 3) := by decide +kernel
theorem dX4_pass_66 : decode cX4_pass 66 = .ok (.invokevirtual 81, 3) := by decide +kernel
theorem dX4_pass_69 : decode cX4_pass 69 = .ok (.iload_n 1, 1) := by decide +kernel
theorem dX4_pass_70 : decode cX4_pass 70 = .ok (.iconst (-1), 1) := by decide +kernel
theorem dX4_pass_71 : decode cX4_pass 71 = .ok (.ixor, 1) := by decide +kernel
theorem dX4_pass_72 : decode cX4_pass 72 = .ok (.iand, 1) := by decide +kernel
theorem dX4_pass_73 : decode cX4_pass 73 = .ok (.aload_n 0, 1) := by decide +kernel
theorem dX4_pass_74 : decode cX4_pass 74 = .ok (.getfield 34, 3) := by decide +kernel
theorem dX4_pass_77 : decode cX4_pass 77 = .ok (.iconst (-1), 1) := by decide +kernel
theorem dX4_pass_78 : decode cX4_pass 78 = .ok (.ixor, 1) := by decide +kernel
theorem dX4_pass_79 : decode cX4_pass 79 = .ok (.iand, 1) := by decide +kernel
theorem dX4_pass_80 : decode cX4_pass 80 = .ok (.istore_n 3, 1) := by decide +kernel
theorem dX4_pass_81 : decode cX4_pass 81 = .ok (.aload_n 0, 1) := by decide +kernel
theorem dX4_pass_82 : decode cX4_pass 82 = .ok (.dup, 1) := by decide +kernel
theorem dX4_pass_83 : decode cX4_pass 83 = .ok (.getfield 41, 3) := by decide +kernel
theorem dX4_pass_86 : decode cX4_pass 86 = .ok (.iconst 1, 1) := by decide +kernel
theorem dX4_pass_87 : decode cX4_pass 87 = .ok (.iadd, 1) := by decide +kernel
theorem dX4_pass_88 : decode cX4_pass 88 = .ok (.putfield 41, 3) := by decide +kernel
theorem dX4_pass_91 : decode cX4_pass 91 = .ok (.iload_n 3, 1) := by decide +kernel
theorem dX4_pass_92 : decode cX4_pass 92 = .ok (.ifCond .ne 13, 3) := by decide +kernel
theorem dX4_pass_95 : decode cX4_pass 95 = .ok (.aload_n 0, 1) := by decide +kernel
theorem dX4_pass_96 : decode cX4_pass 96 = .ok (.dup, 1) := by decide +kernel
theorem dX4_pass_97 : decode cX4_pass 97 = .ok (.getfield 44, 3) := by decide +kernel
theorem dX4_pass_100 : decode cX4_pass 100 = .ok (.iconst 1, 1) := by decide +kernel
theorem dX4_pass_101 : decode cX4_pass 101 = .ok (.iadd, 1) := by decide +kernel
theorem dX4_pass_102 : decode cX4_pass 102 = .ok (.putfield 44, 3) := by decide +kernel
theorem dX4_pass_105 : decode cX4_pass 105 = .ok (.iload_n 3, 1) := by decide +kernel
theorem dX4_pass_106 : decode cX4_pass 106 = .ok (.ireturn, 1) := by decide +kernel
theorem dX4_rest_0 : decode cX4_rest 0 = .ok (.iconst 1, 1) := by decide +kernel
theorem dX4_rest_1 : decode cX4_rest 1 = .ok (.iload_n 1, 1) := by decide +kernel
theorem dX4_rest_2 : decode cX4_rest 2 = .ok (.ishl, 1) := by decide +kernel
theorem dX4_rest_3 : decode cX4_rest 3 = .ok (.istore_n 3, 1) := by decide +kernel
theorem dX4_rest_4 : decode cX4_rest 4 = .ok (.aload_n 0, 1) := by decide +kernel
theorem dX4_rest_5 : decode cX4_rest 5 = .ok (.getfield 38, 3) := by decide +kernel
theorem dX4_rest_8 : decode cX4_rest 8 = .ok (.iload_n 3, 1) := by decide +kernel
theorem dX4_rest_9 : decode cX4_rest 9 = .ok (.iand, 1) := by decide +kernel
theorem dX4_rest_10 : decode cX4_rest 10 = .ok (.ifCond .eq 16, 3) := by decide +kernel
theorem dX4_rest_13 : decode cX4_rest 13 = .ok (.aload_n 0, 1) := by decide +kernel
theorem dX4_rest_14 : decode cX4_rest 14 = .ok (.getfield 18, 3) := by decide +kernel
theorem dX4_rest_17 : decode cX4_rest 17 = .ok (.iload_n 1, 1) := by decide +kernel
theorem dX4_rest_18 : decode cX4_rest 18 = .ok (.dup2, 1) := by decide +kernel
theorem dX4_rest_19 : decode cX4_rest 19 = .ok (.iaload, 1) := by decide +kernel
theorem dX4_rest_20 : decode cX4_rest 20 = .ok (.iconst 1, 1) := by decide +kernel
theorem dX4_rest_21 : decode cX4_rest 21 = .ok (.iadd, 1) := by decide +kernel
theorem dX4_rest_22 : decode cX4_rest 22 = .ok (.iastore, 1) := by decide +kernel
theorem dX4_rest_23 : decode cX4_rest 23 = .ok (.goto 17, 3) := by decide +kernel
theorem dX4_rest_26 : decode cX4_rest 26 = .ok (.iload_n 2, 1) := by decide +kernel
theorem dX4_rest_27 : decode cX4_rest 27 = .ok (.ifCond .eq 13, 3) := by decide +kernel
theorem dX4_rest_30 : decode cX4_rest 30 = .ok (.aload_n 0, 1) := by decide +kernel
theorem dX4_rest_31 : decode cX4_rest 31 = .ok (.getfield 15, 3) := by decide +kernel
theorem dX4_rest_34 : decode cX4_rest 34 = .ok (.iload_n 1, 1) := by decide +kernel
theorem dX4_rest_35 : decode cX4_rest 35 = .ok (.dup2, 1) := by decide +kernel
theorem dX4_rest_36 : decode cX4_rest 36 = .ok (.iaload, 1) := by decide +kernel
theorem dX4_rest_37 : decode cX4_rest 37 = .ok (.iconst 1, 1) := by decide +kernel
theorem dX4_rest_38 : decode cX4_rest 38 = .ok (.isub, 1) := by decide +kernel
theorem dX4_rest_39 : decode cX4_rest 39 = .ok (.iastore, 1) := by decide +kernel
theorem dX4_rest_40 : decode cX4_rest 40 = .ok (.aload_n 0, 1) := by decide +kernel
theorem dX4_rest_41 : decode cX4_rest 41 = .ok (.getfield 9, 3) := by decide +kernel
theorem dX4_rest_44 : decode cX4_rest 44 = .ok (.iload_n 1, 1) := by decide +kernel
theorem dX4_rest_45 : decode cX4_rest 45 = .ok (.iconst 0, 1) := by decide +kernel
theorem dX4_rest_46 : decode cX4_rest 46 = .ok (.aload_n 0, 1) := by decide +kernel
theorem dX4_rest_47 : decode cX4_rest 47 = .ok (.getfield 9, 3) := by decide +kernel
theorem dX4_rest_50 : decode cX4_rest 50 = .ok (.iload_n 1, 1) := by decide +kernel
theorem dX4_rest_51 : decode cX4_rest 51 = .ok (.iaload, 1) := by decide +kernel
theorem dX4_rest_52 : decode cX4_rest 52 = .ok (.iconst 4, 1) := by decide +kernel
theorem dX4_rest_53 : decode cX4_rest 53 = .ok (.isub, 1) := by decide +kernel
theorem dX4_rest_54 : decode cX4_rest 54 = .ok (.invokestatic 52, 3) := by decide +kernel
theorem dX4_rest_57 : decode cX4_rest 57 = .ok (.iastore, 1) := by decide +kernel
theorem dX4_rest_58 : decode cX4_rest 58 = .ok (.aload_n 0, 1) := by decide +kernel
theorem dX4_rest_59 : decode cX4_rest 59 = .ok (.dup, 1) := by decide +kernel
theorem dX4_rest_60 : decode cX4_rest 60 = .ok (.getfield 34, 3) := by decide +kernel
theorem dX4_rest_63 : decode cX4_rest 63 = .ok (.iload_n 3, 1) := by decide +kernel
theorem dX4_rest_64 : decode cX4_rest 64 = .ok (.iconst (-1), 1) := by decide +kernel
theorem dX4_rest_65 : decode cX4_rest 65 = .ok (.ixor, 1) := by decide +kernel
theorem dX4_rest_66 : decode cX4_rest 66 = .ok (.iand, 1) := by decide +kernel
theorem dX4_rest_67 : decode cX4_rest 67 = .ok (.putfield 34, 3) := by decide +kernel
theorem dX4_rest_70 : decode cX4_rest 70 = .ok (.aload_n 0, 1) := by decide +kernel
theorem dX4_rest_71 : decode cX4_rest 71 = .ok (.getfield 21, 3) := by decide +kernel
theorem dX4_rest_74 : decode cX4_rest 74 = .ok (.iload_n 1, 1) := by decide +kernel
theorem dX4_rest_75 : decode cX4_rest 75 = .ok (.dup2, 1) := by decide +kernel
theorem dX4_rest_76 : decode cX4_rest 76 = .ok (.iaload, 1) := by decide +kernel
theorem dX4_rest_77 : decode cX4_rest 77 = .ok (.iconst 1, 1) := by decide +kernel
theorem dX4_rest_78 : decode cX4_rest 78 = .ok (.iadd, 1) := by decide +kernel
theorem dX4_rest_79 : decode cX4_rest 79 = .ok (.iastore, 1) := by decide +kernel
theorem dX4_rest_80 : decode cX4_rest 80 = .ok (.return_, 1) := by decide +kernel
theorem dX4_watch_0 : decode cX4_watch 0 = .ok (.iconst 1, 1) := by decide +kernel
theorem dX4_watch_1 : decode cX4_watch 1 = .ok (.iload_n 1, 1) := by decide +kernel
theorem dX4_watch_2 : decode cX4_watch 2 = .ok (.ishl, 1) := by decide +kernel
theorem dX4_watch_3 : decode cX4_watch 3 = .ok (.istore_n 2, 1) := by decide +kernel
theorem dX4_watch_4 : decode cX4_watch 4 = .ok (.aload_n 0, 1) := by decide +kernel
theorem dX4_watch_5 : decode cX4_watch 5 = .ok (.getfield 34, 3) := by decide +kernel
theorem dX4_watch_8 : decode cX4_watch 8 = .ok (.iload_n 2, 1) := by decide +kernel
theorem dX4_watch_9 : decode cX4_watch 9 = .ok (.iand, 1) := by decide +kernel
theorem dX4_watch_10 : decode cX4_watch 10 = .ok (.ifCond .eq 54, 3) := by decide +kernel
theorem dX4_watch_13 : decode cX4_watch 13 = .ok (.aload_n 0, 1) := by decide +kernel
theorem dX4_watch_14 : decode cX4_watch 14 = .ok (.getfield 9, 3) := by decide +kernel
theorem dX4_watch_17 : decode cX4_watch 17 = .ok (.iload_n 1, 1) := by decide +kernel
theorem dX4_watch_18 : decode cX4_watch 18 = .ok (.iconst 0, 1) := by decide +kernel
theorem dX4_watch_19 : decode cX4_watch 19 = .ok (.aload_n 0, 1) := by decide +kernel
theorem dX4_watch_20 : decode cX4_watch 20 = .ok (.getfield 9, 3) := by decide +kernel
theorem dX4_watch_23 : decode cX4_watch 23 = .ok (.iload_n 1, 1) := by decide +kernel
theorem dX4_watch_24 : decode cX4_watch 24 = .ok (.iaload, 1) := by decide +kernel
theorem dX4_watch_25 : decode cX4_watch 25 = .ok (.iconst 1, 1) := by decide +kernel
theorem dX4_watch_26 : decode cX4_watch 26 = .ok (.isub, 1) := by decide +kernel
theorem dX4_watch_27 : decode cX4_watch 27 = .ok (.invokestatic 52, 3) := by decide +kernel
theorem dX4_watch_30 : decode cX4_watch 30 = .ok (.iastore, 1) := by decide +kernel
theorem dX4_watch_31 : decode cX4_watch 31 = .ok (.aload_n 0, 1) := by decide +kernel
theorem dX4_watch_32 : decode cX4_watch 32 = .ok (.getfield 9, 3) := by decide +kernel
theorem dX4_watch_35 : decode cX4_watch 35 = .ok (.iload_n 1, 1) := by decide +kernel
theorem dX4_watch_36 : decode cX4_watch 36 = .ok (.iaload, 1) := by decide +kernel
theorem dX4_watch_37 : decode cX4_watch 37 = .ok (.aload_n 0, 1) := by decide +kernel
theorem dX4_watch_38 : decode cX4_watch 38 = .ok (.getfield 24, 3) := by decide +kernel
theorem dX4_watch_41 : decode cX4_watch 41 = .ok (.getfield 85, 3) := by decide +kernel
theorem dX4_watch_44 : decode cX4_watch 44 = .ok (.iconst 4, 1) := by decide +kernel
theorem dX4_watch_45 : decode cX4_watch 45 = .ok (.isub, 1) := by decide +kernel
theorem dX4_watch_46 : decode cX4_watch 46 = .ok (.if_icmp .gt 63, 3) := by decide +kernel
theorem dX4_watch_49 : decode cX4_watch 49 = .ok (.aload_n 0, 1) := by decide +kernel
theorem dX4_watch_50 : decode cX4_watch 50 = .ok (.dup, 1) := by decide +kernel
theorem dX4_watch_51 : decode cX4_watch 51 = .ok (.getfield 34, 3) := by decide +kernel
theorem dX4_watch_54 : decode cX4_watch 54 = .ok (.iload_n 2, 1) := by decide +kernel
theorem dX4_watch_55 : decode cX4_watch 55 = .ok (.iconst (-1), 1) := by decide +kernel
theorem dX4_watch_56 : decode cX4_watch 56 = .ok (.ixor, 1) := by decide +kernel
theorem dX4_watch_57 : decode cX4_watch 57 = .ok (.iand, 1) := by decide +kernel
theorem dX4_watch_58 : decode cX4_watch 58 = .ok (.putfield 34, 3) := by decide +kernel
theorem dX4_watch_61 : decode cX4_watch 61 = .ok (.goto 48, 3) := by decide +kernel
theorem dX4_watch_64 : decode cX4_watch 64 = .ok (.aload_n 0, 1) := by decide +kernel
theorem dX4_watch_65 : decode cX4_watch 65 = .ok (.getfield 9, 3) := by decide +kernel
theorem dX4_watch_68 : decode cX4_watch 68 = .ok (.iload_n 1, 1) := by decide +kernel
theorem dX4_watch_69 : decode cX4_watch 69 = .ok (.bipush 99, 2) := by decide +kernel
theorem dX4_watch_71 : decode cX4_watch 71 = .ok (.aload_n 0, 1) := by decide +kernel
theorem dX4_watch_72 : decode cX4_watch 72 = .ok (.getfield 9, 3) := by decide +kernel
theorem dX4_watch_75 : decode cX4_watch 75 = .ok (.iload_n 1, 1) := by decide +kernel
theorem dX4_watch_76 : decode cX4_watch 76 = .ok (.iaload, 1) := by decide +kernel
theorem dX4_watch_77 : decode cX4_watch 77 = .ok (.iconst 2, 1) := by decide +kernel
theorem dX4_watch_78 : decode cX4_watch 78 = .ok (.iadd, 1) := by decide +kernel
theorem dX4_watch_79 : decode cX4_watch 79 = .ok (.invokestatic 88, 3) := by decide +kernel
theorem dX4_watch_82 : decode cX4_watch 82 = .ok (.iastore, 1) := by decide +kernel
theorem dX4_watch_83 : decode cX4_watch 83 = .ok (.aload_n 0, 1) := by decide +kernel
theorem dX4_watch_84 : decode cX4_watch 84 = .ok (.getfield 9, 3) := by decide +kernel
theorem dX4_watch_87 : decode cX4_watch 87 = .ok (.iload_n 1, 1) := by decide +kernel
theorem dX4_watch_88 : decode cX4_watch 88 = .ok (.iaload, 1) := by decide +kernel
theorem dX4_watch_89 : decode cX4_watch 89 = .ok (.aload_n 0, 1) := by decide +kernel
theorem dX4_watch_90 : decode cX4_watch 90 = .ok (.getfield 24, 3) := by decide +kernel
theorem dX4_watch_93 : decode cX4_watch 93 = .ok (.getfield 85, 3) := by decide +kernel
theorem dX4_watch_96 : decode cX4_watch 96 = .ok (.if_icmp .lt 13, 3) := by decide +kernel
theorem dX4_watch_99 : decode cX4_watch 99 = .ok (.aload_n 0, 1) := by decide +kernel
theorem dX4_watch_100 : decode cX4_watch 100 = .ok (.dup, 1) := by decide +kernel
theorem dX4_watch_101 : decode cX4_watch 101 = .ok (.getfield 34, 3) := by decide +kernel
theorem dX4_watch_104 : decode cX4_watch 104 = .ok (.iload_n 2, 1) := by decide +kernel
theorem dX4_watch_105 : decode cX4_watch 105 = .ok (.ior, 1) := by decide +kernel
theorem dX4_watch_106 : decode cX4_watch 106 = .ok (.putfield 34, 3) := by decide +kernel
theorem dX4_watch_109 : decode cX4_watch 109 = .ok (.return_, 1) := by decide +kernel
theorem dX4_wakeAll_0 : decode cX4_wakeAll 0 = .ok (.iconst 0, 1) := by decide +kernel
theorem dX4_wakeAll_1 : decode cX4_wakeAll 1 = .ok (.istore_n 1, 1) := by decide +kernel
theorem dX4_wakeAll_2 : decode cX4_wakeAll 2 = .ok (.iload_n 1, 1) := by decide +kernel
theorem dX4_wakeAll_3 : decode cX4_wakeAll 3 = .ok (.aload_n 0, 1) := by decide +kernel
theorem dX4_wakeAll_4 : decode cX4_wakeAll 4 = .ok (.getfield 24, 3) := by decide +kernel
theorem dX4_wakeAll_7 : decode cX4_wakeAll 7 = .ok (.getfield 47, 3) := by decide +kernel
theorem dX4_wakeAll_10 : decode cX4_wakeAll 10 = .ok (.if_icmp .ge 39, 3) := by decide +kernel
theorem dX4_wakeAll_13 : decode cX4_wakeAll 13 = .ok (.aload_n 0, 1) := by decide +kernel
theorem dX4_wakeAll_14 : decode cX4_wakeAll 14 = .ok (.getfield 34, 3) := by decide +kernel
theorem dX4_wakeAll_17 : decode cX4_wakeAll 17 = .ok (.iload_n 1, 1) := by decide +kernel
theorem dX4_wakeAll_18 : decode cX4_wakeAll 18 = .ok (.ishr, 1) := by decide +kernel
theorem dX4_wakeAll_19 : decode cX4_wakeAll 19 = .ok (.iconst 1, 1) := by decide +kernel
theorem dX4_wakeAll_20 : decode cX4_wakeAll 20 = .ok (.iand, 1) := by decide +kernel
theorem dX4_wakeAll_21 : decode cX4_wakeAll 21 = .ok (.ifCond .eq 22, 3) := by decide +kernel
theorem dX4_wakeAll_24 : decode cX4_wakeAll 24 = .ok (.aload_n 0, 1) := by decide +kernel
theorem dX4_wakeAll_25 : decode cX4_wakeAll 25 = .ok (.getfield 9, 3) := by decide +kernel
theorem dX4_wakeAll_28 : decode cX4_wakeAll 28 = .ok (.iload_n 1, 1) := by decide +kernel
theorem dX4_wakeAll_29 : decode cX4_wakeAll 29 = .ok (.bipush 99, 2) := by decide +kernel
theorem dX4_wakeAll_31 : decode cX4_wakeAll 31 = .ok (.aload_n 0, 1) := by decide +kernel
theorem dX4_wakeAll_32 : decode cX4_wakeAll 32 = .ok (.getfield 9, 3) := by decide +kernel
theorem dX4_wakeAll_35 : decode cX4_wakeAll 35 = .ok (.iload_n 1, 1) := by decide +kernel
theorem dX4_wakeAll_36 : decode cX4_wakeAll 36 = .ok (.iaload, 1) := by decide +kernel
theorem dX4_wakeAll_37 : decode cX4_wakeAll 37 = .ok (.iconst 3, 1) := by decide +kernel
theorem dX4_wakeAll_38 : decode cX4_wakeAll 38 = .ok (.iadd, 1) := by decide +kernel
theorem dX4_wakeAll_39 : decode cX4_wakeAll 39 = .ok (.invokestatic 88, 3) := by decide +kernel
theorem dX4_wakeAll_42 : decode cX4_wakeAll 42 = .ok (.iastore, 1) := by decide +kernel
theorem dX4_wakeAll_43 : decode cX4_wakeAll 43 = .ok (.iinc 1 1, 3) := by decide +kernel
theorem dX4_wakeAll_46 : decode cX4_wakeAll 46 = .ok (.goto (-44), 3) := by decide +kernel
theorem dX4_wakeAll_49 : decode cX4_wakeAll 49 = .ok (.aload_n 0, 1) := by decide +kernel
theorem dX4_wakeAll_50 : decode cX4_wakeAll 50 = .ok (.getfield 34, 3) := by decide +kernel
theorem dX4_wakeAll_53 : decode cX4_wakeAll 53 = .ok (.invokestatic 58, 3) := by decide +kernel
theorem dX4_wakeAll_56 : decode cX4_wakeAll 56 = .ok (.istore_n 1, 1) := by decide +kernel
theorem dX4_wakeAll_57 : decode cX4_wakeAll 57 = .ok (.aload_n 0, 1) := by decide +kernel
theorem dX4_wakeAll_58 : decode cX4_wakeAll 58 = .ok (.iconst 0, 1) := by decide +kernel
theorem dX4_wakeAll_59 : decode cX4_wakeAll 59 = .ok (.putfield 34, 3) := by decide +kernel
theorem dX4_wakeAll_62 : decode cX4_wakeAll 62 = .ok (.iload_n 1, 1) := by decide +kernel
theorem dX4_wakeAll_63 : decode cX4_wakeAll 63 = .ok (.ireturn, 1) := by decide +kernel
theorem dX4_waysAwake_0 : decode cX4_waysAwake 0 = .ok (.aload_n 0, 1) := by decide +kernel
theorem dX4_waysAwake_1 : decode cX4_waysAwake 1 = .ok (.getfield 34, 3) := by decide +kernel
theorem dX4_waysAwake_4 : decode cX4_waysAwake 4 = .ok (.iload_n 1, 1) := by decide +kernel
theorem dX4_waysAwake_5 : decode cX4_waysAwake 5 = .ok (.ishr, 1) := by decide +kernel
theorem dX4_waysAwake_6 : decode cX4_waysAwake 6 = .ok (.iconst 1, 1) := by decide +kernel
theorem dX4_waysAwake_7 : decode cX4_waysAwake 7 = .ok (.iand, 1) := by decide +kernel
theorem dX4_waysAwake_8 : decode cX4_waysAwake 8 = .ok (.ifCond .eq 5, 3) := by decide +kernel
theorem dX4_waysAwake_11 : decode cX4_waysAwake 11 = .ok (.lconst 0, 1) := by decide +kernel
theorem dX4_waysAwake_12 : decode cX4_waysAwake 12 = .ok (.lreturn, 1) := by decide +kernel
theorem dX4_waysAwake_13 : decode cX4_waysAwake 13 = .ok (.lconst 1, 1) := by decide +kernel
theorem dX4_waysAwake_14 : decode cX4_waysAwake 14 = .ok (.lstore 4, 2) := by decide +kernel
theorem dX4_waysAwake_16 : decode cX4_waysAwake 16 = .ok (.iconst 1, 1) := by decide +kernel
theorem dX4_waysAwake_17 : decode cX4_waysAwake 17 = .ok (.istore 6, 2) := by decide +kernel
theorem dX4_waysAwake_19 : decode cX4_waysAwake 19 = .ok (.iload 6, 2) := by decide +kernel
theorem dX4_waysAwake_21 : decode cX4_waysAwake 21 = .ok (.iload_n 2, 1) := by decide +kernel
theorem dX4_waysAwake_22 : decode cX4_waysAwake 22 = .ok (.if_icmp .gt 66, 3) := by decide +kernel
theorem dX4_waysAwake_25 : decode cX4_waysAwake 25 = .ok (.aload_n 0, 1) := by decide +kernel
theorem dX4_waysAwake_26 : decode cX4_waysAwake 26 = .ok (.getfield 9, 3) := by decide +kernel
theorem dX4_waysAwake_29 : decode cX4_waysAwake 29 = .ok (.iload_n 1, 1) := by decide +kernel
theorem dX4_waysAwake_30 : decode cX4_waysAwake 30 = .ok (.iaload, 1) := by decide +kernel
theorem dX4_waysAwake_31 : decode cX4_waysAwake 31 = .ok (.iconst 2, 1) := by decide +kernel
theorem dX4_waysAwake_32 : decode cX4_waysAwake 32 = .ok (.iload 6, 2) := by decide +kernel
theorem dX4_waysAwake_34 : decode cX4_waysAwake 34 = .ok (.imul, 1) := by decide +kernel
theorem dX4_waysAwake_35 : decode cX4_waysAwake 35 = .ok (.iadd, 1) := by decide +kernel
theorem dX4_waysAwake_36 : decode cX4_waysAwake 36 = .ok (.istore 7, 2) := by decide +kernel
theorem dX4_waysAwake_38 : decode cX4_waysAwake 38 = .ok (.iload 7, 2) := by decide +kernel
theorem dX4_waysAwake_40 : decode cX4_waysAwake 40 = .ok (.aload_n 0, 1) := by decide +kernel
theorem dX4_waysAwake_41 : decode cX4_waysAwake 41 = .ok (.getfield 24, 3) := by decide +kernel
theorem dX4_waysAwake_44 : decode cX4_waysAwake 44 = .ok (.getfield 85, 3) := by decide +kernel
theorem dX4_waysAwake_47 : decode cX4_waysAwake 47 = .ok (.if_icmp .lt 5, 3) := by decide +kernel
theorem dX4_waysAwake_50 : decode cX4_waysAwake 50 = .ok (.lconst 0, 1) := by decide +kernel
theorem dX4_waysAwake_51 : decode cX4_waysAwake 51 = .ok (.lreturn, 1) := by decide +kernel
theorem dX4_waysAwake_52 : decode cX4_waysAwake 52 = .ok (.lload 4, 2) := by decide +kernel
theorem dX4_waysAwake_54 : decode cX4_waysAwake 54 = .ok (.iconst 2, 1) := by decide +kernel
theorem dX4_waysAwake_55 : decode cX4_waysAwake 55 = .ok (.iload 7, 2) := by decide +kernel
theorem dX4_waysAwake_57 : decode cX4_waysAwake 57 = .ok (.imul, 1) := by decide +kernel
theorem dX4_waysAwake_58 : decode cX4_waysAwake 58 = .ok (.aload_n 0, 1) := by decide +kernel
theorem dX4_waysAwake_59 : decode cX4_waysAwake 59 = .ok (.getfield 24, 3) := by decide +kernel
theorem dX4_waysAwake_62 : decode cX4_waysAwake 62 = .ok (.getfield 85, 3) := by decide +kernel
theorem dX4_waysAwake_65 : decode cX4_waysAwake 65 = .ok (.if_icmp .lt 11, 3) := by decide +kernel
theorem dX4_waysAwake_68 : decode cX4_waysAwake 68 = .ok (.bipush 10, 2) := by decide +kernel
theorem dX4_waysAwake_70 : decode cX4_waysAwake 70 = .ok (.iload_n 3, 1) := by decide +kernel
theorem dX4_waysAwake_71 : decode cX4_waysAwake 71 = .ok (.isub, 1) := by decide +kernel
theorem dX4_waysAwake_72 : decode cX4_waysAwake 72 = .ok (.i2l, 1) := by decide +kernel
theorem dX4_waysAwake_73 : decode cX4_waysAwake 73 = .ok (.goto 6, 3) := by decide +kernel
theorem dX4_waysAwake_76 : decode cX4_waysAwake 76 = .ok (.ldc2_w 91, 3) := by decide +kernel
theorem dX4_waysAwake_79 : decode cX4_waysAwake 79 = .ok (.lmul, 1) := by decide +kernel
theorem dX4_waysAwake_80 : decode cX4_waysAwake 80 = .ok (.lstore 4, 2) := by decide +kernel
theorem dX4_waysAwake_82 : decode cX4_waysAwake 82 = .ok (.iinc 6 1, 3) := by decide +kernel
theorem dX4_waysAwake_85 : decode cX4_waysAwake 85 = .ok (.goto (-66), 3) := by decide +kernel
theorem dX4_waysAwake_88 : decode cX4_waysAwake 88 = .ok (.lload 4, 2) := by decide +kernel
theorem dX4_waysAwake_90 : decode cX4_waysAwake 90 = .ok (.lreturn, 1) := by decide +kernel
theorem dX4_spareOf_0 : decode cX4_spareOf 0 = .ok (.aload_n 0, 1) := by decide +kernel
theorem dX4_spareOf_1 : decode cX4_spareOf 1 = .ok (.getfield 24, 3) := by decide +kernel
theorem dX4_spareOf_4 : decode cX4_spareOf 4 = .ok (.iload_n 1, 1) := by decide +kernel
theorem dX4_spareOf_5 : decode cX4_spareOf 5 = .ok (.invokevirtual 93, 3) := by decide +kernel
theorem dX4_spareOf_8 : decode cX4_spareOf 8 = .ok (.ifCond .eq 23, 3) := by decide +kernel
theorem dX4_spareOf_11 : decode cX4_spareOf 11 = .ok (.iconst 0, 1) := by decide +kernel
theorem dX4_spareOf_12 : decode cX4_spareOf 12 = .ok (.aload_n 0, 1) := by decide +kernel
theorem dX4_spareOf_13 : decode cX4_spareOf 13 = .ok (.getfield 15, 3) := by decide +kernel
theorem dX4_spareOf_16 : decode cX4_spareOf 16 = .ok (.iload_n 1, 1) := by decide +kernel
theorem dX4_spareOf_17 : decode cX4_spareOf 17 = .ok (.iaload, 1) := by decide +kernel
theorem dX4_spareOf_18 : decode cX4_spareOf 18 = .ok (.aload_n 0, 1) := by decide +kernel
theorem dX4_spareOf_19 : decode cX4_spareOf 19 = .ok (.getfield 18, 3) := by decide +kernel
theorem dX4_spareOf_22 : decode cX4_spareOf 22 = .ok (.iload_n 1, 1) := by decide +kernel
theorem dX4_spareOf_23 : decode cX4_spareOf 23 = .ok (.iaload, 1) := by decide +kernel
theorem dX4_spareOf_24 : decode cX4_spareOf 24 = .ok (.isub, 1) := by decide +kernel
theorem dX4_spareOf_25 : decode cX4_spareOf 25 = .ok (.invokestatic 52, 3) := by decide +kernel
theorem dX4_spareOf_28 : decode cX4_spareOf 28 = .ok (.goto 4, 3) := by decide +kernel
theorem dX4_spareOf_31 : decode cX4_spareOf 31 = .ok (.iconst 0, 1) := by decide +kernel
theorem dX4_spareOf_32 : decode cX4_spareOf 32 = .ok (.ireturn, 1) := by decide +kernel
theorem dX5_init_0 : decode cX5_init 0 = .ok (.aload_n 0, 1) := by decide +kernel
theorem dX5_init_1 : decode cX5_init 1 = .ok (.invokespecial 3, 3) := by decide +kernel
theorem dX5_init_4 : decode cX5_init 4 = .ok (.aload_n 0, 1) := by decide +kernel
theorem dX5_init_5 : decode cX5_init 5 = .ok (.iconst 5, 1) := by decide +kernel
theorem dX5_init_6 : decode cX5_init 6 = .ok (.anewarray 9, 3) := by decide +kernel
theorem dX5_init_9 : decode cX5_init 9 = .ok (.putfield 11, 3) := by decide +kernel
theorem dX5_init_12 : decode cX5_init 12 = .ok (.aload_n 0, 1) := by decide +kernel
theorem dX5_init_13 : decode cX5_init 13 = .ok (.iconst 4, 1) := by decide +kernel
theorem dX5_init_14 : decode cX5_init 14 = .ok (.newarray .int, 2) := by decide +kernel
theorem dX5_init_16 : decode cX5_init 16 = .ok (.putfield 17, 3) := by decide +kernel
theorem dX5_init_19 : decode cX5_init 19 = .ok (.aload_n 0, 1) := by decide +kernel
theorem dX5_init_20 : decode cX5_init 20 = .ok (.iconst 4, 1) := by decide +kernel
theorem dX5_init_21 : decode cX5_init 21 = .ok (.newarray .int, 2) := by decide +kernel
theorem dX5_init_23 : decode cX5_init 23 = .ok (.putfield 21, 3) := by decide +kernel
theorem dX5_init_26 : decode cX5_init 26 = .ok (.aload_n 0, 1) := by decide +kernel
theorem dX5_init_27 : decode cX5_init 27 = .ok (.aload_n 1, 1) := by decide +kernel
theorem dX5_init_28 : decode cX5_init 28 = .ok (.putfield 24, 3) := by decide +kernel
theorem dX5_init_31 : decode cX5_init 31 = .ok (.iconst 0, 1) := by decide +kernel
theorem dX5_init_32 : decode cX5_init 32 = .ok (.istore_n 2, 1) := by decide +kernel
theorem dX5_init_33 : decode cX5_init 33 = .ok (.iload_n 2, 1) := by decide +kernel
theorem dX5_init_34 : decode cX5_init 34 = .ok (.iconst 4, 1) := by decide +kernel
theorem dX5_init_35 : decode cX5_init 35 = .ok (.if_icmp .gt 23, 3) := by decide +kernel
theorem dX5_init_38 : decode cX5_init 38 = .ok (.aload_n 0, 1) := by decide +kernel
theorem dX5_init_39 : decode cX5_init 39 = .ok (.getfield 11, 3) := by decide +kernel
theorem dX5_init_42 : decode cX5_init 42 = .ok (.iload_n 2, 1) := by decide +kernel
theorem dX5_init_43 : decode cX5_init 43 = .ok (.new 9, 3) := by decide +kernel
theorem dX5_init_46 : decode cX5_init 46 = .ok (.dup, 1) := by decide +kernel
theorem dX5_init_47 : decode cX5_init 47 = .ok (.aload_n 1, 1) := by decide +kernel
theorem dX5_init_48 : decode cX5_init 48 = .ok (.invokespecial 28, 3) := by decide +kernel
theorem dX5_init_51 : decode cX5_init 51 = .ok (.aastore, 1) := by decide +kernel
theorem dX5_init_52 : decode cX5_init 52 = .ok (.iinc 2 1, 3) := by decide +kernel
theorem dX5_init_55 : decode cX5_init 55 = .ok (.goto (-22), 3) := by decide +kernel
theorem dX5_init_58 : decode cX5_init 58 = .ok (.return_, 1) := by decide +kernel
theorem dX5_forget_0 : decode cX5_forget 0 = .ok (.aload_n 0, 1) := by decide +kernel
theorem dX5_forget_1 : decode cX5_forget 1 = .ok (.iconst 0, 1) := by decide +kernel
theorem dX5_forget_2 : decode cX5_forget 2 = .ok (.putfield 31, 3) := by decide +kernel
theorem dX5_forget_5 : decode cX5_forget 5 = .ok (.return_, 1) := by decide +kernel
theorem dX5_run_0 : decode cX5_run 0 = .ok (.aload_n 0, 1) := by decide +kernel
theorem dX5_run_1 : decode cX5_run 1 = .ok (.getfield 31, 3) := by decide +kernel
theorem dX5_run_4 : decode cX5_run 4 = .ok (.iload_n 2, 1) := by decide +kernel
theorem dX5_run_5 : decode cX5_run 5 = .ok (.if_icmp .ne 17, 3) := by decide +kernel
theorem dX5_run_8 : decode cX5_run 8 = .ok (.aload_n 0, 1) := by decide +kernel
theorem dX5_run_9 : decode cX5_run 9 = .ok (.getfield 11, 3) := by decide +kernel
theorem dX5_run_12 : decode cX5_run 12 = .ok (.iconst 0, 1) := by decide +kernel
theorem dX5_run_13 : decode cX5_run 13 = .ok (.aaload, 1) := by decide +kernel
theorem dX5_run_14 : decode cX5_run 14 = .ok (.aload_n 1, 1) := by decide +kernel
theorem dX5_run_15 : decode cX5_run 15 = .ok (.invokevirtual 35, 3) := by decide +kernel
theorem dX5_run_18 : decode cX5_run 18 = .ok (.ifCond .eq 4, 3) := by decide +kernel
theorem dX5_run_21 : decode cX5_run 21 = .ok (.return_, 1) := by decide +kernel
theorem dX5_run_22 : decode cX5_run 22 = .ok (.aload_n 0, 1) := by decide +kernel
theorem dX5_run_23 : decode cX5_run 23 = .ok (.iload_n 2, 1) := by decide +kernel
theorem dX5_run_24 : decode cX5_run 24 = .ok (.putfield 31, 3) := by decide +kernel
theorem dX5_run_27 : decode cX5_run 27 = .ok (.aload_n 0, 1) := by decide +kernel
theorem dX5_run_28 : decode cX5_run 28 = .ok (.iconst 0, 1) := by decide +kernel
theorem dX5_run_29 : decode cX5_run 29 = .ok (.putfield 39, 3) := by decide +kernel
theorem dX5_run_32 : decode cX5_run 32 = .ok (.aload_n 0, 1) := by decide +kernel
theorem dX5_run_33 : decode cX5_run 33 = .ok (.sipush 496, 3) := by decide +kernel
theorem dX5_run_36 : decode cX5_run 36 = .ok (.putfield 43, 3) := by decide +kernel
theorem dX5_run_39 : decode cX5_run 39 = .ok (.aload_n 0, 1) := by decide +kernel
theorem dX5_run_40 : decode cX5_run 40 = .ok (.getfield 11, 3) := by decide +kernel
end
section
theorem dX5_run_43 : decode cX5_run 43 = .ok (.iconst 0, 1) := by decide +kernel
theorem dX5_run_44 : decode cX5_run 44 = .ok (.aaload, 1) := by decide +kernel
theorem dX5_run_45 : decode cX5_run 45 = .ok (.aload_n 1, 1) := by decide +kernel
theorem dX5_run_46 : decode cX5_run 46 = .ok (.invokevirtual 46, 3) := by decide +kernel
theorem dX5_run_49 : decode cX5_run 49 = .ok (.aload_n 0, 1) := by decide +kernel
theorem dX5_run_50 : decode cX5_run 50 = .ok (.iconst 0, 1) := by decide +kernel
theorem dX5_run_51 : decode cX5_run 51 = .ok (.iload_n 2, 1) := by decide +kernel
theorem dX5_run_52 : decode cX5_run 52 = .ok (.invokestatic 50, 3) := by decide +kernel
theorem dX5_run_55 : decode cX5_run 55 = .ok (.return_, 1) := by decide +kernel
theorem dX5_seek_0 : decode cX5_seek 0 = .ok (.aload_n 0, 1) := by decide +kernel
theorem dX5_seek_1 : decode cX5_seek 1 = .ok (.getfield 11, 3) := by decide +kernel
theorem dX5_seek_4 : decode cX5_seek 4 = .ok (.iload_n 1, 1) := by decide +kernel
theorem dX5_seek_5 : decode cX5_seek 5 = .ok (.aaload, 1) := by decide +kernel
theorem dX5_seek_6 : decode cX5_seek 6 = .ok (.astore_n 3, 1) := by decide +kernel
theorem dX5_seek_7 : decode cX5_seek 7 = .ok (.iload_n 2, 1) := by decide +kernel
theorem dX5_seek_8 : decode cX5_seek 8 = .ok (.iload_n 1, 1) := by decide +kernel
theorem dX5_seek_9 : decode cX5_seek 9 = .ok (.isub, 1) := by decide +kernel
theorem dX5_seek_10 : decode cX5_seek 10 = .ok (.istore 4, 2) := by decide +kernel
theorem dX5_seek_12 : decode cX5_seek 12 = .ok (.aload_n 3, 1) := by decide +kernel
theorem dX5_seek_13 : decode cX5_seek 13 = .ok (.iload 4, 2) := by decide +kernel
theorem dX5_seek_15 : decode cX5_seek 15 = .ok (.invokevirtual 54, 3) := by decide +kernel
theorem dX5_seek_18 : decode cX5_seek 18 = .ok (.aload_n 0, 1) := by decide +kernel
theorem dX5_seek_19 : decode cX5_seek 19 = .ok (.getfield 43, 3) := by decide +kernel
theorem dX5_seek_22 : decode cX5_seek 22 = .ok (.if_icmp .lt 4, 3) := by decide +kernel
theorem dX5_seek_25 : decode cX5_seek 25 = .ok (.return_, 1) := by decide +kernel
theorem dX5_seek_26 : decode cX5_seek 26 = .ok (.iload 4, 2) := by decide +kernel
theorem dX5_seek_28 : decode cX5_seek 28 = .ok (.ifCond .le 8, 3) := by decide +kernel
theorem dX5_seek_31 : decode cX5_seek 31 = .ok (.iload_n 1, 1) := by decide +kernel
theorem dX5_seek_32 : decode cX5_seek 32 = .ok (.iconst 4, 1) := by decide +kernel
theorem dX5_seek_33 : decode cX5_seek 33 = .ok (.if_icmp .lt 31, 3) := by decide +kernel
theorem dX5_seek_36 : decode cX5_seek 36 = .ok (.aload_n 0, 1) := by decide +kernel
theorem dX5_seek_37 : decode cX5_seek 37 = .ok (.iconst 1, 1) := by decide +kernel
theorem dX5_seek_38 : decode cX5_seek 38 = .ok (.putfield 39, 3) := by decide +kernel
theorem dX5_seek_41 : decode cX5_seek 41 = .ok (.aload_n 0, 1) := by decide +kernel
theorem dX5_seek_42 : decode cX5_seek 42 = .ok (.aload_n 3, 1) := by decide +kernel
theorem dX5_seek_43 : decode cX5_seek 43 = .ok (.invokevirtual 58, 3) := by decide +kernel
theorem dX5_seek_46 : decode cX5_seek 46 = .ok (.putfield 43, 3) := by decide +kernel
theorem dX5_seek_49 : decode cX5_seek 49 = .ok (.aload_n 0, 1) := by decide +kernel
theorem dX5_seek_50 : decode cX5_seek 50 = .ok (.getfield 17, 3) := by decide +kernel
theorem dX5_seek_53 : decode cX5_seek 53 = .ok (.iconst 0, 1) := by decide +kernel
theorem dX5_seek_54 : decode cX5_seek 54 = .ok (.aload_n 0, 1) := by decide +kernel
theorem dX5_seek_55 : decode cX5_seek 55 = .ok (.getfield 21, 3) := by decide +kernel
theorem dX5_seek_58 : decode cX5_seek 58 = .ok (.iconst 0, 1) := by decide +kernel
theorem dX5_seek_59 : decode cX5_seek 59 = .ok (.iconst 4, 1) := by decide +kernel
theorem dX5_seek_60 : decode cX5_seek 60 = .ok (.invokestatic 62, 3) := by decide +kernel
theorem dX5_seek_63 : decode cX5_seek 63 = .ok (.return_, 1) := by decide +kernel
theorem dX5_seek_64 : decode cX5_seek 64 = .ok (.aload_n 0, 1) := by decide +kernel
theorem dX5_seek_65 : decode cX5_seek 65 = .ok (.getfield 11, 3) := by decide +kernel
theorem dX5_seek_68 : decode cX5_seek 68 = .ok (.iload_n 1, 1) := by decide +kernel
theorem dX5_seek_69 : decode cX5_seek 69 = .ok (.iconst 1, 1) := by decide +kernel
theorem dX5_seek_70 : decode cX5_seek 70 = .ok (.iadd, 1) := by decide +kernel
theorem dX5_seek_71 : decode cX5_seek 71 = .ok (.aaload, 1) := by decide +kernel
theorem dX5_seek_72 : decode cX5_seek 72 = .ok (.astore 5, 2) := by decide +kernel
theorem dX5_seek_74 : decode cX5_seek 74 = .ok (.aload_n 0, 1) := by decide +kernel
theorem dX5_seek_75 : decode cX5_seek 75 = .ok (.getfield 24, 3) := by decide +kernel
theorem dX5_seek_78 : decode cX5_seek 78 = .ok (.invokevirtual 68, 3) := by decide +kernel
theorem dX5_seek_81 : decode cX5_seek 81 = .ok (.istore 6, 2) := by decide +kernel
theorem dX5_seek_83 : decode cX5_seek 83 = .ok (.iconst 0, 1) := by decide +kernel
theorem dX5_seek_84 : decode cX5_seek 84 = .ok (.istore 7, 2) := by decide +kernel
theorem dX5_seek_86 : decode cX5_seek 86 = .ok (.iload 7, 2) := by decide +kernel
theorem dX5_seek_88 : decode cX5_seek 88 = .ok (.iload 6, 2) := by decide +kernel
theorem dX5_seek_90 : decode cX5_seek 90 = .ok (.if_icmp .gt 50, 3) := by decide +kernel
theorem dX5_seek_93 : decode cX5_seek 93 = .ok (.aload_n 3, 1) := by decide +kernel
theorem dX5_seek_94 : decode cX5_seek 94 = .ok (.iload 7, 2) := by decide +kernel
theorem dX5_seek_96 : decode cX5_seek 96 = .ok (.invokevirtual 73, 3) := by decide +kernel
theorem dX5_seek_99 : decode cX5_seek 99 = .ok (.ifCond .eq 35, 3) := by decide +kernel
theorem dX5_seek_102 : decode cX5_seek 102 = .ok (.aload 5, 2) := by decide +kernel
theorem dX5_seek_104 : decode cX5_seek 104 = .ok (.aload_n 3, 1) := by decide +kernel
theorem dX5_seek_105 : decode cX5_seek 105 = .ok (.invokevirtual 46, 3) := by decide +kernel
theorem dX5_seek_108 : decode cX5_seek 108 = .ok (.aload 5, 2) := by decide +kernel
theorem dX5_seek_110 : decode cX5_seek 110 = .ok (.iload 7, 2) := by decide +kernel
theorem dX5_seek_112 : decode cX5_seek 112 = .ok (.invokevirtual 77, 3) := by decide +kernel
theorem dX5_seek_115 : decode cX5_seek 115 = .ok (.ifCond .eq 19, 3) := by decide +kernel
theorem dX5_seek_118 : decode cX5_seek 118 = .ok (.aload_n 0, 1) := by decide +kernel
theorem dX5_seek_119 : decode cX5_seek 119 = .ok (.getfield 17, 3) := by decide +kernel
theorem dX5_seek_122 : decode cX5_seek 122 = .ok (.iload_n 1, 1) := by decide +kernel
theorem dX5_seek_123 : decode cX5_seek 123 = .ok (.iload 7, 2) := by decide +kernel
theorem dX5_seek_125 : decode cX5_seek 125 = .ok (.iastore, 1) := by decide +kernel
theorem dX5_seek_126 : decode cX5_seek 126 = .ok (.aload_n 0, 1) := by decide +kernel
theorem dX5_seek_127 : decode cX5_seek 127 = .ok (.iload_n 1, 1) := by decide +kernel
theorem dX5_seek_128 : decode cX5_seek 128 = .ok (.iconst 1, 1) := by decide +kernel
theorem dX5_seek_129 : decode cX5_seek 129 = .ok (.iadd, 1) := by decide +kernel
theorem dX5_seek_130 : decode cX5_seek 130 = .ok (.iload_n 2, 1) := by decide +kernel
theorem dX5_seek_131 : decode cX5_seek 131 = .ok (.invokestatic 50, 3) := by decide +kernel
theorem dX5_seek_134 : decode cX5_seek 134 = .ok (.iinc 7 1, 3) := by decide +kernel
theorem dX5_seek_137 : decode cX5_seek 137 = .ok (.goto (-51), 3) := by decide +kernel
theorem dX5_seek_140 : decode cX5_seek 140 = .ok (.return_, 1) := by decide +kernel
theorem dX6_init_0 : decode cX6_init 0 = .ok (.aload_n 0, 1) := by decide +kernel
theorem dX6_init_1 : decode cX6_init 1 = .ok (.invokespecial 3, 3) := by decide +kernel
theorem dX6_init_4 : decode cX6_init 4 = .ok (.aload_n 0, 1) := by decide +kernel
theorem dX6_init_5 : decode cX6_init 5 = .ok (.iconst 4, 1) := by decide +kernel
theorem dX6_init_6 : decode cX6_init 6 = .ok (.newarray .int, 2) := by decide +kernel
theorem dX6_init_8 : decode cX6_init 8 = .ok (.putfield 9, 3) := by decide +kernel
theorem dX6_init_11 : decode cX6_init 11 = .ok (.aload_n 0, 1) := by decide +kernel
theorem dX6_init_12 : decode cX6_init 12 = .ok (.new 15, 3) := by decide +kernel
theorem dX6_init_15 : decode cX6_init 15 = .ok (.dup, 1) := by decide +kernel
theorem dX6_init_16 : decode cX6_init 16 = .ok (.aload_n 1, 1) := by decide +kernel
theorem dX6_init_17 : decode cX6_init 17 = .ok (.invokespecial 17, 3) := by decide +kernel
theorem dX6_init_20 : decode cX6_init 20 = .ok (.putfield 20, 3) := by decide +kernel
theorem dX6_init_23 : decode cX6_init 23 = .ok (.return_, 1) := by decide +kernel
theorem dX6_store_0 : decode cX6_store 0 = .ok (.aload_n 0, 1) := by decide +kernel
theorem dX6_store_1 : decode cX6_store 1 = .ok (.getfield 20, 3) := by decide +kernel
theorem dX6_store_4 : decode cX6_store 4 = .ok (.aload_n 1, 1) := by decide +kernel
theorem dX6_store_5 : decode cX6_store 5 = .ok (.invokevirtual 24, 3) := by decide +kernel
theorem dX6_store_8 : decode cX6_store 8 = .ok (.aload_n 2, 1) := by decide +kernel
theorem dX6_store_9 : decode cX6_store 9 = .ok (.iconst 0, 1) := by decide +kernel
theorem dX6_store_10 : decode cX6_store 10 = .ok (.aload_n 0, 1) := by decide +kernel
theorem dX6_store_11 : decode cX6_store 11 = .ok (.getfield 9, 3) := by decide +kernel
theorem dX6_store_14 : decode cX6_store 14 = .ok (.iconst 0, 1) := by decide +kernel
theorem dX6_store_15 : decode cX6_store 15 = .ok (.iconst 4, 1) := by decide +kernel
theorem dX6_store_16 : decode cX6_store 16 = .ok (.invokestatic 28, 3) := by decide +kernel
theorem dX6_store_19 : decode cX6_store 19 = .ok (.aload_n 0, 1) := by decide +kernel
theorem dX6_store_20 : decode cX6_store 20 = .ok (.iconst 1, 1) := by decide +kernel
theorem dX6_store_21 : decode cX6_store 21 = .ok (.putfield 34, 3) := by decide +kernel
theorem dX6_store_24 : decode cX6_store 24 = .ok (.return_, 1) := by decide +kernel
theorem dX6_restore_0 : decode cX6_restore 0 = .ok (.aload_n 1, 1) := by decide +kernel
theorem dX6_restore_1 : decode cX6_restore 1 = .ok (.aload_n 0, 1) := by decide +kernel
theorem dX6_restore_2 : decode cX6_restore 2 = .ok (.getfield 20, 3) := by decide +kernel
theorem dX6_restore_5 : decode cX6_restore 5 = .ok (.invokevirtual 24, 3) := by decide +kernel
theorem dX6_restore_8 : decode cX6_restore 8 = .ok (.aload_n 0, 1) := by decide +kernel
theorem dX6_restore_9 : decode cX6_restore 9 = .ok (.getfield 9, 3) := by decide +kernel
theorem dX6_restore_12 : decode cX6_restore 12 = .ok (.iconst 0, 1) := by decide +kernel
theorem dX6_restore_13 : decode cX6_restore 13 = .ok (.aload_n 2, 1) := by decide +kernel
theorem dX6_restore_14 : decode cX6_restore 14 = .ok (.iconst 0, 1) := by decide +kernel
theorem dX6_restore_15 : decode cX6_restore 15 = .ok (.iconst 4, 1) := by decide +kernel
theorem dX6_restore_16 : decode cX6_restore 16 = .ok (.invokestatic 28, 3) := by decide +kernel
theorem dX6_restore_19 : decode cX6_restore 19 = .ok (.return_, 1) := by decide +kernel
theorem dX7_init_0 : decode cX7_init 0 = .ok (.aload_n 0, 1) := by decide +kernel
theorem dX7_init_1 : decode cX7_init 1 = .ok (.invokespecial 3, 3) := by decide +kernel
theorem dX7_init_4 : decode cX7_init 4 = .ok (.aload_n 0, 1) := by decide +kernel
theorem dX7_init_5 : decode cX7_init 5 = .ok (.bipush 48, 2) := by decide +kernel
theorem dX7_init_7 : decode cX7_init 7 = .ok (.newarray .byte, 2) := by decide +kernel
theorem dX7_init_9 : decode cX7_init 9 = .ok (.putfield 9, 3) := by decide +kernel
theorem dX7_init_12 : decode cX7_init 12 = .ok (.return_, 1) := by decide +kernel
theorem dX7_append_0 : decode cX7_append 0 = .ok (.iload_n 1, 1) := by decide +kernel
theorem dX7_append_1 : decode cX7_append 1 = .ok (.iconst 1, 1) := by decide +kernel
theorem dX7_append_2 : decode cX7_append 2 = .ok (.isub, 1) := by decide +kernel
theorem dX7_append_3 : decode cX7_append 3 = .ok (.istore 4, 2) := by decide +kernel
theorem dX7_append_5 : decode cX7_append 5 = .ok (.iload 4, 2) := by decide +kernel
theorem dX7_append_7 : decode cX7_append 7 = .ok (.ifCond .lt 46, 3) := by decide +kernel
theorem dX7_append_10 : decode cX7_append 10 = .ok (.aload_n 0, 1) := by decide +kernel
theorem dX7_append_11 : decode cX7_append 11 = .ok (.getfield 15, 3) := by decide +kernel
theorem dX7_append_14 : decode cX7_append 14 = .ok (.bipush 48, 2) := by decide +kernel
theorem dX7_append_16 : decode cX7_append 16 = .ok (.if_icmp .ge 37, 3) := by decide +kernel
theorem dX7_append_19 : decode cX7_append 19 = .ok (.aload_n 0, 1) := by decide +kernel
theorem dX7_append_20 : decode cX7_append 20 = .ok (.getfield 9, 3) := by decide +kernel
theorem dX7_append_23 : decode cX7_append 23 = .ok (.aload_n 0, 1) := by decide +kernel
theorem dX7_append_24 : decode cX7_append 24 = .ok (.getfield 15, 3) := by decide +kernel
theorem dX7_append_27 : decode cX7_append 27 = .ok (.lload_n 2, 1) := by decide +kernel
theorem dX7_append_28 : decode cX7_append 28 = .ok (.bipush 8, 2) := by decide +kernel
theorem dX7_append_30 : decode cX7_append 30 = .ok (.iload 4, 2) := by decide +kernel
theorem dX7_append_32 : decode cX7_append 32 = .ok (.imul, 1) := by decide +kernel
theorem dX7_append_33 : decode cX7_append 33 = .ok (.lshr, 1) := by decide +kernel
theorem dX7_append_34 : decode cX7_append 34 = .ok (.l2i, 1) := by decide +kernel
theorem dX7_append_35 : decode cX7_append 35 = .ok (.i2b, 1) := by decide +kernel
theorem dX7_append_36 : decode cX7_append 36 = .ok (.bastore, 1) := by decide +kernel
theorem dX7_append_37 : decode cX7_append 37 = .ok (.aload_n 0, 1) := by decide +kernel
theorem dX7_append_38 : decode cX7_append 38 = .ok (.dup, 1) := by decide +kernel
theorem dX7_append_39 : decode cX7_append 39 = .ok (.getfield 15, 3) := by decide +kernel
theorem dX7_append_42 : decode cX7_append 42 = .ok (.iconst 1, 1) := by decide +kernel
theorem dX7_append_43 : decode cX7_append 43 = .ok (.iadd, 1) := by decide +kernel
theorem dX7_append_44 : decode cX7_append 44 = .ok (.putfield 15, 3) := by decide +kernel
theorem dX7_append_47 : decode cX7_append 47 = .ok (.iinc 4 (-1), 3) := by decide +kernel
theorem dX7_append_50 : decode cX7_append 50 = .ok (.goto (-45), 3) := by decide +kernel
theorem dX7_append_53 : decode cX7_append 53 = .ok (.return_, 1) := by decide +kernel
theorem dX8_init_0 : decode cX8_init 0 = .ok (.aload_n 0, 1) := by decide +kernel
theorem dX8_init_1 : decode cX8_init 1 = .ok (.invokespecial 1, 3) := by decide +kernel
theorem dX8_init_4 : decode cX8_init 4 = .ok (.aload_n 0, 1) := by decide +kernel
theorem dX8_init_5 : decode cX8_init 5 = .ok (.new 7, 3) := by decide +kernel
theorem dX8_init_8 : decode cX8_init 8 = .ok (.dup, 1) := by decide +kernel
theorem dX8_init_9 : decode cX8_init 9 = .ok (.invokespecial 9, 3) := by decide +kernel
theorem dX8_init_12 : decode cX8_init 12 = .ok (.putfield 10, 3) := by decide +kernel
theorem dX8_init_15 : decode cX8_init 15 = .ok (.aload_n 0, 1) := by decide +kernel
theorem dX8_init_16 : decode cX8_init 16 = .ok (.new 16, 3) := by decide +kernel
theorem dX8_init_19 : decode cX8_init 19 = .ok (.dup, 1) := by decide +kernel
theorem dX8_init_20 : decode cX8_init 20 = .ok (.aload_n 0, 1) := by decide +kernel
theorem dX8_init_21 : decode cX8_init 21 = .ok (.getfield 10, 3) := by decide +kernel
theorem dX8_init_24 : decode cX8_init 24 = .ok (.invokespecial 18, 3) := by decide +kernel
theorem dX8_init_27 : decode cX8_init 27 = .ok (.putfield 21, 3) := by decide +kernel
theorem dX8_init_30 : decode cX8_init 30 = .ok (.aload_n 0, 1) := by decide +kernel
theorem dX8_init_31 : decode cX8_init 31 = .ok (.new 25, 3) := by decide +kernel
theorem dX8_init_34 : decode cX8_init 34 = .ok (.dup, 1) := by decide +kernel
theorem dX8_init_35 : decode cX8_init 35 = .ok (.invokespecial 27, 3) := by decide +kernel
theorem dX8_init_38 : decode cX8_init 38 = .ok (.putfield 28, 3) := by decide +kernel
theorem dX8_init_41 : decode cX8_init 41 = .ok (.aload_n 0, 1) := by decide +kernel
theorem dX8_init_42 : decode cX8_init 42 = .ok (.new 32, 3) := by decide +kernel
theorem dX8_init_45 : decode cX8_init 45 = .ok (.dup, 1) := by decide +kernel
theorem dX8_init_46 : decode cX8_init 46 = .ok (.aload_n 0, 1) := by decide +kernel
theorem dX8_init_47 : decode cX8_init 47 = .ok (.getfield 28, 3) := by decide +kernel
theorem dX8_init_50 : decode cX8_init 50 = .ok (.invokespecial 34, 3) := by decide +kernel
theorem dX8_init_53 : decode cX8_init 53 = .ok (.putfield 37, 3) := by decide +kernel
theorem dX8_init_56 : decode cX8_init 56 = .ok (.aload_n 0, 1) := by decide +kernel
theorem dX8_init_57 : decode cX8_init 57 = .ok (.new 32, 3) := by decide +kernel
theorem dX8_init_60 : decode cX8_init 60 = .ok (.dup, 1) := by decide +kernel
theorem dX8_init_61 : decode cX8_init 61 = .ok (.aload_n 0, 1) := by decide +kernel
theorem dX8_init_62 : decode cX8_init 62 = .ok (.getfield 28, 3) := by decide +kernel
theorem dX8_init_65 : decode cX8_init 65 = .ok (.invokespecial 34, 3) := by decide +kernel
theorem dX8_init_68 : decode cX8_init 68 = .ok (.putfield 41, 3) := by decide +kernel
theorem dX8_init_71 : decode cX8_init 71 = .ok (.aload_n 0, 1) := by decide +kernel
theorem dX8_init_72 : decode cX8_init 72 = .ok (.iconst 4, 1) := by decide +kernel
theorem dX8_init_73 : decode cX8_init 73 = .ok (.newarray .int, 2) := by decide +kernel
theorem dX8_init_75 : decode cX8_init 75 = .ok (.putfield 44, 3) := by decide +kernel
theorem dX8_init_78 : decode cX8_init 78 = .ok (.aload_n 0, 1) := by decide +kernel
theorem dX8_init_79 : decode cX8_init 79 = .ok (.new 48, 3) := by decide +kernel
theorem dX8_init_82 : decode cX8_init 82 = .ok (.dup, 1) := by decide +kernel
theorem dX8_init_83 : decode cX8_init 83 = .ok (.aload_n 0, 1) := by decide +kernel
theorem dX8_init_84 : decode cX8_init 84 = .ok (.getfield 28, 3) := by decide +kernel
theorem dX8_init_87 : decode cX8_init 87 = .ok (.invokespecial 50, 3) := by decide +kernel
theorem dX8_init_90 : decode cX8_init 90 = .ok (.putfield 51, 3) := by decide +kernel
theorem dX8_init_93 : decode cX8_init 93 = .ok (.aload_n 0, 1) := by decide +kernel
theorem dX8_init_94 : decode cX8_init 94 = .ok (.new 55, 3) := by decide +kernel
theorem dX8_init_97 : decode cX8_init 97 = .ok (.dup, 1) := by decide +kernel
theorem dX8_init_98 : decode cX8_init 98 = .ok (.aload_n 0, 1) := by decide +kernel
theorem dX8_init_99 : decode cX8_init 99 = .ok (.getfield 28, 3) := by decide +kernel
theorem dX8_init_102 : decode cX8_init 102 = .ok (.invokespecial 57, 3) := by decide +kernel
theorem dX8_init_105 : decode cX8_init 105 = .ok (.putfield 58, 3) := by decide +kernel
theorem dX8_init_108 : decode cX8_init 108 = .ok (.aload_n 0, 1) := by decide +kernel
theorem dX8_init_109 : decode cX8_init 109 = .ok (.new 62, 3) := by decide +kernel
theorem dX8_init_112 : decode cX8_init 112 = .ok (.dup, 1) := by decide +kernel
theorem dX8_init_113 : decode cX8_init 113 = .ok (.invokespecial 64, 3) := by decide +kernel
theorem dX8_init_116 : decode cX8_init 116 = .ok (.putfield 65, 3) := by decide +kernel
theorem dX8_init_119 : decode cX8_init 119 = .ok (.aload_n 0, 1) := by decide +kernel
theorem dX8_init_120 : decode cX8_init 120 = .ok (.iconst 2, 1) := by decide +kernel
theorem dX8_init_121 : decode cX8_init 121 = .ok (.anewarray 69, 3) := by decide +kernel
theorem dX8_init_124 : decode cX8_init 124 = .ok (.putfield 71, 3) := by decide +kernel
theorem dX8_init_127 : decode cX8_init 127 = .ok (.iconst 0, 1) := by decide +kernel
theorem dX8_init_128 : decode cX8_init 128 = .ok (.istore_n 1, 1) := by decide +kernel
theorem dX8_init_129 : decode cX8_init 129 = .ok (.iload_n 1, 1) := by decide +kernel
theorem dX8_init_130 : decode cX8_init 130 = .ok (.iconst 2, 1) := by decide +kernel
theorem dX8_init_131 : decode cX8_init 131 = .ok (.if_icmp .ge 26, 3) := by decide +kernel
theorem dX8_init_134 : decode cX8_init 134 = .ok (.aload_n 0, 1) := by decide +kernel
theorem dX8_init_135 : decode cX8_init 135 = .ok (.getfield 71, 3) := by decide +kernel
theorem dX8_init_138 : decode cX8_init 138 = .ok (.iload_n 1, 1) := by decide +kernel
theorem dX8_init_139 : decode cX8_init 139 = .ok (.new 69, 3) := by decide +kernel
theorem dX8_init_142 : decode cX8_init 142 = .ok (.dup, 1) := by decide +kernel
theorem dX8_init_143 : decode cX8_init 143 = .ok (.aload_n 0, 1) := by decide +kernel
theorem dX8_init_144 : decode cX8_init 144 = .ok (.getfield 28, 3) := by decide +kernel
theorem dX8_init_147 : decode cX8_init 147 = .ok (.invokespecial 75, 3) := by decide +kernel
theorem dX8_init_150 : decode cX8_init 150 = .ok (.aastore, 1) := by decide +kernel
theorem dX8_init_151 : decode cX8_init 151 = .ok (.iinc 1 1, 3) := by decide +kernel
theorem dX8_init_154 : decode cX8_init 154 = .ok (.goto (-25), 3) := by decide +kernel
theorem dX8_init_157 : decode cX8_init 157 = .ok (.return_, 1) := by decide +kernel
theorem dX8_write_0 : decode cX8_write 0 = .ok (.iload_n 1, 1) := by decide +kernel
theorem dX8_write_1 : decode cX8_write 1 = .ok (.iconst 1, 1) := by decide +kernel
theorem dX8_write_2 : decode cX8_write 2 = .ok (.if_icmp .lt 9, 3) := by decide +kernel
theorem dX8_write_5 : decode cX8_write 5 = .ok (.iload_n 1, 1) := by decide +kernel
theorem dX8_write_6 : decode cX8_write 6 = .ok (.bipush 8, 2) := by decide +kernel
theorem dX8_write_8 : decode cX8_write 8 = .ok (.if_icmp .le 6, 3) := by decide +kernel
theorem dX8_write_11 : decode cX8_write 11 = .ok (.bipush (-2), 2) := by decide +kernel
theorem dX8_write_13 : decode cX8_write 13 = .ok (.ireturn, 1) := by decide +kernel
theorem dX8_write_14 : decode cX8_write 14 = .ok (.iload_n 1, 1) := by decide +kernel
theorem dX8_write_15 : decode cX8_write 15 = .ok (.bipush 48, 2) := by decide +kernel
theorem dX8_write_17 : decode cX8_write 17 = .ok (.aload_n 0, 1) := by decide +kernel
theorem dX8_write_18 : decode cX8_write 18 = .ok (.getfield 10, 3) := by decide +kernel
theorem dX8_write_21 : decode cX8_write 21 = .ok (.getfield 76, 3) := by decide +kernel
theorem dX8_write_24 : decode cX8_write 24 = .ok (.isub, 1) := by decide +kernel
theorem dX8_write_25 : decode cX8_write 25 = .ok (.if_icmp .le 6, 3) := by decide +kernel
theorem dX8_write_28 : decode cX8_write 28 = .ok (.bipush (-4), 2) := by decide +kernel
theorem dX8_write_30 : decode cX8_write 30 = .ok (.ireturn, 1) := by decide +kernel
theorem dX8_write_31 : decode cX8_write 31 = .ok (.aload_n 0, 1) := by decide +kernel
theorem dX8_write_32 : decode cX8_write 32 = .ok (.getfield 10, 3) := by decide +kernel
theorem dX8_write_35 : decode cX8_write 35 = .ok (.iload_n 1, 1) := by decide +kernel
theorem dX8_write_36 : decode cX8_write 36 = .ok (.lload_n 2, 1) := by decide +kernel
theorem dX8_write_37 : decode cX8_write 37 = .ok (.invokevirtual 80, 3) := by decide +kernel
theorem dX8_write_40 : decode cX8_write 40 = .ok (.aload_n 0, 1) := by decide +kernel
theorem dX8_write_41 : decode cX8_write 41 = .ok (.getfield 10, 3) := by decide +kernel
theorem dX8_write_44 : decode cX8_write 44 = .ok (.getfield 76, 3) := by decide +kernel
theorem dX8_write_47 : decode cX8_write 47 = .ok (.ireturn, 1) := by decide +kernel
theorem dX8_wipe_0 : decode cX8_wipe 0 = .ok (.aload_n 0, 1) := by decide +kernel
theorem dX8_wipe_1 : decode cX8_wipe 1 = .ok (.getfield 10, 3) := by decide +kernel
theorem dX8_wipe_4 : decode cX8_wipe 4 = .ok (.getfield 76, 3) := by decide +kernel
theorem dX8_wipe_7 : decode cX8_wipe 7 = .ok (.istore_n 1, 1) := by decide +kernel
theorem dX8_wipe_8 : decode cX8_wipe 8 = .ok (.aload_n 0, 1) := by decide +kernel
theorem dX8_wipe_9 : decode cX8_wipe 9 = .ok (.getfield 10, 3) := by decide +kernel
theorem dX8_wipe_12 : decode cX8_wipe 12 = .ok (.iconst 0, 1) := by decide +kernel
theorem dX8_wipe_13 : decode cX8_wipe 13 = .ok (.putfield 76, 3) := by decide +kernel
theorem dX8_wipe_16 : decode cX8_wipe 16 = .ok (.iload_n 1, 1) := by decide +kernel
theorem dX8_wipe_17 : decode cX8_wipe 17 = .ok (.ireturn, 1) := by decide +kernel
theorem dX8_fault_0 : decode cX8_fault 0 = .ok (.aload_n 0, 1) := by decide +kernel
theorem dX8_fault_1 : decode cX8_fault 1 = .ok (.getfield 21, 3) := by decide +kernel
theorem dX8_fault_4 : decode cX8_fault 4 = .ok (.invokevirtual 84, 3) := by decide +kernel
theorem dX8_fault_7 : decode cX8_fault 7 = .ok (.ireturn, 1) := by decide +kernel
theorem dX8_fortress_0 : decode cX8_fortress 0 = .ok (.aload_n 0, 1) := by decide +kernel
theorem dX8_fortress_1 : decode cX8_fortress 1 = .ok (.getfield 21, 3) := by decide +kernel
theorem dX8_fortress_4 : decode cX8_fortress 4 = .ok (.invokevirtual 84, 3) := by decide +kernel
theorem dX8_fortress_7 : decode cX8_fortress 7 = .ok (.bipush (-9), 2) := by decide +kernel
theorem dX8_fortress_9 : decode cX8_fortress 9 = .ok (.if_icmp .eq 6, 3) := by decide +kernel
theorem dX8_fortress_12 : decode cX8_fortress 12 = .ok (.bipush (-3), 2) := by decide +kernel
theorem dX8_fortress_14 : decode cX8_fortress 14 = .ok (.ireturn, 1) := by decide +kernel
theorem dX8_fortress_15 : decode cX8_fortress 15 = .ok (.aload_n 0, 1) := by decide +kernel
theorem dX8_fortress_16 : decode cX8_fortress 16 = .ok (.getfield 28, 3) := by decide +kernel
theorem dX8_fortress_19 : decode cX8_fortress 19 = .ok (.aload_n 0, 1) := by decide +kernel
theorem dX8_fortress_20 : decode cX8_fortress 20 = .ok (.getfield 21, 3) := by decide +kernel
theorem dX8_fortress_23 : decode cX8_fortress 23 = .ok (.getfield 88, 3) := by decide +kernel
theorem dX8_fortress_26 : decode cX8_fortress 26 = .ok (.invokevirtual 89, 3) := by decide +kernel
theorem dX8_fortress_29 : decode cX8_fortress 29 = .ok (.aload_n 0, 1) := by decide +kernel
theorem dX8_fortress_30 : decode cX8_fortress 30 = .ok (.getfield 37, 3) := by decide +kernel
theorem dX8_fortress_33 : decode cX8_fortress 33 = .ok (.aload_n 0, 1) := by decide +kernel
theorem dX8_fortress_34 : decode cX8_fortress 34 = .ok (.getfield 21, 3) := by decide +kernel
theorem dX8_fortress_37 : decode cX8_fortress 37 = .ok (.getfield 92, 3) := by decide +kernel
theorem dX8_fortress_40 : decode cX8_fortress 40 = .ok (.invokevirtual 95, 3) := by decide +kernel
theorem dX8_fortress_43 : decode cX8_fortress 43 = .ok (.aload_n 0, 1) := by decide +kernel
theorem dX8_fortress_44 : decode cX8_fortress 44 = .ok (.getfield 44, 3) := by decide +kernel
theorem dX8_fortress_47 : decode cX8_fortress 47 = .ok (.iconst 0, 1) := by decide +kernel
theorem dX8_fortress_48 : decode cX8_fortress 48 = .ok (.invokestatic 98, 3) := by decide +kernel
theorem dX8_fortress_51 : decode cX8_fortress 51 = .ok (.aload_n 0, 1) := by decide +kernel
theorem dX8_fortress_52 : decode cX8_fortress 52 = .ok (.getfield 51, 3) := by decide +kernel
theorem dX8_fortress_55 : decode cX8_fortress 55 = .ok (.iconst 0, 1) := by decide +kernel
theorem dX8_fortress_56 : decode cX8_fortress 56 = .ok (.putfield 104, 3) := by decide +kernel
theorem dX8_fortress_59 : decode cX8_fortress 59 = .ok (.aload_n 0, 1) := by decide +kernel
theorem dX8_fortress_60 : decode cX8_fortress 60 = .ok (.getfield 58, 3) := by decide +kernel
theorem dX8_fortress_63 : decode cX8_fortress 63 = .ok (.invokevirtual 107, 3) := by decide +kernel
theorem dX8_fortress_66 : decode cX8_fortress 66 = .ok (.iconst 0, 1) := by decide +kernel
theorem dX8_fortress_67 : decode cX8_fortress 67 = .ok (.istore_n 1, 1) := by decide +kernel
theorem dX8_fortress_68 : decode cX8_fortress 68 = .ok (.iload_n 1, 1) := by decide +kernel
theorem dX8_fortress_69 : decode cX8_fortress 69 = .ok (.iconst 2, 1) := by decide +kernel
theorem dX8_fortress_70 : decode cX8_fortress 70 = .ok (.if_icmp .ge 19, 3) := by decide +kernel
theorem dX8_fortress_73 : decode cX8_fortress 73 = .ok (.aload_n 0, 1) := by decide +kernel
theorem dX8_fortress_74 : decode cX8_fortress 74 = .ok (.getfield 71, 3) := by decide +kernel
theorem dX8_fortress_77 : decode cX8_fortress 77 = .ok (.iload_n 1, 1) := by decide +kernel
theorem dX8_fortress_78 : decode cX8_fortress 78 = .ok (.aaload, 1) := by decide +kernel
theorem dX8_fortress_79 : decode cX8_fortress 79 = .ok (.iconst 0, 1) := by decide +kernel
theorem dX8_fortress_80 : decode cX8_fortress 80 = .ok (.putfield 110, 3) := by decide +kernel
theorem dX8_fortress_83 : decode cX8_fortress 83 = .ok (.iinc 1 1, 3) := by decide +kernel
theorem dX8_fortress_86 : decode cX8_fortress 86 = .ok (.goto (-18), 3) := by decide +kernel
theorem dX8_fortress_89 : decode cX8_fortress 89 = .ok (.aload_n 0, 1) := by decide +kernel
theorem dX8_fortress_90 : decode cX8_fortress 90 = .ok (.getfield 28, 3) := by decide +kernel
theorem dX8_fortress_93 : decode cX8_fortress 93 = .ok (.getfield 114, 3) := by decide +kernel
theorem dX8_fortress_96 : decode cX8_fortress 96 = .ok (.ireturn, 1) := by decide +kernel
theorem dX8_about_0 : decode cX8_about 0 = .ok (.iload_n 1, 1) := by decide +kernel
theorem dX8_about_1 : decode cX8_about 1 = .ok (.tableswitch 147 0 10 #[59, 67, 75, 83, 91, 99, 107, 115, 123, 131, 139], 59) := by decide +kernel
theorem dX8_about_60 : decode cX8_about 60 = .ok (.aload_n 0, 1) := by decide +kernel
theorem dX8_about_61 : decode cX8_about 61 = .ok (.getfield 28, 3) := by decide +kernel
theorem dX8_about_64 : decode cX8_about 64 = .ok (.getfield 114, 3) := by decide +kernel
theorem dX8_about_67 : decode cX8_about 67 = .ok (.ireturn, 1) := by decide +kernel
theorem dX8_about_68 : decode cX8_about 68 = .ok (.aload_n 0, 1) := by decide +kernel
theorem dX8_about_69 : decode cX8_about 69 = .ok (.getfield 28, 3) := by decide +kernel
theorem dX8_about_72 : decode cX8_about 72 = .ok (.getfield 117, 3) := by decide +kernel
theorem dX8_about_75 : decode cX8_about 75 = .ok (.ireturn, 1) := by decide +kernel
theorem dX8_about_76 : decode cX8_about 76 = .ok (.aload_n 0, 1) := by decide +kernel
theorem dX8_about_77 : decode cX8_about 77 = .ok (.getfield 28, 3) := by decide +kernel
theorem dX8_about_80 : decode cX8_about 80 = .ok (.getfield 120, 3) := by decide +kernel
theorem dX8_about_83 : decode cX8_about 83 = .ok (.ireturn, 1) := by decide +kernel
theorem dX8_about_84 : decode cX8_about 84 = .ok (.aload_n 0, 1) := by decide +kernel
theorem dX8_about_85 : decode cX8_about 85 = .ok (.getfield 37, 3) := by decide +kernel
theorem dX8_about_88 : decode cX8_about 88 = .ok (.getfield 123, 3) := by decide +kernel
theorem dX8_about_91 : decode cX8_about 91 = .ok (.ireturn, 1) := by decide +kernel
theorem dX8_about_92 : decode cX8_about 92 = .ok (.aload_n 0, 1) := by decide +kernel
theorem dX8_about_93 : decode cX8_about 93 = .ok (.getfield 37, 3) := by decide +kernel
theorem dX8_about_96 : decode cX8_about 96 = .ok (.getfield 126, 3) := by decide +kernel
theorem dX8_about_99 : decode cX8_about 99 = .ok (.ireturn, 1) := by decide +kernel
theorem dX8_about_100 : decode cX8_about 100 = .ok (.aload_n 0, 1) := by decide +kernel
theorem dX8_about_101 : decode cX8_about 101 = .ok (.getfield 37, 3) := by decide +kernel
theorem dX8_about_104 : decode cX8_about 104 = .ok (.getfield 129, 3) := by decide +kernel
theorem dX8_about_107 : decode cX8_about 107 = .ok (.ireturn, 1) := by decide +kernel
theorem dX8_about_108 : decode cX8_about 108 = .ok (.aload_n 0, 1) := by decide +kernel
theorem dX8_about_109 : decode cX8_about 109 = .ok (.getfield 37, 3) := by decide +kernel
theorem dX8_about_112 : decode cX8_about 112 = .ok (.getfield 132, 3) := by decide +kernel
theorem dX8_about_115 : decode cX8_about 115 = .ok (.ireturn, 1) := by decide +kernel
theorem dX8_about_116 : decode cX8_about 116 = .ok (.aload_n 0, 1) := by decide +kernel
theorem dX8_about_117 : decode cX8_about 117 = .ok (.getfield 37, 3) := by decide +kernel
theorem dX8_about_120 : decode cX8_about 120 = .ok (.invokevirtual 135, 3) := by decide +kernel
theorem dX8_about_123 : decode cX8_about 123 = .ok (.ireturn, 1) := by decide +kernel
theorem dX8_about_124 : decode cX8_about 124 = .ok (.aload_n 0, 1) := by decide +kernel
theorem dX8_about_125 : decode cX8_about 125 = .ok (.getfield 51, 3) := by decide +kernel
theorem dX8_about_128 : decode cX8_about 128 = .ok (.getfield 104, 3) := by decide +kernel
theorem dX8_about_131 : decode cX8_about 131 = .ok (.ireturn, 1) := by decide +kernel
theorem dX8_about_132 : decode cX8_about 132 = .ok (.aload_n 0, 1) := by decide +kernel
theorem dX8_about_133 : decode cX8_about 133 = .ok (.getfield 65, 3) := by decide +kernel
theorem dX8_about_136 : decode cX8_about 136 = .ok (.getfield 138, 3) := by decide +kernel
theorem dX8_about_139 : decode cX8_about 139 = .ok (.ireturn, 1) := by decide +kernel
theorem dX8_about_140 : decode cX8_about 140 = .ok (.aload_n 0, 1) := by decide +kernel
theorem dX8_about_141 : decode cX8_about 141 = .ok (.getfield 10, 3) := by decide +kernel
theorem dX8_about_144 : decode cX8_about 144 = .ok (.getfield 76, 3) := by decide +kernel
theorem dX8_about_147 : decode cX8_about 147 = .ok (.ireturn, 1) := by decide +kernel
theorem dX8_about_148 : decode cX8_about 148 = .ok (.bipush (-2), 2) := by decide +kernel
theorem dX8_about_150 : decode cX8_about 150 = .ok (.ireturn, 1) := by decide +kernel
theorem dX8_guard_0 : decode cX8_guard 0 = .ok (.aload_n 0, 1) := by decide +kernel
theorem dX8_guard_1 : decode cX8_guard 1 = .ok (.getfield 28, 3) := by decide +kernel
theorem dX8_guard_4 : decode cX8_guard 4 = .ok (.iload_n 1, 1) := by decide +kernel
theorem dX8_guard_5 : decode cX8_guard 5 = .ok (.invokevirtual 141, 3) := by decide +kernel
theorem dX8_guard_8 : decode cX8_guard 8 = .ok (.ifCond .ne 5, 3) := by decide +kernel
theorem dX8_guard_11 : decode cX8_guard 11 = .ok (.iconst (-1), 1) := by decide +kernel
theorem dX8_guard_12 : decode cX8_guard 12 = .ok (.ireturn, 1) := by decide +kernel
theorem dX8_guard_13 : decode cX8_guard 13 = .ok (.iload_n 2, 1) := by decide +kernel
theorem dX8_guard_14 : decode cX8_guard 14 = .ok (.tableswitch 116 0 6 #[42, 52, 62, 72, 84, 96, 106], 42) := by decide +kernel
theorem dX8_guard_56 : decode cX8_guard 56 = .ok (.aload_n 0, 1) := by decide +kernel
theorem dX8_guard_57 : decode cX8_guard 57 = .ok (.getfield 37, 3) := by decide +kernel
theorem dX8_guard_60 : decode cX8_guard 60 = .ok (.getfield 145, 3) := by decide +kernel
theorem dX8_guard_63 : decode cX8_guard 63 = .ok (.iload_n 1, 1) := by decide +kernel
theorem dX8_guard_64 : decode cX8_guard 64 = .ok (.iaload, 1) := by decide +kernel
theorem dX8_guard_65 : decode cX8_guard 65 = .ok (.ireturn, 1) := by decide +kernel
theorem dX8_guard_66 : decode cX8_guard 66 = .ok (.aload_n 0, 1) := by decide +kernel
theorem dX8_guard_67 : decode cX8_guard 67 = .ok (.getfield 37, 3) := by decide +kernel
theorem dX8_guard_70 : decode cX8_guard 70 = .ok (.getfield 148, 3) := by decide +kernel
theorem dX8_guard_73 : decode cX8_guard 73 = .ok (.iload_n 1, 1) := by decide +kernel
theorem dX8_guard_74 : decode cX8_guard 74 = .ok (.iaload, 1) := by decide +kernel
theorem dX8_guard_75 : decode cX8_guard 75 = .ok (.ireturn, 1) := by decide +kernel
theorem dX8_guard_76 : decode cX8_guard 76 = .ok (.aload_n 0, 1) := by decide +kernel
theorem dX8_guard_77 : decode cX8_guard 77 = .ok (.getfield 37, 3) := by decide +kernel
theorem dX8_guard_80 : decode cX8_guard 80 = .ok (.getfield 151, 3) := by decide +kernel
theorem dX8_guard_83 : decode cX8_guard 83 = .ok (.iload_n 1, 1) := by decide +kernel
theorem dX8_guard_84 : decode cX8_guard 84 = .ok (.iaload, 1) := by decide +kernel
theorem dX8_guard_85 : decode cX8_guard 85 = .ok (.ireturn, 1) := by decide +kernel
theorem dX8_guard_86 : decode cX8_guard 86 = .ok (.aload_n 0, 1) := by decide +kernel
theorem dX8_guard_87 : decode cX8_guard 87 = .ok (.getfield 37, 3) := by decide +kernel
theorem dX8_guard_90 : decode cX8_guard 90 = .ok (.getfield 129, 3) := by decide +kernel
theorem dX8_guard_93 : decode cX8_guard 93 = .ok (.iload_n 1, 1) := by decide +kernel
theorem dX8_guard_94 : decode cX8_guard 94 = .ok (.ishr, 1) := by decide +kernel
theorem dX8_guard_95 : decode cX8_guard 95 = .ok (.iconst 1, 1) := by decide +kernel
theorem dX8_guard_96 : decode cX8_guard 96 = .ok (.iand, 1) := by decide +kernel
theorem dX8_guard_97 : decode cX8_guard 97 = .ok (.ireturn, 1) := by decide +kernel
theorem dX8_guard_98 : decode cX8_guard 98 = .ok (.aload_n 0, 1) := by decide +kernel
theorem dX8_guard_99 : decode cX8_guard 99 = .ok (.getfield 37, 3) := by decide +kernel
theorem dX8_guard_102 : decode cX8_guard 102 = .ok (.getfield 132, 3) := by decide +kernel
theorem dX8_guard_105 : decode cX8_guard 105 = .ok (.iload_n 1, 1) := by decide +kernel
theorem dX8_guard_106 : decode cX8_guard 106 = .ok (.ishr, 1) := by decide +kernel
theorem dX8_guard_107 : decode cX8_guard 107 = .ok (.iconst 1, 1) := by decide +kernel
theorem dX8_guard_108 : decode cX8_guard 108 = .ok (.iand, 1) := by decide +kernel
theorem dX8_guard_109 : decode cX8_guard 109 = .ok (.ireturn, 1) := by decide +kernel
theorem dX8_guard_110 : decode cX8_guard 110 = .ok (.aload_n 0, 1) := by decide +kernel
theorem dX8_guard_111 : decode cX8_guard 111 = .ok (.getfield 28, 3) := by decide +kernel
theorem dX8_guard_114 : decode cX8_guard 114 = .ok (.getfield 154, 3) := by decide +kernel
theorem dX8_guard_117 : decode cX8_guard 117 = .ok (.iload_n 1, 1) := by decide +kernel
theorem dX8_guard_118 : decode cX8_guard 118 = .ok (.iaload, 1) := by decide +kernel
theorem dX8_guard_119 : decode cX8_guard 119 = .ok (.ireturn, 1) := by decide +kernel
theorem dX8_guard_120 : decode cX8_guard 120 = .ok (.aload_n 0, 1) := by decide +kernel
theorem dX8_guard_121 : decode cX8_guard 121 = .ok (.getfield 37, 3) := by decide +kernel
theorem dX8_guard_124 : decode cX8_guard 124 = .ok (.getfield 157, 3) := by decide +kernel
theorem dX8_guard_127 : decode cX8_guard 127 = .ok (.iload_n 1, 1) := by decide +kernel
theorem dX8_guard_128 : decode cX8_guard 128 = .ok (.iaload, 1) := by decide +kernel
theorem dX8_guard_129 : decode cX8_guard 129 = .ok (.ireturn, 1) := by decide +kernel
theorem dX8_guard_130 : decode cX8_guard 130 = .ok (.bipush (-2), 2) := by decide +kernel
theorem dX8_guard_132 : decode cX8_guard 132 = .ok (.ireturn, 1) := by decide +kernel
theorem dX8_sick_0 : decode cX8_sick 0 = .ok (.aload_n 0, 1) := by decide +kernel
theorem dX8_sick_1 : decode cX8_sick 1 = .ok (.getfield 28, 3) := by decide +kernel
theorem dX8_sick_4 : decode cX8_sick 4 = .ok (.iload_n 1, 1) := by decide +kernel
theorem dX8_sick_5 : decode cX8_sick 5 = .ok (.invokevirtual 141, 3) := by decide +kernel
theorem dX8_sick_8 : decode cX8_sick 8 = .ok (.ifCond .ne 5, 3) := by decide +kernel
theorem dX8_sick_11 : decode cX8_sick 11 = .ok (.iconst (-1), 1) := by decide +kernel
theorem dX8_sick_12 : decode cX8_sick 12 = .ok (.ireturn, 1) := by decide +kernel
theorem dX8_sick_13 : decode cX8_sick 13 = .ok (.aload_n 0, 1) := by decide +kernel
theorem dX8_sick_14 : decode cX8_sick 14 = .ok (.getfield 37, 3) := by decide +kernel
theorem dX8_sick_17 : decode cX8_sick 17 = .ok (.getfield 132, 3) := by decide +kernel
theorem dX8_sick_20 : decode cX8_sick 20 = .ok (.istore_n 3, 1) := by decide +kernel
theorem dX8_sick_21 : decode cX8_sick 21 = .ok (.aload_n 0, 1) := by decide +kernel
theorem dX8_sick_22 : decode cX8_sick 22 = .ok (.getfield 37, 3) := by decide +kernel
theorem dX8_sick_25 : decode cX8_sick 25 = .ok (.iload_n 2, 1) := by decide +kernel
theorem dX8_sick_26 : decode cX8_sick 26 = .ok (.ifCond .eq 11, 3) := by decide +kernel
theorem dX8_sick_29 : decode cX8_sick 29 = .ok (.iload_n 3, 1) := by decide +kernel
theorem dX8_sick_30 : decode cX8_sick 30 = .ok (.iconst 1, 1) := by decide +kernel
theorem dX8_sick_31 : decode cX8_sick 31 = .ok (.iload_n 1, 1) := by decide +kernel
theorem dX8_sick_32 : decode cX8_sick 32 = .ok (.ishl, 1) := by decide +kernel
theorem dX8_sick_33 : decode cX8_sick 33 = .ok (.ior, 1) := by decide +kernel
theorem dX8_sick_34 : decode cX8_sick 34 = .ok (.goto 10, 3) := by decide +kernel
theorem dX8_sick_37 : decode cX8_sick 37 = .ok (.iload_n 3, 1) := by decide +kernel
theorem dX8_sick_38 : decode cX8_sick 38 = .ok (.iconst 1, 1) := by decide +kernel
theorem dX8_sick_39 : decode cX8_sick 39 = .ok (.iload_n 1, 1) := by decide +kernel
theorem dX8_sick_40 : decode cX8_sick 40 = .ok (.ishl, 1) := by decide +kernel
theorem dX8_sick_41 : decode cX8_sick 41 = .ok (.iconst (-1), 1) := by decide +kernel
theorem dX8_sick_42 : decode cX8_sick 42 = .ok (.ixor, 1) := by decide +kernel
theorem dX8_sick_43 : decode cX8_sick 43 = .ok (.iand, 1) := by decide +kernel
theorem dX8_sick_44 : decode cX8_sick 44 = .ok (.putfield 132, 3) := by decide +kernel
theorem dX8_sick_47 : decode cX8_sick 47 = .ok (.aload_n 0, 1) := by decide +kernel
theorem dX8_sick_48 : decode cX8_sick 48 = .ok (.getfield 37, 3) := by decide +kernel
theorem dX8_sick_51 : decode cX8_sick 51 = .ok (.getfield 132, 3) := by decide +kernel
theorem dX8_sick_54 : decode cX8_sick 54 = .ok (.iload_n 3, 1) := by decide +kernel
theorem dX8_sick_55 : decode cX8_sick 55 = .ok (.if_icmp .ne 7, 3) := by decide +kernel
theorem dX8_sick_58 : decode cX8_sick 58 = .ok (.iconst 0, 1) := by decide +kernel
theorem dX8_sick_59 : decode cX8_sick 59 = .ok (.goto 4, 3) := by decide +kernel
theorem dX8_sick_62 : decode cX8_sick 62 = .ok (.iconst 1, 1) := by decide +kernel
theorem dX8_sick_63 : decode cX8_sick 63 = .ok (.ireturn, 1) := by decide +kernel
theorem dX8_hand_0 : decode cX8_hand 0 = .ok (.aload_n 0, 1) := by decide +kernel
theorem dX8_hand_1 : decode cX8_hand 1 = .ok (.getfield 28, 3) := by decide +kernel
theorem dX8_hand_4 : decode cX8_hand 4 = .ok (.iload_n 1, 1) := by decide +kernel
theorem dX8_hand_5 : decode cX8_hand 5 = .ok (.invokevirtual 141, 3) := by decide +kernel
theorem dX8_hand_8 : decode cX8_hand 8 = .ok (.ifCond .eq 14, 3) := by decide +kernel
theorem dX8_hand_11 : decode cX8_hand 11 = .ok (.aload_n 0, 1) := by decide +kernel
theorem dX8_hand_12 : decode cX8_hand 12 = .ok (.getfield 28, 3) := by decide +kernel
theorem dX8_hand_15 : decode cX8_hand 15 = .ok (.iload_n 2, 1) := by decide +kernel
theorem dX8_hand_16 : decode cX8_hand 16 = .ok (.invokevirtual 141, 3) := by decide +kernel
theorem dX8_hand_19 : decode cX8_hand 19 = .ok (.ifCond .ne 5, 3) := by decide +kernel
theorem dX8_hand_22 : decode cX8_hand 22 = .ok (.iconst (-1), 1) := by decide +kernel
theorem dX8_hand_23 : decode cX8_hand 23 = .ok (.ireturn, 1) := by decide +kernel
theorem dX8_hand_24 : decode cX8_hand 24 = .ok (.iload_n 1, 1) := by decide +kernel
theorem dX8_hand_25 : decode cX8_hand 25 = .ok (.iload_n 2, 1) := by decide +kernel
theorem dX8_hand_26 : decode cX8_hand 26 = .ok (.if_icmp .eq 14, 3) := by decide +kernel
theorem dX8_hand_29 : decode cX8_hand 29 = .ok (.iload_n 3, 1) := by decide +kernel
theorem dX8_hand_30 : decode cX8_hand 30 = .ok (.iconst 1, 1) := by decide +kernel
theorem dX8_hand_31 : decode cX8_hand 31 = .ok (.if_icmp .lt 9, 3) := by decide +kernel
theorem dX8_hand_34 : decode cX8_hand 34 = .ok (.iload_n 3, 1) := by decide +kernel
theorem dX8_hand_35 : decode cX8_hand 35 = .ok (.bipush 9, 2) := by decide +kernel
theorem dX8_hand_37 : decode cX8_hand 37 = .ok (.if_icmp .le 6, 3) := by decide +kernel
theorem dX8_hand_40 : decode cX8_hand 40 = .ok (.bipush (-2), 2) := by decide +kernel
theorem dX8_hand_42 : decode cX8_hand 42 = .ok (.ireturn, 1) := by decide +kernel
theorem dX8_hand_43 : decode cX8_hand 43 = .ok (.aload_n 0, 1) := by decide +kernel
theorem dX8_hand_44 : decode cX8_hand 44 = .ok (.getfield 37, 3) := by decide +kernel
theorem dX8_hand_47 : decode cX8_hand 47 = .ok (.getfield 148, 3) := by decide +kernel
theorem dX8_hand_50 : decode cX8_hand 50 = .ok (.iload_n 1, 1) := by decide +kernel
theorem dX8_hand_51 : decode cX8_hand 51 = .ok (.iaload, 1) := by decide +kernel
theorem dX8_hand_52 : decode cX8_hand 52 = .ok (.iload_n 3, 1) := by decide +kernel
theorem dX8_hand_53 : decode cX8_hand 53 = .ok (.if_icmp .ge 6, 3) := by decide +kernel
theorem dX8_hand_56 : decode cX8_hand 56 = .ok (.bipush (-3), 2) := by decide +kernel
theorem dX8_hand_58 : decode cX8_hand 58 = .ok (.ireturn, 1) := by decide +kernel
theorem dX8_hand_59 : decode cX8_hand 59 = .ok (.aload_n 0, 1) := by decide +kernel
theorem dX8_hand_60 : decode cX8_hand 60 = .ok (.getfield 37, 3) := by decide +kernel
theorem dX8_hand_63 : decode cX8_hand 63 = .ok (.getfield 148, 3) := by decide +kernel
theorem dX8_hand_66 : decode cX8_hand 66 = .ok (.iload_n 2, 1) := by decide +kernel
theorem dX8_hand_67 : decode cX8_hand 67 = .ok (.iaload, 1) := by decide +kernel
theorem dX8_hand_68 : decode cX8_hand 68 = .ok (.iload_n 3, 1) := by decide +kernel
theorem dX8_hand_69 : decode cX8_hand 69 = .ok (.iadd, 1) := by decide +kernel
theorem dX8_hand_70 : decode cX8_hand 70 = .ok (.bipush 9, 2) := by decide +kernel
theorem dX8_hand_72 : decode cX8_hand 72 = .ok (.if_icmp .le 6, 3) := by decide +kernel
theorem dX8_hand_75 : decode cX8_hand 75 = .ok (.bipush (-4), 2) := by decide +kernel
theorem dX8_hand_77 : decode cX8_hand 77 = .ok (.ireturn, 1) := by decide +kernel
theorem dX8_hand_78 : decode cX8_hand 78 = .ok (.aload_n 0, 1) := by decide +kernel
theorem dX8_hand_79 : decode cX8_hand 79 = .ok (.getfield 37, 3) := by decide +kernel
theorem dX8_hand_82 : decode cX8_hand 82 = .ok (.getfield 148, 3) := by decide +kernel
theorem dX8_hand_85 : decode cX8_hand 85 = .ok (.iload_n 1, 1) := by decide +kernel
theorem dX8_hand_86 : decode cX8_hand 86 = .ok (.dup2, 1) := by decide +kernel
theorem dX8_hand_87 : decode cX8_hand 87 = .ok (.iaload, 1) := by decide +kernel
theorem dX8_hand_88 : decode cX8_hand 88 = .ok (.iload_n 3, 1) := by decide +kernel
theorem dX8_hand_89 : decode cX8_hand 89 = .ok (.isub, 1) := by decide +kernel
theorem dX8_hand_90 : decode cX8_hand 90 = .ok (.iastore, 1) := by decide +kernel
theorem dX8_hand_91 : decode cX8_hand 91 = .ok (.aload_n 0, 1) := by decide +kernel
theorem dX8_hand_92 : decode cX8_hand 92 = .ok (.getfield 37, 3) := by decide +kernel
theorem dX8_hand_95 : decode cX8_hand 95 = .ok (.getfield 148, 3) := by decide +kernel
theorem dX8_hand_98 : decode cX8_hand 98 = .ok (.iload_n 2, 1) := by decide +kernel
theorem dX8_hand_99 : decode cX8_hand 99 = .ok (.dup2, 1) := by decide +kernel
theorem dX8_hand_100 : decode cX8_hand 100 = .ok (.iaload, 1) := by decide +kernel
theorem dX8_hand_101 : decode cX8_hand 101 = .ok (.iload_n 3, 1) := by decide +kernel
theorem dX8_hand_102 : decode cX8_hand 102 = .ok (.iadd, 1) := by decide +kernel
theorem dX8_hand_103 : decode cX8_hand 103 = .ok (.iastore, 1) := by decide +kernel
theorem dX8_hand_104 : decode cX8_hand 104 = .ok (.aload_n 0, 1) := by decide +kernel
theorem dX8_hand_105 : decode cX8_hand 105 = .ok (.getfield 37, 3) := by decide +kernel
theorem dX8_hand_108 : decode cX8_hand 108 = .ok (.getfield 148, 3) := by decide +kernel
theorem dX8_hand_111 : decode cX8_hand 111 = .ok (.iload_n 2, 1) := by decide +kernel
theorem dX8_hand_112 : decode cX8_hand 112 = .ok (.iaload, 1) := by decide +kernel
theorem dX8_hand_113 : decode cX8_hand 113 = .ok (.ireturn, 1) := by decide +kernel
theorem dX8_pay_0 : decode cX8_pay 0 = .ok (.aload_n 0, 1) := by decide +kernel
theorem dX8_pay_1 : decode cX8_pay 1 = .ok (.getfield 28, 3) := by decide +kernel
theorem dX8_pay_4 : decode cX8_pay 4 = .ok (.iload_n 1, 1) := by decide +kernel
theorem dX8_pay_5 : decode cX8_pay 5 = .ok (.invokevirtual 141, 3) := by decide +kernel
theorem dX8_pay_8 : decode cX8_pay 8 = .ok (.ifCond .ne 5, 3) := by decide +kernel
theorem dX8_pay_11 : decode cX8_pay 11 = .ok (.iconst (-1), 1) := by decide +kernel
theorem dX8_pay_12 : decode cX8_pay 12 = .ok (.ireturn, 1) := by decide +kernel
theorem dX8_pay_13 : decode cX8_pay 13 = .ok (.iload_n 2, 1) := by decide +kernel
theorem dX8_pay_14 : decode cX8_pay 14 = .ok (.iconst 1, 1) := by decide +kernel
theorem dX8_pay_15 : decode cX8_pay 15 = .ok (.if_icmp .lt 9, 3) := by decide +kernel
theorem dX8_pay_18 : decode cX8_pay 18 = .ok (.iload_n 2, 1) := by decide +kernel
theorem dX8_pay_19 : decode cX8_pay 19 = .ok (.bipush 9, 2) := by decide +kernel
theorem dX8_pay_21 : decode cX8_pay 21 = .ok (.if_icmp .le 6, 3) := by decide +kernel
theorem dX8_pay_24 : decode cX8_pay 24 = .ok (.bipush (-2), 2) := by decide +kernel
theorem dX8_pay_26 : decode cX8_pay 26 = .ok (.ireturn, 1) := by decide +kernel
theorem dX8_pay_27 : decode cX8_pay 27 = .ok (.aload_n 0, 1) := by decide +kernel
theorem dX8_pay_28 : decode cX8_pay 28 = .ok (.getfield 37, 3) := by decide +kernel
theorem dX8_pay_31 : decode cX8_pay 31 = .ok (.getfield 148, 3) := by decide +kernel
theorem dX8_pay_34 : decode cX8_pay 34 = .ok (.iload_n 1, 1) := by decide +kernel
theorem dX8_pay_35 : decode cX8_pay 35 = .ok (.iaload, 1) := by decide +kernel
theorem dX8_pay_36 : decode cX8_pay 36 = .ok (.iload_n 2, 1) := by decide +kernel
theorem dX8_pay_37 : decode cX8_pay 37 = .ok (.if_icmp .lt 16, 3) := by decide +kernel
theorem dX8_pay_40 : decode cX8_pay 40 = .ok (.aload_n 0, 1) := by decide +kernel
theorem dX8_pay_41 : decode cX8_pay 41 = .ok (.getfield 37, 3) := by decide +kernel
theorem dX8_pay_44 : decode cX8_pay 44 = .ok (.getfield 151, 3) := by decide +kernel
theorem dX8_pay_47 : decode cX8_pay 47 = .ok (.iload_n 1, 1) := by decide +kernel
theorem dX8_pay_48 : decode cX8_pay 48 = .ok (.iaload, 1) := by decide +kernel
theorem dX8_pay_49 : decode cX8_pay 49 = .ok (.iload_n 2, 1) := by decide +kernel
theorem dX8_pay_50 : decode cX8_pay 50 = .ok (.if_icmp .ge 6, 3) := by decide +kernel
theorem dX8_pay_53 : decode cX8_pay 53 = .ok (.bipush (-3), 2) := by decide +kernel
theorem dX8_pay_55 : decode cX8_pay 55 = .ok (.ireturn, 1) := by decide +kernel
theorem dX8_pay_56 : decode cX8_pay 56 = .ok (.aload_n 0, 1) := by decide +kernel
theorem dX8_pay_57 : decode cX8_pay 57 = .ok (.getfield 37, 3) := by decide +kernel
theorem dX8_pay_60 : decode cX8_pay 60 = .ok (.getfield 148, 3) := by decide +kernel
theorem dX8_pay_63 : decode cX8_pay 63 = .ok (.iload_n 1, 1) := by decide +kernel
theorem dX8_pay_64 : decode cX8_pay 64 = .ok (.dup2, 1) := by decide +kernel
theorem dX8_pay_65 : decode cX8_pay 65 = .ok (.iaload, 1) := by decide +kernel
theorem dX8_pay_66 : decode cX8_pay 66 = .ok (.iload_n 2, 1) := by decide +kernel
theorem dX8_pay_67 : decode cX8_pay 67 = .ok (.isub, 1) := by decide +kernel
theorem dX8_pay_68 : decode cX8_pay 68 = .ok (.iastore, 1) := by decide +kernel
theorem dX8_pay_69 : decode cX8_pay 69 = .ok (.aload_n 0, 1) := by decide +kernel
theorem dX8_pay_70 : decode cX8_pay 70 = .ok (.getfield 37, 3) := by decide +kernel
theorem dX8_pay_73 : decode cX8_pay 73 = .ok (.getfield 151, 3) := by decide +kernel
theorem dX8_pay_76 : decode cX8_pay 76 = .ok (.iload_n 1, 1) := by decide +kernel
theorem dX8_pay_77 : decode cX8_pay 77 = .ok (.dup2, 1) := by decide +kernel
theorem dX8_pay_78 : decode cX8_pay 78 = .ok (.iaload, 1) := by decide +kernel
theorem dX8_pay_79 : decode cX8_pay 79 = .ok (.iload_n 2, 1) := by decide +kernel
theorem dX8_pay_80 : decode cX8_pay 80 = .ok (.isub, 1) := by decide +kernel
theorem dX8_pay_81 : decode cX8_pay 81 = .ok (.iastore, 1) := by decide +kernel
theorem dX8_pay_82 : decode cX8_pay 82 = .ok (.aload_n 0, 1) := by decide +kernel
theorem dX8_pay_83 : decode cX8_pay 83 = .ok (.getfield 37, 3) := by decide +kernel
theorem dX8_pay_86 : decode cX8_pay 86 = .ok (.getfield 151, 3) := by decide +kernel
theorem dX8_pay_89 : decode cX8_pay 89 = .ok (.iload_n 1, 1) := by decide +kernel
theorem dX8_pay_90 : decode cX8_pay 90 = .ok (.iaload, 1) := by decide +kernel
theorem dX8_pay_91 : decode cX8_pay 91 = .ok (.ireturn, 1) := by decide +kernel
theorem dX8_may_0 : decode cX8_may 0 = .ok (.aload_n 0, 1) := by decide +kernel
theorem dX8_may_1 : decode cX8_may 1 = .ok (.getfield 28, 3) := by decide +kernel
theorem dX8_may_4 : decode cX8_may 4 = .ok (.iload_n 1, 1) := by decide +kernel
theorem dX8_may_5 : decode cX8_may 5 = .ok (.invokevirtual 160, 3) := by decide +kernel
theorem dX8_may_8 : decode cX8_may 8 = .ok (.ifCond .ne 6, 3) := by decide +kernel
theorem dX8_may_11 : decode cX8_may 11 = .ok (.bipush (-2), 2) := by decide +kernel
theorem dX8_may_13 : decode cX8_may 13 = .ok (.ireturn, 1) := by decide +kernel
theorem dX8_may_14 : decode cX8_may 14 = .ok (.aload_n 0, 1) := by decide +kernel
theorem dX8_may_15 : decode cX8_may 15 = .ok (.getfield 37, 3) := by decide +kernel
theorem dX8_may_18 : decode cX8_may 18 = .ok (.iload_n 1, 1) := by decide +kernel
theorem dX8_may_19 : decode cX8_may 19 = .ok (.invokevirtual 163, 3) := by decide +kernel
theorem dX8_may_22 : decode cX8_may 22 = .ok (.ifCond .eq 7, 3) := by decide +kernel
theorem dX8_may_25 : decode cX8_may 25 = .ok (.iconst 1, 1) := by decide +kernel
theorem dX8_may_26 : decode cX8_may 26 = .ok (.goto 4, 3) := by decide +kernel
theorem dX8_may_29 : decode cX8_may 29 = .ok (.iconst 0, 1) := by decide +kernel
theorem dX8_may_30 : decode cX8_may 30 = .ok (.ireturn, 1) := by decide +kernel
theorem dX8_quarter_0 : decode cX8_quarter 0 = .ok (.aload_n 0, 1) := by decide +kernel
theorem dX8_quarter_1 : decode cX8_quarter 1 = .ok (.getfield 28, 3) := by decide +kernel
theorem dX8_quarter_4 : decode cX8_quarter 4 = .ok (.iload_n 1, 1) := by decide +kernel
theorem dX8_quarter_5 : decode cX8_quarter 5 = .ok (.invokevirtual 160, 3) := by decide +kernel
theorem dX8_quarter_8 : decode cX8_quarter 8 = .ok (.ifCond .ne 6, 3) := by decide +kernel
theorem dX8_quarter_11 : decode cX8_quarter 11 = .ok (.bipush (-2), 2) := by decide +kernel
theorem dX8_quarter_13 : decode cX8_quarter 13 = .ok (.ireturn, 1) := by decide +kernel
theorem dX8_quarter_14 : decode cX8_quarter 14 = .ok (.aload_n 0, 1) := by decide +kernel
theorem dX8_quarter_15 : decode cX8_quarter 15 = .ok (.getfield 37, 3) := by decide +kernel
theorem dX8_quarter_18 : decode cX8_quarter 18 = .ok (.iload_n 1, 1) := by decide +kernel
theorem dX8_quarter_19 : decode cX8_quarter 19 = .ok (.invokevirtual 163, 3) := by decide +kernel
theorem dX8_quarter_22 : decode cX8_quarter 22 = .ok (.ifCond .ne 6, 3) := by decide +kernel
theorem dX8_quarter_25 : decode cX8_quarter 25 = .ok (.bipush (-3), 2) := by decide +kernel
theorem dX8_quarter_27 : decode cX8_quarter 27 = .ok (.ireturn, 1) := by decide +kernel
theorem dX8_quarter_28 : decode cX8_quarter 28 = .ok (.aload_n 0, 1) := by decide +kernel
theorem dX8_quarter_29 : decode cX8_quarter 29 = .ok (.getfield 51, 3) := by decide +kernel
theorem dX8_quarter_32 : decode cX8_quarter 32 = .ok (.aload_n 0, 1) := by decide +kernel
theorem dX8_quarter_33 : decode cX8_quarter 33 = .ok (.getfield 37, 3) := by decide +kernel
theorem dX8_quarter_36 : decode cX8_quarter 36 = .ok (.invokevirtual 166, 3) := by decide +kernel
theorem dX8_quarter_39 : decode cX8_quarter 39 = .ok (.aload_n 0, 1) := by decide +kernel
theorem dX8_quarter_40 : decode cX8_quarter 40 = .ok (.getfield 37, 3) := by decide +kernel
theorem dX8_quarter_43 : decode cX8_quarter 43 = .ok (.iload_n 1, 1) := by decide +kernel
theorem dX8_quarter_44 : decode cX8_quarter 44 = .ok (.invokevirtual 169, 3) := by decide +kernel
theorem dX8_quarter_47 : decode cX8_quarter 47 = .ok (.ireturn, 1) := by decide +kernel
theorem dX8_drum_0 : decode cX8_drum 0 = .ok (.aload_n 0, 1) := by decide +kernel
theorem dX8_drum_1 : decode cX8_drum 1 = .ok (.getfield 51, 3) := by decide +kernel
theorem dX8_drum_4 : decode cX8_drum 4 = .ok (.aload_n 0, 1) := by decide +kernel
theorem dX8_drum_5 : decode cX8_drum 5 = .ok (.getfield 37, 3) := by decide +kernel
theorem dX8_drum_8 : decode cX8_drum 8 = .ok (.invokevirtual 166, 3) := by decide +kernel
theorem dX8_drum_11 : decode cX8_drum 11 = .ok (.aload_n 0, 1) := by decide +kernel
theorem dX8_drum_12 : decode cX8_drum 12 = .ok (.getfield 37, 3) := by decide +kernel
theorem dX8_drum_15 : decode cX8_drum 15 = .ok (.invokevirtual 173, 3) := by decide +kernel
theorem dX8_drum_18 : decode cX8_drum 18 = .ok (.ireturn, 1) := by decide +kernel
theorem dX8_undo_0 : decode cX8_undo 0 = .ok (.aload_n 0, 1) := by decide +kernel
theorem dX8_undo_1 : decode cX8_undo 1 = .ok (.getfield 51, 3) := by decide +kernel
theorem dX8_undo_4 : decode cX8_undo 4 = .ok (.getfield 104, 3) := by decide +kernel
theorem dX8_undo_7 : decode cX8_undo 7 = .ok (.ifCond .ne 6, 3) := by decide +kernel
theorem dX8_undo_10 : decode cX8_undo 10 = .ok (.bipush (-3), 2) := by decide +kernel
theorem dX8_undo_12 : decode cX8_undo 12 = .ok (.ireturn, 1) := by decide +kernel
theorem dX8_undo_13 : decode cX8_undo 13 = .ok (.aload_n 0, 1) := by decide +kernel
theorem dX8_undo_14 : decode cX8_undo 14 = .ok (.getfield 51, 3) := by decide +kernel
theorem dX8_undo_17 : decode cX8_undo 17 = .ok (.aload_n 0, 1) := by decide +kernel
theorem dX8_undo_18 : decode cX8_undo 18 = .ok (.getfield 37, 3) := by decide +kernel
theorem dX8_undo_21 : decode cX8_undo 21 = .ok (.invokevirtual 176, 3) := by decide +kernel
theorem dX8_undo_24 : decode cX8_undo 24 = .ok (.aload_n 0, 1) := by decide +kernel
theorem dX8_undo_25 : decode cX8_undo 25 = .ok (.getfield 51, 3) := by decide +kernel
theorem dX8_undo_28 : decode cX8_undo 28 = .ok (.getfield 104, 3) := by decide +kernel
theorem dX8_undo_31 : decode cX8_undo 31 = .ok (.ireturn, 1) := by decide +kernel
theorem dX8_rota_0 : decode cX8_rota 0 = .ok (.aload_n 0, 1) := by decide +kernel
theorem dX8_rota_1 : decode cX8_rota 1 = .ok (.iload_n 1, 1) := by decide +kernel
theorem dX8_rota_2 : decode cX8_rota 2 = .ok (.invokevirtual 179, 3) := by decide +kernel
theorem dX8_rota_5 : decode cX8_rota 5 = .ok (.istore_n 2, 1) := by decide +kernel
theorem dX8_rota_6 : decode cX8_rota 6 = .ok (.iload_n 2, 1) := by decide +kernel
theorem dX8_rota_7 : decode cX8_rota 7 = .ok (.ifCond .eq 5, 3) := by decide +kernel
theorem dX8_rota_10 : decode cX8_rota 10 = .ok (.iload_n 2, 1) := by decide +kernel
theorem dX8_rota_11 : decode cX8_rota 11 = .ok (.ireturn, 1) := by decide +kernel
theorem dX8_rota_12 : decode cX8_rota 12 = .ok (.aload_n 0, 1) := by decide +kernel
theorem dX8_rota_13 : decode cX8_rota 13 = .ok (.getfield 58, 3) := by decide +kernel
theorem dX8_rota_16 : decode cX8_rota 16 = .ok (.aload_n 0, 1) := by decide +kernel
theorem dX8_rota_17 : decode cX8_rota 17 = .ok (.getfield 37, 3) := by decide +kernel
theorem dX8_rota_20 : decode cX8_rota 20 = .ok (.iload_n 1, 1) := by decide +kernel
theorem dX8_rota_21 : decode cX8_rota 21 = .ok (.invokevirtual 182, 3) := by decide +kernel
theorem dX8_rota_24 : decode cX8_rota 24 = .ok (.aload_n 0, 1) := by decide +kernel
theorem dX8_rota_25 : decode cX8_rota 25 = .ok (.getfield 58, 3) := by decide +kernel
theorem dX8_rota_28 : decode cX8_rota 28 = .ok (.getfield 186, 3) := by decide +kernel
theorem dX8_rota_31 : decode cX8_rota 31 = .ok (.ifCond .eq 13, 3) := by decide +kernel
theorem dX8_rota_34 : decode cX8_rota 34 = .ok (.aload_n 0, 1) := by decide +kernel
theorem dX8_rota_35 : decode cX8_rota 35 = .ok (.getfield 58, 3) := by decide +kernel
theorem dX8_rota_38 : decode cX8_rota 38 = .ok (.getfield 189, 3) := by decide +kernel
theorem dX8_rota_41 : decode cX8_rota 41 = .ok (.goto 5, 3) := by decide +kernel
theorem dX8_rota_44 : decode cX8_rota 44 = .ok (.bipush (-9), 2) := by decide +kernel
theorem dX8_rota_46 : decode cX8_rota 46 = .ok (.ireturn, 1) := by decide +kernel
theorem dX8_rotaAt_0 : decode cX8_rotaAt 0 = .ok (.aload_n 0, 1) := by decide +kernel
theorem dX8_rotaAt_1 : decode cX8_rotaAt 1 = .ok (.iload_n 1, 1) := by decide +kernel
theorem dX8_rotaAt_2 : decode cX8_rotaAt 2 = .ok (.invokevirtual 179, 3) := by decide +kernel
theorem dX8_rotaAt_5 : decode cX8_rotaAt 5 = .ok (.istore_n 3, 1) := by decide +kernel
theorem dX8_rotaAt_6 : decode cX8_rotaAt 6 = .ok (.iload_n 3, 1) := by decide +kernel
theorem dX8_rotaAt_7 : decode cX8_rotaAt 7 = .ok (.ifCond .eq 5, 3) := by decide +kernel
theorem dX8_rotaAt_10 : decode cX8_rotaAt 10 = .ok (.iload_n 3, 1) := by decide +kernel
theorem dX8_rotaAt_11 : decode cX8_rotaAt 11 = .ok (.ireturn, 1) := by decide +kernel
theorem dX8_rotaAt_12 : decode cX8_rotaAt 12 = .ok (.iload_n 2, 1) := by decide +kernel
theorem dX8_rotaAt_13 : decode cX8_rotaAt 13 = .ok (.ifCond .lt 8, 3) := by decide +kernel
theorem dX8_rotaAt_16 : decode cX8_rotaAt 16 = .ok (.iload_n 2, 1) := by decide +kernel
theorem dX8_rotaAt_17 : decode cX8_rotaAt 17 = .ok (.iload_n 1, 1) := by decide +kernel
theorem dX8_rotaAt_18 : decode cX8_rotaAt 18 = .ok (.if_icmp .lt 6, 3) := by decide +kernel
theorem dX8_rotaAt_21 : decode cX8_rotaAt 21 = .ok (.bipush (-9), 2) := by decide +kernel
theorem dX8_rotaAt_23 : decode cX8_rotaAt 23 = .ok (.ireturn, 1) := by decide +kernel
theorem dX8_rotaAt_24 : decode cX8_rotaAt 24 = .ok (.aload_n 0, 1) := by decide +kernel
theorem dX8_rotaAt_25 : decode cX8_rotaAt 25 = .ok (.getfield 58, 3) := by decide +kernel
theorem dX8_rotaAt_28 : decode cX8_rotaAt 28 = .ok (.aload_n 0, 1) := by decide +kernel
theorem dX8_rotaAt_29 : decode cX8_rotaAt 29 = .ok (.getfield 37, 3) := by decide +kernel
theorem dX8_rotaAt_32 : decode cX8_rotaAt 32 = .ok (.iload_n 1, 1) := by decide +kernel
theorem dX8_rotaAt_33 : decode cX8_rotaAt 33 = .ok (.invokevirtual 182, 3) := by decide +kernel
theorem dX8_rotaAt_36 : decode cX8_rotaAt 36 = .ok (.aload_n 0, 1) := by decide +kernel
theorem dX8_rotaAt_37 : decode cX8_rotaAt 37 = .ok (.getfield 58, 3) := by decide +kernel
theorem dX8_rotaAt_40 : decode cX8_rotaAt 40 = .ok (.getfield 186, 3) := by decide +kernel
theorem dX8_rotaAt_43 : decode cX8_rotaAt 43 = .ok (.ifCond .eq 15, 3) := by decide +kernel
theorem dX8_rotaAt_46 : decode cX8_rotaAt 46 = .ok (.aload_n 0, 1) := by decide +kernel
theorem dX8_rotaAt_47 : decode cX8_rotaAt 47 = .ok (.getfield 58, 3) := by decide +kernel
theorem dX8_rotaAt_50 : decode cX8_rotaAt 50 = .ok (.getfield 192, 3) := by decide +kernel
theorem dX8_rotaAt_53 : decode cX8_rotaAt 53 = .ok (.iload_n 2, 1) := by decide +kernel
theorem dX8_rotaAt_54 : decode cX8_rotaAt 54 = .ok (.iaload, 1) := by decide +kernel
theorem dX8_rotaAt_55 : decode cX8_rotaAt 55 = .ok (.goto 5, 3) := by decide +kernel
theorem dX8_rotaAt_58 : decode cX8_rotaAt 58 = .ok (.bipush (-9), 2) := by decide +kernel
theorem dX8_rotaAt_60 : decode cX8_rotaAt 60 = .ok (.ireturn, 1) := by decide +kernel
theorem dX8_rotaRefusal_0 : decode cX8_rotaRefusal 0 = .ok (.iload_n 1, 1) := by decide +kernel
theorem dX8_rotaRefusal_1 : decode cX8_rotaRefusal 1 = .ok (.iconst 1, 1) := by decide +kernel
theorem dX8_rotaRefusal_2 : decode cX8_rotaRefusal 2 = .ok (.if_icmp .lt 8, 3) := by decide +kernel
theorem dX8_rotaRefusal_5 : decode cX8_rotaRefusal 5 = .ok (.iload_n 1, 1) := by decide +kernel
theorem dX8_rotaRefusal_6 : decode cX8_rotaRefusal 6 = .ok (.iconst 4, 1) := by decide +kernel
theorem dX8_rotaRefusal_7 : decode cX8_rotaRefusal 7 = .ok (.if_icmp .le 6, 3) := by decide +kernel
theorem dX8_rotaRefusal_10 : decode cX8_rotaRefusal 10 = .ok (.bipush (-2), 2) := by decide +kernel
theorem dX8_rotaRefusal_12 : decode cX8_rotaRefusal 12 = .ok (.ireturn, 1) := by decide +kernel
theorem dX8_rotaRefusal_13 : decode cX8_rotaRefusal 13 = .ok (.aload_n 0, 1) := by decide +kernel
theorem dX8_rotaRefusal_14 : decode cX8_rotaRefusal 14 = .ok (.getfield 28, 3) := by decide +kernel
theorem dX8_rotaRefusal_17 : decode cX8_rotaRefusal 17 = .ok (.getfield 114, 3) := by decide +kernel
theorem dX8_rotaRefusal_20 : decode cX8_rotaRefusal 20 = .ok (.iconst 4, 1) := by decide +kernel
theorem dX8_rotaRefusal_21 : decode cX8_rotaRefusal 21 = .ok (.if_icmp .le 8, 3) := by decide +kernel
theorem dX8_rotaRefusal_24 : decode cX8_rotaRefusal 24 = .ok (.bipush (-3), 2) := by decide +kernel
theorem dX8_rotaRefusal_26 : decode cX8_rotaRefusal 26 = .ok (.goto 4, 3) := by decide +kernel
theorem dX8_rotaRefusal_29 : decode cX8_rotaRefusal 29 = .ok (.iconst 0, 1) := by decide +kernel
theorem dX8_rotaRefusal_30 : decode cX8_rotaRefusal 30 = .ok (.ireturn, 1) := by decide +kernel
theorem dX8_allNod_0 : decode cX8_allNod 0 = .ok (.aload_n 0, 1) := by decide +kernel
theorem dX8_allNod_1 : decode cX8_allNod 1 = .ok (.getfield 28, 3) := by decide +kernel
theorem dX8_allNod_4 : decode cX8_allNod 4 = .ok (.invokevirtual 195, 3) := by decide +kernel
theorem dX8_allNod_7 : decode cX8_allNod 7 = .ok (.istore_n 1, 1) := by decide +kernel
theorem dX8_allNod_8 : decode cX8_allNod 8 = .ok (.aload_n 0, 1) := by decide +kernel
theorem dX8_allNod_9 : decode cX8_allNod 9 = .ok (.getfield 41, 3) := by decide +kernel
theorem dX8_allNod_12 : decode cX8_allNod 12 = .ok (.aload_n 0, 1) := by decide +kernel
theorem dX8_allNod_13 : decode cX8_allNod 13 = .ok (.getfield 37, 3) := by decide +kernel
theorem dX8_allNod_16 : decode cX8_allNod 16 = .ok (.invokevirtual 95, 3) := by decide +kernel
theorem dX8_allNod_19 : decode cX8_allNod 19 = .ok (.iconst 0, 1) := by decide +kernel
theorem dX8_allNod_20 : decode cX8_allNod 20 = .ok (.istore_n 2, 1) := by decide +kernel
theorem dX8_allNod_21 : decode cX8_allNod 21 = .ok (.iload_n 2, 1) := by decide +kernel
theorem dX8_allNod_22 : decode cX8_allNod 22 = .ok (.bipush 99, 2) := by decide +kernel
theorem dX8_allNod_24 : decode cX8_allNod 24 = .ok (.if_icmp .gt 31, 3) := by decide +kernel
theorem dX8_allNod_27 : decode cX8_allNod 27 = .ok (.aload_n 0, 1) := by decide +kernel
theorem dX8_allNod_28 : decode cX8_allNod 28 = .ok (.getfield 41, 3) := by decide +kernel
theorem dX8_allNod_31 : decode cX8_allNod 31 = .ok (.getfield 129, 3) := by decide +kernel
theorem dX8_allNod_34 : decode cX8_allNod 34 = .ok (.iload_n 1, 1) := by decide +kernel
theorem dX8_allNod_35 : decode cX8_allNod 35 = .ok (.if_icmp .ne 5, 3) := by decide +kernel
theorem dX8_allNod_38 : decode cX8_allNod 38 = .ok (.iload_n 2, 1) := by decide +kernel
theorem dX8_allNod_39 : decode cX8_allNod 39 = .ok (.ireturn, 1) := by decide +kernel
theorem dX8_allNod_40 : decode cX8_allNod 40 = .ok (.aload_n 0, 1) := by decide +kernel
theorem dX8_allNod_41 : decode cX8_allNod 41 = .ok (.getfield 41, 3) := by decide +kernel
theorem dX8_allNod_44 : decode cX8_allNod 44 = .ok (.iconst 0, 1) := by decide +kernel
theorem dX8_allNod_45 : decode cX8_allNod 45 = .ok (.invokevirtual 169, 3) := by decide +kernel
theorem dX8_allNod_48 : decode cX8_allNod 48 = .ok (.pop, 1) := by decide +kernel
theorem dX8_allNod_49 : decode cX8_allNod 49 = .ok (.iinc 2 1, 3) := by decide +kernel
theorem dX8_allNod_52 : decode cX8_allNod 52 = .ok (.goto (-31), 3) := by decide +kernel
theorem dX8_allNod_55 : decode cX8_allNod 55 = .ok (.bipush (-9), 2) := by decide +kernel
theorem dX8_allNod_57 : decode cX8_allNod 57 = .ok (.ireturn, 1) := by decide +kernel
theorem dX8_chance_0 : decode cX8_chance 0 = .ok (.iload_n 1, 1) := by decide +kernel
theorem dX8_chance_1 : decode cX8_chance 1 = .ok (.iconst 1, 1) := by decide +kernel
theorem dX8_chance_2 : decode cX8_chance 2 = .ok (.if_icmp .lt 18, 3) := by decide +kernel
theorem dX8_chance_5 : decode cX8_chance 5 = .ok (.iload_n 1, 1) := by decide +kernel
theorem dX8_chance_6 : decode cX8_chance 6 = .ok (.iconst 3, 1) := by decide +kernel
theorem dX8_chance_7 : decode cX8_chance 7 = .ok (.if_icmp .gt 13, 3) := by decide +kernel
theorem dX8_chance_10 : decode cX8_chance 10 = .ok (.iload_n 2, 1) := by decide +kernel
theorem dX8_chance_11 : decode cX8_chance 11 = .ok (.ifCond .lt 9, 3) := by decide +kernel
theorem dX8_chance_14 : decode cX8_chance 14 = .ok (.iload_n 2, 1) := by decide +kernel
theorem dX8_chance_15 : decode cX8_chance 15 = .ok (.bipush 10, 2) := by decide +kernel
theorem dX8_chance_17 : decode cX8_chance 17 = .ok (.if_icmp .le 7, 3) := by decide +kernel
theorem dX8_chance_20 : decode cX8_chance 20 = .ok (.ldc2_w 198, 3) := by decide +kernel
theorem dX8_chance_23 : decode cX8_chance 23 = .ok (.lreturn, 1) := by decide +kernel
theorem dX8_chance_24 : decode cX8_chance 24 = .ok (.lconst 1, 1) := by decide +kernel
theorem dX8_chance_25 : decode cX8_chance 25 = .ok (.lstore 4, 2) := by decide +kernel
theorem dX8_chance_27 : decode cX8_chance 27 = .ok (.lconst 1, 1) := by decide +kernel
theorem dX8_chance_28 : decode cX8_chance 28 = .ok (.lstore 6, 2) := by decide +kernel
theorem dX8_chance_30 : decode cX8_chance 30 = .ok (.iconst 0, 1) := by decide +kernel
theorem dX8_chance_31 : decode cX8_chance 31 = .ok (.istore 8, 2) := by decide +kernel
theorem dX8_chance_33 : decode cX8_chance 33 = .ok (.iload 8, 2) := by decide +kernel
theorem dX8_chance_35 : decode cX8_chance 35 = .ok (.aload_n 0, 1) := by decide +kernel
theorem dX8_chance_36 : decode cX8_chance 36 = .ok (.getfield 28, 3) := by decide +kernel
theorem dX8_chance_39 : decode cX8_chance 39 = .ok (.getfield 114, 3) := by decide +kernel
theorem dX8_chance_42 : decode cX8_chance 42 = .ok (.if_icmp .ge 61, 3) := by decide +kernel
theorem dX8_chance_45 : decode cX8_chance 45 = .ok (.lconst 1, 1) := by decide +kernel
theorem dX8_chance_46 : decode cX8_chance 46 = .ok (.lstore 9, 2) := by decide +kernel
theorem dX8_chance_48 : decode cX8_chance 48 = .ok (.iconst 0, 1) := by decide +kernel
theorem dX8_chance_49 : decode cX8_chance 49 = .ok (.istore 11, 2) := by decide +kernel
theorem dX8_chance_51 : decode cX8_chance 51 = .ok (.iload 11, 2) := by decide +kernel
theorem dX8_chance_53 : decode cX8_chance 53 = .ok (.iload_n 1, 1) := by decide +kernel
theorem dX8_chance_54 : decode cX8_chance 54 = .ok (.if_icmp .ge 17, 3) := by decide +kernel
theorem dX8_chance_57 : decode cX8_chance 57 = .ok (.lload 9, 2) := by decide +kernel
theorem dX8_chance_59 : decode cX8_chance 59 = .ok (.ldc2_w 200, 3) := by decide +kernel
theorem dX8_chance_62 : decode cX8_chance 62 = .ok (.lmul, 1) := by decide +kernel
theorem dX8_chance_63 : decode cX8_chance 63 = .ok (.lstore 9, 2) := by decide +kernel
theorem dX8_chance_65 : decode cX8_chance 65 = .ok (.iinc 11 1, 3) := by decide +kernel
theorem dX8_chance_68 : decode cX8_chance 68 = .ok (.goto (-17), 3) := by decide +kernel
theorem dX8_chance_71 : decode cX8_chance 71 = .ok (.lload 4, 2) := by decide +kernel
theorem dX8_chance_73 : decode cX8_chance 73 = .ok (.lload 9, 2) := by decide +kernel
theorem dX8_chance_75 : decode cX8_chance 75 = .ok (.aload_n 0, 1) := by decide +kernel
theorem dX8_chance_76 : decode cX8_chance 76 = .ok (.getfield 37, 3) := by decide +kernel
theorem dX8_chance_79 : decode cX8_chance 79 = .ok (.iload 8, 2) := by decide +kernel
theorem dX8_chance_81 : decode cX8_chance 81 = .ok (.iload_n 1, 1) := by decide +kernel
theorem dX8_chance_82 : decode cX8_chance 82 = .ok (.iload_n 2, 1) := by decide +kernel
theorem dX8_chance_83 : decode cX8_chance 83 = .ok (.invokevirtual 202, 3) := by decide +kernel
theorem dX8_chance_86 : decode cX8_chance 86 = .ok (.lsub, 1) := by decide +kernel
theorem dX8_chance_87 : decode cX8_chance 87 = .ok (.lmul, 1) := by decide +kernel
theorem dX8_chance_88 : decode cX8_chance 88 = .ok (.lstore 4, 2) := by decide +kernel
theorem dX8_chance_90 : decode cX8_chance 90 = .ok (.lload 6, 2) := by decide +kernel
theorem dX8_chance_92 : decode cX8_chance 92 = .ok (.lload 9, 2) := by decide +kernel
theorem dX8_chance_94 : decode cX8_chance 94 = .ok (.lmul, 1) := by decide +kernel
theorem dX8_chance_95 : decode cX8_chance 95 = .ok (.lstore 6, 2) := by decide +kernel
theorem dX8_chance_97 : decode cX8_chance 97 = .ok (.iinc 8 1, 3) := by decide +kernel
theorem dX8_chance_100 : decode cX8_chance 100 = .ok (.goto (-67), 3) := by decide +kernel
theorem dX8_chance_103 : decode cX8_chance 103 = .ok (.lload 4, 2) := by decide +kernel
theorem dX8_chance_105 : decode cX8_chance 105 = .ok (.lload 6, 2) := by decide +kernel
theorem dX8_chance_107 : decode cX8_chance 107 = .ok (.invokestatic 206, 3) := by decide +kernel
theorem dX8_chance_110 : decode cX8_chance 110 = .ok (.lstore 8, 2) := by decide +kernel
theorem dX8_chance_112 : decode cX8_chance 112 = .ok (.lload 8, 2) := by decide +kernel
theorem dX8_chance_114 : decode cX8_chance 114 = .ok (.lconst 0, 1) := by decide +kernel
theorem dX8_chance_115 : decode cX8_chance 115 = .ok (.lcmp, 1) := by decide +kernel
theorem dX8_chance_116 : decode cX8_chance 116 = .ok (.ifCond .ne 5, 3) := by decide +kernel
theorem dX8_chance_119 : decode cX8_chance 119 = .ok (.lconst 0, 1) := by decide +kernel
theorem dX8_chance_120 : decode cX8_chance 120 = .ok (.lreturn, 1) := by decide +kernel
theorem dX8_chance_121 : decode cX8_chance 121 = .ok (.iload_n 3, 1) := by decide +kernel
theorem dX8_chance_122 : decode cX8_chance 122 = .ok (.ifCond .eq 11, 3) := by decide +kernel
theorem dX8_chance_125 : decode cX8_chance 125 = .ok (.lload 4, 2) := by decide +kernel
theorem dX8_chance_127 : decode cX8_chance 127 = .ok (.lload 8, 2) := by decide +kernel
theorem dX8_chance_129 : decode cX8_chance 129 = .ok (.ldiv, 1) := by decide +kernel
theorem dX8_chance_130 : decode cX8_chance 130 = .ok (.goto 8, 3) := by decide +kernel
theorem dX8_chance_133 : decode cX8_chance 133 = .ok (.lload 6, 2) := by decide +kernel
theorem dX8_chance_135 : decode cX8_chance 135 = .ok (.lload 8, 2) := by decide +kernel
theorem dX8_chance_137 : decode cX8_chance 137 = .ok (.ldiv, 1) := by decide +kernel
theorem dX8_chance_138 : decode cX8_chance 138 = .ok (.lreturn, 1) := by decide +kernel
theorem dX8_greatestDivisor_0 : decode cX8_greatestDivisor 0 = .ok (.iconst 0, 1) := by decide +kernel
theorem dX8_greatestDivisor_1 : decode cX8_greatestDivisor 1 = .ok (.istore 4, 2) := by decide +kernel
theorem dX8_greatestDivisor_3 : decode cX8_greatestDivisor 3 = .ok (.iload 4, 2) := by decide +kernel
theorem dX8_greatestDivisor_5 : decode cX8_greatestDivisor 5 = .ok (.bipush 100, 2) := by decide +kernel
theorem dX8_greatestDivisor_7 : decode cX8_greatestDivisor 7 = .ok (.if_icmp .ge 25, 3) := by decide +kernel
theorem dX8_greatestDivisor_10 : decode cX8_greatestDivisor 10 = .ok (.lload_n 2, 1) := by decide +kernel
theorem dX8_greatestDivisor_11 : decode cX8_greatestDivisor 11 = .ok (.lconst 0, 1) := by decide +kernel
theorem dX8_greatestDivisor_12 : decode cX8_greatestDivisor 12 = .ok (.lcmp, 1) := by decide +kernel
theorem dX8_greatestDivisor_13 : decode cX8_greatestDivisor 13 = .ok (.ifCond .eq 19, 3) := by decide +kernel
theorem dX8_greatestDivisor_16 : decode cX8_greatestDivisor 16 = .ok (.lload_n 0, 1) := by decide +kernel
theorem dX8_greatestDivisor_17 : decode cX8_greatestDivisor 17 = .ok (.lload_n 2, 1) := by decide +kernel
theorem dX8_greatestDivisor_18 : decode cX8_greatestDivisor 18 = .ok (.lrem, 1) := by decide +kernel
theorem dX8_greatestDivisor_19 : decode cX8_greatestDivisor 19 = .ok (.lstore 5, 2) := by decide +kernel
theorem dX8_greatestDivisor_21 : decode cX8_greatestDivisor 21 = .ok (.lload_n 2, 1) := by decide +kernel
theorem dX8_greatestDivisor_22 : decode cX8_greatestDivisor 22 = .ok (.lstore_n 0, 1) := by decide +kernel
theorem dX8_greatestDivisor_23 : decode cX8_greatestDivisor 23 = .ok (.lload 5, 2) := by decide +kernel
theorem dX8_greatestDivisor_25 : decode cX8_greatestDivisor 25 = .ok (.lstore_n 2, 1) := by decide +kernel
theorem dX8_greatestDivisor_26 : decode cX8_greatestDivisor 26 = .ok (.iinc 4 1, 3) := by decide +kernel
theorem dX8_greatestDivisor_29 : decode cX8_greatestDivisor 29 = .ok (.goto (-26), 3) := by decide +kernel
theorem dX8_greatestDivisor_32 : decode cX8_greatestDivisor 32 = .ok (.lload_n 0, 1) := by decide +kernel
theorem dX8_greatestDivisor_33 : decode cX8_greatestDivisor 33 = .ok (.lreturn, 1) := by decide +kernel
theorem dX8_plan_0 : decode cX8_plan 0 = .ok (.iload_n 1, 1) := by decide +kernel
theorem dX8_plan_1 : decode cX8_plan 1 = .ok (.ifCond .lt 19, 3) := by decide +kernel
theorem dX8_plan_4 : decode cX8_plan 4 = .ok (.iload_n 1, 1) := by decide +kernel
theorem dX8_plan_5 : decode cX8_plan 5 = .ok (.iconst 4, 1) := by decide +kernel
theorem dX8_plan_6 : decode cX8_plan 6 = .ok (.if_icmp .ge 14, 3) := by decide +kernel
theorem dX8_plan_9 : decode cX8_plan 9 = .ok (.aload_n 0, 1) := by decide +kernel
theorem dX8_plan_10 : decode cX8_plan 10 = .ok (.getfield 28, 3) := by decide +kernel
theorem dX8_plan_13 : decode cX8_plan 13 = .ok (.iload_n 2, 1) := by decide +kernel
theorem dX8_plan_14 : decode cX8_plan 14 = .ok (.invokevirtual 160, 3) := by decide +kernel
theorem dX8_plan_17 : decode cX8_plan 17 = .ok (.ifCond .ne 6, 3) := by decide +kernel
theorem dX8_plan_20 : decode cX8_plan 20 = .ok (.bipush (-2), 2) := by decide +kernel
theorem dX8_plan_22 : decode cX8_plan 22 = .ok (.ireturn, 1) := by decide +kernel
theorem dX8_plan_23 : decode cX8_plan 23 = .ok (.aload_n 0, 1) := by decide +kernel
theorem dX8_plan_24 : decode cX8_plan 24 = .ok (.getfield 44, 3) := by decide +kernel
theorem dX8_plan_27 : decode cX8_plan 27 = .ok (.iload_n 1, 1) := by decide +kernel
theorem dX8_plan_28 : decode cX8_plan 28 = .ok (.iaload, 1) := by decide +kernel
theorem dX8_plan_29 : decode cX8_plan 29 = .ok (.istore_n 3, 1) := by decide +kernel
theorem dX8_plan_30 : decode cX8_plan 30 = .ok (.aload_n 0, 1) := by decide +kernel
theorem dX8_plan_31 : decode cX8_plan 31 = .ok (.getfield 44, 3) := by decide +kernel
theorem dX8_plan_34 : decode cX8_plan 34 = .ok (.iload_n 1, 1) := by decide +kernel
theorem dX8_plan_35 : decode cX8_plan 35 = .ok (.iload_n 2, 1) := by decide +kernel
theorem dX8_plan_36 : decode cX8_plan 36 = .ok (.iastore, 1) := by decide +kernel
theorem dX8_plan_37 : decode cX8_plan 37 = .ok (.iload_n 3, 1) := by decide +kernel
theorem dX8_plan_38 : decode cX8_plan 38 = .ok (.ireturn, 1) := by decide +kernel
theorem dX8_weakest_0 : decode cX8_weakest 0 = .ok (.bipush 6, 2) := by decide +kernel
theorem dX8_weakest_2 : decode cX8_weakest 2 = .ok (.istore_n 1, 1) := by decide +kernel
theorem dX8_weakest_3 : decode cX8_weakest 3 = .ok (.iconst 0, 1) := by decide +kernel
theorem dX8_weakest_4 : decode cX8_weakest 4 = .ok (.istore_n 2, 1) := by decide +kernel
theorem dX8_weakest_5 : decode cX8_weakest 5 = .ok (.aload_n 0, 1) := by decide +kernel
theorem dX8_weakest_6 : decode cX8_weakest 6 = .ok (.getfield 41, 3) := by decide +kernel
theorem dX8_weakest_9 : decode cX8_weakest 9 = .ok (.aload_n 0, 1) := by decide +kernel
theorem dX8_weakest_10 : decode cX8_weakest 10 = .ok (.getfield 37, 3) := by decide +kernel
theorem dX8_weakest_13 : decode cX8_weakest 13 = .ok (.invokevirtual 95, 3) := by decide +kernel
theorem dX8_weakest_16 : decode cX8_weakest 16 = .ok (.iconst 0, 1) := by decide +kernel
theorem dX8_weakest_17 : decode cX8_weakest 17 = .ok (.istore_n 3, 1) := by decide +kernel
theorem dX8_weakest_18 : decode cX8_weakest 18 = .ok (.iload_n 3, 1) := by decide +kernel
theorem dX8_weakest_19 : decode cX8_weakest 19 = .ok (.bipush 8, 2) := by decide +kernel
theorem dX8_weakest_21 : decode cX8_weakest 21 = .ok (.if_icmp .ge 60, 3) := by decide +kernel
theorem dX8_weakest_24 : decode cX8_weakest 24 = .ok (.aload_n 0, 1) := by decide +kernel
theorem dX8_weakest_25 : decode cX8_weakest 25 = .ok (.getfield 44, 3) := by decide +kernel
theorem dX8_weakest_28 : decode cX8_weakest 28 = .ok (.iload_n 3, 1) := by decide +kernel
theorem dX8_weakest_29 : decode cX8_weakest 29 = .ok (.iconst 4, 1) := by decide +kernel
theorem dX8_weakest_30 : decode cX8_weakest 30 = .ok (.irem, 1) := by decide +kernel
theorem dX8_weakest_31 : decode cX8_weakest 31 = .ok (.iaload, 1) := by decide +kernel
theorem dX8_weakest_32 : decode cX8_weakest 32 = .ok (.istore 4, 2) := by decide +kernel
theorem dX8_weakest_34 : decode cX8_weakest 34 = .ok (.aload_n 0, 1) := by decide +kernel
theorem dX8_weakest_35 : decode cX8_weakest 35 = .ok (.getfield 41, 3) := by decide +kernel
theorem dX8_weakest_38 : decode cX8_weakest 38 = .ok (.aload_n 0, 1) := by decide +kernel
theorem dX8_weakest_39 : decode cX8_weakest 39 = .ok (.getfield 41, 3) := by decide +kernel
theorem dX8_weakest_42 : decode cX8_weakest 42 = .ok (.iload 4, 2) := by decide +kernel
theorem dX8_weakest_44 : decode cX8_weakest 44 = .ok (.invokevirtual 163, 3) := by decide +kernel
theorem dX8_weakest_47 : decode cX8_weakest 47 = .ok (.ifCond .eq 8, 3) := by decide +kernel
theorem dX8_weakest_50 : decode cX8_weakest 50 = .ok (.iload 4, 2) := by decide +kernel
theorem dX8_weakest_52 : decode cX8_weakest 52 = .ok (.goto 4, 3) := by decide +kernel
theorem dX8_weakest_55 : decode cX8_weakest 55 = .ok (.iconst 0, 1) := by decide +kernel
theorem dX8_weakest_56 : decode cX8_weakest 56 = .ok (.invokevirtual 169, 3) := by decide +kernel
theorem dX8_weakest_59 : decode cX8_weakest 59 = .ok (.invokestatic 210, 3) := by decide +kernel
theorem dX8_weakest_62 : decode cX8_weakest 62 = .ok (.istore 5, 2) := by decide +kernel
theorem dX8_weakest_64 : decode cX8_weakest 64 = .ok (.iload 5, 2) := by decide +kernel
theorem dX8_weakest_66 : decode cX8_weakest 66 = .ok (.iload_n 1, 1) := by decide +kernel
theorem dX8_weakest_67 : decode cX8_weakest 67 = .ok (.if_icmp .ge 8, 3) := by decide +kernel
theorem dX8_weakest_70 : decode cX8_weakest 70 = .ok (.iload 5, 2) := by decide +kernel
theorem dX8_weakest_72 : decode cX8_weakest 72 = .ok (.istore_n 1, 1) := by decide +kernel
theorem dX8_weakest_73 : decode cX8_weakest 73 = .ok (.iload_n 3, 1) := by decide +kernel
theorem dX8_weakest_74 : decode cX8_weakest 74 = .ok (.istore_n 2, 1) := by decide +kernel
theorem dX8_weakest_75 : decode cX8_weakest 75 = .ok (.iinc 3 1, 3) := by decide +kernel
theorem dX8_weakest_78 : decode cX8_weakest 78 = .ok (.goto (-60), 3) := by decide +kernel
theorem dX8_weakest_81 : decode cX8_weakest 81 = .ok (.iload_n 2, 1) := by decide +kernel
theorem dX8_weakest_82 : decode cX8_weakest 82 = .ok (.ireturn, 1) := by decide +kernel
theorem dX8_settled_0 : decode cX8_settled 0 = .ok (.iconst 0, 1) := by decide +kernel
theorem dX8_settled_1 : decode cX8_settled 1 = .ok (.istore_n 2, 1) := by decide +kernel
theorem dX8_settled_2 : decode cX8_settled 2 = .ok (.iconst 0, 1) := by decide +kernel
theorem dX8_settled_3 : decode cX8_settled 3 = .ok (.istore_n 3, 1) := by decide +kernel
theorem dX8_settled_4 : decode cX8_settled 4 = .ok (.iconst 0, 1) := by decide +kernel
theorem dX8_settled_5 : decode cX8_settled 5 = .ok (.istore 4, 2) := by decide +kernel
theorem dX8_settled_7 : decode cX8_settled 7 = .ok (.iload 4, 2) := by decide +kernel
theorem dX8_settled_9 : decode cX8_settled 9 = .ok (.aload_n 0, 1) := by decide +kernel
theorem dX8_settled_10 : decode cX8_settled 10 = .ok (.getfield 28, 3) := by decide +kernel
theorem dX8_settled_13 : decode cX8_settled 13 = .ok (.getfield 114, 3) := by decide +kernel
theorem dX8_settled_16 : decode cX8_settled 16 = .ok (.if_icmp .ge 95, 3) := by decide +kernel
theorem dX8_settled_19 : decode cX8_settled 19 = .ok (.aload_n 0, 1) := by decide +kernel
theorem dX8_settled_20 : decode cX8_settled 20 = .ok (.getfield 37, 3) := by decide +kernel
theorem dX8_settled_23 : decode cX8_settled 23 = .ok (.getfield 151, 3) := by decide +kernel
theorem dX8_settled_26 : decode cX8_settled 26 = .ok (.iload 4, 2) := by decide +kernel
theorem dX8_settled_28 : decode cX8_settled 28 = .ok (.iaload, 1) := by decide +kernel
theorem dX8_settled_29 : decode cX8_settled 29 = .ok (.aload_n 0, 1) := by decide +kernel
theorem dX8_settled_30 : decode cX8_settled 30 = .ok (.getfield 37, 3) := by decide +kernel
theorem dX8_settled_33 : decode cX8_settled 33 = .ok (.getfield 148, 3) := by decide +kernel
theorem dX8_settled_36 : decode cX8_settled 36 = .ok (.iload 4, 2) := by decide +kernel
theorem dX8_settled_38 : decode cX8_settled 38 = .ok (.iaload, 1) := by decide +kernel
theorem dX8_settled_39 : decode cX8_settled 39 = .ok (.invokestatic 215, 3) := by decide +kernel
theorem dX8_settled_42 : decode cX8_settled 42 = .ok (.istore 5, 2) := by decide +kernel
theorem dX8_settled_44 : decode cX8_settled 44 = .ok (.aload_n 0, 1) := by decide +kernel
theorem dX8_settled_45 : decode cX8_settled 45 = .ok (.getfield 37, 3) := by decide +kernel
theorem dX8_settled_48 : decode cX8_settled 48 = .ok (.getfield 151, 3) := by decide +kernel
theorem dX8_settled_51 : decode cX8_settled 51 = .ok (.iload 4, 2) := by decide +kernel
theorem dX8_settled_53 : decode cX8_settled 53 = .ok (.iaload, 1) := by decide +kernel
theorem dX8_settled_54 : decode cX8_settled 54 = .ok (.iload 5, 2) := by decide +kernel
theorem dX8_settled_56 : decode cX8_settled 56 = .ok (.isub, 1) := by decide +kernel
theorem dX8_settled_57 : decode cX8_settled 57 = .ok (.istore 6, 2) := by decide +kernel
theorem dX8_settled_59 : decode cX8_settled 59 = .ok (.iload 6, 2) := by decide +kernel
theorem dX8_settled_61 : decode cX8_settled 61 = .ok (.aload_n 0, 1) := by decide +kernel
theorem dX8_settled_62 : decode cX8_settled 62 = .ok (.getfield 37, 3) := by decide +kernel
theorem dX8_settled_65 : decode cX8_settled 65 = .ok (.aload_n 0, 1) := by decide +kernel
theorem dX8_settled_66 : decode cX8_settled 66 = .ok (.getfield 28, 3) := by decide +kernel
theorem dX8_settled_69 : decode cX8_settled 69 = .ok (.getfield 154, 3) := by decide +kernel
theorem dX8_settled_72 : decode cX8_settled 72 = .ok (.iload 4, 2) := by decide +kernel
theorem dX8_settled_74 : decode cX8_settled 74 = .ok (.iaload, 1) := by decide +kernel
theorem dX8_settled_75 : decode cX8_settled 75 = .ok (.invokevirtual 221, 3) := by decide +kernel
theorem dX8_settled_78 : decode cX8_settled 78 = .ok (.invokestatic 215, 3) := by decide +kernel
theorem dX8_settled_81 : decode cX8_settled 81 = .ok (.istore 7, 2) := by decide +kernel
theorem dX8_settled_83 : decode cX8_settled 83 = .ok (.iload_n 2, 1) := by decide +kernel
theorem dX8_settled_84 : decode cX8_settled 84 = .ok (.iload 5, 2) := by decide +kernel
theorem dX8_settled_86 : decode cX8_settled 86 = .ok (.iload 7, 2) := by decide +kernel
theorem dX8_settled_88 : decode cX8_settled 88 = .ok (.iadd, 1) := by decide +kernel
theorem dX8_settled_89 : decode cX8_settled 89 = .ok (.iadd, 1) := by decide +kernel
theorem dX8_settled_90 : decode cX8_settled 90 = .ok (.istore_n 2, 1) := by decide +kernel
theorem dX8_settled_91 : decode cX8_settled 91 = .ok (.iload 7, 2) := by decide +kernel
theorem dX8_settled_93 : decode cX8_settled 93 = .ok (.iload 6, 2) := by decide +kernel
theorem dX8_settled_95 : decode cX8_settled 95 = .ok (.if_icmp .ge 10, 3) := by decide +kernel
theorem dX8_settled_98 : decode cX8_settled 98 = .ok (.iload_n 3, 1) := by decide +kernel
theorem dX8_settled_99 : decode cX8_settled 99 = .ok (.iconst 1, 1) := by decide +kernel
theorem dX8_settled_100 : decode cX8_settled 100 = .ok (.iload 4, 2) := by decide +kernel
theorem dX8_settled_102 : decode cX8_settled 102 = .ok (.ishl, 1) := by decide +kernel
theorem dX8_settled_103 : decode cX8_settled 103 = .ok (.ior, 1) := by decide +kernel
theorem dX8_settled_104 : decode cX8_settled 104 = .ok (.istore_n 3, 1) := by decide +kernel
theorem dX8_settled_105 : decode cX8_settled 105 = .ok (.iinc 4 1, 3) := by decide +kernel
theorem dX8_settled_108 : decode cX8_settled 108 = .ok (.goto (-101), 3) := by decide +kernel
theorem dX8_settled_111 : decode cX8_settled 111 = .ok (.iload_n 1, 1) := by decide +kernel
theorem dX8_settled_112 : decode cX8_settled 112 = .ok (.ifCond .eq 7, 3) := by decide +kernel
theorem dX8_settled_115 : decode cX8_settled 115 = .ok (.iload_n 3, 1) := by decide +kernel
theorem dX8_settled_116 : decode cX8_settled 116 = .ok (.goto 4, 3) := by decide +kernel
theorem dX8_settled_119 : decode cX8_settled 119 = .ok (.iload_n 2, 1) := by decide +kernel
theorem dX8_settled_120 : decode cX8_settled 120 = .ok (.ireturn, 1) := by decide +kernel
theorem dX8_use_0 : decode cX8_use 0 = .ok (.aload_n 0, 1) := by decide +kernel
theorem dX8_use_1 : decode cX8_use 1 = .ok (.getfield 28, 3) := by decide +kernel
theorem dX8_use_4 : decode cX8_use 4 = .ok (.iload_n 2, 1) := by decide +kernel
theorem dX8_use_5 : decode cX8_use 5 = .ok (.invokevirtual 141, 3) := by decide +kernel
theorem dX8_use_8 : decode cX8_use 8 = .ok (.ifCond .ne 5, 3) := by decide +kernel
theorem dX8_use_11 : decode cX8_use 11 = .ok (.iconst (-1), 1) := by decide +kernel
theorem dX8_use_12 : decode cX8_use 12 = .ok (.ireturn, 1) := by decide +kernel
theorem dX8_use_13 : decode cX8_use 13 = .ok (.iload_n 1, 1) := by decide +kernel
theorem dX8_use_14 : decode cX8_use 14 = .ok (.ifCond .lt 19, 3) := by decide +kernel
theorem dX8_use_17 : decode cX8_use 17 = .ok (.iload_n 1, 1) := by decide +kernel
theorem dX8_use_18 : decode cX8_use 18 = .ok (.bipush 99, 2) := by decide +kernel
theorem dX8_use_20 : decode cX8_use 20 = .ok (.if_icmp .gt 13, 3) := by decide +kernel
theorem dX8_use_23 : decode cX8_use 23 = .ok (.iload_n 3, 1) := by decide +kernel
theorem dX8_use_24 : decode cX8_use 24 = .ok (.ifCond .lt 9, 3) := by decide +kernel
theorem dX8_use_27 : decode cX8_use 27 = .ok (.iload_n 3, 1) := by decide +kernel
theorem dX8_use_28 : decode cX8_use 28 = .ok (.bipush 99, 2) := by decide +kernel
theorem dX8_use_30 : decode cX8_use 30 = .ok (.if_icmp .le 6, 3) := by decide +kernel
theorem dX8_use_33 : decode cX8_use 33 = .ok (.bipush (-2), 2) := by decide +kernel
theorem dX8_use_35 : decode cX8_use 35 = .ok (.ireturn, 1) := by decide +kernel
theorem dX8_use_36 : decode cX8_use 36 = .ok (.aload_n 0, 1) := by decide +kernel
theorem dX8_use_37 : decode cX8_use 37 = .ok (.getfield 65, 3) := by decide +kernel
theorem dX8_use_40 : decode cX8_use 40 = .ok (.getfield 138, 3) := by decide +kernel
theorem dX8_use_43 : decode cX8_use 43 = .ok (.bipush 12, 2) := by decide +kernel
theorem dX8_use_45 : decode cX8_use 45 = .ok (.if_icmp .lt 6, 3) := by decide +kernel
theorem dX8_use_48 : decode cX8_use 48 = .ok (.bipush (-4), 2) := by decide +kernel
theorem dX8_use_50 : decode cX8_use 50 = .ok (.ireturn, 1) := by decide +kernel
theorem dX8_use_51 : decode cX8_use 51 = .ok (.aload_n 0, 1) := by decide +kernel
theorem dX8_use_52 : decode cX8_use 52 = .ok (.getfield 65, 3) := by decide +kernel
theorem dX8_use_55 : decode cX8_use 55 = .ok (.iload_n 1, 1) := by decide +kernel
theorem dX8_use_56 : decode cX8_use 56 = .ok (.iload_n 2, 1) := by decide +kernel
theorem dX8_use_57 : decode cX8_use 57 = .ok (.iload_n 3, 1) := by decide +kernel
theorem dX8_use_58 : decode cX8_use 58 = .ok (.invokevirtual 224, 3) := by decide +kernel
theorem dX8_use_61 : decode cX8_use 61 = .ok (.aload_n 0, 1) := by decide +kernel
theorem dX8_use_62 : decode cX8_use 62 = .ok (.getfield 65, 3) := by decide +kernel
theorem dX8_use_65 : decode cX8_use 65 = .ok (.getfield 138, 3) := by decide +kernel
theorem dX8_use_68 : decode cX8_use 68 = .ok (.ireturn, 1) := by decide +kernel
theorem dX8_burn_0 : decode cX8_burn 0 = .ok (.aload_n 0, 1) := by decide +kernel
theorem dX8_burn_1 : decode cX8_burn 1 = .ok (.getfield 65, 3) := by decide +kernel
theorem dX8_burn_4 : decode cX8_burn 4 = .ok (.getfield 138, 3) := by decide +kernel
theorem dX8_burn_7 : decode cX8_burn 7 = .ok (.istore_n 1, 1) := by decide +kernel
theorem dX8_burn_8 : decode cX8_burn 8 = .ok (.aload_n 0, 1) := by decide +kernel
theorem dX8_burn_9 : decode cX8_burn 9 = .ok (.getfield 65, 3) := by decide +kernel
theorem dX8_burn_12 : decode cX8_burn 12 = .ok (.iconst 0, 1) := by decide +kernel
theorem dX8_burn_13 : decode cX8_burn 13 = .ok (.putfield 138, 3) := by decide +kernel
theorem dX8_burn_16 : decode cX8_burn 16 = .ok (.iload_n 1, 1) := by decide +kernel
theorem dX8_burn_17 : decode cX8_burn 17 = .ok (.ireturn, 1) := by decide +kernel
theorem dX8_forged_0 : decode cX8_forged 0 = .ok (.iconst 0, 1) := by decide +kernel
theorem dX8_forged_1 : decode cX8_forged 1 = .ok (.istore_n 1, 1) := by decide +kernel
theorem dX8_forged_2 : decode cX8_forged 2 = .ok (.iconst 0, 1) := by decide +kernel
theorem dX8_forged_3 : decode cX8_forged 3 = .ok (.istore_n 2, 1) := by decide +kernel
theorem dX8_forged_4 : decode cX8_forged 4 = .ok (.iload_n 2, 1) := by decide +kernel
theorem dX8_forged_5 : decode cX8_forged 5 = .ok (.bipush 99, 2) := by decide +kernel
theorem dX8_forged_7 : decode cX8_forged 7 = .ok (.if_icmp .gt 27, 3) := by decide +kernel
theorem dX8_forged_10 : decode cX8_forged 10 = .ok (.aload_n 0, 1) := by decide +kernel
theorem dX8_forged_11 : decode cX8_forged 11 = .ok (.getfield 65, 3) := by decide +kernel
theorem dX8_forged_14 : decode cX8_forged 14 = .ok (.iload_n 2, 1) := by decide +kernel
theorem dX8_forged_15 : decode cX8_forged 15 = .ok (.aload_n 0, 1) := by decide +kernel
theorem dX8_forged_16 : decode cX8_forged 16 = .ok (.getfield 28, 3) := by decide +kernel
theorem dX8_forged_19 : decode cX8_forged 19 = .ok (.invokevirtual 228, 3) := by decide +kernel
theorem dX8_forged_22 : decode cX8_forged 22 = .ok (.ifCond .eq 6, 3) := by decide +kernel
theorem dX8_forged_25 : decode cX8_forged 25 = .ok (.iinc 1 1, 3) := by decide +kernel
theorem dX8_forged_28 : decode cX8_forged 28 = .ok (.iinc 2 1, 3) := by decide +kernel
theorem dX8_forged_31 : decode cX8_forged 31 = .ok (.goto (-27), 3) := by decide +kernel
theorem dX8_forged_34 : decode cX8_forged 34 = .ok (.iload_n 1, 1) := by decide +kernel
theorem dX8_forged_35 : decode cX8_forged 35 = .ok (.ireturn, 1) := by decide +kernel
theorem dX8_forgedAt_0 : decode cX8_forgedAt 0 = .ok (.iconst 0, 1) := by decide +kernel
theorem dX8_forgedAt_1 : decode cX8_forgedAt 1 = .ok (.istore_n 2, 1) := by decide +kernel
theorem dX8_forgedAt_2 : decode cX8_forgedAt 2 = .ok (.iconst 0, 1) := by decide +kernel
theorem dX8_forgedAt_3 : decode cX8_forgedAt 3 = .ok (.istore_n 3, 1) := by decide +kernel
theorem dX8_forgedAt_4 : decode cX8_forgedAt 4 = .ok (.iload_n 3, 1) := by decide +kernel
theorem dX8_forgedAt_5 : decode cX8_forgedAt 5 = .ok (.bipush 99, 2) := by decide +kernel
theorem dX8_forgedAt_7 : decode cX8_forgedAt 7 = .ok (.if_icmp .gt 34, 3) := by decide +kernel
theorem dX8_forgedAt_10 : decode cX8_forgedAt 10 = .ok (.aload_n 0, 1) := by decide +kernel
theorem dX8_forgedAt_11 : decode cX8_forgedAt 11 = .ok (.getfield 65, 3) := by decide +kernel
theorem dX8_forgedAt_14 : decode cX8_forgedAt 14 = .ok (.iload_n 3, 1) := by decide +kernel
theorem dX8_forgedAt_15 : decode cX8_forgedAt 15 = .ok (.aload_n 0, 1) := by decide +kernel
theorem dX8_forgedAt_16 : decode cX8_forgedAt 16 = .ok (.getfield 28, 3) := by decide +kernel
theorem dX8_forgedAt_19 : decode cX8_forgedAt 19 = .ok (.invokevirtual 228, 3) := by decide +kernel
theorem dX8_forgedAt_22 : decode cX8_forgedAt 22 = .ok (.ifCond .eq 13, 3) := by decide +kernel
theorem dX8_forgedAt_25 : decode cX8_forgedAt 25 = .ok (.iload_n 2, 1) := by decide +kernel
theorem dX8_forgedAt_26 : decode cX8_forgedAt 26 = .ok (.iload_n 1, 1) := by decide +kernel
theorem dX8_forgedAt_27 : decode cX8_forgedAt 27 = .ok (.if_icmp .ne 5, 3) := by decide +kernel
theorem dX8_forgedAt_30 : decode cX8_forgedAt 30 = .ok (.iload_n 3, 1) := by decide +kernel
theorem dX8_forgedAt_31 : decode cX8_forgedAt 31 = .ok (.ireturn, 1) := by decide +kernel
theorem dX8_forgedAt_32 : decode cX8_forgedAt 32 = .ok (.iinc 2 1, 3) := by decide +kernel
theorem dX8_forgedAt_35 : decode cX8_forgedAt 35 = .ok (.iinc 3 1, 3) := by decide +kernel
theorem dX8_forgedAt_38 : decode cX8_forgedAt 38 = .ok (.goto (-34), 3) := by decide +kernel
theorem dX8_forgedAt_41 : decode cX8_forgedAt 41 = .ok (.bipush (-9), 2) := by decide +kernel
theorem dX8_forgedAt_43 : decode cX8_forgedAt 43 = .ok (.ireturn, 1) := by decide +kernel
theorem dX8_forgers_0 : decode cX8_forgers 0 = .ok (.iconst 0, 1) := by decide +kernel
theorem dX8_forgers_1 : decode cX8_forgers 1 = .ok (.istore_n 1, 1) := by decide +kernel
theorem dX8_forgers_2 : decode cX8_forgers 2 = .ok (.iconst 0, 1) := by decide +kernel
theorem dX8_forgers_3 : decode cX8_forgers 3 = .ok (.istore_n 2, 1) := by decide +kernel
theorem dX8_forgers_4 : decode cX8_forgers 4 = .ok (.iload_n 2, 1) := by decide +kernel
theorem dX8_forgers_5 : decode cX8_forgers 5 = .ok (.aload_n 0, 1) := by decide +kernel
theorem dX8_forgers_6 : decode cX8_forgers 6 = .ok (.getfield 65, 3) := by decide +kernel
theorem dX8_forgers_9 : decode cX8_forgers 9 = .ok (.getfield 138, 3) := by decide +kernel
theorem dX8_forgers_12 : decode cX8_forgers 12 = .ok (.if_icmp .ge 46, 3) := by decide +kernel
theorem dX8_forgers_15 : decode cX8_forgers 15 = .ok (.aload_n 0, 1) := by decide +kernel
theorem dX8_forgers_16 : decode cX8_forgers 16 = .ok (.getfield 65, 3) := by decide +kernel
theorem dX8_forgers_19 : decode cX8_forgers 19 = .ok (.aload_n 0, 1) := by decide +kernel
theorem dX8_forgers_20 : decode cX8_forgers 20 = .ok (.getfield 65, 3) := by decide +kernel
theorem dX8_forgers_23 : decode cX8_forgers 23 = .ok (.getfield 232, 3) := by decide +kernel
theorem dX8_forgers_26 : decode cX8_forgers 26 = .ok (.iload_n 2, 1) := by decide +kernel
theorem dX8_forgers_27 : decode cX8_forgers 27 = .ok (.iaload, 1) := by decide +kernel
theorem dX8_forgers_28 : decode cX8_forgers 28 = .ok (.aload_n 0, 1) := by decide +kernel
theorem dX8_forgers_29 : decode cX8_forgers 29 = .ok (.getfield 28, 3) := by decide +kernel
theorem dX8_forgers_32 : decode cX8_forgers 32 = .ok (.invokevirtual 228, 3) := by decide +kernel
theorem dX8_forgers_35 : decode cX8_forgers 35 = .ok (.ifCond .eq 17, 3) := by decide +kernel
theorem dX8_forgers_38 : decode cX8_forgers 38 = .ok (.iload_n 1, 1) := by decide +kernel
theorem dX8_forgers_39 : decode cX8_forgers 39 = .ok (.iconst 1, 1) := by decide +kernel
theorem dX8_forgers_40 : decode cX8_forgers 40 = .ok (.aload_n 0, 1) := by decide +kernel
theorem dX8_forgers_41 : decode cX8_forgers 41 = .ok (.getfield 65, 3) := by decide +kernel
theorem dX8_forgers_44 : decode cX8_forgers 44 = .ok (.getfield 235, 3) := by decide +kernel
theorem dX8_forgers_47 : decode cX8_forgers 47 = .ok (.iload_n 2, 1) := by decide +kernel
theorem dX8_forgers_48 : decode cX8_forgers 48 = .ok (.iaload, 1) := by decide +kernel
theorem dX8_forgers_49 : decode cX8_forgers 49 = .ok (.ishl, 1) := by decide +kernel
theorem dX8_forgers_50 : decode cX8_forgers 50 = .ok (.ior, 1) := by decide +kernel
theorem dX8_forgers_51 : decode cX8_forgers 51 = .ok (.istore_n 1, 1) := by decide +kernel
theorem dX8_forgers_52 : decode cX8_forgers 52 = .ok (.iinc 2 1, 3) := by decide +kernel
theorem dX8_forgers_55 : decode cX8_forgers 55 = .ok (.goto (-51), 3) := by decide +kernel
theorem dX8_forgers_58 : decode cX8_forgers 58 = .ok (.iload_n 1, 1) := by decide +kernel
theorem dX8_forgers_59 : decode cX8_forgers 59 = .ok (.aload_n 0, 1) := by decide +kernel
theorem dX8_forgers_60 : decode cX8_forgers 60 = .ok (.getfield 28, 3) := by decide +kernel
theorem dX8_forgers_63 : decode cX8_forgers 63 = .ok (.invokevirtual 195, 3) := by decide +kernel
theorem dX8_forgers_66 : decode cX8_forgers 66 = .ok (.iand, 1) := by decide +kernel
theorem dX8_forgers_67 : decode cX8_forgers 67 = .ok (.ireturn, 1) := by decide +kernel
theorem dX8_keep_0 : decode cX8_keep 0 = .ok (.iload_n 1, 1) := by decide +kernel
theorem dX8_keep_1 : decode cX8_keep 1 = .ok (.ifCond .lt 8, 3) := by decide +kernel
theorem dX8_keep_4 : decode cX8_keep 4 = .ok (.iload_n 1, 1) := by decide +kernel
theorem dX8_keep_5 : decode cX8_keep 5 = .ok (.iconst 2, 1) := by decide +kernel
theorem dX8_keep_6 : decode cX8_keep 6 = .ok (.if_icmp .lt 5, 3) := by decide +kernel
theorem dX8_keep_9 : decode cX8_keep 9 = .ok (.iconst (-1), 1) := by decide +kernel
theorem dX8_keep_10 : decode cX8_keep 10 = .ok (.ireturn, 1) := by decide +kernel
theorem dX8_keep_11 : decode cX8_keep 11 = .ok (.aload_n 0, 1) := by decide +kernel
theorem dX8_keep_12 : decode cX8_keep 12 = .ok (.getfield 71, 3) := by decide +kernel
theorem dX8_keep_15 : decode cX8_keep 15 = .ok (.iload_n 1, 1) := by decide +kernel
theorem dX8_keep_16 : decode cX8_keep 16 = .ok (.aaload, 1) := by decide +kernel
theorem dX8_keep_17 : decode cX8_keep 17 = .ok (.aload_n 0, 1) := by decide +kernel
theorem dX8_keep_18 : decode cX8_keep 18 = .ok (.getfield 37, 3) := by decide +kernel
theorem dX8_keep_21 : decode cX8_keep 21 = .ok (.aload_n 0, 1) := by decide +kernel
theorem dX8_keep_22 : decode cX8_keep 22 = .ok (.getfield 44, 3) := by decide +kernel
theorem dX8_keep_25 : decode cX8_keep 25 = .ok (.invokevirtual 238, 3) := by decide +kernel
theorem dX8_keep_28 : decode cX8_keep 28 = .ok (.aload_n 0, 1) := by decide +kernel
theorem dX8_keep_29 : decode cX8_keep 29 = .ok (.getfield 37, 3) := by decide +kernel
theorem dX8_keep_32 : decode cX8_keep 32 = .ok (.getfield 123, 3) := by decide +kernel
theorem dX8_keep_35 : decode cX8_keep 35 = .ok (.ireturn, 1) := by decide +kernel
theorem dX8_again_0 : decode cX8_again 0 = .ok (.iload_n 1, 1) := by decide +kernel
theorem dX8_again_1 : decode cX8_again 1 = .ok (.ifCond .lt 8, 3) := by decide +kernel
theorem dX8_again_4 : decode cX8_again 4 = .ok (.iload_n 1, 1) := by decide +kernel
theorem dX8_again_5 : decode cX8_again 5 = .ok (.iconst 2, 1) := by decide +kernel
theorem dX8_again_6 : decode cX8_again 6 = .ok (.if_icmp .lt 5, 3) := by decide +kernel
theorem dX8_again_9 : decode cX8_again 9 = .ok (.iconst (-1), 1) := by decide +kernel
theorem dX8_again_10 : decode cX8_again 10 = .ok (.ireturn, 1) := by decide +kernel
theorem dX8_again_11 : decode cX8_again 11 = .ok (.aload_n 0, 1) := by decide +kernel
theorem dX8_again_12 : decode cX8_again 12 = .ok (.getfield 71, 3) := by decide +kernel
theorem dX8_again_15 : decode cX8_again 15 = .ok (.iload_n 1, 1) := by decide +kernel
theorem dX8_again_16 : decode cX8_again 16 = .ok (.aaload, 1) := by decide +kernel
theorem dX8_again_17 : decode cX8_again 17 = .ok (.getfield 110, 3) := by decide +kernel
theorem dX8_again_20 : decode cX8_again 20 = .ok (.ifCond .ne 6, 3) := by decide +kernel
theorem dX8_again_23 : decode cX8_again 23 = .ok (.bipush (-3), 2) := by decide +kernel
theorem dX8_again_25 : decode cX8_again 25 = .ok (.ireturn, 1) := by decide +kernel
theorem dX8_again_26 : decode cX8_again 26 = .ok (.aload_n 0, 1) := by decide +kernel
theorem dX8_again_27 : decode cX8_again 27 = .ok (.getfield 71, 3) := by decide +kernel
theorem dX8_again_30 : decode cX8_again 30 = .ok (.iload_n 1, 1) := by decide +kernel
theorem dX8_again_31 : decode cX8_again 31 = .ok (.aaload, 1) := by decide +kernel
theorem dX8_again_32 : decode cX8_again 32 = .ok (.aload_n 0, 1) := by decide +kernel
theorem dX8_again_33 : decode cX8_again 33 = .ok (.getfield 37, 3) := by decide +kernel
theorem dX8_again_36 : decode cX8_again 36 = .ok (.aload_n 0, 1) := by decide +kernel
theorem dX8_again_37 : decode cX8_again 37 = .ok (.getfield 44, 3) := by decide +kernel
theorem dX8_again_40 : decode cX8_again 40 = .ok (.invokevirtual 242, 3) := by decide +kernel
theorem dX8_again_43 : decode cX8_again 43 = .ok (.aload_n 0, 1) := by decide +kernel
theorem dX8_again_44 : decode cX8_again 44 = .ok (.getfield 51, 3) := by decide +kernel
theorem dX8_again_47 : decode cX8_again 47 = .ok (.iconst 0, 1) := by decide +kernel
theorem dX8_again_48 : decode cX8_again 48 = .ok (.putfield 104, 3) := by decide +kernel
theorem dX8_again_51 : decode cX8_again 51 = .ok (.aload_n 0, 1) := by decide +kernel
theorem dX8_again_52 : decode cX8_again 52 = .ok (.getfield 37, 3) := by decide +kernel
theorem dX8_again_55 : decode cX8_again 55 = .ok (.getfield 123, 3) := by decide +kernel
theorem dX8_again_58 : decode cX8_again 58 = .ok (.ireturn, 1) := by decide +kernel
theorem dX9_init_0 : decode cX9_init 0 = .ok (.aload_n 0, 1) := by decide +kernel
theorem dX9_init_1 : decode cX9_init 1 = .ok (.invokespecial 1, 3) := by decide +kernel
theorem dX9_init_4 : decode cX9_init 4 = .ok (.aload_n 0, 1) := by decide +kernel
theorem dX9_init_5 : decode cX9_init 5 = .ok (.bipush 48, 2) := by decide +kernel
theorem dX9_init_7 : decode cX9_init 7 = .ok (.newarray .int, 2) := by decide +kernel
theorem dX9_init_9 : decode cX9_init 9 = .ok (.putfield 7, 3) := by decide +kernel
theorem dX9_init_12 : decode cX9_init 12 = .ok (.aload_n 0, 1) := by decide +kernel
theorem dX9_init_13 : decode cX9_init 13 = .ok (.iconst 1, 1) := by decide +kernel
theorem dX9_init_14 : decode cX9_init 14 = .ok (.putfield 13, 3) := by decide +kernel
theorem dX9_init_17 : decode cX9_init 17 = .ok (.aload_n 0, 1) := by decide +kernel
theorem dX9_init_18 : decode cX9_init 18 = .ok (.iconst 5, 1) := by decide +kernel
theorem dX9_init_19 : decode cX9_init 19 = .ok (.newarray .int, 2) := by decide +kernel
theorem dX9_init_21 : decode cX9_init 21 = .ok (.putfield 17, 3) := by decide +kernel
theorem dX9_init_24 : decode cX9_init 24 = .ok (.aload_n 0, 1) := by decide +kernel
theorem dX9_init_25 : decode cX9_init 25 = .ok (.iconst 5, 1) := by decide +kernel
theorem dX9_init_26 : decode cX9_init 26 = .ok (.newarray .int, 2) := by decide +kernel
theorem dX9_init_28 : decode cX9_init 28 = .ok (.putfield 20, 3) := by decide +kernel
theorem dX9_init_31 : decode cX9_init 31 = .ok (.aload_n 0, 1) := by decide +kernel
theorem dX9_init_32 : decode cX9_init 32 = .ok (.iconst 5, 1) := by decide +kernel
theorem dX9_init_33 : decode cX9_init 33 = .ok (.newarray .int, 2) := by decide +kernel
theorem dX9_init_35 : decode cX9_init 35 = .ok (.putfield 23, 3) := by decide +kernel
theorem dX9_init_38 : decode cX9_init 38 = .ok (.aload_n 0, 1) := by decide +kernel
theorem dX9_init_39 : decode cX9_init 39 = .ok (.iconst 5, 1) := by decide +kernel
theorem dX9_init_40 : decode cX9_init 40 = .ok (.newarray .boolean, 2) := by decide +kernel
theorem dX9_init_42 : decode cX9_init 42 = .ok (.putfield 26, 3) := by decide +kernel
theorem dX9_init_45 : decode cX9_init 45 = .ok (.aload_n 0, 1) := by decide +kernel
theorem dX9_init_46 : decode cX9_init 46 = .ok (.iconst 5, 1) := by decide +kernel
theorem dX9_init_47 : decode cX9_init 47 = .ok (.newarray .boolean, 2) := by decide +kernel
theorem dX9_init_49 : decode cX9_init 49 = .ok (.putfield 30, 3) := by decide +kernel
theorem dX9_init_52 : decode cX9_init 52 = .ok (.aload_n 0, 1) := by decide +kernel
end
section
theorem dX9_init_53 : decode cX9_init 53 = .ok (.iconst 5, 1) := by decide +kernel
theorem dX9_init_54 : decode cX9_init 54 = .ok (.newarray .int, 2) := by decide +kernel
theorem dX9_init_56 : decode cX9_init 56 = .ok (.putfield 33, 3) := by decide +kernel
theorem dX9_init_59 : decode cX9_init 59 = .ok (.aload_n 0, 1) := by decide +kernel
theorem dX9_init_60 : decode cX9_init 60 = .ok (.iconst 5, 1) := by decide +kernel
theorem dX9_init_61 : decode cX9_init 61 = .ok (.newarray .int, 2) := by decide +kernel
theorem dX9_init_63 : decode cX9_init 63 = .ok (.putfield 36, 3) := by decide +kernel
theorem dX9_init_66 : decode cX9_init 66 = .ok (.aload_n 0, 1) := by decide +kernel
theorem dX9_init_67 : decode cX9_init 67 = .ok (.iconst 4, 1) := by decide +kernel
theorem dX9_init_68 : decode cX9_init 68 = .ok (.newarray .int, 2) := by decide +kernel
theorem dX9_init_70 : decode cX9_init 70 = .ok (.putfield 39, 3) := by decide +kernel
theorem dX9_init_73 : decode cX9_init 73 = .ok (.aload_n 0, 1) := by decide +kernel
theorem dX9_init_74 : decode cX9_init 74 = .ok (.iconst 5, 1) := by decide +kernel
theorem dX9_init_75 : decode cX9_init 75 = .ok (.newarray .int, 2) := by decide +kernel
theorem dX9_init_77 : decode cX9_init 77 = .ok (.putfield 42, 3) := by decide +kernel
theorem dX9_init_80 : decode cX9_init 80 = .ok (.aload_n 0, 1) := by decide +kernel
theorem dX9_init_81 : decode cX9_init 81 = .ok (.iconst 5, 1) := by decide +kernel
theorem dX9_init_82 : decode cX9_init 82 = .ok (.newarray .int, 2) := by decide +kernel
theorem dX9_init_84 : decode cX9_init 84 = .ok (.putfield 45, 3) := by decide +kernel
theorem dX9_init_87 : decode cX9_init 87 = .ok (.aload_n 0, 1) := by decide +kernel
theorem dX9_init_88 : decode cX9_init 88 = .ok (.iconst 5, 1) := by decide +kernel
theorem dX9_init_89 : decode cX9_init 89 = .ok (.newarray .int, 2) := by decide +kernel
theorem dX9_init_91 : decode cX9_init 91 = .ok (.putfield 48, 3) := by decide +kernel
theorem dX9_init_94 : decode cX9_init 94 = .ok (.aload_n 0, 1) := by decide +kernel
theorem dX9_init_95 : decode cX9_init 95 = .ok (.iconst 5, 1) := by decide +kernel
theorem dX9_init_96 : decode cX9_init 96 = .ok (.newarray .int, 2) := by decide +kernel
theorem dX9_init_98 : decode cX9_init 98 = .ok (.putfield 51, 3) := by decide +kernel
theorem dX9_init_101 : decode cX9_init 101 = .ok (.aload_n 0, 1) := by decide +kernel
theorem dX9_init_102 : decode cX9_init 102 = .ok (.sipush 324, 3) := by decide +kernel
theorem dX9_init_105 : decode cX9_init 105 = .ok (.newarray .int, 2) := by decide +kernel
theorem dX9_init_107 : decode cX9_init 107 = .ok (.putfield 54, 3) := by decide +kernel
theorem dX9_init_110 : decode cX9_init 110 = .ok (.aload_n 0, 1) := by decide +kernel
theorem dX9_init_111 : decode cX9_init 111 = .ok (.bipush 84, 2) := by decide +kernel
theorem dX9_init_113 : decode cX9_init 113 = .ok (.newarray .int, 2) := by decide +kernel
theorem dX9_init_115 : decode cX9_init 115 = .ok (.putfield 57, 3) := by decide +kernel
theorem dX9_init_118 : decode cX9_init 118 = .ok (.aload_n 0, 1) := by decide +kernel
theorem dX9_init_119 : decode cX9_init 119 = .ok (.iconst 2, 1) := by decide +kernel
theorem dX9_init_120 : decode cX9_init 120 = .ok (.newarray .boolean, 2) := by decide +kernel
theorem dX9_init_122 : decode cX9_init 122 = .ok (.putfield 60, 3) := by decide +kernel
theorem dX9_init_125 : decode cX9_init 125 = .ok (.aload_n 0, 1) := by decide +kernel
theorem dX9_init_126 : decode cX9_init 126 = .ok (.bipush 12, 2) := by decide +kernel
theorem dX9_init_128 : decode cX9_init 128 = .ok (.newarray .int, 2) := by decide +kernel
theorem dX9_init_130 : decode cX9_init 130 = .ok (.putfield 63, 3) := by decide +kernel
theorem dX9_init_133 : decode cX9_init 133 = .ok (.aload_n 0, 1) := by decide +kernel
theorem dX9_init_134 : decode cX9_init 134 = .ok (.bipush 12, 2) := by decide +kernel
theorem dX9_init_136 : decode cX9_init 136 = .ok (.newarray .int, 2) := by decide +kernel
theorem dX9_init_138 : decode cX9_init 138 = .ok (.putfield 66, 3) := by decide +kernel
theorem dX9_init_141 : decode cX9_init 141 = .ok (.aload_n 0, 1) := by decide +kernel
theorem dX9_init_142 : decode cX9_init 142 = .ok (.bipush 12, 2) := by decide +kernel
theorem dX9_init_144 : decode cX9_init 144 = .ok (.newarray .int, 2) := by decide +kernel
theorem dX9_init_146 : decode cX9_init 146 = .ok (.putfield 69, 3) := by decide +kernel
theorem dX9_init_149 : decode cX9_init 149 = .ok (.aload_n 0, 1) := by decide +kernel
theorem dX9_init_150 : decode cX9_init 150 = .ok (.iconst 5, 1) := by decide +kernel
theorem dX9_init_151 : decode cX9_init 151 = .ok (.newarray .int, 2) := by decide +kernel
theorem dX9_init_153 : decode cX9_init 153 = .ok (.putfield 72, 3) := by decide +kernel
theorem dX9_init_156 : decode cX9_init 156 = .ok (.aload_n 0, 1) := by decide +kernel
theorem dX9_init_157 : decode cX9_init 157 = .ok (.iconst 5, 1) := by decide +kernel
theorem dX9_init_158 : decode cX9_init 158 = .ok (.newarray .int, 2) := by decide +kernel
theorem dX9_init_160 : decode cX9_init 160 = .ok (.putfield 75, 3) := by decide +kernel
theorem dX9_init_163 : decode cX9_init 163 = .ok (.aload_n 0, 1) := by decide +kernel
theorem dX9_init_164 : decode cX9_init 164 = .ok (.iconst 5, 1) := by decide +kernel
theorem dX9_init_165 : decode cX9_init 165 = .ok (.newarray .int, 2) := by decide +kernel
theorem dX9_init_167 : decode cX9_init 167 = .ok (.putfield 78, 3) := by decide +kernel
theorem dX9_init_170 : decode cX9_init 170 = .ok (.aload_n 0, 1) := by decide +kernel
theorem dX9_init_171 : decode cX9_init 171 = .ok (.iconst 5, 1) := by decide +kernel
theorem dX9_init_172 : decode cX9_init 172 = .ok (.newarray .boolean, 2) := by decide +kernel
theorem dX9_init_174 : decode cX9_init 174 = .ok (.putfield 81, 3) := by decide +kernel
theorem dX9_init_177 : decode cX9_init 177 = .ok (.aload_n 0, 1) := by decide +kernel
theorem dX9_init_178 : decode cX9_init 178 = .ok (.iconst 4, 1) := by decide +kernel
theorem dX9_init_179 : decode cX9_init 179 = .ok (.newarray .int, 2) := by decide +kernel
theorem dX9_init_181 : decode cX9_init 181 = .ok (.putfield 84, 3) := by decide +kernel
theorem dX9_init_184 : decode cX9_init 184 = .ok (.iconst 0, 1) := by decide +kernel
theorem dX9_init_185 : decode cX9_init 185 = .ok (.istore_n 1, 1) := by decide +kernel
theorem dX9_init_186 : decode cX9_init 186 = .ok (.iload_n 1, 1) := by decide +kernel
theorem dX9_init_187 : decode cX9_init 187 = .ok (.iconst 5, 1) := by decide +kernel
theorem dX9_init_188 : decode cX9_init 188 = .ok (.if_icmp .ge 17, 3) := by decide +kernel
theorem dX9_init_191 : decode cX9_init 191 = .ok (.aload_n 0, 1) := by decide +kernel
theorem dX9_init_192 : decode cX9_init 192 = .ok (.getfield 33, 3) := by decide +kernel
theorem dX9_init_195 : decode cX9_init 195 = .ok (.iload_n 1, 1) := by decide +kernel
theorem dX9_init_196 : decode cX9_init 196 = .ok (.bipush (-9), 2) := by decide +kernel
theorem dX9_init_198 : decode cX9_init 198 = .ok (.iastore, 1) := by decide +kernel
theorem dX9_init_199 : decode cX9_init 199 = .ok (.iinc 1 1, 3) := by decide +kernel
theorem dX9_init_202 : decode cX9_init 202 = .ok (.goto (-16), 3) := by decide +kernel
theorem dX9_init_205 : decode cX9_init 205 = .ok (.return_, 1) := by decide +kernel
theorem dX9_in_0 : decode cX9_in 0 = .ok (.lload_n 0, 1) := by decide +kernel
theorem dX9_in_1 : decode cX9_in 1 = .ok (.lload_n 2, 1) := by decide +kernel
theorem dX9_in_2 : decode cX9_in 2 = .ok (.lcmp, 1) := by decide +kernel
theorem dX9_in_3 : decode cX9_in 3 = .ok (.ifCond .lt 14, 3) := by decide +kernel
theorem dX9_in_6 : decode cX9_in 6 = .ok (.lload_n 0, 1) := by decide +kernel
theorem dX9_in_7 : decode cX9_in 7 = .ok (.lload 4, 2) := by decide +kernel
theorem dX9_in_9 : decode cX9_in 9 = .ok (.lcmp, 1) := by decide +kernel
theorem dX9_in_10 : decode cX9_in 10 = .ok (.ifCond .gt 7, 3) := by decide +kernel
theorem dX9_in_13 : decode cX9_in 13 = .ok (.iconst 1, 1) := by decide +kernel
theorem dX9_in_14 : decode cX9_in 14 = .ok (.goto 4, 3) := by decide +kernel
theorem dX9_in_17 : decode cX9_in 17 = .ok (.iconst 0, 1) := by decide +kernel
theorem dX9_in_18 : decode cX9_in 18 = .ok (.ireturn, 1) := by decide +kernel
theorem dX9_has_0 : decode cX9_has 0 = .ok (.iload_n 0, 1) := by decide +kernel
theorem dX9_has_1 : decode cX9_has 1 = .ok (.iload_n 1, 1) := by decide +kernel
theorem dX9_has_2 : decode cX9_has 2 = .ok (.ishr, 1) := by decide +kernel
theorem dX9_has_3 : decode cX9_has 3 = .ok (.iconst 1, 1) := by decide +kernel
theorem dX9_has_4 : decode cX9_has 4 = .ok (.iand, 1) := by decide +kernel
theorem dX9_has_5 : decode cX9_has 5 = .ok (.iconst 1, 1) := by decide +kernel
theorem dX9_has_6 : decode cX9_has 6 = .ok (.if_icmp .ne 7, 3) := by decide +kernel
theorem dX9_has_9 : decode cX9_has 9 = .ok (.iconst 1, 1) := by decide +kernel
theorem dX9_has_10 : decode cX9_has 10 = .ok (.goto 4, 3) := by decide +kernel
theorem dX9_has_13 : decode cX9_has 13 = .ok (.iconst 0, 1) := by decide +kernel
theorem dX9_has_14 : decode cX9_has 14 = .ok (.ireturn, 1) := by decide +kernel
theorem dX9_noGuard_0 : decode cX9_noGuard 0 = .ok (.iload_n 1, 1) := by decide +kernel
theorem dX9_noGuard_1 : decode cX9_noGuard 1 = .ok (.i2l, 1) := by decide +kernel
theorem dX9_noGuard_2 : decode cX9_noGuard 2 = .ok (.lconst 0, 1) := by decide +kernel
theorem dX9_noGuard_3 : decode cX9_noGuard 3 = .ok (.aload_n 0, 1) := by decide +kernel
theorem dX9_noGuard_4 : decode cX9_noGuard 4 = .ok (.getfield 90, 3) := by decide +kernel
theorem dX9_noGuard_7 : decode cX9_noGuard 7 = .ok (.iconst 1, 1) := by decide +kernel
theorem dX9_noGuard_8 : decode cX9_noGuard 8 = .ok (.isub, 1) := by decide +kernel
theorem dX9_noGuard_9 : decode cX9_noGuard 9 = .ok (.i2l, 1) := by decide +kernel
theorem dX9_noGuard_10 : decode cX9_noGuard 10 = .ok (.invokestatic 93, 3) := by decide +kernel
theorem dX9_noGuard_13 : decode cX9_noGuard 13 = .ok (.ifCond .ne 7, 3) := by decide +kernel
theorem dX9_noGuard_16 : decode cX9_noGuard 16 = .ok (.iconst 1, 1) := by decide +kernel
theorem dX9_noGuard_17 : decode cX9_noGuard 17 = .ok (.goto 4, 3) := by decide +kernel
theorem dX9_noGuard_20 : decode cX9_noGuard 20 = .ok (.iconst 0, 1) := by decide +kernel
theorem dX9_noGuard_21 : decode cX9_noGuard 21 = .ok (.ireturn, 1) := by decide +kernel
theorem dX9_noSet_0 : decode cX9_noSet 0 = .ok (.iload_n 1, 1) := by decide +kernel
theorem dX9_noSet_1 : decode cX9_noSet 1 = .ok (.i2l, 1) := by decide +kernel
theorem dX9_noSet_2 : decode cX9_noSet 2 = .ok (.lconst 0, 1) := by decide +kernel
theorem dX9_noSet_3 : decode cX9_noSet 3 = .ok (.iconst 1, 1) := by decide +kernel
theorem dX9_noSet_4 : decode cX9_noSet 4 = .ok (.aload_n 0, 1) := by decide +kernel
theorem dX9_noSet_5 : decode cX9_noSet 5 = .ok (.getfield 90, 3) := by decide +kernel
theorem dX9_noSet_8 : decode cX9_noSet 8 = .ok (.ishl, 1) := by decide +kernel
theorem dX9_noSet_9 : decode cX9_noSet 9 = .ok (.iconst 1, 1) := by decide +kernel
theorem dX9_noSet_10 : decode cX9_noSet 10 = .ok (.isub, 1) := by decide +kernel
theorem dX9_noSet_11 : decode cX9_noSet 11 = .ok (.i2l, 1) := by decide +kernel
theorem dX9_noSet_12 : decode cX9_noSet 12 = .ok (.invokestatic 93, 3) := by decide +kernel
theorem dX9_noSet_15 : decode cX9_noSet 15 = .ok (.ifCond .ne 7, 3) := by decide +kernel
theorem dX9_noSet_18 : decode cX9_noSet 18 = .ok (.iconst 1, 1) := by decide +kernel
theorem dX9_noSet_19 : decode cX9_noSet 19 = .ok (.goto 4, 3) := by decide +kernel
theorem dX9_noSet_22 : decode cX9_noSet 22 = .ok (.iconst 0, 1) := by decide +kernel
theorem dX9_noSet_23 : decode cX9_noSet 23 = .ok (.ireturn, 1) := by decide +kernel
theorem dX9_write_0 : decode cX9_write 0 = .ok (.aload_n 0, 1) := by decide +kernel
theorem dX9_write_1 : decode cX9_write 1 = .ok (.iconst 0, 1) := by decide +kernel
theorem dX9_write_2 : decode cX9_write 2 = .ok (.putfield 87, 3) := by decide +kernel
theorem dX9_write_5 : decode cX9_write 5 = .ok (.iload_n 1, 1) := by decide +kernel
theorem dX9_write_6 : decode cX9_write 6 = .ok (.i2l, 1) := by decide +kernel
theorem dX9_write_7 : decode cX9_write 7 = .ok (.lconst 1, 1) := by decide +kernel
theorem dX9_write_8 : decode cX9_write 8 = .ok (.ldc2_w 97, 3) := by decide +kernel
theorem dX9_write_11 : decode cX9_write 11 = .ok (.invokestatic 93, 3) := by decide +kernel
theorem dX9_write_14 : decode cX9_write 14 = .ok (.ifCond .ne 6, 3) := by decide +kernel
theorem dX9_write_17 : decode cX9_write 17 = .ok (.bipush (-2), 2) := by decide +kernel
theorem dX9_write_19 : decode cX9_write 19 = .ok (.ireturn, 1) := by decide +kernel
theorem dX9_write_20 : decode cX9_write 20 = .ok (.aload_n 0, 1) := by decide +kernel
theorem dX9_write_21 : decode cX9_write 21 = .ok (.getfield 99, 3) := by decide +kernel
theorem dX9_write_24 : decode cX9_write 24 = .ok (.iload_n 1, 1) := by decide +kernel
theorem dX9_write_25 : decode cX9_write 25 = .ok (.iadd, 1) := by decide +kernel
theorem dX9_write_26 : decode cX9_write 26 = .ok (.bipush 48, 2) := by decide +kernel
theorem dX9_write_28 : decode cX9_write 28 = .ok (.if_icmp .le 6, 3) := by decide +kernel
theorem dX9_write_31 : decode cX9_write 31 = .ok (.bipush (-4), 2) := by decide +kernel
theorem dX9_write_33 : decode cX9_write 33 = .ok (.ireturn, 1) := by decide +kernel
theorem dX9_write_34 : decode cX9_write 34 = .ok (.iload_n 1, 1) := by decide +kernel
theorem dX9_write_35 : decode cX9_write 35 = .ok (.iconst 1, 1) := by decide +kernel
theorem dX9_write_36 : decode cX9_write 36 = .ok (.isub, 1) := by decide +kernel
theorem dX9_write_37 : decode cX9_write 37 = .ok (.istore 4, 2) := by decide +kernel
theorem dX9_write_39 : decode cX9_write 39 = .ok (.iload 4, 2) := by decide +kernel
theorem dX9_write_41 : decode cX9_write 41 = .ok (.ifCond .lt 40, 3) := by decide +kernel
theorem dX9_write_44 : decode cX9_write 44 = .ok (.aload_n 0, 1) := by decide +kernel
theorem dX9_write_45 : decode cX9_write 45 = .ok (.getfield 7, 3) := by decide +kernel
theorem dX9_write_48 : decode cX9_write 48 = .ok (.aload_n 0, 1) := by decide +kernel
theorem dX9_write_49 : decode cX9_write 49 = .ok (.getfield 99, 3) := by decide +kernel
theorem dX9_write_52 : decode cX9_write 52 = .ok (.lload_n 2, 1) := by decide +kernel
theorem dX9_write_53 : decode cX9_write 53 = .ok (.bipush 8, 2) := by decide +kernel
theorem dX9_write_55 : decode cX9_write 55 = .ok (.iload 4, 2) := by decide +kernel
theorem dX9_write_57 : decode cX9_write 57 = .ok (.imul, 1) := by decide +kernel
theorem dX9_write_58 : decode cX9_write 58 = .ok (.lshr, 1) := by decide +kernel
theorem dX9_write_59 : decode cX9_write 59 = .ok (.l2i, 1) := by decide +kernel
theorem dX9_write_60 : decode cX9_write 60 = .ok (.sipush 255, 3) := by decide +kernel
theorem dX9_write_63 : decode cX9_write 63 = .ok (.iand, 1) := by decide +kernel
theorem dX9_write_64 : decode cX9_write 64 = .ok (.iastore, 1) := by decide +kernel
theorem dX9_write_65 : decode cX9_write 65 = .ok (.aload_n 0, 1) := by decide +kernel
theorem dX9_write_66 : decode cX9_write 66 = .ok (.dup, 1) := by decide +kernel
theorem dX9_write_67 : decode cX9_write 67 = .ok (.getfield 99, 3) := by decide +kernel
theorem dX9_write_70 : decode cX9_write 70 = .ok (.iconst 1, 1) := by decide +kernel
theorem dX9_write_71 : decode cX9_write 71 = .ok (.iadd, 1) := by decide +kernel
theorem dX9_write_72 : decode cX9_write 72 = .ok (.putfield 99, 3) := by decide +kernel
theorem dX9_write_75 : decode cX9_write 75 = .ok (.iinc 4 (-1), 3) := by decide +kernel
theorem dX9_write_78 : decode cX9_write 78 = .ok (.goto (-39), 3) := by decide +kernel
theorem dX9_write_81 : decode cX9_write 81 = .ok (.aload_n 0, 1) := by decide +kernel
theorem dX9_write_82 : decode cX9_write 82 = .ok (.getfield 99, 3) := by decide +kernel
theorem dX9_write_85 : decode cX9_write 85 = .ok (.ireturn, 1) := by decide +kernel
theorem dX9_wipe_0 : decode cX9_wipe 0 = .ok (.aload_n 0, 1) := by decide +kernel
theorem dX9_wipe_1 : decode cX9_wipe 1 = .ok (.iconst 0, 1) := by decide +kernel
theorem dX9_wipe_2 : decode cX9_wipe 2 = .ok (.putfield 87, 3) := by decide +kernel
theorem dX9_wipe_5 : decode cX9_wipe 5 = .ok (.aload_n 0, 1) := by decide +kernel
theorem dX9_wipe_6 : decode cX9_wipe 6 = .ok (.getfield 99, 3) := by decide +kernel
theorem dX9_wipe_9 : decode cX9_wipe 9 = .ok (.istore_n 1, 1) := by decide +kernel
theorem dX9_wipe_10 : decode cX9_wipe 10 = .ok (.aload_n 0, 1) := by decide +kernel
theorem dX9_wipe_11 : decode cX9_wipe 11 = .ok (.iconst 0, 1) := by decide +kernel
theorem dX9_wipe_12 : decode cX9_wipe 12 = .ok (.putfield 99, 3) := by decide +kernel
theorem dX9_wipe_15 : decode cX9_wipe 15 = .ok (.iload_n 1, 1) := by decide +kernel
theorem dX9_wipe_16 : decode cX9_wipe 16 = .ok (.ireturn, 1) := by decide +kernel
theorem dX9_figure_0 : decode cX9_figure 0 = .ok (.aload_n 0, 1) := by decide +kernel
theorem dX9_figure_1 : decode cX9_figure 1 = .ok (.getfield 102, 3) := by decide +kernel
theorem dX9_figure_4 : decode cX9_figure 4 = .ok (.aload_n 0, 1) := by decide +kernel
theorem dX9_figure_5 : decode cX9_figure 5 = .ok (.getfield 99, 3) := by decide +kernel
theorem dX9_figure_8 : decode cX9_figure 8 = .ok (.if_icmp .eq 26, 3) := by decide +kernel
theorem dX9_figure_11 : decode cX9_figure 11 = .ok (.aload_n 0, 1) := by decide +kernel
theorem dX9_figure_12 : decode cX9_figure 12 = .ok (.getfield 7, 3) := by decide +kernel
theorem dX9_figure_15 : decode cX9_figure 15 = .ok (.aload_n 0, 1) := by decide +kernel
theorem dX9_figure_16 : decode cX9_figure 16 = .ok (.getfield 102, 3) := by decide +kernel
theorem dX9_figure_19 : decode cX9_figure 19 = .ok (.iaload, 1) := by decide +kernel
theorem dX9_figure_20 : decode cX9_figure 20 = .ok (.bipush 48, 2) := by decide +kernel
theorem dX9_figure_22 : decode cX9_figure 22 = .ok (.isub, 1) := by decide +kernel
theorem dX9_figure_23 : decode cX9_figure 23 = .ok (.i2l, 1) := by decide +kernel
theorem dX9_figure_24 : decode cX9_figure 24 = .ok (.iload_n 1, 1) := by decide +kernel
theorem dX9_figure_25 : decode cX9_figure 25 = .ok (.i2l, 1) := by decide +kernel
theorem dX9_figure_26 : decode cX9_figure 26 = .ok (.iload_n 2, 1) := by decide +kernel
theorem dX9_figure_27 : decode cX9_figure 27 = .ok (.i2l, 1) := by decide +kernel
theorem dX9_figure_28 : decode cX9_figure 28 = .ok (.invokestatic 93, 3) := by decide +kernel
theorem dX9_figure_31 : decode cX9_figure 31 = .ok (.ifCond .ne 6, 3) := by decide +kernel
theorem dX9_figure_34 : decode cX9_figure 34 = .ok (.bipush (-9), 2) := by decide +kernel
theorem dX9_figure_36 : decode cX9_figure 36 = .ok (.ireturn, 1) := by decide +kernel
theorem dX9_figure_37 : decode cX9_figure 37 = .ok (.aload_n 0, 1) := by decide +kernel
theorem dX9_figure_38 : decode cX9_figure 38 = .ok (.dup, 1) := by decide +kernel
theorem dX9_figure_39 : decode cX9_figure 39 = .ok (.getfield 102, 3) := by decide +kernel
theorem dX9_figure_42 : decode cX9_figure 42 = .ok (.iconst 1, 1) := by decide +kernel
theorem dX9_figure_43 : decode cX9_figure 43 = .ok (.iadd, 1) := by decide +kernel
theorem dX9_figure_44 : decode cX9_figure 44 = .ok (.putfield 102, 3) := by decide +kernel
theorem dX9_figure_47 : decode cX9_figure 47 = .ok (.aload_n 0, 1) := by decide +kernel
theorem dX9_figure_48 : decode cX9_figure 48 = .ok (.getfield 7, 3) := by decide +kernel
theorem dX9_figure_51 : decode cX9_figure 51 = .ok (.aload_n 0, 1) := by decide +kernel
theorem dX9_figure_52 : decode cX9_figure 52 = .ok (.getfield 102, 3) := by decide +kernel
theorem dX9_figure_55 : decode cX9_figure 55 = .ok (.iconst 1, 1) := by decide +kernel
theorem dX9_figure_56 : decode cX9_figure 56 = .ok (.isub, 1) := by decide +kernel
theorem dX9_figure_57 : decode cX9_figure 57 = .ok (.iaload, 1) := by decide +kernel
theorem dX9_figure_58 : decode cX9_figure 58 = .ok (.bipush 48, 2) := by decide +kernel
theorem dX9_figure_60 : decode cX9_figure 60 = .ok (.isub, 1) := by decide +kernel
theorem dX9_figure_61 : decode cX9_figure 61 = .ok (.ireturn, 1) := by decide +kernel
theorem dX9_readGuard_0 : decode cX9_readGuard 0 = .ok (.aload_n 0, 1) := by decide +kernel
theorem dX9_readGuard_1 : decode cX9_readGuard 1 = .ok (.iconst 0, 1) := by decide +kernel
theorem dX9_readGuard_2 : decode cX9_readGuard 2 = .ok (.bipush 9, 2) := by decide +kernel
theorem dX9_readGuard_4 : decode cX9_readGuard 4 = .ok (.invokevirtual 105, 3) := by decide +kernel
theorem dX9_readGuard_7 : decode cX9_readGuard 7 = .ok (.istore_n 1, 1) := by decide +kernel
theorem dX9_readGuard_8 : decode cX9_readGuard 8 = .ok (.iload_n 1, 1) := by decide +kernel
theorem dX9_readGuard_9 : decode cX9_readGuard 9 = .ok (.bipush (-9), 2) := by decide +kernel
theorem dX9_readGuard_11 : decode cX9_readGuard 11 = .ok (.if_icmp .ne 8, 3) := by decide +kernel
theorem dX9_readGuard_14 : decode cX9_readGuard 14 = .ok (.bipush (-9), 2) := by decide +kernel
theorem dX9_readGuard_16 : decode cX9_readGuard 16 = .ok (.goto 10, 3) := by decide +kernel
theorem dX9_readGuard_19 : decode cX9_readGuard 19 = .ok (.aload_n 0, 1) := by decide +kernel
theorem dX9_readGuard_20 : decode cX9_readGuard 20 = .ok (.iconst 0, 1) := by decide +kernel
theorem dX9_readGuard_21 : decode cX9_readGuard 21 = .ok (.bipush 9, 2) := by decide +kernel
theorem dX9_readGuard_23 : decode cX9_readGuard 23 = .ok (.invokevirtual 105, 3) := by decide +kernel
theorem dX9_readGuard_26 : decode cX9_readGuard 26 = .ok (.istore_n 2, 1) := by decide +kernel
theorem dX9_readGuard_27 : decode cX9_readGuard 27 = .ok (.iload_n 2, 1) := by decide +kernel
theorem dX9_readGuard_28 : decode cX9_readGuard 28 = .ok (.bipush (-9), 2) := by decide +kernel
theorem dX9_readGuard_30 : decode cX9_readGuard 30 = .ok (.if_icmp .ne 8, 3) := by decide +kernel
theorem dX9_readGuard_33 : decode cX9_readGuard 33 = .ok (.bipush (-9), 2) := by decide +kernel
theorem dX9_readGuard_35 : decode cX9_readGuard 35 = .ok (.goto 10, 3) := by decide +kernel
theorem dX9_readGuard_38 : decode cX9_readGuard 38 = .ok (.aload_n 0, 1) := by decide +kernel
theorem dX9_readGuard_39 : decode cX9_readGuard 39 = .ok (.iconst 0, 1) := by decide +kernel
theorem dX9_readGuard_40 : decode cX9_readGuard 40 = .ok (.bipush 9, 2) := by decide +kernel
theorem dX9_readGuard_42 : decode cX9_readGuard 42 = .ok (.invokevirtual 105, 3) := by decide +kernel
theorem dX9_readGuard_45 : decode cX9_readGuard 45 = .ok (.istore_n 3, 1) := by decide +kernel
theorem dX9_readGuard_46 : decode cX9_readGuard 46 = .ok (.iload_n 3, 1) := by decide +kernel
theorem dX9_readGuard_47 : decode cX9_readGuard 47 = .ok (.bipush (-9), 2) := by decide +kernel
theorem dX9_readGuard_49 : decode cX9_readGuard 49 = .ok (.if_icmp .ne 8, 3) := by decide +kernel
theorem dX9_readGuard_52 : decode cX9_readGuard 52 = .ok (.bipush (-9), 2) := by decide +kernel
theorem dX9_readGuard_54 : decode cX9_readGuard 54 = .ok (.goto 10, 3) := by decide +kernel
theorem dX9_readGuard_57 : decode cX9_readGuard 57 = .ok (.aload_n 0, 1) := by decide +kernel
theorem dX9_readGuard_58 : decode cX9_readGuard 58 = .ok (.iconst 0, 1) := by decide +kernel
theorem dX9_readGuard_59 : decode cX9_readGuard 59 = .ok (.bipush 9, 2) := by decide +kernel
theorem dX9_readGuard_61 : decode cX9_readGuard 61 = .ok (.invokevirtual 105, 3) := by decide +kernel
theorem dX9_readGuard_64 : decode cX9_readGuard 64 = .ok (.istore 4, 2) := by decide +kernel
theorem dX9_readGuard_66 : decode cX9_readGuard 66 = .ok (.iload 4, 2) := by decide +kernel
theorem dX9_readGuard_68 : decode cX9_readGuard 68 = .ok (.bipush (-9), 2) := by decide +kernel
theorem dX9_readGuard_70 : decode cX9_readGuard 70 = .ok (.if_icmp .ne 5, 3) := by decide +kernel
theorem dX9_readGuard_73 : decode cX9_readGuard 73 = .ok (.iconst 0, 1) := by decide +kernel
theorem dX9_readGuard_74 : decode cX9_readGuard 74 = .ok (.ireturn, 1) := by decide +kernel
theorem dX9_readGuard_75 : decode cX9_readGuard 75 = .ok (.aload_n 0, 1) := by decide +kernel
theorem dX9_readGuard_76 : decode cX9_readGuard 76 = .ok (.getfield 42, 3) := by decide +kernel
theorem dX9_readGuard_79 : decode cX9_readGuard 79 = .ok (.aload_n 0, 1) := by decide +kernel
theorem dX9_readGuard_80 : decode cX9_readGuard 80 = .ok (.getfield 109, 3) := by decide +kernel
theorem dX9_readGuard_83 : decode cX9_readGuard 83 = .ok (.bipush 10, 2) := by decide +kernel
theorem dX9_readGuard_85 : decode cX9_readGuard 85 = .ok (.iload_n 1, 1) := by decide +kernel
theorem dX9_readGuard_86 : decode cX9_readGuard 86 = .ok (.imul, 1) := by decide +kernel
theorem dX9_readGuard_87 : decode cX9_readGuard 87 = .ok (.iload_n 2, 1) := by decide +kernel
theorem dX9_readGuard_88 : decode cX9_readGuard 88 = .ok (.iadd, 1) := by decide +kernel
theorem dX9_readGuard_89 : decode cX9_readGuard 89 = .ok (.iastore, 1) := by decide +kernel
theorem dX9_readGuard_90 : decode cX9_readGuard 90 = .ok (.aload_n 0, 1) := by decide +kernel
theorem dX9_readGuard_91 : decode cX9_readGuard 91 = .ok (.getfield 45, 3) := by decide +kernel
theorem dX9_readGuard_94 : decode cX9_readGuard 94 = .ok (.aload_n 0, 1) := by decide +kernel
theorem dX9_readGuard_95 : decode cX9_readGuard 95 = .ok (.getfield 109, 3) := by decide +kernel
theorem dX9_readGuard_98 : decode cX9_readGuard 98 = .ok (.iload_n 3, 1) := by decide +kernel
theorem dX9_readGuard_99 : decode cX9_readGuard 99 = .ok (.iastore, 1) := by decide +kernel
theorem dX9_readGuard_100 : decode cX9_readGuard 100 = .ok (.aload_n 0, 1) := by decide +kernel
theorem dX9_readGuard_101 : decode cX9_readGuard 101 = .ok (.getfield 48, 3) := by decide +kernel
theorem dX9_readGuard_104 : decode cX9_readGuard 104 = .ok (.aload_n 0, 1) := by decide +kernel
theorem dX9_readGuard_105 : decode cX9_readGuard 105 = .ok (.getfield 109, 3) := by decide +kernel
theorem dX9_readGuard_108 : decode cX9_readGuard 108 = .ok (.iload 4, 2) := by decide +kernel
theorem dX9_readGuard_110 : decode cX9_readGuard 110 = .ok (.iastore, 1) := by decide +kernel
theorem dX9_readGuard_111 : decode cX9_readGuard 111 = .ok (.aload_n 0, 1) := by decide +kernel
theorem dX9_readGuard_112 : decode cX9_readGuard 112 = .ok (.getfield 51, 3) := by decide +kernel
theorem dX9_readGuard_115 : decode cX9_readGuard 115 = .ok (.aload_n 0, 1) := by decide +kernel
theorem dX9_readGuard_116 : decode cX9_readGuard 116 = .ok (.getfield 109, 3) := by decide +kernel
theorem dX9_readGuard_119 : decode cX9_readGuard 119 = .ok (.bipush (-9), 2) := by decide +kernel
theorem dX9_readGuard_121 : decode cX9_readGuard 121 = .ok (.iastore, 1) := by decide +kernel
theorem dX9_readGuard_122 : decode cX9_readGuard 122 = .ok (.aload_n 0, 1) := by decide +kernel
theorem dX9_readGuard_123 : decode cX9_readGuard 123 = .ok (.dup, 1) := by decide +kernel
theorem dX9_readGuard_124 : decode cX9_readGuard 124 = .ok (.getfield 109, 3) := by decide +kernel
theorem dX9_readGuard_127 : decode cX9_readGuard 127 = .ok (.iconst 1, 1) := by decide +kernel
theorem dX9_readGuard_128 : decode cX9_readGuard 128 = .ok (.iadd, 1) := by decide +kernel
theorem dX9_readGuard_129 : decode cX9_readGuard 129 = .ok (.putfield 109, 3) := by decide +kernel
theorem dX9_readGuard_132 : decode cX9_readGuard 132 = .ok (.iconst 1, 1) := by decide +kernel
theorem dX9_readGuard_133 : decode cX9_readGuard 133 = .ok (.ireturn, 1) := by decide +kernel
theorem dX9_single_0 : decode cX9_single 0 = .ok (.iconst 0, 1) := by decide +kernel
theorem dX9_single_1 : decode cX9_single 1 = .ok (.istore_n 1, 1) := by decide +kernel
theorem dX9_single_2 : decode cX9_single 2 = .ok (.iconst 0, 1) := by decide +kernel
theorem dX9_single_3 : decode cX9_single 3 = .ok (.istore_n 2, 1) := by decide +kernel
theorem dX9_single_4 : decode cX9_single 4 = .ok (.iload_n 2, 1) := by decide +kernel
theorem dX9_single_5 : decode cX9_single 5 = .ok (.aload_n 0, 1) := by decide +kernel
theorem dX9_single_6 : decode cX9_single 6 = .ok (.getfield 109, 3) := by decide +kernel
theorem dX9_single_9 : decode cX9_single 9 = .ok (.if_icmp .ge 28, 3) := by decide +kernel
theorem dX9_single_12 : decode cX9_single 12 = .ok (.iload_n 1, 1) := by decide +kernel
theorem dX9_single_13 : decode cX9_single 13 = .ok (.aload_n 0, 1) := by decide +kernel
theorem dX9_single_14 : decode cX9_single 14 = .ok (.getfield 51, 3) := by decide +kernel
theorem dX9_single_17 : decode cX9_single 17 = .ok (.iload_n 2, 1) := by decide +kernel
theorem dX9_single_18 : decode cX9_single 18 = .ok (.iaload, 1) := by decide +kernel
theorem dX9_single_19 : decode cX9_single 19 = .ok (.bipush (-9), 2) := by decide +kernel
theorem dX9_single_21 : decode cX9_single 21 = .ok (.if_icmp .ne 7, 3) := by decide +kernel
theorem dX9_single_24 : decode cX9_single 24 = .ok (.iconst 1, 1) := by decide +kernel
theorem dX9_single_25 : decode cX9_single 25 = .ok (.goto 4, 3) := by decide +kernel
theorem dX9_single_28 : decode cX9_single 28 = .ok (.iconst 0, 1) := by decide +kernel
theorem dX9_single_29 : decode cX9_single 29 = .ok (.iadd, 1) := by decide +kernel
theorem dX9_single_30 : decode cX9_single 30 = .ok (.istore_n 1, 1) := by decide +kernel
theorem dX9_single_31 : decode cX9_single 31 = .ok (.iinc 2 1, 3) := by decide +kernel
theorem dX9_single_34 : decode cX9_single 34 = .ok (.goto (-30), 3) := by decide +kernel
theorem dX9_single_37 : decode cX9_single 37 = .ok (.iload_n 1, 1) := by decide +kernel
theorem dX9_single_38 : decode cX9_single 38 = .ok (.ireturn, 1) := by decide +kernel
theorem dX9_readSingle_0 : decode cX9_readSingle 0 = .ok (.aload_n 0, 1) := by decide +kernel
theorem dX9_readSingle_1 : decode cX9_readSingle 1 = .ok (.getfield 102, 3) := by decide +kernel
theorem dX9_readSingle_4 : decode cX9_readSingle 4 = .ok (.aload_n 0, 1) := by decide +kernel
theorem dX9_readSingle_5 : decode cX9_readSingle 5 = .ok (.getfield 99, 3) := by decide +kernel
theorem dX9_readSingle_8 : decode cX9_readSingle 8 = .ok (.if_icmp .ge 18, 3) := by decide +kernel
theorem dX9_readSingle_11 : decode cX9_readSingle 11 = .ok (.aload_n 0, 1) := by decide +kernel
theorem dX9_readSingle_12 : decode cX9_readSingle 12 = .ok (.getfield 7, 3) := by decide +kernel
theorem dX9_readSingle_15 : decode cX9_readSingle 15 = .ok (.aload_n 0, 1) := by decide +kernel
theorem dX9_readSingle_16 : decode cX9_readSingle 16 = .ok (.getfield 102, 3) := by decide +kernel
theorem dX9_readSingle_19 : decode cX9_readSingle 19 = .ok (.iaload, 1) := by decide +kernel
theorem dX9_readSingle_20 : decode cX9_readSingle 20 = .ok (.bipush 48, 2) := by decide +kernel
theorem dX9_readSingle_22 : decode cX9_readSingle 22 = .ok (.isub, 1) := by decide +kernel
theorem dX9_readSingle_23 : decode cX9_readSingle 23 = .ok (.goto 5, 3) := by decide +kernel
theorem dX9_readSingle_26 : decode cX9_readSingle 26 = .ok (.bipush (-9), 2) := by decide +kernel
theorem dX9_readSingle_28 : decode cX9_readSingle 28 = .ok (.istore_n 2, 1) := by decide +kernel
theorem dX9_readSingle_29 : decode cX9_readSingle 29 = .ok (.iload_n 2, 1) := by decide +kernel
theorem dX9_readSingle_30 : decode cX9_readSingle 30 = .ok (.i2l, 1) := by decide +kernel
theorem dX9_readSingle_31 : decode cX9_readSingle 31 = .ok (.lconst 0, 1) := by decide +kernel
theorem dX9_readSingle_32 : decode cX9_readSingle 32 = .ok (.aload_n 0, 1) := by decide +kernel
theorem dX9_readSingle_33 : decode cX9_readSingle 33 = .ok (.getfield 109, 3) := by decide +kernel
theorem dX9_readSingle_36 : decode cX9_readSingle 36 = .ok (.iconst 1, 1) := by decide +kernel
theorem dX9_readSingle_37 : decode cX9_readSingle 37 = .ok (.isub, 1) := by decide +kernel
theorem dX9_readSingle_38 : decode cX9_readSingle 38 = .ok (.i2l, 1) := by decide +kernel
theorem dX9_readSingle_39 : decode cX9_readSingle 39 = .ok (.invokestatic 93, 3) := by decide +kernel
theorem dX9_readSingle_42 : decode cX9_readSingle 42 = .ok (.ifCond .eq 19, 3) := by decide +kernel
theorem dX9_readSingle_45 : decode cX9_readSingle 45 = .ok (.iload_n 2, 1) := by decide +kernel
theorem dX9_readSingle_46 : decode cX9_readSingle 46 = .ok (.iload_n 1, 1) := by decide +kernel
theorem dX9_readSingle_47 : decode cX9_readSingle 47 = .ok (.if_icmp .eq 14, 3) := by decide +kernel
theorem dX9_readSingle_50 : decode cX9_readSingle 50 = .ok (.aload_n 0, 1) := by decide +kernel
theorem dX9_readSingle_51 : decode cX9_readSingle 51 = .ok (.getfield 51, 3) := by decide +kernel
theorem dX9_readSingle_54 : decode cX9_readSingle 54 = .ok (.iload_n 2, 1) := by decide +kernel
theorem dX9_readSingle_55 : decode cX9_readSingle 55 = .ok (.iaload, 1) := by decide +kernel
theorem dX9_readSingle_56 : decode cX9_readSingle 56 = .ok (.bipush (-9), 2) := by decide +kernel
theorem dX9_readSingle_58 : decode cX9_readSingle 58 = .ok (.if_icmp .eq 6, 3) := by decide +kernel
theorem dX9_readSingle_61 : decode cX9_readSingle 61 = .ok (.bipush (-9), 2) := by decide +kernel
theorem dX9_readSingle_63 : decode cX9_readSingle 63 = .ok (.ireturn, 1) := by decide +kernel
theorem dX9_readSingle_64 : decode cX9_readSingle 64 = .ok (.aload_n 0, 1) := by decide +kernel
theorem dX9_readSingle_65 : decode cX9_readSingle 65 = .ok (.dup, 1) := by decide +kernel
theorem dX9_readSingle_66 : decode cX9_readSingle 66 = .ok (.getfield 102, 3) := by decide +kernel
theorem dX9_readSingle_69 : decode cX9_readSingle 69 = .ok (.iconst 1, 1) := by decide +kernel
theorem dX9_readSingle_70 : decode cX9_readSingle 70 = .ok (.iadd, 1) := by decide +kernel
theorem dX9_readSingle_71 : decode cX9_readSingle 71 = .ok (.putfield 102, 3) := by decide +kernel
theorem dX9_readSingle_74 : decode cX9_readSingle 74 = .ok (.iload_n 2, 1) := by decide +kernel
theorem dX9_readSingle_75 : decode cX9_readSingle 75 = .ok (.ireturn, 1) := by decide +kernel
theorem dX9_readTwins_0 : decode cX9_readTwins 0 = .ok (.aload_n 0, 1) := by decide +kernel
theorem dX9_readTwins_1 : decode cX9_readTwins 1 = .ok (.bipush (-9), 2) := by decide +kernel
theorem dX9_readTwins_3 : decode cX9_readTwins 3 = .ok (.invokevirtual 112, 3) := by decide +kernel
theorem dX9_readTwins_6 : decode cX9_readTwins 6 = .ok (.istore_n 1, 1) := by decide +kernel
theorem dX9_readTwins_7 : decode cX9_readTwins 7 = .ok (.iload_n 1, 1) := by decide +kernel
theorem dX9_readTwins_8 : decode cX9_readTwins 8 = .ok (.bipush (-9), 2) := by decide +kernel
theorem dX9_readTwins_10 : decode cX9_readTwins 10 = .ok (.if_icmp .ne 8, 3) := by decide +kernel
theorem dX9_readTwins_13 : decode cX9_readTwins 13 = .ok (.bipush (-9), 2) := by decide +kernel
theorem dX9_readTwins_15 : decode cX9_readTwins 15 = .ok (.goto 8, 3) := by decide +kernel
theorem dX9_readTwins_18 : decode cX9_readTwins 18 = .ok (.aload_n 0, 1) := by decide +kernel
theorem dX9_readTwins_19 : decode cX9_readTwins 19 = .ok (.iload_n 1, 1) := by decide +kernel
theorem dX9_readTwins_20 : decode cX9_readTwins 20 = .ok (.invokevirtual 112, 3) := by decide +kernel
theorem dX9_readTwins_23 : decode cX9_readTwins 23 = .ok (.istore_n 2, 1) := by decide +kernel
theorem dX9_readTwins_24 : decode cX9_readTwins 24 = .ok (.iload_n 2, 1) := by decide +kernel
theorem dX9_readTwins_25 : decode cX9_readTwins 25 = .ok (.bipush (-9), 2) := by decide +kernel
theorem dX9_readTwins_27 : decode cX9_readTwins 27 = .ok (.if_icmp .ne 5, 3) := by decide +kernel
theorem dX9_readTwins_30 : decode cX9_readTwins 30 = .ok (.iconst 0, 1) := by decide +kernel
theorem dX9_readTwins_31 : decode cX9_readTwins 31 = .ok (.ireturn, 1) := by decide +kernel
theorem dX9_readTwins_32 : decode cX9_readTwins 32 = .ok (.aload_n 0, 1) := by decide +kernel
theorem dX9_readTwins_33 : decode cX9_readTwins 33 = .ok (.getfield 51, 3) := by decide +kernel
theorem dX9_readTwins_36 : decode cX9_readTwins 36 = .ok (.iload_n 1, 1) := by decide +kernel
theorem dX9_readTwins_37 : decode cX9_readTwins 37 = .ok (.iload_n 2, 1) := by decide +kernel
theorem dX9_readTwins_38 : decode cX9_readTwins 38 = .ok (.iastore, 1) := by decide +kernel
theorem dX9_readTwins_39 : decode cX9_readTwins 39 = .ok (.aload_n 0, 1) := by decide +kernel
theorem dX9_readTwins_40 : decode cX9_readTwins 40 = .ok (.getfield 51, 3) := by decide +kernel
theorem dX9_readTwins_43 : decode cX9_readTwins 43 = .ok (.iload_n 2, 1) := by decide +kernel
theorem dX9_readTwins_44 : decode cX9_readTwins 44 = .ok (.iload_n 1, 1) := by decide +kernel
theorem dX9_readTwins_45 : decode cX9_readTwins 45 = .ok (.iastore, 1) := by decide +kernel
theorem dX9_readTwins_46 : decode cX9_readTwins 46 = .ok (.iconst 1, 1) := by decide +kernel
theorem dX9_readTwins_47 : decode cX9_readTwins 47 = .ok (.ireturn, 1) := by decide +kernel
theorem dX9_readPart_0 : decode cX9_readPart 0 = .ok (.aload_n 0, 1) := by decide +kernel
theorem dX9_readPart_1 : decode cX9_readPart 1 = .ok (.getfield 7, 3) := by decide +kernel
theorem dX9_readPart_4 : decode cX9_readPart 4 = .ok (.aload_n 0, 1) := by decide +kernel
theorem dX9_readPart_5 : decode cX9_readPart 5 = .ok (.getfield 102, 3) := by decide +kernel
theorem dX9_readPart_8 : decode cX9_readPart 8 = .ok (.iaload, 1) := by decide +kernel
theorem dX9_readPart_9 : decode cX9_readPart 9 = .ok (.istore_n 1, 1) := by decide +kernel
theorem dX9_readPart_10 : decode cX9_readPart 10 = .ok (.iload_n 1, 1) := by decide +kernel
theorem dX9_readPart_11 : decode cX9_readPart 11 = .ok (.bipush 71, 2) := by decide +kernel
theorem dX9_readPart_13 : decode cX9_readPart 13 = .ok (.if_icmp .ne 26, 3) := by decide +kernel
theorem dX9_readPart_16 : decode cX9_readPart 16 = .ok (.aload_n 0, 1) := by decide +kernel
theorem dX9_readPart_17 : decode cX9_readPart 17 = .ok (.getfield 109, 3) := by decide +kernel
theorem dX9_readPart_20 : decode cX9_readPart 20 = .ok (.iconst 5, 1) := by decide +kernel
theorem dX9_readPart_21 : decode cX9_readPart 21 = .ok (.if_icmp .ge 18, 3) := by decide +kernel
theorem dX9_readPart_24 : decode cX9_readPart 24 = .ok (.aload_n 0, 1) := by decide +kernel
theorem dX9_readPart_25 : decode cX9_readPart 25 = .ok (.dup, 1) := by decide +kernel
theorem dX9_readPart_26 : decode cX9_readPart 26 = .ok (.getfield 102, 3) := by decide +kernel
theorem dX9_readPart_29 : decode cX9_readPart 29 = .ok (.iconst 1, 1) := by decide +kernel
theorem dX9_readPart_30 : decode cX9_readPart 30 = .ok (.iadd, 1) := by decide +kernel
theorem dX9_readPart_31 : decode cX9_readPart 31 = .ok (.putfield 102, 3) := by decide +kernel
theorem dX9_readPart_34 : decode cX9_readPart 34 = .ok (.aload_n 0, 1) := by decide +kernel
theorem dX9_readPart_35 : decode cX9_readPart 35 = .ok (.invokevirtual 116, 3) := by decide +kernel
theorem dX9_readPart_38 : decode cX9_readPart 38 = .ok (.ireturn, 1) := by decide +kernel
theorem dX9_readPart_39 : decode cX9_readPart 39 = .ok (.iload_n 1, 1) := by decide +kernel
theorem dX9_readPart_40 : decode cX9_readPart 40 = .ok (.bipush 84, 2) := by decide +kernel
theorem dX9_readPart_42 : decode cX9_readPart 42 = .ok (.if_icmp .ne 26, 3) := by decide +kernel
theorem dX9_readPart_45 : decode cX9_readPart 45 = .ok (.aload_n 0, 1) := by decide +kernel
theorem dX9_readPart_46 : decode cX9_readPart 46 = .ok (.invokevirtual 120, 3) := by decide +kernel
theorem dX9_readPart_49 : decode cX9_readPart 49 = .ok (.iconst 1, 1) := by decide +kernel
theorem dX9_readPart_50 : decode cX9_readPart 50 = .ok (.if_icmp .le 18, 3) := by decide +kernel
theorem dX9_readPart_53 : decode cX9_readPart 53 = .ok (.aload_n 0, 1) := by decide +kernel
theorem dX9_readPart_54 : decode cX9_readPart 54 = .ok (.dup, 1) := by decide +kernel
theorem dX9_readPart_55 : decode cX9_readPart 55 = .ok (.getfield 102, 3) := by decide +kernel
theorem dX9_readPart_58 : decode cX9_readPart 58 = .ok (.iconst 1, 1) := by decide +kernel
theorem dX9_readPart_59 : decode cX9_readPart 59 = .ok (.iadd, 1) := by decide +kernel
theorem dX9_readPart_60 : decode cX9_readPart 60 = .ok (.putfield 102, 3) := by decide +kernel
theorem dX9_readPart_63 : decode cX9_readPart 63 = .ok (.aload_n 0, 1) := by decide +kernel
theorem dX9_readPart_64 : decode cX9_readPart 64 = .ok (.invokevirtual 124, 3) := by decide +kernel
theorem dX9_readPart_67 : decode cX9_readPart 67 = .ok (.ireturn, 1) := by decide +kernel
theorem dX9_readPart_68 : decode cX9_readPart 68 = .ok (.iconst 0, 1) := by decide +kernel
theorem dX9_readPart_69 : decode cX9_readPart 69 = .ok (.ireturn, 1) := by decide +kernel
theorem dX9_readFortress_0 : decode cX9_readFortress 0 = .ok (.aload_n 0, 1) := by decide +kernel
theorem dX9_readFortress_1 : decode cX9_readFortress 1 = .ok (.iconst 0, 1) := by decide +kernel
theorem dX9_readFortress_2 : decode cX9_readFortress 2 = .ok (.putfield 102, 3) := by decide +kernel
theorem dX9_readFortress_5 : decode cX9_readFortress 5 = .ok (.aload_n 0, 1) := by decide +kernel
theorem dX9_readFortress_6 : decode cX9_readFortress 6 = .ok (.iconst 0, 1) := by decide +kernel
theorem dX9_readFortress_7 : decode cX9_readFortress 7 = .ok (.putfield 109, 3) := by decide +kernel
theorem dX9_readFortress_10 : decode cX9_readFortress 10 = .ok (.aload_n 0, 1) := by decide +kernel
theorem dX9_readFortress_11 : decode cX9_readFortress 11 = .ok (.getfield 99, 3) := by decide +kernel
theorem dX9_readFortress_14 : decode cX9_readFortress 14 = .ok (.ifCond .eq 14, 3) := by decide +kernel
theorem dX9_readFortress_17 : decode cX9_readFortress 17 = .ok (.aload_n 0, 1) := by decide +kernel
theorem dX9_readFortress_18 : decode cX9_readFortress 18 = .ok (.getfield 7, 3) := by decide +kernel
theorem dX9_readFortress_21 : decode cX9_readFortress 21 = .ok (.iconst 0, 1) := by decide +kernel
theorem dX9_readFortress_22 : decode cX9_readFortress 22 = .ok (.iaload, 1) := by decide +kernel
theorem dX9_readFortress_23 : decode cX9_readFortress 23 = .ok (.bipush 70, 2) := by decide +kernel
theorem dX9_readFortress_25 : decode cX9_readFortress 25 = .ok (.if_icmp .eq 5, 3) := by decide +kernel
theorem dX9_readFortress_28 : decode cX9_readFortress 28 = .ok (.iconst 0, 1) := by decide +kernel
theorem dX9_readFortress_29 : decode cX9_readFortress 29 = .ok (.ireturn, 1) := by decide +kernel
theorem dX9_readFortress_30 : decode cX9_readFortress 30 = .ok (.aload_n 0, 1) := by decide +kernel
theorem dX9_readFortress_31 : decode cX9_readFortress 31 = .ok (.iconst 1, 1) := by decide +kernel
theorem dX9_readFortress_32 : decode cX9_readFortress 32 = .ok (.putfield 102, 3) := by decide +kernel
theorem dX9_readFortress_35 : decode cX9_readFortress 35 = .ok (.aload_n 0, 1) := by decide +kernel
theorem dX9_readFortress_36 : decode cX9_readFortress 36 = .ok (.aload_n 0, 1) := by decide +kernel
theorem dX9_readFortress_37 : decode cX9_readFortress 37 = .ok (.iconst 0, 1) := by decide +kernel
theorem dX9_readFortress_38 : decode cX9_readFortress 38 = .ok (.iconst 5, 1) := by decide +kernel
theorem dX9_readFortress_39 : decode cX9_readFortress 39 = .ok (.invokevirtual 105, 3) := by decide +kernel
theorem dX9_readFortress_42 : decode cX9_readFortress 42 = .ok (.putfield 127, 3) := by decide +kernel
theorem dX9_readFortress_45 : decode cX9_readFortress 45 = .ok (.aload_n 0, 1) := by decide +kernel
theorem dX9_readFortress_46 : decode cX9_readFortress 46 = .ok (.getfield 127, 3) := by decide +kernel
theorem dX9_readFortress_49 : decode cX9_readFortress 49 = .ok (.bipush (-9), 2) := by decide +kernel
theorem dX9_readFortress_51 : decode cX9_readFortress 51 = .ok (.if_icmp .ne 8, 3) := by decide +kernel
theorem dX9_readFortress_54 : decode cX9_readFortress 54 = .ok (.bipush (-9), 2) := by decide +kernel
theorem dX9_readFortress_56 : decode cX9_readFortress 56 = .ok (.goto 10, 3) := by decide +kernel
theorem dX9_readFortress_59 : decode cX9_readFortress 59 = .ok (.aload_n 0, 1) := by decide +kernel
theorem dX9_readFortress_60 : decode cX9_readFortress 60 = .ok (.iconst 0, 1) := by decide +kernel
theorem dX9_readFortress_61 : decode cX9_readFortress 61 = .ok (.bipush 9, 2) := by decide +kernel
theorem dX9_readFortress_63 : decode cX9_readFortress 63 = .ok (.invokevirtual 105, 3) := by decide +kernel
theorem dX9_readFortress_66 : decode cX9_readFortress 66 = .ok (.istore_n 1, 1) := by decide +kernel
theorem dX9_readFortress_67 : decode cX9_readFortress 67 = .ok (.iload_n 1, 1) := by decide +kernel
theorem dX9_readFortress_68 : decode cX9_readFortress 68 = .ok (.bipush (-9), 2) := by decide +kernel
theorem dX9_readFortress_70 : decode cX9_readFortress 70 = .ok (.if_icmp .ne 8, 3) := by decide +kernel
theorem dX9_readFortress_73 : decode cX9_readFortress 73 = .ok (.bipush (-9), 2) := by decide +kernel
theorem dX9_readFortress_75 : decode cX9_readFortress 75 = .ok (.goto 18, 3) := by decide +kernel
theorem dX9_readFortress_78 : decode cX9_readFortress 78 = .ok (.aload_n 0, 1) := by decide +kernel
theorem dX9_readFortress_79 : decode cX9_readFortress 79 = .ok (.iload_n 1, 1) := by decide +kernel
theorem dX9_readFortress_80 : decode cX9_readFortress 80 = .ok (.ifCond .ne 7, 3) := by decide +kernel
theorem dX9_readFortress_83 : decode cX9_readFortress 83 = .ok (.iconst 1, 1) := by decide +kernel
theorem dX9_readFortress_84 : decode cX9_readFortress 84 = .ok (.goto 4, 3) := by decide +kernel
theorem dX9_readFortress_87 : decode cX9_readFortress 87 = .ok (.iconst 0, 1) := by decide +kernel
theorem dX9_readFortress_88 : decode cX9_readFortress 88 = .ok (.bipush 9, 2) := by decide +kernel
theorem dX9_readFortress_90 : decode cX9_readFortress 90 = .ok (.invokevirtual 105, 3) := by decide +kernel
theorem dX9_readFortress_93 : decode cX9_readFortress 93 = .ok (.istore_n 2, 1) := by decide +kernel
theorem dX9_readFortress_94 : decode cX9_readFortress 94 = .ok (.iload_n 2, 1) := by decide +kernel
theorem dX9_readFortress_95 : decode cX9_readFortress 95 = .ok (.bipush (-9), 2) := by decide +kernel
theorem dX9_readFortress_97 : decode cX9_readFortress 97 = .ok (.if_icmp .ne 8, 3) := by decide +kernel
theorem dX9_readFortress_100 : decode cX9_readFortress 100 = .ok (.aload_n 0, 1) := by decide +kernel
theorem dX9_readFortress_101 : decode cX9_readFortress 101 = .ok (.getfield 102, 3) := by decide +kernel
theorem dX9_readFortress_104 : decode cX9_readFortress 104 = .ok (.ireturn, 1) := by decide +kernel
theorem dX9_readFortress_105 : decode cX9_readFortress 105 = .ok (.aload_n 0, 1) := by decide +kernel
theorem dX9_readFortress_106 : decode cX9_readFortress 106 = .ok (.bipush 10, 2) := by decide +kernel
theorem dX9_readFortress_108 : decode cX9_readFortress 108 = .ok (.iload_n 1, 1) := by decide +kernel
theorem dX9_readFortress_109 : decode cX9_readFortress 109 = .ok (.imul, 1) := by decide +kernel
theorem dX9_readFortress_110 : decode cX9_readFortress 110 = .ok (.iload_n 2, 1) := by decide +kernel
theorem dX9_readFortress_111 : decode cX9_readFortress 111 = .ok (.iadd, 1) := by decide +kernel
theorem dX9_readFortress_112 : decode cX9_readFortress 112 = .ok (.putfield 130, 3) := by decide +kernel
theorem dX9_readFortress_115 : decode cX9_readFortress 115 = .ok (.aload_n 0, 1) := by decide +kernel
theorem dX9_readFortress_116 : decode cX9_readFortress 116 = .ok (.getfield 102, 3) := by decide +kernel
theorem dX9_readFortress_119 : decode cX9_readFortress 119 = .ok (.aload_n 0, 1) := by decide +kernel
theorem dX9_readFortress_120 : decode cX9_readFortress 120 = .ok (.getfield 99, 3) := by decide +kernel
theorem dX9_readFortress_123 : decode cX9_readFortress 123 = .ok (.if_icmp .ge 15, 3) := by decide +kernel
theorem dX9_readFortress_126 : decode cX9_readFortress 126 = .ok (.aload_n 0, 1) := by decide +kernel
theorem dX9_readFortress_127 : decode cX9_readFortress 127 = .ok (.invokevirtual 133, 3) := by decide +kernel
theorem dX9_readFortress_130 : decode cX9_readFortress 130 = .ok (.ifCond .ne (-15), 3) := by decide +kernel
theorem dX9_readFortress_133 : decode cX9_readFortress 133 = .ok (.aload_n 0, 1) := by decide +kernel
theorem dX9_readFortress_134 : decode cX9_readFortress 134 = .ok (.getfield 102, 3) := by decide +kernel
theorem dX9_readFortress_137 : decode cX9_readFortress 137 = .ok (.ireturn, 1) := by decide +kernel
theorem dX9_readFortress_138 : decode cX9_readFortress 138 = .ok (.bipush (-9), 2) := by decide +kernel
theorem dX9_readFortress_140 : decode cX9_readFortress 140 = .ok (.ireturn, 1) := by decide +kernel
theorem dX9_fault_0 : decode cX9_fault 0 = .ok (.aload_n 0, 1) := by decide +kernel
theorem dX9_fault_1 : decode cX9_fault 1 = .ok (.iconst 0, 1) := by decide +kernel
theorem dX9_fault_2 : decode cX9_fault 2 = .ok (.putfield 87, 3) := by decide +kernel
theorem dX9_fault_5 : decode cX9_fault 5 = .ok (.aload_n 0, 1) := by decide +kernel
theorem dX9_fault_6 : decode cX9_fault 6 = .ok (.invokevirtual 136, 3) := by decide +kernel
theorem dX9_fault_9 : decode cX9_fault 9 = .ok (.ireturn, 1) := by decide +kernel
theorem dX9_fortress_0 : decode cX9_fortress 0 = .ok (.aload_n 0, 1) := by decide +kernel
theorem dX9_fortress_1 : decode cX9_fortress 1 = .ok (.iconst 0, 1) := by decide +kernel
theorem dX9_fortress_2 : decode cX9_fortress 2 = .ok (.putfield 87, 3) := by decide +kernel
theorem dX9_fortress_5 : decode cX9_fortress 5 = .ok (.aload_n 0, 1) := by decide +kernel
theorem dX9_fortress_6 : decode cX9_fortress 6 = .ok (.invokevirtual 136, 3) := by decide +kernel
theorem dX9_fortress_9 : decode cX9_fortress 9 = .ok (.bipush (-9), 2) := by decide +kernel
theorem dX9_fortress_11 : decode cX9_fortress 11 = .ok (.if_icmp .eq 6, 3) := by decide +kernel
theorem dX9_fortress_14 : decode cX9_fortress 14 = .ok (.bipush (-3), 2) := by decide +kernel
theorem dX9_fortress_16 : decode cX9_fortress 16 = .ok (.ireturn, 1) := by decide +kernel
theorem dX9_fortress_17 : decode cX9_fortress 17 = .ok (.aload_n 0, 1) := by decide +kernel
theorem dX9_fortress_18 : decode cX9_fortress 18 = .ok (.aload_n 0, 1) := by decide +kernel
theorem dX9_fortress_19 : decode cX9_fortress 19 = .ok (.getfield 109, 3) := by decide +kernel
theorem dX9_fortress_22 : decode cX9_fortress 22 = .ok (.putfield 90, 3) := by decide +kernel
theorem dX9_fortress_25 : decode cX9_fortress 25 = .ok (.aload_n 0, 1) := by decide +kernel
theorem dX9_fortress_26 : decode cX9_fortress 26 = .ok (.aload_n 0, 1) := by decide +kernel
theorem dX9_fortress_27 : decode cX9_fortress 27 = .ok (.getfield 127, 3) := by decide +kernel
theorem dX9_fortress_30 : decode cX9_fortress 30 = .ok (.putfield 139, 3) := by decide +kernel
theorem dX9_fortress_33 : decode cX9_fortress 33 = .ok (.aload_n 0, 1) := by decide +kernel
theorem dX9_fortress_34 : decode cX9_fortress 34 = .ok (.aload_n 0, 1) := by decide +kernel
theorem dX9_fortress_35 : decode cX9_fortress 35 = .ok (.getfield 130, 3) := by decide +kernel
theorem dX9_fortress_38 : decode cX9_fortress 38 = .ok (.putfield 13, 3) := by decide +kernel
theorem dX9_fortress_41 : decode cX9_fortress 41 = .ok (.iconst 0, 1) := by decide +kernel
theorem dX9_fortress_42 : decode cX9_fortress 42 = .ok (.istore_n 1, 1) := by decide +kernel
theorem dX9_fortress_43 : decode cX9_fortress 43 = .ok (.iload_n 1, 1) := by decide +kernel
theorem dX9_fortress_44 : decode cX9_fortress 44 = .ok (.iconst 5, 1) := by decide +kernel
theorem dX9_fortress_45 : decode cX9_fortress 45 = .ok (.if_icmp .ge 125, 3) := by decide +kernel
theorem dX9_fortress_48 : decode cX9_fortress 48 = .ok (.iload_n 1, 1) := by decide +kernel
theorem dX9_fortress_49 : decode cX9_fortress 49 = .ok (.aload_n 0, 1) := by decide +kernel
theorem dX9_fortress_50 : decode cX9_fortress 50 = .ok (.getfield 90, 3) := by decide +kernel
theorem dX9_fortress_53 : decode cX9_fortress 53 = .ok (.if_icmp .ge 7, 3) := by decide +kernel
theorem dX9_fortress_56 : decode cX9_fortress 56 = .ok (.iconst 1, 1) := by decide +kernel
theorem dX9_fortress_57 : decode cX9_fortress 57 = .ok (.goto 4, 3) := by decide +kernel
theorem dX9_fortress_60 : decode cX9_fortress 60 = .ok (.iconst 0, 1) := by decide +kernel
theorem dX9_fortress_61 : decode cX9_fortress 61 = .ok (.istore_n 2, 1) := by decide +kernel
theorem dX9_fortress_62 : decode cX9_fortress 62 = .ok (.aload_n 0, 1) := by decide +kernel
theorem dX9_fortress_63 : decode cX9_fortress 63 = .ok (.getfield 17, 3) := by decide +kernel
theorem dX9_fortress_66 : decode cX9_fortress 66 = .ok (.iload_n 1, 1) := by decide +kernel
theorem dX9_fortress_67 : decode cX9_fortress 67 = .ok (.iload_n 2, 1) := by decide +kernel
theorem dX9_fortress_68 : decode cX9_fortress 68 = .ok (.ifCond .eq 12, 3) := by decide +kernel
theorem dX9_fortress_71 : decode cX9_fortress 71 = .ok (.aload_n 0, 1) := by decide +kernel
theorem dX9_fortress_72 : decode cX9_fortress 72 = .ok (.getfield 42, 3) := by decide +kernel
theorem dX9_fortress_75 : decode cX9_fortress 75 = .ok (.iload_n 1, 1) := by decide +kernel
theorem dX9_fortress_76 : decode cX9_fortress 76 = .ok (.iaload, 1) := by decide +kernel
theorem dX9_fortress_77 : decode cX9_fortress 77 = .ok (.goto 4, 3) := by decide +kernel
theorem dX9_fortress_80 : decode cX9_fortress 80 = .ok (.iconst 0, 1) := by decide +kernel
theorem dX9_fortress_81 : decode cX9_fortress 81 = .ok (.iastore, 1) := by decide +kernel
theorem dX9_fortress_82 : decode cX9_fortress 82 = .ok (.aload_n 0, 1) := by decide +kernel
theorem dX9_fortress_83 : decode cX9_fortress 83 = .ok (.getfield 20, 3) := by decide +kernel
theorem dX9_fortress_86 : decode cX9_fortress 86 = .ok (.iload_n 1, 1) := by decide +kernel
theorem dX9_fortress_87 : decode cX9_fortress 87 = .ok (.iload_n 2, 1) := by decide +kernel
theorem dX9_fortress_88 : decode cX9_fortress 88 = .ok (.ifCond .eq 12, 3) := by decide +kernel
theorem dX9_fortress_91 : decode cX9_fortress 91 = .ok (.aload_n 0, 1) := by decide +kernel
theorem dX9_fortress_92 : decode cX9_fortress 92 = .ok (.getfield 45, 3) := by decide +kernel
theorem dX9_fortress_95 : decode cX9_fortress 95 = .ok (.iload_n 1, 1) := by decide +kernel
theorem dX9_fortress_96 : decode cX9_fortress 96 = .ok (.iaload, 1) := by decide +kernel
theorem dX9_fortress_97 : decode cX9_fortress 97 = .ok (.goto 4, 3) := by decide +kernel
theorem dX9_fortress_100 : decode cX9_fortress 100 = .ok (.iconst 0, 1) := by decide +kernel
theorem dX9_fortress_101 : decode cX9_fortress 101 = .ok (.iastore, 1) := by decide +kernel
theorem dX9_fortress_102 : decode cX9_fortress 102 = .ok (.aload_n 0, 1) := by decide +kernel
theorem dX9_fortress_103 : decode cX9_fortress 103 = .ok (.getfield 23, 3) := by decide +kernel
theorem dX9_fortress_106 : decode cX9_fortress 106 = .ok (.iload_n 1, 1) := by decide +kernel
theorem dX9_fortress_107 : decode cX9_fortress 107 = .ok (.iload_n 2, 1) := by decide +kernel
theorem dX9_fortress_108 : decode cX9_fortress 108 = .ok (.ifCond .eq 12, 3) := by decide +kernel
theorem dX9_fortress_111 : decode cX9_fortress 111 = .ok (.aload_n 0, 1) := by decide +kernel
theorem dX9_fortress_112 : decode cX9_fortress 112 = .ok (.getfield 48, 3) := by decide +kernel
theorem dX9_fortress_115 : decode cX9_fortress 115 = .ok (.iload_n 1, 1) := by decide +kernel
theorem dX9_fortress_116 : decode cX9_fortress 116 = .ok (.iaload, 1) := by decide +kernel
theorem dX9_fortress_117 : decode cX9_fortress 117 = .ok (.goto 4, 3) := by decide +kernel
theorem dX9_fortress_120 : decode cX9_fortress 120 = .ok (.iconst 0, 1) := by decide +kernel
theorem dX9_fortress_121 : decode cX9_fortress 121 = .ok (.iastore, 1) := by decide +kernel
theorem dX9_fortress_122 : decode cX9_fortress 122 = .ok (.aload_n 0, 1) := by decide +kernel
theorem dX9_fortress_123 : decode cX9_fortress 123 = .ok (.getfield 33, 3) := by decide +kernel
theorem dX9_fortress_126 : decode cX9_fortress 126 = .ok (.iload_n 1, 1) := by decide +kernel
theorem dX9_fortress_127 : decode cX9_fortress 127 = .ok (.iload_n 2, 1) := by decide +kernel
theorem dX9_fortress_128 : decode cX9_fortress 128 = .ok (.ifCond .eq 12, 3) := by decide +kernel
theorem dX9_fortress_131 : decode cX9_fortress 131 = .ok (.aload_n 0, 1) := by decide +kernel
theorem dX9_fortress_132 : decode cX9_fortress 132 = .ok (.getfield 51, 3) := by decide +kernel
theorem dX9_fortress_135 : decode cX9_fortress 135 = .ok (.iload_n 1, 1) := by decide +kernel
theorem dX9_fortress_136 : decode cX9_fortress 136 = .ok (.iaload, 1) := by decide +kernel
theorem dX9_fortress_137 : decode cX9_fortress 137 = .ok (.goto 5, 3) := by decide +kernel
theorem dX9_fortress_140 : decode cX9_fortress 140 = .ok (.bipush (-9), 2) := by decide +kernel
theorem dX9_fortress_142 : decode cX9_fortress 142 = .ok (.iastore, 1) := by decide +kernel
theorem dX9_fortress_143 : decode cX9_fortress 143 = .ok (.aload_n 0, 1) := by decide +kernel
theorem dX9_fortress_144 : decode cX9_fortress 144 = .ok (.getfield 26, 3) := by decide +kernel
theorem dX9_fortress_147 : decode cX9_fortress 147 = .ok (.iload_n 1, 1) := by decide +kernel
theorem dX9_fortress_148 : decode cX9_fortress 148 = .ok (.iconst 0, 1) := by decide +kernel
theorem dX9_fortress_149 : decode cX9_fortress 149 = .ok (.bastore, 1) := by decide +kernel
theorem dX9_fortress_150 : decode cX9_fortress 150 = .ok (.aload_n 0, 1) := by decide +kernel
theorem dX9_fortress_151 : decode cX9_fortress 151 = .ok (.getfield 30, 3) := by decide +kernel
theorem dX9_fortress_154 : decode cX9_fortress 154 = .ok (.iload_n 1, 1) := by decide +kernel
theorem dX9_fortress_155 : decode cX9_fortress 155 = .ok (.iconst 0, 1) := by decide +kernel
theorem dX9_fortress_156 : decode cX9_fortress 156 = .ok (.bastore, 1) := by decide +kernel
theorem dX9_fortress_157 : decode cX9_fortress 157 = .ok (.aload_n 0, 1) := by decide +kernel
theorem dX9_fortress_158 : decode cX9_fortress 158 = .ok (.getfield 36, 3) := by decide +kernel
theorem dX9_fortress_161 : decode cX9_fortress 161 = .ok (.iload_n 1, 1) := by decide +kernel
theorem dX9_fortress_162 : decode cX9_fortress 162 = .ok (.iconst 0, 1) := by decide +kernel
theorem dX9_fortress_163 : decode cX9_fortress 163 = .ok (.iastore, 1) := by decide +kernel
theorem dX9_fortress_164 : decode cX9_fortress 164 = .ok (.iinc 1 1, 3) := by decide +kernel
theorem dX9_fortress_167 : decode cX9_fortress 167 = .ok (.goto (-124), 3) := by decide +kernel
theorem dX9_fortress_170 : decode cX9_fortress 170 = .ok (.iconst 0, 1) := by decide +kernel
theorem dX9_fortress_171 : decode cX9_fortress 171 = .ok (.istore_n 1, 1) := by decide +kernel
theorem dX9_fortress_172 : decode cX9_fortress 172 = .ok (.iload_n 1, 1) := by decide +kernel
theorem dX9_fortress_173 : decode cX9_fortress 173 = .ok (.iconst 4, 1) := by decide +kernel
theorem dX9_fortress_174 : decode cX9_fortress 174 = .ok (.if_icmp .ge 16, 3) := by decide +kernel
theorem dX9_fortress_177 : decode cX9_fortress 177 = .ok (.aload_n 0, 1) := by decide +kernel
theorem dX9_fortress_178 : decode cX9_fortress 178 = .ok (.getfield 39, 3) := by decide +kernel
theorem dX9_fortress_181 : decode cX9_fortress 181 = .ok (.iload_n 1, 1) := by decide +kernel
theorem dX9_fortress_182 : decode cX9_fortress 182 = .ok (.iconst 0, 1) := by decide +kernel
theorem dX9_fortress_183 : decode cX9_fortress 183 = .ok (.iastore, 1) := by decide +kernel
theorem dX9_fortress_184 : decode cX9_fortress 184 = .ok (.iinc 1 1, 3) := by decide +kernel
theorem dX9_fortress_187 : decode cX9_fortress 187 = .ok (.goto (-15), 3) := by decide +kernel
theorem dX9_fortress_190 : decode cX9_fortress 190 = .ok (.aload_n 0, 1) := by decide +kernel
theorem dX9_fortress_191 : decode cX9_fortress 191 = .ok (.iconst 0, 1) := by decide +kernel
theorem dX9_fortress_192 : decode cX9_fortress 192 = .ok (.putfield 142, 3) := by decide +kernel
theorem dX9_fortress_195 : decode cX9_fortress 195 = .ok (.aload_n 0, 1) := by decide +kernel
theorem dX9_fortress_196 : decode cX9_fortress 196 = .ok (.iconst 0, 1) := by decide +kernel
theorem dX9_fortress_197 : decode cX9_fortress 197 = .ok (.putfield 145, 3) := by decide +kernel
theorem dX9_fortress_200 : decode cX9_fortress 200 = .ok (.aload_n 0, 1) := by decide +kernel
theorem dX9_fortress_201 : decode cX9_fortress 201 = .ok (.iconst 0, 1) := by decide +kernel
theorem dX9_fortress_202 : decode cX9_fortress 202 = .ok (.putfield 148, 3) := by decide +kernel
theorem dX9_fortress_205 : decode cX9_fortress 205 = .ok (.aload_n 0, 1) := by decide +kernel
theorem dX9_fortress_206 : decode cX9_fortress 206 = .ok (.getfield 60, 3) := by decide +kernel
theorem dX9_fortress_209 : decode cX9_fortress 209 = .ok (.iconst 0, 1) := by decide +kernel
theorem dX9_fortress_210 : decode cX9_fortress 210 = .ok (.iconst 0, 1) := by decide +kernel
theorem dX9_fortress_211 : decode cX9_fortress 211 = .ok (.bastore, 1) := by decide +kernel
theorem dX9_fortress_212 : decode cX9_fortress 212 = .ok (.aload_n 0, 1) := by decide +kernel
theorem dX9_fortress_213 : decode cX9_fortress 213 = .ok (.getfield 60, 3) := by decide +kernel
theorem dX9_fortress_216 : decode cX9_fortress 216 = .ok (.iconst 1, 1) := by decide +kernel
theorem dX9_fortress_217 : decode cX9_fortress 217 = .ok (.iconst 0, 1) := by decide +kernel
theorem dX9_fortress_218 : decode cX9_fortress 218 = .ok (.bastore, 1) := by decide +kernel
theorem dX9_fortress_219 : decode cX9_fortress 219 = .ok (.aload_n 0, 1) := by decide +kernel
theorem dX9_fortress_220 : decode cX9_fortress 220 = .ok (.getfield 90, 3) := by decide +kernel
theorem dX9_fortress_223 : decode cX9_fortress 223 = .ok (.ireturn, 1) := by decide +kernel
theorem dX9_about_0 : decode cX9_about 0 = .ok (.aload_n 0, 1) := by decide +kernel
theorem dX9_about_1 : decode cX9_about 1 = .ok (.iconst 0, 1) := by decide +kernel
theorem dX9_about_2 : decode cX9_about 2 = .ok (.putfield 87, 3) := by decide +kernel
theorem dX9_about_5 : decode cX9_about 5 = .ok (.iconst 0, 1) := by decide +kernel
theorem dX9_about_6 : decode cX9_about 6 = .ok (.istore_n 2, 1) := by decide +kernel
theorem dX9_about_7 : decode cX9_about 7 = .ok (.iconst 0, 1) := by decide +kernel
theorem dX9_about_8 : decode cX9_about 8 = .ok (.istore_n 3, 1) := by decide +kernel
theorem dX9_about_9 : decode cX9_about 9 = .ok (.iconst 0, 1) := by decide +kernel
theorem dX9_about_10 : decode cX9_about 10 = .ok (.istore 4, 2) := by decide +kernel
theorem dX9_about_12 : decode cX9_about 12 = .ok (.iconst 0, 1) := by decide +kernel
theorem dX9_about_13 : decode cX9_about 13 = .ok (.istore 5, 2) := by decide +kernel
theorem dX9_about_15 : decode cX9_about 15 = .ok (.iload 5, 2) := by decide +kernel
theorem dX9_about_17 : decode cX9_about 17 = .ok (.aload_n 0, 1) := by decide +kernel
theorem dX9_about_18 : decode cX9_about 18 = .ok (.getfield 90, 3) := by decide +kernel
theorem dX9_about_21 : decode cX9_about 21 = .ok (.if_icmp .ge 63, 3) := by decide +kernel
theorem dX9_about_24 : decode cX9_about 24 = .ok (.iload_n 2, 1) := by decide +kernel
theorem dX9_about_25 : decode cX9_about 25 = .ok (.aload_n 0, 1) := by decide +kernel
theorem dX9_about_26 : decode cX9_about 26 = .ok (.getfield 26, 3) := by decide +kernel
theorem dX9_about_29 : decode cX9_about 29 = .ok (.iload 5, 2) := by decide +kernel
theorem dX9_about_31 : decode cX9_about 31 = .ok (.baload, 1) := by decide +kernel
theorem dX9_about_32 : decode cX9_about 32 = .ok (.ifCond .eq 10, 3) := by decide +kernel
theorem dX9_about_35 : decode cX9_about 35 = .ok (.iconst 1, 1) := by decide +kernel
theorem dX9_about_36 : decode cX9_about 36 = .ok (.iload 5, 2) := by decide +kernel
theorem dX9_about_38 : decode cX9_about 38 = .ok (.ishl, 1) := by decide +kernel
theorem dX9_about_39 : decode cX9_about 39 = .ok (.goto 4, 3) := by decide +kernel
theorem dX9_about_42 : decode cX9_about 42 = .ok (.iconst 0, 1) := by decide +kernel
theorem dX9_about_43 : decode cX9_about 43 = .ok (.ior, 1) := by decide +kernel
theorem dX9_about_44 : decode cX9_about 44 = .ok (.istore_n 2, 1) := by decide +kernel
theorem dX9_about_45 : decode cX9_about 45 = .ok (.iload_n 3, 1) := by decide +kernel
theorem dX9_about_46 : decode cX9_about 46 = .ok (.aload_n 0, 1) := by decide +kernel
theorem dX9_about_47 : decode cX9_about 47 = .ok (.getfield 30, 3) := by decide +kernel
theorem dX9_about_50 : decode cX9_about 50 = .ok (.iload 5, 2) := by decide +kernel
theorem dX9_about_52 : decode cX9_about 52 = .ok (.baload, 1) := by decide +kernel
theorem dX9_about_53 : decode cX9_about 53 = .ok (.ifCond .eq 10, 3) := by decide +kernel
theorem dX9_about_56 : decode cX9_about 56 = .ok (.iconst 1, 1) := by decide +kernel
theorem dX9_about_57 : decode cX9_about 57 = .ok (.iload 5, 2) := by decide +kernel
theorem dX9_about_59 : decode cX9_about 59 = .ok (.ishl, 1) := by decide +kernel
theorem dX9_about_60 : decode cX9_about 60 = .ok (.goto 4, 3) := by decide +kernel
theorem dX9_about_63 : decode cX9_about 63 = .ok (.iconst 0, 1) := by decide +kernel
theorem dX9_about_64 : decode cX9_about 64 = .ok (.ior, 1) := by decide +kernel
theorem dX9_about_65 : decode cX9_about 65 = .ok (.istore_n 3, 1) := by decide +kernel
theorem dX9_about_66 : decode cX9_about 66 = .ok (.iload 4, 2) := by decide +kernel
theorem dX9_about_68 : decode cX9_about 68 = .ok (.aload_n 0, 1) := by decide +kernel
theorem dX9_about_69 : decode cX9_about 69 = .ok (.getfield 17, 3) := by decide +kernel
theorem dX9_about_72 : decode cX9_about 72 = .ok (.iload 5, 2) := by decide +kernel
theorem dX9_about_74 : decode cX9_about 74 = .ok (.iaload, 1) := by decide +kernel
theorem dX9_about_75 : decode cX9_about 75 = .ok (.iadd, 1) := by decide +kernel
theorem dX9_about_76 : decode cX9_about 76 = .ok (.istore 4, 2) := by decide +kernel
theorem dX9_about_78 : decode cX9_about 78 = .ok (.iinc 5 1, 3) := by decide +kernel
theorem dX9_about_81 : decode cX9_about 81 = .ok (.goto (-66), 3) := by decide +kernel
theorem dX9_about_84 : decode cX9_about 84 = .ok (.iload_n 1, 1) := by decide +kernel
theorem dX9_about_85 : decode cX9_about 85 = .ok (.tableswitch 106 0 10 #[59, 64, 69, 74, 79, 84, 86, 88, 91, 96, 101], 59) := by decide +kernel
theorem dX9_about_144 : decode cX9_about 144 = .ok (.aload_n 0, 1) := by decide +kernel
theorem dX9_about_145 : decode cX9_about 145 = .ok (.getfield 90, 3) := by decide +kernel
theorem dX9_about_148 : decode cX9_about 148 = .ok (.ireturn, 1) := by decide +kernel
theorem dX9_about_149 : decode cX9_about 149 = .ok (.aload_n 0, 1) := by decide +kernel
theorem dX9_about_150 : decode cX9_about 150 = .ok (.getfield 139, 3) := by decide +kernel
theorem dX9_about_153 : decode cX9_about 153 = .ok (.ireturn, 1) := by decide +kernel
theorem dX9_about_154 : decode cX9_about 154 = .ok (.aload_n 0, 1) := by decide +kernel
theorem dX9_about_155 : decode cX9_about 155 = .ok (.getfield 13, 3) := by decide +kernel
theorem dX9_about_158 : decode cX9_about 158 = .ok (.ireturn, 1) := by decide +kernel
theorem dX9_about_159 : decode cX9_about 159 = .ok (.aload_n 0, 1) := by decide +kernel
theorem dX9_about_160 : decode cX9_about 160 = .ok (.getfield 142, 3) := by decide +kernel
theorem dX9_about_163 : decode cX9_about 163 = .ok (.ireturn, 1) := by decide +kernel
theorem dX9_about_164 : decode cX9_about 164 = .ok (.aload_n 0, 1) := by decide +kernel
theorem dX9_about_165 : decode cX9_about 165 = .ok (.getfield 145, 3) := by decide +kernel
theorem dX9_about_168 : decode cX9_about 168 = .ok (.ireturn, 1) := by decide +kernel
theorem dX9_about_169 : decode cX9_about 169 = .ok (.iload_n 2, 1) := by decide +kernel
theorem dX9_about_170 : decode cX9_about 170 = .ok (.ireturn, 1) := by decide +kernel
theorem dX9_about_171 : decode cX9_about 171 = .ok (.iload_n 3, 1) := by decide +kernel
theorem dX9_about_172 : decode cX9_about 172 = .ok (.ireturn, 1) := by decide +kernel
theorem dX9_about_173 : decode cX9_about 173 = .ok (.iload 4, 2) := by decide +kernel
theorem dX9_about_175 : decode cX9_about 175 = .ok (.ireturn, 1) := by decide +kernel
theorem dX9_about_176 : decode cX9_about 176 = .ok (.aload_n 0, 1) := by decide +kernel
theorem dX9_about_177 : decode cX9_about 177 = .ok (.getfield 148, 3) := by decide +kernel
theorem dX9_about_180 : decode cX9_about 180 = .ok (.ireturn, 1) := by decide +kernel
theorem dX9_about_181 : decode cX9_about 181 = .ok (.aload_n 0, 1) := by decide +kernel
theorem dX9_about_182 : decode cX9_about 182 = .ok (.getfield 151, 3) := by decide +kernel
theorem dX9_about_185 : decode cX9_about 185 = .ok (.ireturn, 1) := by decide +kernel
theorem dX9_about_186 : decode cX9_about 186 = .ok (.aload_n 0, 1) := by decide +kernel
theorem dX9_about_187 : decode cX9_about 187 = .ok (.getfield 99, 3) := by decide +kernel
theorem dX9_about_190 : decode cX9_about 190 = .ok (.ireturn, 1) := by decide +kernel
theorem dX9_about_191 : decode cX9_about 191 = .ok (.bipush (-2), 2) := by decide +kernel
theorem dX9_about_193 : decode cX9_about 193 = .ok (.ireturn, 1) := by decide +kernel
theorem dX9_guard_0 : decode cX9_guard 0 = .ok (.aload_n 0, 1) := by decide +kernel
theorem dX9_guard_1 : decode cX9_guard 1 = .ok (.iconst 0, 1) := by decide +kernel
theorem dX9_guard_2 : decode cX9_guard 2 = .ok (.putfield 87, 3) := by decide +kernel
theorem dX9_guard_5 : decode cX9_guard 5 = .ok (.aload_n 0, 1) := by decide +kernel
theorem dX9_guard_6 : decode cX9_guard 6 = .ok (.iload_n 1, 1) := by decide +kernel
theorem dX9_guard_7 : decode cX9_guard 7 = .ok (.invokevirtual 154, 3) := by decide +kernel
theorem dX9_guard_10 : decode cX9_guard 10 = .ok (.ifCond .eq 5, 3) := by decide +kernel
theorem dX9_guard_13 : decode cX9_guard 13 = .ok (.iconst (-1), 1) := by decide +kernel
theorem dX9_guard_14 : decode cX9_guard 14 = .ok (.ireturn, 1) := by decide +kernel
theorem dX9_guard_15 : decode cX9_guard 15 = .ok (.iload_n 2, 1) := by decide +kernel
theorem dX9_guard_16 : decode cX9_guard 16 = .ok (.tableswitch 109 0 6 #[44, 51, 58, 65, 80, 95, 102], 44) := by decide +kernel
theorem dX9_guard_60 : decode cX9_guard 60 = .ok (.aload_n 0, 1) := by decide +kernel
theorem dX9_guard_61 : decode cX9_guard 61 = .ok (.getfield 17, 3) := by decide +kernel
theorem dX9_guard_64 : decode cX9_guard 64 = .ok (.iload_n 1, 1) := by decide +kernel
theorem dX9_guard_65 : decode cX9_guard 65 = .ok (.iaload, 1) := by decide +kernel
theorem dX9_guard_66 : decode cX9_guard 66 = .ok (.ireturn, 1) := by decide +kernel
theorem dX9_guard_67 : decode cX9_guard 67 = .ok (.aload_n 0, 1) := by decide +kernel
theorem dX9_guard_68 : decode cX9_guard 68 = .ok (.getfield 20, 3) := by decide +kernel
theorem dX9_guard_71 : decode cX9_guard 71 = .ok (.iload_n 1, 1) := by decide +kernel
theorem dX9_guard_72 : decode cX9_guard 72 = .ok (.iaload, 1) := by decide +kernel
theorem dX9_guard_73 : decode cX9_guard 73 = .ok (.ireturn, 1) := by decide +kernel
theorem dX9_guard_74 : decode cX9_guard 74 = .ok (.aload_n 0, 1) := by decide +kernel
theorem dX9_guard_75 : decode cX9_guard 75 = .ok (.getfield 23, 3) := by decide +kernel
theorem dX9_guard_78 : decode cX9_guard 78 = .ok (.iload_n 1, 1) := by decide +kernel
theorem dX9_guard_79 : decode cX9_guard 79 = .ok (.iaload, 1) := by decide +kernel
theorem dX9_guard_80 : decode cX9_guard 80 = .ok (.ireturn, 1) := by decide +kernel
theorem dX9_guard_81 : decode cX9_guard 81 = .ok (.aload_n 0, 1) := by decide +kernel
theorem dX9_guard_82 : decode cX9_guard 82 = .ok (.getfield 26, 3) := by decide +kernel
theorem dX9_guard_85 : decode cX9_guard 85 = .ok (.iload_n 1, 1) := by decide +kernel
theorem dX9_guard_86 : decode cX9_guard 86 = .ok (.baload, 1) := by decide +kernel
theorem dX9_guard_87 : decode cX9_guard 87 = .ok (.ifCond .eq 7, 3) := by decide +kernel
theorem dX9_guard_90 : decode cX9_guard 90 = .ok (.iconst 1, 1) := by decide +kernel
theorem dX9_guard_91 : decode cX9_guard 91 = .ok (.goto 4, 3) := by decide +kernel
theorem dX9_guard_94 : decode cX9_guard 94 = .ok (.iconst 0, 1) := by decide +kernel
theorem dX9_guard_95 : decode cX9_guard 95 = .ok (.ireturn, 1) := by decide +kernel
theorem dX9_guard_96 : decode cX9_guard 96 = .ok (.aload_n 0, 1) := by decide +kernel
theorem dX9_guard_97 : decode cX9_guard 97 = .ok (.getfield 30, 3) := by decide +kernel
theorem dX9_guard_100 : decode cX9_guard 100 = .ok (.iload_n 1, 1) := by decide +kernel
theorem dX9_guard_101 : decode cX9_guard 101 = .ok (.baload, 1) := by decide +kernel
theorem dX9_guard_102 : decode cX9_guard 102 = .ok (.ifCond .eq 7, 3) := by decide +kernel
theorem dX9_guard_105 : decode cX9_guard 105 = .ok (.iconst 1, 1) := by decide +kernel
theorem dX9_guard_106 : decode cX9_guard 106 = .ok (.goto 4, 3) := by decide +kernel
theorem dX9_guard_109 : decode cX9_guard 109 = .ok (.iconst 0, 1) := by decide +kernel
theorem dX9_guard_110 : decode cX9_guard 110 = .ok (.ireturn, 1) := by decide +kernel
theorem dX9_guard_111 : decode cX9_guard 111 = .ok (.aload_n 0, 1) := by decide +kernel
theorem dX9_guard_112 : decode cX9_guard 112 = .ok (.getfield 33, 3) := by decide +kernel
theorem dX9_guard_115 : decode cX9_guard 115 = .ok (.iload_n 1, 1) := by decide +kernel
theorem dX9_guard_116 : decode cX9_guard 116 = .ok (.iaload, 1) := by decide +kernel
theorem dX9_guard_117 : decode cX9_guard 117 = .ok (.ireturn, 1) := by decide +kernel
theorem dX9_guard_118 : decode cX9_guard 118 = .ok (.aload_n 0, 1) := by decide +kernel
theorem dX9_guard_119 : decode cX9_guard 119 = .ok (.getfield 36, 3) := by decide +kernel
theorem dX9_guard_122 : decode cX9_guard 122 = .ok (.iload_n 1, 1) := by decide +kernel
theorem dX9_guard_123 : decode cX9_guard 123 = .ok (.iaload, 1) := by decide +kernel
theorem dX9_guard_124 : decode cX9_guard 124 = .ok (.ireturn, 1) := by decide +kernel
theorem dX9_guard_125 : decode cX9_guard 125 = .ok (.bipush (-2), 2) := by decide +kernel
theorem dX9_guard_127 : decode cX9_guard 127 = .ok (.ireturn, 1) := by decide +kernel
theorem dX9_sick_0 : decode cX9_sick 0 = .ok (.aload_n 0, 1) := by decide +kernel
theorem dX9_sick_1 : decode cX9_sick 1 = .ok (.iconst 0, 1) := by decide +kernel
theorem dX9_sick_2 : decode cX9_sick 2 = .ok (.putfield 87, 3) := by decide +kernel
theorem dX9_sick_5 : decode cX9_sick 5 = .ok (.aload_n 0, 1) := by decide +kernel
theorem dX9_sick_6 : decode cX9_sick 6 = .ok (.iload_n 1, 1) := by decide +kernel
theorem dX9_sick_7 : decode cX9_sick 7 = .ok (.invokevirtual 154, 3) := by decide +kernel
theorem dX9_sick_10 : decode cX9_sick 10 = .ok (.ifCond .eq 5, 3) := by decide +kernel
theorem dX9_sick_13 : decode cX9_sick 13 = .ok (.iconst (-1), 1) := by decide +kernel
theorem dX9_sick_14 : decode cX9_sick 14 = .ok (.ireturn, 1) := by decide +kernel
theorem dX9_sick_15 : decode cX9_sick 15 = .ok (.aload_n 0, 1) := by decide +kernel
theorem dX9_sick_16 : decode cX9_sick 16 = .ok (.getfield 30, 3) := by decide +kernel
theorem dX9_sick_19 : decode cX9_sick 19 = .ok (.iload_n 1, 1) := by decide +kernel
theorem dX9_sick_20 : decode cX9_sick 20 = .ok (.baload, 1) := by decide +kernel
theorem dX9_sick_21 : decode cX9_sick 21 = .ok (.istore_n 3, 1) := by decide +kernel
theorem dX9_sick_22 : decode cX9_sick 22 = .ok (.aload_n 0, 1) := by decide +kernel
theorem dX9_sick_23 : decode cX9_sick 23 = .ok (.getfield 30, 3) := by decide +kernel
theorem dX9_sick_26 : decode cX9_sick 26 = .ok (.iload_n 1, 1) := by decide +kernel
theorem dX9_sick_27 : decode cX9_sick 27 = .ok (.iload_n 2, 1) := by decide +kernel
theorem dX9_sick_28 : decode cX9_sick 28 = .ok (.bastore, 1) := by decide +kernel
theorem dX9_sick_29 : decode cX9_sick 29 = .ok (.iload_n 3, 1) := by decide +kernel
theorem dX9_sick_30 : decode cX9_sick 30 = .ok (.iload_n 2, 1) := by decide +kernel
theorem dX9_sick_31 : decode cX9_sick 31 = .ok (.if_icmp .ne 7, 3) := by decide +kernel
theorem dX9_sick_34 : decode cX9_sick 34 = .ok (.iconst 0, 1) := by decide +kernel
theorem dX9_sick_35 : decode cX9_sick 35 = .ok (.goto 4, 3) := by decide +kernel
theorem dX9_sick_38 : decode cX9_sick 38 = .ok (.iconst 1, 1) := by decide +kernel
theorem dX9_sick_39 : decode cX9_sick 39 = .ok (.ireturn, 1) := by decide +kernel
theorem dX9_hand_0 : decode cX9_hand 0 = .ok (.aload_n 0, 1) := by decide +kernel
theorem dX9_hand_1 : decode cX9_hand 1 = .ok (.iconst 0, 1) := by decide +kernel
theorem dX9_hand_2 : decode cX9_hand 2 = .ok (.putfield 87, 3) := by decide +kernel
theorem dX9_hand_5 : decode cX9_hand 5 = .ok (.aload_n 0, 1) := by decide +kernel
theorem dX9_hand_6 : decode cX9_hand 6 = .ok (.iload_n 1, 1) := by decide +kernel
theorem dX9_hand_7 : decode cX9_hand 7 = .ok (.invokevirtual 154, 3) := by decide +kernel
theorem dX9_hand_10 : decode cX9_hand 10 = .ok (.ifCond .ne 11, 3) := by decide +kernel
theorem dX9_hand_13 : decode cX9_hand 13 = .ok (.aload_n 0, 1) := by decide +kernel
theorem dX9_hand_14 : decode cX9_hand 14 = .ok (.iload_n 2, 1) := by decide +kernel
theorem dX9_hand_15 : decode cX9_hand 15 = .ok (.invokevirtual 154, 3) := by decide +kernel
theorem dX9_hand_18 : decode cX9_hand 18 = .ok (.ifCond .eq 5, 3) := by decide +kernel
theorem dX9_hand_21 : decode cX9_hand 21 = .ok (.iconst (-1), 1) := by decide +kernel
theorem dX9_hand_22 : decode cX9_hand 22 = .ok (.ireturn, 1) := by decide +kernel
theorem dX9_hand_23 : decode cX9_hand 23 = .ok (.iload_n 1, 1) := by decide +kernel
theorem dX9_hand_24 : decode cX9_hand 24 = .ok (.iload_n 2, 1) := by decide +kernel
theorem dX9_hand_25 : decode cX9_hand 25 = .ok (.if_icmp .eq 15, 3) := by decide +kernel
theorem dX9_hand_28 : decode cX9_hand 28 = .ok (.iload_n 3, 1) := by decide +kernel
theorem dX9_hand_29 : decode cX9_hand 29 = .ok (.i2l, 1) := by decide +kernel
theorem dX9_hand_30 : decode cX9_hand 30 = .ok (.lconst 1, 1) := by decide +kernel
theorem dX9_hand_31 : decode cX9_hand 31 = .ok (.ldc2_w 158, 3) := by decide +kernel
theorem dX9_hand_34 : decode cX9_hand 34 = .ok (.invokestatic 93, 3) := by decide +kernel
theorem dX9_hand_37 : decode cX9_hand 37 = .ok (.ifCond .ne 6, 3) := by decide +kernel
theorem dX9_hand_40 : decode cX9_hand 40 = .ok (.bipush (-2), 2) := by decide +kernel
theorem dX9_hand_42 : decode cX9_hand 42 = .ok (.ireturn, 1) := by decide +kernel
theorem dX9_hand_43 : decode cX9_hand 43 = .ok (.aload_n 0, 1) := by decide +kernel
theorem dX9_hand_44 : decode cX9_hand 44 = .ok (.getfield 20, 3) := by decide +kernel
theorem dX9_hand_47 : decode cX9_hand 47 = .ok (.iload_n 1, 1) := by decide +kernel
theorem dX9_hand_48 : decode cX9_hand 48 = .ok (.iaload, 1) := by decide +kernel
theorem dX9_hand_49 : decode cX9_hand 49 = .ok (.iload_n 3, 1) := by decide +kernel
theorem dX9_hand_50 : decode cX9_hand 50 = .ok (.if_icmp .ge 6, 3) := by decide +kernel
theorem dX9_hand_53 : decode cX9_hand 53 = .ok (.bipush (-3), 2) := by decide +kernel
theorem dX9_hand_55 : decode cX9_hand 55 = .ok (.ireturn, 1) := by decide +kernel
theorem dX9_hand_56 : decode cX9_hand 56 = .ok (.aload_n 0, 1) := by decide +kernel
theorem dX9_hand_57 : decode cX9_hand 57 = .ok (.getfield 20, 3) := by decide +kernel
theorem dX9_hand_60 : decode cX9_hand 60 = .ok (.iload_n 2, 1) := by decide +kernel
theorem dX9_hand_61 : decode cX9_hand 61 = .ok (.iaload, 1) := by decide +kernel
theorem dX9_hand_62 : decode cX9_hand 62 = .ok (.iload_n 3, 1) := by decide +kernel
theorem dX9_hand_63 : decode cX9_hand 63 = .ok (.iadd, 1) := by decide +kernel
theorem dX9_hand_64 : decode cX9_hand 64 = .ok (.bipush 9, 2) := by decide +kernel
theorem dX9_hand_66 : decode cX9_hand 66 = .ok (.if_icmp .le 6, 3) := by decide +kernel
theorem dX9_hand_69 : decode cX9_hand 69 = .ok (.bipush (-4), 2) := by decide +kernel
theorem dX9_hand_71 : decode cX9_hand 71 = .ok (.ireturn, 1) := by decide +kernel
theorem dX9_hand_72 : decode cX9_hand 72 = .ok (.aload_n 0, 1) := by decide +kernel
theorem dX9_hand_73 : decode cX9_hand 73 = .ok (.getfield 20, 3) := by decide +kernel
theorem dX9_hand_76 : decode cX9_hand 76 = .ok (.iload_n 1, 1) := by decide +kernel
theorem dX9_hand_77 : decode cX9_hand 77 = .ok (.dup2, 1) := by decide +kernel
theorem dX9_hand_78 : decode cX9_hand 78 = .ok (.iaload, 1) := by decide +kernel
theorem dX9_hand_79 : decode cX9_hand 79 = .ok (.iload_n 3, 1) := by decide +kernel
theorem dX9_hand_80 : decode cX9_hand 80 = .ok (.isub, 1) := by decide +kernel
theorem dX9_hand_81 : decode cX9_hand 81 = .ok (.iastore, 1) := by decide +kernel
theorem dX9_hand_82 : decode cX9_hand 82 = .ok (.aload_n 0, 1) := by decide +kernel
theorem dX9_hand_83 : decode cX9_hand 83 = .ok (.getfield 20, 3) := by decide +kernel
theorem dX9_hand_86 : decode cX9_hand 86 = .ok (.iload_n 2, 1) := by decide +kernel
theorem dX9_hand_87 : decode cX9_hand 87 = .ok (.dup2, 1) := by decide +kernel
theorem dX9_hand_88 : decode cX9_hand 88 = .ok (.iaload, 1) := by decide +kernel
theorem dX9_hand_89 : decode cX9_hand 89 = .ok (.iload_n 3, 1) := by decide +kernel
theorem dX9_hand_90 : decode cX9_hand 90 = .ok (.iadd, 1) := by decide +kernel
theorem dX9_hand_91 : decode cX9_hand 91 = .ok (.iastore, 1) := by decide +kernel
theorem dX9_hand_92 : decode cX9_hand 92 = .ok (.aload_n 0, 1) := by decide +kernel
theorem dX9_hand_93 : decode cX9_hand 93 = .ok (.getfield 20, 3) := by decide +kernel
theorem dX9_hand_96 : decode cX9_hand 96 = .ok (.iload_n 2, 1) := by decide +kernel
theorem dX9_hand_97 : decode cX9_hand 97 = .ok (.iaload, 1) := by decide +kernel
theorem dX9_hand_98 : decode cX9_hand 98 = .ok (.ireturn, 1) := by decide +kernel
theorem dX9_pay_0 : decode cX9_pay 0 = .ok (.aload_n 0, 1) := by decide +kernel
theorem dX9_pay_1 : decode cX9_pay 1 = .ok (.iconst 0, 1) := by decide +kernel
theorem dX9_pay_2 : decode cX9_pay 2 = .ok (.putfield 87, 3) := by decide +kernel
theorem dX9_pay_5 : decode cX9_pay 5 = .ok (.aload_n 0, 1) := by decide +kernel
theorem dX9_pay_6 : decode cX9_pay 6 = .ok (.iload_n 1, 1) := by decide +kernel
theorem dX9_pay_7 : decode cX9_pay 7 = .ok (.invokevirtual 154, 3) := by decide +kernel
theorem dX9_pay_10 : decode cX9_pay 10 = .ok (.ifCond .eq 5, 3) := by decide +kernel
theorem dX9_pay_13 : decode cX9_pay 13 = .ok (.iconst (-1), 1) := by decide +kernel
theorem dX9_pay_14 : decode cX9_pay 14 = .ok (.ireturn, 1) := by decide +kernel
theorem dX9_pay_15 : decode cX9_pay 15 = .ok (.iload_n 2, 1) := by decide +kernel
theorem dX9_pay_16 : decode cX9_pay 16 = .ok (.i2l, 1) := by decide +kernel
theorem dX9_pay_17 : decode cX9_pay 17 = .ok (.lconst 1, 1) := by decide +kernel
theorem dX9_pay_18 : decode cX9_pay 18 = .ok (.ldc2_w 158, 3) := by decide +kernel
theorem dX9_pay_21 : decode cX9_pay 21 = .ok (.invokestatic 93, 3) := by decide +kernel
theorem dX9_pay_24 : decode cX9_pay 24 = .ok (.ifCond .ne 6, 3) := by decide +kernel
theorem dX9_pay_27 : decode cX9_pay 27 = .ok (.bipush (-2), 2) := by decide +kernel
theorem dX9_pay_29 : decode cX9_pay 29 = .ok (.ireturn, 1) := by decide +kernel
theorem dX9_pay_30 : decode cX9_pay 30 = .ok (.aload_n 0, 1) := by decide +kernel
theorem dX9_pay_31 : decode cX9_pay 31 = .ok (.getfield 20, 3) := by decide +kernel
theorem dX9_pay_34 : decode cX9_pay 34 = .ok (.iload_n 1, 1) := by decide +kernel
theorem dX9_pay_35 : decode cX9_pay 35 = .ok (.iaload, 1) := by decide +kernel
theorem dX9_pay_36 : decode cX9_pay 36 = .ok (.iload_n 2, 1) := by decide +kernel
theorem dX9_pay_37 : decode cX9_pay 37 = .ok (.if_icmp .lt 13, 3) := by decide +kernel
theorem dX9_pay_40 : decode cX9_pay 40 = .ok (.aload_n 0, 1) := by decide +kernel
theorem dX9_pay_41 : decode cX9_pay 41 = .ok (.getfield 23, 3) := by decide +kernel
theorem dX9_pay_44 : decode cX9_pay 44 = .ok (.iload_n 1, 1) := by decide +kernel
theorem dX9_pay_45 : decode cX9_pay 45 = .ok (.iaload, 1) := by decide +kernel
theorem dX9_pay_46 : decode cX9_pay 46 = .ok (.iload_n 2, 1) := by decide +kernel
theorem dX9_pay_47 : decode cX9_pay 47 = .ok (.if_icmp .ge 6, 3) := by decide +kernel
theorem dX9_pay_50 : decode cX9_pay 50 = .ok (.bipush (-3), 2) := by decide +kernel
theorem dX9_pay_52 : decode cX9_pay 52 = .ok (.ireturn, 1) := by decide +kernel
theorem dX9_pay_53 : decode cX9_pay 53 = .ok (.aload_n 0, 1) := by decide +kernel
theorem dX9_pay_54 : decode cX9_pay 54 = .ok (.getfield 20, 3) := by decide +kernel
theorem dX9_pay_57 : decode cX9_pay 57 = .ok (.iload_n 1, 1) := by decide +kernel
theorem dX9_pay_58 : decode cX9_pay 58 = .ok (.dup2, 1) := by decide +kernel
theorem dX9_pay_59 : decode cX9_pay 59 = .ok (.iaload, 1) := by decide +kernel
theorem dX9_pay_60 : decode cX9_pay 60 = .ok (.iload_n 2, 1) := by decide +kernel
theorem dX9_pay_61 : decode cX9_pay 61 = .ok (.isub, 1) := by decide +kernel
theorem dX9_pay_62 : decode cX9_pay 62 = .ok (.iastore, 1) := by decide +kernel
theorem dX9_pay_63 : decode cX9_pay 63 = .ok (.aload_n 0, 1) := by decide +kernel
theorem dX9_pay_64 : decode cX9_pay 64 = .ok (.getfield 23, 3) := by decide +kernel
theorem dX9_pay_67 : decode cX9_pay 67 = .ok (.iload_n 1, 1) := by decide +kernel
theorem dX9_pay_68 : decode cX9_pay 68 = .ok (.dup2, 1) := by decide +kernel
theorem dX9_pay_69 : decode cX9_pay 69 = .ok (.iaload, 1) := by decide +kernel
theorem dX9_pay_70 : decode cX9_pay 70 = .ok (.iload_n 2, 1) := by decide +kernel
theorem dX9_pay_71 : decode cX9_pay 71 = .ok (.isub, 1) := by decide +kernel
theorem dX9_pay_72 : decode cX9_pay 72 = .ok (.iastore, 1) := by decide +kernel
theorem dX9_pay_73 : decode cX9_pay 73 = .ok (.aload_n 0, 1) := by decide +kernel
theorem dX9_pay_74 : decode cX9_pay 74 = .ok (.getfield 23, 3) := by decide +kernel
theorem dX9_pay_77 : decode cX9_pay 77 = .ok (.iload_n 1, 1) := by decide +kernel
theorem dX9_pay_78 : decode cX9_pay 78 = .ok (.iaload, 1) := by decide +kernel
theorem dX9_pay_79 : decode cX9_pay 79 = .ok (.ireturn, 1) := by decide +kernel
theorem dX9_begin_0 : decode cX9_begin 0 = .ok (.iconst 0, 1) := by decide +kernel
theorem dX9_begin_1 : decode cX9_begin 1 = .ok (.istore_n 1, 1) := by decide +kernel
theorem dX9_begin_2 : decode cX9_begin 2 = .ok (.iload_n 1, 1) := by decide +kernel
theorem dX9_begin_3 : decode cX9_begin 3 = .ok (.aload_n 0, 1) := by decide +kernel
theorem dX9_begin_4 : decode cX9_begin 4 = .ok (.getfield 90, 3) := by decide +kernel
theorem dX9_begin_7 : decode cX9_begin 7 = .ok (.if_icmp .ge 57, 3) := by decide +kernel
theorem dX9_begin_10 : decode cX9_begin 10 = .ok (.aload_n 0, 1) := by decide +kernel
theorem dX9_begin_11 : decode cX9_begin 11 = .ok (.getfield 72, 3) := by decide +kernel
theorem dX9_begin_14 : decode cX9_begin 14 = .ok (.iload_n 1, 1) := by decide +kernel
theorem dX9_begin_15 : decode cX9_begin 15 = .ok (.aload_n 0, 1) := by decide +kernel
theorem dX9_begin_16 : decode cX9_begin 16 = .ok (.getfield 17, 3) := by decide +kernel
theorem dX9_begin_19 : decode cX9_begin 19 = .ok (.iload_n 1, 1) := by decide +kernel
theorem dX9_begin_20 : decode cX9_begin 20 = .ok (.iaload, 1) := by decide +kernel
theorem dX9_begin_21 : decode cX9_begin 21 = .ok (.iastore, 1) := by decide +kernel
theorem dX9_begin_22 : decode cX9_begin 22 = .ok (.aload_n 0, 1) := by decide +kernel
theorem dX9_begin_23 : decode cX9_begin 23 = .ok (.getfield 75, 3) := by decide +kernel
theorem dX9_begin_26 : decode cX9_begin 26 = .ok (.iload_n 1, 1) := by decide +kernel
theorem dX9_begin_27 : decode cX9_begin 27 = .ok (.aload_n 0, 1) := by decide +kernel
theorem dX9_begin_28 : decode cX9_begin 28 = .ok (.getfield 20, 3) := by decide +kernel
theorem dX9_begin_31 : decode cX9_begin 31 = .ok (.iload_n 1, 1) := by decide +kernel
theorem dX9_begin_32 : decode cX9_begin 32 = .ok (.iaload, 1) := by decide +kernel
theorem dX9_begin_33 : decode cX9_begin 33 = .ok (.iastore, 1) := by decide +kernel
theorem dX9_begin_34 : decode cX9_begin 34 = .ok (.aload_n 0, 1) := by decide +kernel
theorem dX9_begin_35 : decode cX9_begin 35 = .ok (.getfield 78, 3) := by decide +kernel
theorem dX9_begin_38 : decode cX9_begin 38 = .ok (.iload_n 1, 1) := by decide +kernel
theorem dX9_begin_39 : decode cX9_begin 39 = .ok (.aload_n 0, 1) := by decide +kernel
theorem dX9_begin_40 : decode cX9_begin 40 = .ok (.getfield 23, 3) := by decide +kernel
theorem dX9_begin_43 : decode cX9_begin 43 = .ok (.iload_n 1, 1) := by decide +kernel
theorem dX9_begin_44 : decode cX9_begin 44 = .ok (.iaload, 1) := by decide +kernel
theorem dX9_begin_45 : decode cX9_begin 45 = .ok (.iastore, 1) := by decide +kernel
theorem dX9_begin_46 : decode cX9_begin 46 = .ok (.aload_n 0, 1) := by decide +kernel
theorem dX9_begin_47 : decode cX9_begin 47 = .ok (.getfield 81, 3) := by decide +kernel
theorem dX9_begin_50 : decode cX9_begin 50 = .ok (.iload_n 1, 1) := by decide +kernel
theorem dX9_begin_51 : decode cX9_begin 51 = .ok (.aload_n 0, 1) := by decide +kernel
theorem dX9_begin_52 : decode cX9_begin 52 = .ok (.getfield 26, 3) := by decide +kernel
theorem dX9_begin_55 : decode cX9_begin 55 = .ok (.iload_n 1, 1) := by decide +kernel
theorem dX9_begin_56 : decode cX9_begin 56 = .ok (.baload, 1) := by decide +kernel
theorem dX9_begin_57 : decode cX9_begin 57 = .ok (.bastore, 1) := by decide +kernel
theorem dX9_begin_58 : decode cX9_begin 58 = .ok (.iinc 1 1, 3) := by decide +kernel
theorem dX9_begin_61 : decode cX9_begin 61 = .ok (.goto (-59), 3) := by decide +kernel
theorem dX9_begin_64 : decode cX9_begin 64 = .ok (.return_, 1) := by decide +kernel
theorem dX9_giver_0 : decode cX9_giver 0 = .ok (.aload_n 0, 1) := by decide +kernel
theorem dX9_giver_1 : decode cX9_giver 1 = .ok (.getfield 33, 3) := by decide +kernel
theorem dX9_giver_4 : decode cX9_giver 4 = .ok (.iload_n 1, 1) := by decide +kernel
theorem dX9_giver_5 : decode cX9_giver 5 = .ok (.iaload, 1) := by decide +kernel
theorem dX9_giver_6 : decode cX9_giver 6 = .ok (.istore_n 3, 1) := by decide +kernel
theorem dX9_giver_7 : decode cX9_giver 7 = .ok (.iload_n 3, 1) := by decide +kernel
theorem dX9_giver_8 : decode cX9_giver 8 = .ok (.bipush (-9), 2) := by decide +kernel
theorem dX9_giver_10 : decode cX9_giver 10 = .ok (.if_icmp .eq 20, 3) := by decide +kernel
theorem dX9_giver_13 : decode cX9_giver 13 = .ok (.iload_n 2, 1) := by decide +kernel
theorem dX9_giver_14 : decode cX9_giver 14 = .ok (.iload_n 3, 1) := by decide +kernel
theorem dX9_giver_15 : decode cX9_giver 15 = .ok (.invokestatic 160, 3) := by decide +kernel
theorem dX9_giver_18 : decode cX9_giver 18 = .ok (.ifCond .eq 12, 3) := by decide +kernel
theorem dX9_giver_21 : decode cX9_giver 21 = .ok (.aload_n 0, 1) := by decide +kernel
theorem dX9_giver_22 : decode cX9_giver 22 = .ok (.getfield 30, 3) := by decide +kernel
theorem dX9_giver_25 : decode cX9_giver 25 = .ok (.iload_n 3, 1) := by decide +kernel
theorem dX9_giver_26 : decode cX9_giver 26 = .ok (.baload, 1) := by decide +kernel
theorem dX9_giver_27 : decode cX9_giver 27 = .ok (.ifCond .eq 5, 3) := by decide +kernel
theorem dX9_giver_30 : decode cX9_giver 30 = .ok (.iload_n 1, 1) := by decide +kernel
theorem dX9_giver_31 : decode cX9_giver 31 = .ok (.ireturn, 1) := by decide +kernel
theorem dX9_giver_32 : decode cX9_giver 32 = .ok (.iload_n 1, 1) := by decide +kernel
theorem dX9_giver_33 : decode cX9_giver 33 = .ok (.iload_n 3, 1) := by decide +kernel
theorem dX9_giver_34 : decode cX9_giver 34 = .ok (.if_icmp .ge 7, 3) := by decide +kernel
theorem dX9_giver_37 : decode cX9_giver 37 = .ok (.iload_n 1, 1) := by decide +kernel
theorem dX9_giver_38 : decode cX9_giver 38 = .ok (.goto 4, 3) := by decide +kernel
theorem dX9_giver_41 : decode cX9_giver 41 = .ok (.iload_n 3, 1) := by decide +kernel
theorem dX9_giver_42 : decode cX9_giver 42 = .ok (.istore 4, 2) := by decide +kernel
theorem dX9_giver_44 : decode cX9_giver 44 = .ok (.iload_n 1, 1) := by decide +kernel
theorem dX9_giver_45 : decode cX9_giver 45 = .ok (.iload_n 3, 1) := by decide +kernel
theorem dX9_giver_46 : decode cX9_giver 46 = .ok (.if_icmp .ge 7, 3) := by decide +kernel
theorem dX9_giver_49 : decode cX9_giver 49 = .ok (.iload_n 3, 1) := by decide +kernel
theorem dX9_giver_50 : decode cX9_giver 50 = .ok (.goto 4, 3) := by decide +kernel
theorem dX9_giver_53 : decode cX9_giver 53 = .ok (.iload_n 1, 1) := by decide +kernel
theorem dX9_giver_54 : decode cX9_giver 54 = .ok (.istore 5, 2) := by decide +kernel
theorem dX9_giver_56 : decode cX9_giver 56 = .ok (.aload_n 0, 1) := by decide +kernel
theorem dX9_giver_57 : decode cX9_giver 57 = .ok (.getfield 75, 3) := by decide +kernel
theorem dX9_giver_60 : decode cX9_giver 60 = .ok (.iload 5, 2) := by decide +kernel
theorem dX9_giver_62 : decode cX9_giver 62 = .ok (.iaload, 1) := by decide +kernel
theorem dX9_giver_63 : decode cX9_giver 63 = .ok (.aload_n 0, 1) := by decide +kernel
theorem dX9_giver_64 : decode cX9_giver 64 = .ok (.getfield 75, 3) := by decide +kernel
theorem dX9_giver_67 : decode cX9_giver 67 = .ok (.iload 4, 2) := by decide +kernel
theorem dX9_giver_69 : decode cX9_giver 69 = .ok (.iaload, 1) := by decide +kernel
theorem dX9_giver_70 : decode cX9_giver 70 = .ok (.if_icmp .le 8, 3) := by decide +kernel
theorem dX9_giver_73 : decode cX9_giver 73 = .ok (.iload 5, 2) := by decide +kernel
theorem dX9_giver_75 : decode cX9_giver 75 = .ok (.goto 5, 3) := by decide +kernel
theorem dX9_giver_78 : decode cX9_giver 78 = .ok (.iload 4, 2) := by decide +kernel
theorem dX9_giver_80 : decode cX9_giver 80 = .ok (.ireturn, 1) := by decide +kernel
theorem dX9_canBe_0 : decode cX9_canBe 0 = .ok (.iconst 0, 1) := by decide +kernel
theorem dX9_canBe_1 : decode cX9_canBe 1 = .ok (.istore_n 2, 1) := by decide +kernel
theorem dX9_canBe_2 : decode cX9_canBe 2 = .ok (.iconst 1, 1) := by decide +kernel
theorem dX9_canBe_3 : decode cX9_canBe 3 = .ok (.istore_n 3, 1) := by decide +kernel
theorem dX9_canBe_4 : decode cX9_canBe 4 = .ok (.iconst 0, 1) := by decide +kernel
theorem dX9_canBe_5 : decode cX9_canBe 5 = .ok (.istore 4, 2) := by decide +kernel
theorem dX9_canBe_7 : decode cX9_canBe 7 = .ok (.iload 4, 2) := by decide +kernel
theorem dX9_canBe_9 : decode cX9_canBe 9 = .ok (.aload_n 0, 1) := by decide +kernel
theorem dX9_canBe_10 : decode cX9_canBe 10 = .ok (.getfield 90, 3) := by decide +kernel
theorem dX9_canBe_13 : decode cX9_canBe 13 = .ok (.if_icmp .ge 71, 3) := by decide +kernel
theorem dX9_canBe_16 : decode cX9_canBe 16 = .ok (.iload_n 1, 1) := by decide +kernel
theorem dX9_canBe_17 : decode cX9_canBe 17 = .ok (.iload 4, 2) := by decide +kernel
theorem dX9_canBe_19 : decode cX9_canBe 19 = .ok (.invokestatic 160, 3) := by decide +kernel
theorem dX9_canBe_22 : decode cX9_canBe 22 = .ok (.ifCond .eq 56, 3) := by decide +kernel
theorem dX9_canBe_25 : decode cX9_canBe 25 = .ok (.iinc 2 1, 3) := by decide +kernel
theorem dX9_canBe_28 : decode cX9_canBe 28 = .ok (.iload_n 3, 1) := by decide +kernel
theorem dX9_canBe_29 : decode cX9_canBe 29 = .ok (.ifCond .eq 47, 3) := by decide +kernel
theorem dX9_canBe_32 : decode cX9_canBe 32 = .ok (.aload_n 0, 1) := by decide +kernel
theorem dX9_canBe_33 : decode cX9_canBe 33 = .ok (.getfield 30, 3) := by decide +kernel
theorem dX9_canBe_36 : decode cX9_canBe 36 = .ok (.iload 4, 2) := by decide +kernel
theorem dX9_canBe_38 : decode cX9_canBe 38 = .ok (.baload, 1) := by decide +kernel
theorem dX9_canBe_39 : decode cX9_canBe 39 = .ok (.ifCond .eq 18, 3) := by decide +kernel
theorem dX9_canBe_42 : decode cX9_canBe 42 = .ok (.aload_n 0, 1) := by decide +kernel
theorem dX9_canBe_43 : decode cX9_canBe 43 = .ok (.getfield 78, 3) := by decide +kernel
theorem dX9_canBe_46 : decode cX9_canBe 46 = .ok (.iload 4, 2) := by decide +kernel
theorem dX9_canBe_48 : decode cX9_canBe 48 = .ok (.iaload, 1) := by decide +kernel
theorem dX9_canBe_49 : decode cX9_canBe 49 = .ok (.bipush 9, 2) := by decide +kernel
theorem dX9_canBe_51 : decode cX9_canBe 51 = .ok (.if_icmp .ge 25, 3) := by decide +kernel
theorem dX9_canBe_54 : decode cX9_canBe 54 = .ok (.goto 18, 3) := by decide +kernel
theorem dX9_canBe_57 : decode cX9_canBe 57 = .ok (.aload_n 0, 1) := by decide +kernel
theorem dX9_canBe_58 : decode cX9_canBe 58 = .ok (.getfield 75, 3) := by decide +kernel
theorem dX9_canBe_61 : decode cX9_canBe 61 = .ok (.aload_n 0, 1) := by decide +kernel
theorem dX9_canBe_62 : decode cX9_canBe 62 = .ok (.iload 4, 2) := by decide +kernel
theorem dX9_canBe_64 : decode cX9_canBe 64 = .ok (.iload_n 1, 1) := by decide +kernel
theorem dX9_canBe_65 : decode cX9_canBe 65 = .ok (.invokevirtual 164, 3) := by decide +kernel
theorem dX9_canBe_68 : decode cX9_canBe 68 = .ok (.iaload, 1) := by decide +kernel
theorem dX9_canBe_69 : decode cX9_canBe 69 = .ok (.ifCond .le 7, 3) := by decide +kernel
theorem dX9_canBe_72 : decode cX9_canBe 72 = .ok (.iconst 1, 1) := by decide +kernel
theorem dX9_canBe_73 : decode cX9_canBe 73 = .ok (.goto 4, 3) := by decide +kernel
theorem dX9_canBe_76 : decode cX9_canBe 76 = .ok (.iconst 0, 1) := by decide +kernel
theorem dX9_canBe_77 : decode cX9_canBe 77 = .ok (.istore_n 3, 1) := by decide +kernel
theorem dX9_canBe_78 : decode cX9_canBe 78 = .ok (.iinc 4 1, 3) := by decide +kernel
theorem dX9_canBe_81 : decode cX9_canBe 81 = .ok (.goto (-74), 3) := by decide +kernel
theorem dX9_canBe_84 : decode cX9_canBe 84 = .ok (.iload_n 3, 1) := by decide +kernel
theorem dX9_canBe_85 : decode cX9_canBe 85 = .ok (.ifCond .eq 15, 3) := by decide +kernel
theorem dX9_canBe_88 : decode cX9_canBe 88 = .ok (.iload_n 2, 1) := by decide +kernel
theorem dX9_canBe_89 : decode cX9_canBe 89 = .ok (.aload_n 0, 1) := by decide +kernel
theorem dX9_canBe_90 : decode cX9_canBe 90 = .ok (.getfield 139, 3) := by decide +kernel
theorem dX9_canBe_93 : decode cX9_canBe 93 = .ok (.if_icmp .gt 7, 3) := by decide +kernel
theorem dX9_canBe_96 : decode cX9_canBe 96 = .ok (.iconst 1, 1) := by decide +kernel
theorem dX9_canBe_97 : decode cX9_canBe 97 = .ok (.goto 4, 3) := by decide +kernel
theorem dX9_canBe_100 : decode cX9_canBe 100 = .ok (.iconst 0, 1) := by decide +kernel
theorem dX9_canBe_101 : decode cX9_canBe 101 = .ok (.ireturn, 1) := by decide +kernel
theorem dX9_go_0 : decode cX9_go 0 = .ok (.iconst 0, 1) := by decide +kernel
theorem dX9_go_1 : decode cX9_go 1 = .ok (.istore_n 2, 1) := by decide +kernel
theorem dX9_go_2 : decode cX9_go 2 = .ok (.iconst 0, 1) := by decide +kernel
theorem dX9_go_3 : decode cX9_go 3 = .ok (.istore_n 3, 1) := by decide +kernel
theorem dX9_go_4 : decode cX9_go 4 = .ok (.iload_n 3, 1) := by decide +kernel
theorem dX9_go_5 : decode cX9_go 5 = .ok (.aload_n 0, 1) := by decide +kernel
theorem dX9_go_6 : decode cX9_go 6 = .ok (.getfield 90, 3) := by decide +kernel
theorem dX9_go_9 : decode cX9_go 9 = .ok (.if_icmp .ge 37, 3) := by decide +kernel
theorem dX9_go_12 : decode cX9_go 12 = .ok (.iload_n 1, 1) := by decide +kernel
theorem dX9_go_13 : decode cX9_go 13 = .ok (.iload_n 3, 1) := by decide +kernel
theorem dX9_go_14 : decode cX9_go 14 = .ok (.invokestatic 160, 3) := by decide +kernel
theorem dX9_go_17 : decode cX9_go 17 = .ok (.ifCond .eq 23, 3) := by decide +kernel
theorem dX9_go_20 : decode cX9_go 20 = .ok (.aload_n 0, 1) := by decide +kernel
theorem dX9_go_21 : decode cX9_go 21 = .ok (.getfield 30, 3) := by decide +kernel
theorem dX9_go_24 : decode cX9_go 24 = .ok (.iload_n 3, 1) := by decide +kernel
theorem dX9_go_25 : decode cX9_go 25 = .ok (.baload, 1) := by decide +kernel
theorem dX9_go_26 : decode cX9_go 26 = .ok (.ifCond .ne 14, 3) := by decide +kernel
theorem dX9_go_29 : decode cX9_go 29 = .ok (.iload_n 2, 1) := by decide +kernel
theorem dX9_go_30 : decode cX9_go 30 = .ok (.iconst 1, 1) := by decide +kernel
theorem dX9_go_31 : decode cX9_go 31 = .ok (.aload_n 0, 1) := by decide +kernel
theorem dX9_go_32 : decode cX9_go 32 = .ok (.iload_n 3, 1) := by decide +kernel
theorem dX9_go_33 : decode cX9_go 33 = .ok (.iload_n 1, 1) := by decide +kernel
theorem dX9_go_34 : decode cX9_go 34 = .ok (.invokevirtual 164, 3) := by decide +kernel
theorem dX9_go_37 : decode cX9_go 37 = .ok (.ishl, 1) := by decide +kernel
theorem dX9_go_38 : decode cX9_go 38 = .ok (.ior, 1) := by decide +kernel
theorem dX9_go_39 : decode cX9_go 39 = .ok (.istore_n 2, 1) := by decide +kernel
theorem dX9_go_40 : decode cX9_go 40 = .ok (.iinc 3 1, 3) := by decide +kernel
theorem dX9_go_43 : decode cX9_go 43 = .ok (.goto (-39), 3) := by decide +kernel
theorem dX9_go_46 : decode cX9_go 46 = .ok (.iconst 0, 1) := by decide +kernel
theorem dX9_go_47 : decode cX9_go 47 = .ok (.istore_n 3, 1) := by decide +kernel
theorem dX9_go_48 : decode cX9_go 48 = .ok (.iconst 0, 1) := by decide +kernel
theorem dX9_go_49 : decode cX9_go 49 = .ok (.istore 4, 2) := by decide +kernel
theorem dX9_go_51 : decode cX9_go 51 = .ok (.iload 4, 2) := by decide +kernel
theorem dX9_go_53 : decode cX9_go 53 = .ok (.aload_n 0, 1) := by decide +kernel
theorem dX9_go_54 : decode cX9_go 54 = .ok (.getfield 90, 3) := by decide +kernel
theorem dX9_go_57 : decode cX9_go 57 = .ok (.if_icmp .ge 278, 3) := by decide +kernel
theorem dX9_go_60 : decode cX9_go 60 = .ok (.aload_n 0, 1) := by decide +kernel
theorem dX9_go_61 : decode cX9_go 61 = .ok (.getfield 75, 3) := by decide +kernel
theorem dX9_go_64 : decode cX9_go 64 = .ok (.iload 4, 2) := by decide +kernel
theorem dX9_go_66 : decode cX9_go 66 = .ok (.dup2, 1) := by decide +kernel
theorem dX9_go_67 : decode cX9_go 67 = .ok (.iaload, 1) := by decide +kernel
theorem dX9_go_68 : decode cX9_go 68 = .ok (.iload_n 2, 1) := by decide +kernel
theorem dX9_go_69 : decode cX9_go 69 = .ok (.iload 4, 2) := by decide +kernel
theorem dX9_go_71 : decode cX9_go 71 = .ok (.invokestatic 160, 3) := by decide +kernel
theorem dX9_go_74 : decode cX9_go 74 = .ok (.ifCond .eq 7, 3) := by decide +kernel
theorem dX9_go_77 : decode cX9_go 77 = .ok (.iconst 1, 1) := by decide +kernel
theorem dX9_go_78 : decode cX9_go 78 = .ok (.goto 4, 3) := by decide +kernel
theorem dX9_go_81 : decode cX9_go 81 = .ok (.iconst 0, 1) := by decide +kernel
theorem dX9_go_82 : decode cX9_go 82 = .ok (.isub, 1) := by decide +kernel
theorem dX9_go_83 : decode cX9_go 83 = .ok (.iastore, 1) := by decide +kernel
theorem dX9_go_84 : decode cX9_go 84 = .ok (.aload_n 0, 1) := by decide +kernel
theorem dX9_go_85 : decode cX9_go 85 = .ok (.getfield 78, 3) := by decide +kernel
theorem dX9_go_88 : decode cX9_go 88 = .ok (.iload 4, 2) := by decide +kernel
theorem dX9_go_90 : decode cX9_go 90 = .ok (.dup2, 1) := by decide +kernel
theorem dX9_go_91 : decode cX9_go 91 = .ok (.iaload, 1) := by decide +kernel
theorem dX9_go_92 : decode cX9_go 92 = .ok (.iload_n 1, 1) := by decide +kernel
theorem dX9_go_93 : decode cX9_go 93 = .ok (.iload 4, 2) := by decide +kernel
theorem dX9_go_95 : decode cX9_go 95 = .ok (.invokestatic 160, 3) := by decide +kernel
theorem dX9_go_98 : decode cX9_go 98 = .ok (.ifCond .eq 17, 3) := by decide +kernel
theorem dX9_go_101 : decode cX9_go 101 = .ok (.aload_n 0, 1) := by decide +kernel
theorem dX9_go_102 : decode cX9_go 102 = .ok (.getfield 30, 3) := by decide +kernel
theorem dX9_go_105 : decode cX9_go 105 = .ok (.iload 4, 2) := by decide +kernel
theorem dX9_go_107 : decode cX9_go 107 = .ok (.baload, 1) := by decide +kernel
theorem dX9_go_108 : decode cX9_go 108 = .ok (.ifCond .eq 7, 3) := by decide +kernel
theorem dX9_go_111 : decode cX9_go 111 = .ok (.iconst 1, 1) := by decide +kernel
theorem dX9_go_112 : decode cX9_go 112 = .ok (.goto 4, 3) := by decide +kernel
theorem dX9_go_115 : decode cX9_go 115 = .ok (.iconst 0, 1) := by decide +kernel
theorem dX9_go_116 : decode cX9_go 116 = .ok (.iadd, 1) := by decide +kernel
theorem dX9_go_117 : decode cX9_go 117 = .ok (.iastore, 1) := by decide +kernel
theorem dX9_go_118 : decode cX9_go 118 = .ok (.iload_n 1, 1) := by decide +kernel
theorem dX9_go_119 : decode cX9_go 119 = .ok (.iload 4, 2) := by decide +kernel
theorem dX9_go_121 : decode cX9_go 121 = .ok (.invokestatic 160, 3) := by decide +kernel
theorem dX9_go_124 : decode cX9_go 124 = .ok (.ifCond .eq 45, 3) := by decide +kernel
theorem dX9_go_127 : decode cX9_go 127 = .ok (.aload_n 0, 1) := by decide +kernel
theorem dX9_go_128 : decode cX9_go 128 = .ok (.getfield 72, 3) := by decide +kernel
theorem dX9_go_131 : decode cX9_go 131 = .ok (.iload 4, 2) := by decide +kernel
theorem dX9_go_133 : decode cX9_go 133 = .ok (.aload_n 0, 1) := by decide +kernel
theorem dX9_go_134 : decode cX9_go 134 = .ok (.getfield 72, 3) := by decide +kernel
theorem dX9_go_137 : decode cX9_go 137 = .ok (.iload 4, 2) := by decide +kernel
theorem dX9_go_139 : decode cX9_go 139 = .ok (.iaload, 1) := by decide +kernel
theorem dX9_go_140 : decode cX9_go 140 = .ok (.iconst 4, 1) := by decide +kernel
theorem dX9_go_141 : decode cX9_go 141 = .ok (.if_icmp .le 15, 3) := by decide +kernel
theorem dX9_go_144 : decode cX9_go 144 = .ok (.aload_n 0, 1) := by decide +kernel
theorem dX9_go_145 : decode cX9_go 145 = .ok (.getfield 72, 3) := by decide +kernel
theorem dX9_go_148 : decode cX9_go 148 = .ok (.iload 4, 2) := by decide +kernel
theorem dX9_go_150 : decode cX9_go 150 = .ok (.iaload, 1) := by decide +kernel
theorem dX9_go_151 : decode cX9_go 151 = .ok (.iconst 4, 1) := by decide +kernel
theorem dX9_go_152 : decode cX9_go 152 = .ok (.isub, 1) := by decide +kernel
theorem dX9_go_153 : decode cX9_go 153 = .ok (.goto 4, 3) := by decide +kernel
theorem dX9_go_156 : decode cX9_go 156 = .ok (.iconst 0, 1) := by decide +kernel
theorem dX9_go_157 : decode cX9_go 157 = .ok (.iastore, 1) := by decide +kernel
theorem dX9_go_158 : decode cX9_go 158 = .ok (.aload_n 0, 1) := by decide +kernel
theorem dX9_go_159 : decode cX9_go 159 = .ok (.getfield 81, 3) := by decide +kernel
theorem dX9_go_162 : decode cX9_go 162 = .ok (.iload 4, 2) := by decide +kernel
theorem dX9_go_164 : decode cX9_go 164 = .ok (.iconst 0, 1) := by decide +kernel
theorem dX9_go_165 : decode cX9_go 165 = .ok (.bastore, 1) := by decide +kernel
theorem dX9_go_166 : decode cX9_go 166 = .ok (.goto 133, 3) := by decide +kernel
theorem dX9_go_169 : decode cX9_go 169 = .ok (.aload_n 0, 1) := by decide +kernel
theorem dX9_go_170 : decode cX9_go 170 = .ok (.getfield 81, 3) := by decide +kernel
theorem dX9_go_173 : decode cX9_go 173 = .ok (.iload 4, 2) := by decide +kernel
theorem dX9_go_175 : decode cX9_go 175 = .ok (.baload, 1) := by decide +kernel
theorem dX9_go_176 : decode cX9_go 176 = .ok (.ifCond .eq 64, 3) := by decide +kernel
theorem dX9_go_179 : decode cX9_go 179 = .ok (.aload_n 0, 1) := by decide +kernel
theorem dX9_go_180 : decode cX9_go 180 = .ok (.getfield 72, 3) := by decide +kernel
theorem dX9_go_183 : decode cX9_go 183 = .ok (.iload 4, 2) := by decide +kernel
theorem dX9_go_185 : decode cX9_go 185 = .ok (.aload_n 0, 1) := by decide +kernel
theorem dX9_go_186 : decode cX9_go 186 = .ok (.getfield 72, 3) := by decide +kernel
theorem dX9_go_189 : decode cX9_go 189 = .ok (.iload 4, 2) := by decide +kernel
theorem dX9_go_191 : decode cX9_go 191 = .ok (.iaload, 1) := by decide +kernel
theorem dX9_go_192 : decode cX9_go 192 = .ok (.ifCond .le 15, 3) := by decide +kernel
theorem dX9_go_195 : decode cX9_go 195 = .ok (.aload_n 0, 1) := by decide +kernel
theorem dX9_go_196 : decode cX9_go 196 = .ok (.getfield 72, 3) := by decide +kernel
theorem dX9_go_199 : decode cX9_go 199 = .ok (.iload 4, 2) := by decide +kernel
theorem dX9_go_201 : decode cX9_go 201 = .ok (.iaload, 1) := by decide +kernel
theorem dX9_go_202 : decode cX9_go 202 = .ok (.iconst 1, 1) := by decide +kernel
end
section
theorem dX9_go_203 : decode cX9_go 203 = .ok (.isub, 1) := by decide +kernel
theorem dX9_go_204 : decode cX9_go 204 = .ok (.goto 4, 3) := by decide +kernel
theorem dX9_go_207 : decode cX9_go 207 = .ok (.iconst 0, 1) := by decide +kernel
theorem dX9_go_208 : decode cX9_go 208 = .ok (.iastore, 1) := by decide +kernel
theorem dX9_go_209 : decode cX9_go 209 = .ok (.aload_n 0, 1) := by decide +kernel
theorem dX9_go_210 : decode cX9_go 210 = .ok (.getfield 81, 3) := by decide +kernel
theorem dX9_go_213 : decode cX9_go 213 = .ok (.iload 4, 2) := by decide +kernel
theorem dX9_go_215 : decode cX9_go 215 = .ok (.aload_n 0, 1) := by decide +kernel
theorem dX9_go_216 : decode cX9_go 216 = .ok (.getfield 72, 3) := by decide +kernel
theorem dX9_go_219 : decode cX9_go 219 = .ok (.iload 4, 2) := by decide +kernel
theorem dX9_go_221 : decode cX9_go 221 = .ok (.iaload, 1) := by decide +kernel
theorem dX9_go_222 : decode cX9_go 222 = .ok (.aload_n 0, 1) := by decide +kernel
theorem dX9_go_223 : decode cX9_go 223 = .ok (.getfield 13, 3) := by decide +kernel
theorem dX9_go_226 : decode cX9_go 226 = .ok (.iconst 4, 1) := by decide +kernel
theorem dX9_go_227 : decode cX9_go 227 = .ok (.isub, 1) := by decide +kernel
theorem dX9_go_228 : decode cX9_go 228 = .ok (.if_icmp .le 7, 3) := by decide +kernel
theorem dX9_go_231 : decode cX9_go 231 = .ok (.iconst 1, 1) := by decide +kernel
theorem dX9_go_232 : decode cX9_go 232 = .ok (.goto 4, 3) := by decide +kernel
theorem dX9_go_235 : decode cX9_go 235 = .ok (.iconst 0, 1) := by decide +kernel
theorem dX9_go_236 : decode cX9_go 236 = .ok (.bastore, 1) := by decide +kernel
theorem dX9_go_237 : decode cX9_go 237 = .ok (.goto 62, 3) := by decide +kernel
theorem dX9_go_240 : decode cX9_go 240 = .ok (.aload_n 0, 1) := by decide +kernel
theorem dX9_go_241 : decode cX9_go 241 = .ok (.getfield 72, 3) := by decide +kernel
theorem dX9_go_244 : decode cX9_go 244 = .ok (.iload 4, 2) := by decide +kernel
theorem dX9_go_246 : decode cX9_go 246 = .ok (.aload_n 0, 1) := by decide +kernel
theorem dX9_go_247 : decode cX9_go 247 = .ok (.getfield 72, 3) := by decide +kernel
theorem dX9_go_250 : decode cX9_go 250 = .ok (.iload 4, 2) := by decide +kernel
theorem dX9_go_252 : decode cX9_go 252 = .ok (.iaload, 1) := by decide +kernel
theorem dX9_go_253 : decode cX9_go 253 = .ok (.bipush 97, 2) := by decide +kernel
theorem dX9_go_255 : decode cX9_go 255 = .ok (.if_icmp .le 8, 3) := by decide +kernel
theorem dX9_go_258 : decode cX9_go 258 = .ok (.bipush 99, 2) := by decide +kernel
theorem dX9_go_260 : decode cX9_go 260 = .ok (.goto 12, 3) := by decide +kernel
theorem dX9_go_263 : decode cX9_go 263 = .ok (.aload_n 0, 1) := by decide +kernel
theorem dX9_go_264 : decode cX9_go 264 = .ok (.getfield 72, 3) := by decide +kernel
theorem dX9_go_267 : decode cX9_go 267 = .ok (.iload 4, 2) := by decide +kernel
theorem dX9_go_269 : decode cX9_go 269 = .ok (.iaload, 1) := by decide +kernel
theorem dX9_go_270 : decode cX9_go 270 = .ok (.iconst 2, 1) := by decide +kernel
theorem dX9_go_271 : decode cX9_go 271 = .ok (.iadd, 1) := by decide +kernel
theorem dX9_go_272 : decode cX9_go 272 = .ok (.iastore, 1) := by decide +kernel
theorem dX9_go_273 : decode cX9_go 273 = .ok (.aload_n 0, 1) := by decide +kernel
theorem dX9_go_274 : decode cX9_go 274 = .ok (.getfield 81, 3) := by decide +kernel
theorem dX9_go_277 : decode cX9_go 277 = .ok (.iload 4, 2) := by decide +kernel
theorem dX9_go_279 : decode cX9_go 279 = .ok (.aload_n 0, 1) := by decide +kernel
theorem dX9_go_280 : decode cX9_go 280 = .ok (.getfield 72, 3) := by decide +kernel
theorem dX9_go_283 : decode cX9_go 283 = .ok (.iload 4, 2) := by decide +kernel
theorem dX9_go_285 : decode cX9_go 285 = .ok (.iaload, 1) := by decide +kernel
theorem dX9_go_286 : decode cX9_go 286 = .ok (.aload_n 0, 1) := by decide +kernel
theorem dX9_go_287 : decode cX9_go 287 = .ok (.getfield 13, 3) := by decide +kernel
theorem dX9_go_290 : decode cX9_go 290 = .ok (.if_icmp .lt 7, 3) := by decide +kernel
theorem dX9_go_293 : decode cX9_go 293 = .ok (.iconst 1, 1) := by decide +kernel
theorem dX9_go_294 : decode cX9_go 294 = .ok (.goto 4, 3) := by decide +kernel
theorem dX9_go_297 : decode cX9_go 297 = .ok (.iconst 0, 1) := by decide +kernel
theorem dX9_go_298 : decode cX9_go 298 = .ok (.bastore, 1) := by decide +kernel
theorem dX9_go_299 : decode cX9_go 299 = .ok (.iload_n 3, 1) := by decide +kernel
theorem dX9_go_300 : decode cX9_go 300 = .ok (.iload_n 1, 1) := by decide +kernel
theorem dX9_go_301 : decode cX9_go 301 = .ok (.iload 4, 2) := by decide +kernel
theorem dX9_go_303 : decode cX9_go 303 = .ok (.invokestatic 160, 3) := by decide +kernel
theorem dX9_go_306 : decode cX9_go 306 = .ok (.ifCond .ne 20, 3) := by decide +kernel
theorem dX9_go_309 : decode cX9_go 309 = .ok (.aload_n 0, 1) := by decide +kernel
theorem dX9_go_310 : decode cX9_go 310 = .ok (.getfield 81, 3) := by decide +kernel
theorem dX9_go_313 : decode cX9_go 313 = .ok (.iload 4, 2) := by decide +kernel
theorem dX9_go_315 : decode cX9_go 315 = .ok (.baload, 1) := by decide +kernel
theorem dX9_go_316 : decode cX9_go 316 = .ok (.ifCond .ne 10, 3) := by decide +kernel
theorem dX9_go_319 : decode cX9_go 319 = .ok (.iconst 1, 1) := by decide +kernel
theorem dX9_go_320 : decode cX9_go 320 = .ok (.iload 4, 2) := by decide +kernel
theorem dX9_go_322 : decode cX9_go 322 = .ok (.ishl, 1) := by decide +kernel
theorem dX9_go_323 : decode cX9_go 323 = .ok (.goto 4, 3) := by decide +kernel
theorem dX9_go_326 : decode cX9_go 326 = .ok (.iconst 0, 1) := by decide +kernel
theorem dX9_go_327 : decode cX9_go 327 = .ok (.ior, 1) := by decide +kernel
theorem dX9_go_328 : decode cX9_go 328 = .ok (.istore_n 3, 1) := by decide +kernel
theorem dX9_go_329 : decode cX9_go 329 = .ok (.iinc 4 1, 3) := by decide +kernel
theorem dX9_go_332 : decode cX9_go 332 = .ok (.goto (-281), 3) := by decide +kernel
theorem dX9_go_335 : decode cX9_go 335 = .ok (.iload_n 3, 1) := by decide +kernel
theorem dX9_go_336 : decode cX9_go 336 = .ok (.ireturn, 1) := by decide +kernel
theorem dX9_may_0 : decode cX9_may 0 = .ok (.aload_n 0, 1) := by decide +kernel
theorem dX9_may_1 : decode cX9_may 1 = .ok (.iconst 0, 1) := by decide +kernel
theorem dX9_may_2 : decode cX9_may 2 = .ok (.putfield 87, 3) := by decide +kernel
theorem dX9_may_5 : decode cX9_may 5 = .ok (.aload_n 0, 1) := by decide +kernel
theorem dX9_may_6 : decode cX9_may 6 = .ok (.iload_n 1, 1) := by decide +kernel
theorem dX9_may_7 : decode cX9_may 7 = .ok (.invokevirtual 167, 3) := by decide +kernel
theorem dX9_may_10 : decode cX9_may 10 = .ok (.ifCond .eq 6, 3) := by decide +kernel
theorem dX9_may_13 : decode cX9_may 13 = .ok (.bipush (-2), 2) := by decide +kernel
theorem dX9_may_15 : decode cX9_may 15 = .ok (.ireturn, 1) := by decide +kernel
theorem dX9_may_16 : decode cX9_may 16 = .ok (.aload_n 0, 1) := by decide +kernel
theorem dX9_may_17 : decode cX9_may 17 = .ok (.invokevirtual 170, 3) := by decide +kernel
theorem dX9_may_20 : decode cX9_may 20 = .ok (.aload_n 0, 1) := by decide +kernel
theorem dX9_may_21 : decode cX9_may 21 = .ok (.iload_n 1, 1) := by decide +kernel
theorem dX9_may_22 : decode cX9_may 22 = .ok (.invokevirtual 173, 3) := by decide +kernel
theorem dX9_may_25 : decode cX9_may 25 = .ok (.ifCond .eq 7, 3) := by decide +kernel
theorem dX9_may_28 : decode cX9_may 28 = .ok (.iconst 1, 1) := by decide +kernel
theorem dX9_may_29 : decode cX9_may 29 = .ok (.goto 4, 3) := by decide +kernel
theorem dX9_may_32 : decode cX9_may 32 = .ok (.iconst 0, 1) := by decide +kernel
theorem dX9_may_33 : decode cX9_may 33 = .ok (.ireturn, 1) := by decide +kernel
theorem dX9_layPage_0 : decode cX9_layPage 0 = .ok (.iconst 0, 1) := by decide +kernel
theorem dX9_layPage_1 : decode cX9_layPage 1 = .ok (.istore_n 3, 1) := by decide +kernel
theorem dX9_layPage_2 : decode cX9_layPage 2 = .ok (.iload_n 3, 1) := by decide +kernel
theorem dX9_layPage_3 : decode cX9_layPage 3 = .ok (.iconst 5, 1) := by decide +kernel
theorem dX9_layPage_4 : decode cX9_layPage 4 = .ok (.if_icmp .ge 83, 3) := by decide +kernel
theorem dX9_layPage_7 : decode cX9_layPage 7 = .ok (.aload_n 1, 1) := by decide +kernel
theorem dX9_layPage_8 : decode cX9_layPage 8 = .ok (.iload_n 2, 1) := by decide +kernel
theorem dX9_layPage_9 : decode cX9_layPage 9 = .ok (.iload_n 3, 1) := by decide +kernel
theorem dX9_layPage_10 : decode cX9_layPage 10 = .ok (.iadd, 1) := by decide +kernel
theorem dX9_layPage_11 : decode cX9_layPage 11 = .ok (.aload_n 0, 1) := by decide +kernel
theorem dX9_layPage_12 : decode cX9_layPage 12 = .ok (.getfield 17, 3) := by decide +kernel
theorem dX9_layPage_15 : decode cX9_layPage 15 = .ok (.iload_n 3, 1) := by decide +kernel
theorem dX9_layPage_16 : decode cX9_layPage 16 = .ok (.iaload, 1) := by decide +kernel
theorem dX9_layPage_17 : decode cX9_layPage 17 = .ok (.iastore, 1) := by decide +kernel
theorem dX9_layPage_18 : decode cX9_layPage 18 = .ok (.aload_n 1, 1) := by decide +kernel
theorem dX9_layPage_19 : decode cX9_layPage 19 = .ok (.iload_n 2, 1) := by decide +kernel
theorem dX9_layPage_20 : decode cX9_layPage 20 = .ok (.iconst 5, 1) := by decide +kernel
theorem dX9_layPage_21 : decode cX9_layPage 21 = .ok (.iadd, 1) := by decide +kernel
theorem dX9_layPage_22 : decode cX9_layPage 22 = .ok (.iload_n 3, 1) := by decide +kernel
theorem dX9_layPage_23 : decode cX9_layPage 23 = .ok (.iadd, 1) := by decide +kernel
theorem dX9_layPage_24 : decode cX9_layPage 24 = .ok (.aload_n 0, 1) := by decide +kernel
theorem dX9_layPage_25 : decode cX9_layPage 25 = .ok (.getfield 20, 3) := by decide +kernel
theorem dX9_layPage_28 : decode cX9_layPage 28 = .ok (.iload_n 3, 1) := by decide +kernel
theorem dX9_layPage_29 : decode cX9_layPage 29 = .ok (.iaload, 1) := by decide +kernel
theorem dX9_layPage_30 : decode cX9_layPage 30 = .ok (.iastore, 1) := by decide +kernel
theorem dX9_layPage_31 : decode cX9_layPage 31 = .ok (.aload_n 1, 1) := by decide +kernel
theorem dX9_layPage_32 : decode cX9_layPage 32 = .ok (.iload_n 2, 1) := by decide +kernel
theorem dX9_layPage_33 : decode cX9_layPage 33 = .ok (.bipush 10, 2) := by decide +kernel
theorem dX9_layPage_35 : decode cX9_layPage 35 = .ok (.iadd, 1) := by decide +kernel
theorem dX9_layPage_36 : decode cX9_layPage 36 = .ok (.iload_n 3, 1) := by decide +kernel
theorem dX9_layPage_37 : decode cX9_layPage 37 = .ok (.iadd, 1) := by decide +kernel
theorem dX9_layPage_38 : decode cX9_layPage 38 = .ok (.aload_n 0, 1) := by decide +kernel
theorem dX9_layPage_39 : decode cX9_layPage 39 = .ok (.getfield 23, 3) := by decide +kernel
theorem dX9_layPage_42 : decode cX9_layPage 42 = .ok (.iload_n 3, 1) := by decide +kernel
theorem dX9_layPage_43 : decode cX9_layPage 43 = .ok (.iaload, 1) := by decide +kernel
theorem dX9_layPage_44 : decode cX9_layPage 44 = .ok (.iastore, 1) := by decide +kernel
theorem dX9_layPage_45 : decode cX9_layPage 45 = .ok (.aload_n 1, 1) := by decide +kernel
theorem dX9_layPage_46 : decode cX9_layPage 46 = .ok (.iload_n 2, 1) := by decide +kernel
theorem dX9_layPage_47 : decode cX9_layPage 47 = .ok (.bipush 15, 2) := by decide +kernel
theorem dX9_layPage_49 : decode cX9_layPage 49 = .ok (.iadd, 1) := by decide +kernel
theorem dX9_layPage_50 : decode cX9_layPage 50 = .ok (.iload_n 3, 1) := by decide +kernel
theorem dX9_layPage_51 : decode cX9_layPage 51 = .ok (.iadd, 1) := by decide +kernel
theorem dX9_layPage_52 : decode cX9_layPage 52 = .ok (.aload_n 0, 1) := by decide +kernel
theorem dX9_layPage_53 : decode cX9_layPage 53 = .ok (.getfield 26, 3) := by decide +kernel
theorem dX9_layPage_56 : decode cX9_layPage 56 = .ok (.iload_n 3, 1) := by decide +kernel
theorem dX9_layPage_57 : decode cX9_layPage 57 = .ok (.baload, 1) := by decide +kernel
theorem dX9_layPage_58 : decode cX9_layPage 58 = .ok (.ifCond .eq 7, 3) := by decide +kernel
theorem dX9_layPage_61 : decode cX9_layPage 61 = .ok (.iconst 1, 1) := by decide +kernel
theorem dX9_layPage_62 : decode cX9_layPage 62 = .ok (.goto 4, 3) := by decide +kernel
theorem dX9_layPage_65 : decode cX9_layPage 65 = .ok (.iconst 0, 1) := by decide +kernel
theorem dX9_layPage_66 : decode cX9_layPage 66 = .ok (.iastore, 1) := by decide +kernel
theorem dX9_layPage_67 : decode cX9_layPage 67 = .ok (.aload_n 1, 1) := by decide +kernel
theorem dX9_layPage_68 : decode cX9_layPage 68 = .ok (.iload_n 2, 1) := by decide +kernel
theorem dX9_layPage_69 : decode cX9_layPage 69 = .ok (.bipush 20, 2) := by decide +kernel
theorem dX9_layPage_71 : decode cX9_layPage 71 = .ok (.iadd, 1) := by decide +kernel
theorem dX9_layPage_72 : decode cX9_layPage 72 = .ok (.iload_n 3, 1) := by decide +kernel
theorem dX9_layPage_73 : decode cX9_layPage 73 = .ok (.iadd, 1) := by decide +kernel
theorem dX9_layPage_74 : decode cX9_layPage 74 = .ok (.aload_n 0, 1) := by decide +kernel
theorem dX9_layPage_75 : decode cX9_layPage 75 = .ok (.getfield 36, 3) := by decide +kernel
theorem dX9_layPage_78 : decode cX9_layPage 78 = .ok (.iload_n 3, 1) := by decide +kernel
theorem dX9_layPage_79 : decode cX9_layPage 79 = .ok (.iaload, 1) := by decide +kernel
theorem dX9_layPage_80 : decode cX9_layPage 80 = .ok (.iastore, 1) := by decide +kernel
theorem dX9_layPage_81 : decode cX9_layPage 81 = .ok (.iinc 3 1, 3) := by decide +kernel
theorem dX9_layPage_84 : decode cX9_layPage 84 = .ok (.goto (-82), 3) := by decide +kernel
theorem dX9_layPage_87 : decode cX9_layPage 87 = .ok (.aload_n 1, 1) := by decide +kernel
theorem dX9_layPage_88 : decode cX9_layPage 88 = .ok (.iload_n 2, 1) := by decide +kernel
theorem dX9_layPage_89 : decode cX9_layPage 89 = .ok (.bipush 25, 2) := by decide +kernel
theorem dX9_layPage_91 : decode cX9_layPage 91 = .ok (.iadd, 1) := by decide +kernel
theorem dX9_layPage_92 : decode cX9_layPage 92 = .ok (.aload_n 0, 1) := by decide +kernel
theorem dX9_layPage_93 : decode cX9_layPage 93 = .ok (.getfield 142, 3) := by decide +kernel
theorem dX9_layPage_96 : decode cX9_layPage 96 = .ok (.iastore, 1) := by decide +kernel
theorem dX9_layPage_97 : decode cX9_layPage 97 = .ok (.aload_n 1, 1) := by decide +kernel
theorem dX9_layPage_98 : decode cX9_layPage 98 = .ok (.iload_n 2, 1) := by decide +kernel
theorem dX9_layPage_99 : decode cX9_layPage 99 = .ok (.bipush 26, 2) := by decide +kernel
theorem dX9_layPage_101 : decode cX9_layPage 101 = .ok (.iadd, 1) := by decide +kernel
theorem dX9_layPage_102 : decode cX9_layPage 102 = .ok (.aload_n 0, 1) := by decide +kernel
theorem dX9_layPage_103 : decode cX9_layPage 103 = .ok (.getfield 145, 3) := by decide +kernel
theorem dX9_layPage_106 : decode cX9_layPage 106 = .ok (.iastore, 1) := by decide +kernel
theorem dX9_layPage_107 : decode cX9_layPage 107 = .ok (.return_, 1) := by decide +kernel
theorem dX9_takePage_0 : decode cX9_takePage 0 = .ok (.iconst 0, 1) := by decide +kernel
theorem dX9_takePage_1 : decode cX9_takePage 1 = .ok (.istore_n 3, 1) := by decide +kernel
theorem dX9_takePage_2 : decode cX9_takePage 2 = .ok (.iload_n 3, 1) := by decide +kernel
theorem dX9_takePage_3 : decode cX9_takePage 3 = .ok (.iconst 5, 1) := by decide +kernel
theorem dX9_takePage_4 : decode cX9_takePage 4 = .ok (.if_icmp .ge 84, 3) := by decide +kernel
theorem dX9_takePage_7 : decode cX9_takePage 7 = .ok (.aload_n 0, 1) := by decide +kernel
theorem dX9_takePage_8 : decode cX9_takePage 8 = .ok (.getfield 17, 3) := by decide +kernel
theorem dX9_takePage_11 : decode cX9_takePage 11 = .ok (.iload_n 3, 1) := by decide +kernel
theorem dX9_takePage_12 : decode cX9_takePage 12 = .ok (.aload_n 1, 1) := by decide +kernel
theorem dX9_takePage_13 : decode cX9_takePage 13 = .ok (.iload_n 2, 1) := by decide +kernel
theorem dX9_takePage_14 : decode cX9_takePage 14 = .ok (.iload_n 3, 1) := by decide +kernel
theorem dX9_takePage_15 : decode cX9_takePage 15 = .ok (.iadd, 1) := by decide +kernel
theorem dX9_takePage_16 : decode cX9_takePage 16 = .ok (.iaload, 1) := by decide +kernel
theorem dX9_takePage_17 : decode cX9_takePage 17 = .ok (.iastore, 1) := by decide +kernel
theorem dX9_takePage_18 : decode cX9_takePage 18 = .ok (.aload_n 0, 1) := by decide +kernel
theorem dX9_takePage_19 : decode cX9_takePage 19 = .ok (.getfield 20, 3) := by decide +kernel
theorem dX9_takePage_22 : decode cX9_takePage 22 = .ok (.iload_n 3, 1) := by decide +kernel
theorem dX9_takePage_23 : decode cX9_takePage 23 = .ok (.aload_n 1, 1) := by decide +kernel
theorem dX9_takePage_24 : decode cX9_takePage 24 = .ok (.iload_n 2, 1) := by decide +kernel
theorem dX9_takePage_25 : decode cX9_takePage 25 = .ok (.iconst 5, 1) := by decide +kernel
theorem dX9_takePage_26 : decode cX9_takePage 26 = .ok (.iadd, 1) := by decide +kernel
theorem dX9_takePage_27 : decode cX9_takePage 27 = .ok (.iload_n 3, 1) := by decide +kernel
theorem dX9_takePage_28 : decode cX9_takePage 28 = .ok (.iadd, 1) := by decide +kernel
theorem dX9_takePage_29 : decode cX9_takePage 29 = .ok (.iaload, 1) := by decide +kernel
theorem dX9_takePage_30 : decode cX9_takePage 30 = .ok (.iastore, 1) := by decide +kernel
theorem dX9_takePage_31 : decode cX9_takePage 31 = .ok (.aload_n 0, 1) := by decide +kernel
theorem dX9_takePage_32 : decode cX9_takePage 32 = .ok (.getfield 23, 3) := by decide +kernel
theorem dX9_takePage_35 : decode cX9_takePage 35 = .ok (.iload_n 3, 1) := by decide +kernel
theorem dX9_takePage_36 : decode cX9_takePage 36 = .ok (.aload_n 1, 1) := by decide +kernel
theorem dX9_takePage_37 : decode cX9_takePage 37 = .ok (.iload_n 2, 1) := by decide +kernel
theorem dX9_takePage_38 : decode cX9_takePage 38 = .ok (.bipush 10, 2) := by decide +kernel
theorem dX9_takePage_40 : decode cX9_takePage 40 = .ok (.iadd, 1) := by decide +kernel
theorem dX9_takePage_41 : decode cX9_takePage 41 = .ok (.iload_n 3, 1) := by decide +kernel
theorem dX9_takePage_42 : decode cX9_takePage 42 = .ok (.iadd, 1) := by decide +kernel
theorem dX9_takePage_43 : decode cX9_takePage 43 = .ok (.iaload, 1) := by decide +kernel
theorem dX9_takePage_44 : decode cX9_takePage 44 = .ok (.iastore, 1) := by decide +kernel
theorem dX9_takePage_45 : decode cX9_takePage 45 = .ok (.aload_n 0, 1) := by decide +kernel
theorem dX9_takePage_46 : decode cX9_takePage 46 = .ok (.getfield 26, 3) := by decide +kernel
theorem dX9_takePage_49 : decode cX9_takePage 49 = .ok (.iload_n 3, 1) := by decide +kernel
theorem dX9_takePage_50 : decode cX9_takePage 50 = .ok (.aload_n 1, 1) := by decide +kernel
theorem dX9_takePage_51 : decode cX9_takePage 51 = .ok (.iload_n 2, 1) := by decide +kernel
theorem dX9_takePage_52 : decode cX9_takePage 52 = .ok (.bipush 15, 2) := by decide +kernel
theorem dX9_takePage_54 : decode cX9_takePage 54 = .ok (.iadd, 1) := by decide +kernel
theorem dX9_takePage_55 : decode cX9_takePage 55 = .ok (.iload_n 3, 1) := by decide +kernel
theorem dX9_takePage_56 : decode cX9_takePage 56 = .ok (.iadd, 1) := by decide +kernel
theorem dX9_takePage_57 : decode cX9_takePage 57 = .ok (.iaload, 1) := by decide +kernel
theorem dX9_takePage_58 : decode cX9_takePage 58 = .ok (.iconst 1, 1) := by decide +kernel
theorem dX9_takePage_59 : decode cX9_takePage 59 = .ok (.if_icmp .ne 7, 3) := by decide +kernel
theorem dX9_takePage_62 : decode cX9_takePage 62 = .ok (.iconst 1, 1) := by decide +kernel
theorem dX9_takePage_63 : decode cX9_takePage 63 = .ok (.goto 4, 3) := by decide +kernel
theorem dX9_takePage_66 : decode cX9_takePage 66 = .ok (.iconst 0, 1) := by decide +kernel
theorem dX9_takePage_67 : decode cX9_takePage 67 = .ok (.bastore, 1) := by decide +kernel
theorem dX9_takePage_68 : decode cX9_takePage 68 = .ok (.aload_n 0, 1) := by decide +kernel
theorem dX9_takePage_69 : decode cX9_takePage 69 = .ok (.getfield 36, 3) := by decide +kernel
theorem dX9_takePage_72 : decode cX9_takePage 72 = .ok (.iload_n 3, 1) := by decide +kernel
theorem dX9_takePage_73 : decode cX9_takePage 73 = .ok (.aload_n 1, 1) := by decide +kernel
theorem dX9_takePage_74 : decode cX9_takePage 74 = .ok (.iload_n 2, 1) := by decide +kernel
theorem dX9_takePage_75 : decode cX9_takePage 75 = .ok (.bipush 20, 2) := by decide +kernel
theorem dX9_takePage_77 : decode cX9_takePage 77 = .ok (.iadd, 1) := by decide +kernel
theorem dX9_takePage_78 : decode cX9_takePage 78 = .ok (.iload_n 3, 1) := by decide +kernel
theorem dX9_takePage_79 : decode cX9_takePage 79 = .ok (.iadd, 1) := by decide +kernel
theorem dX9_takePage_80 : decode cX9_takePage 80 = .ok (.iaload, 1) := by decide +kernel
theorem dX9_takePage_81 : decode cX9_takePage 81 = .ok (.iastore, 1) := by decide +kernel
theorem dX9_takePage_82 : decode cX9_takePage 82 = .ok (.iinc 3 1, 3) := by decide +kernel
theorem dX9_takePage_85 : decode cX9_takePage 85 = .ok (.goto (-83), 3) := by decide +kernel
theorem dX9_takePage_88 : decode cX9_takePage 88 = .ok (.aload_n 0, 1) := by decide +kernel
theorem dX9_takePage_89 : decode cX9_takePage 89 = .ok (.aload_n 1, 1) := by decide +kernel
theorem dX9_takePage_90 : decode cX9_takePage 90 = .ok (.iload_n 2, 1) := by decide +kernel
theorem dX9_takePage_91 : decode cX9_takePage 91 = .ok (.bipush 25, 2) := by decide +kernel
theorem dX9_takePage_93 : decode cX9_takePage 93 = .ok (.iadd, 1) := by decide +kernel
theorem dX9_takePage_94 : decode cX9_takePage 94 = .ok (.iaload, 1) := by decide +kernel
theorem dX9_takePage_95 : decode cX9_takePage 95 = .ok (.putfield 142, 3) := by decide +kernel
theorem dX9_takePage_98 : decode cX9_takePage 98 = .ok (.aload_n 0, 1) := by decide +kernel
theorem dX9_takePage_99 : decode cX9_takePage 99 = .ok (.aload_n 1, 1) := by decide +kernel
theorem dX9_takePage_100 : decode cX9_takePage 100 = .ok (.iload_n 2, 1) := by decide +kernel
theorem dX9_takePage_101 : decode cX9_takePage 101 = .ok (.bipush 26, 2) := by decide +kernel
theorem dX9_takePage_103 : decode cX9_takePage 103 = .ok (.iadd, 1) := by decide +kernel
theorem dX9_takePage_104 : decode cX9_takePage 104 = .ok (.iaload, 1) := by decide +kernel
theorem dX9_takePage_105 : decode cX9_takePage 105 = .ok (.putfield 145, 3) := by decide +kernel
theorem dX9_takePage_108 : decode cX9_takePage 108 = .ok (.return_, 1) := by decide +kernel
theorem dX9_note_0 : decode cX9_note 0 = .ok (.aload_n 0, 1) := by decide +kernel
theorem dX9_note_1 : decode cX9_note 1 = .ok (.getfield 148, 3) := by decide +kernel
theorem dX9_note_4 : decode cX9_note 4 = .ok (.bipush 12, 2) := by decide +kernel
theorem dX9_note_6 : decode cX9_note 6 = .ok (.if_icmp .ne 43, 3) := by decide +kernel
theorem dX9_note_9 : decode cX9_note 9 = .ok (.iconst 0, 1) := by decide +kernel
theorem dX9_note_10 : decode cX9_note 10 = .ok (.istore_n 1, 1) := by decide +kernel
theorem dX9_note_11 : decode cX9_note 11 = .ok (.iload_n 1, 1) := by decide +kernel
theorem dX9_note_12 : decode cX9_note 12 = .ok (.sipush 297, 3) := by decide +kernel
theorem dX9_note_15 : decode cX9_note 15 = .ok (.if_icmp .ge 24, 3) := by decide +kernel
theorem dX9_note_18 : decode cX9_note 18 = .ok (.aload_n 0, 1) := by decide +kernel
theorem dX9_note_19 : decode cX9_note 19 = .ok (.getfield 54, 3) := by decide +kernel
theorem dX9_note_22 : decode cX9_note 22 = .ok (.iload_n 1, 1) := by decide +kernel
theorem dX9_note_23 : decode cX9_note 23 = .ok (.aload_n 0, 1) := by decide +kernel
theorem dX9_note_24 : decode cX9_note 24 = .ok (.getfield 54, 3) := by decide +kernel
theorem dX9_note_27 : decode cX9_note 27 = .ok (.iload_n 1, 1) := by decide +kernel
theorem dX9_note_28 : decode cX9_note 28 = .ok (.bipush 27, 2) := by decide +kernel
theorem dX9_note_30 : decode cX9_note 30 = .ok (.iadd, 1) := by decide +kernel
theorem dX9_note_31 : decode cX9_note 31 = .ok (.iaload, 1) := by decide +kernel
theorem dX9_note_32 : decode cX9_note 32 = .ok (.iastore, 1) := by decide +kernel
theorem dX9_note_33 : decode cX9_note 33 = .ok (.iinc 1 1, 3) := by decide +kernel
theorem dX9_note_36 : decode cX9_note 36 = .ok (.goto (-25), 3) := by decide +kernel
theorem dX9_note_39 : decode cX9_note 39 = .ok (.aload_n 0, 1) := by decide +kernel
theorem dX9_note_40 : decode cX9_note 40 = .ok (.dup, 1) := by decide +kernel
theorem dX9_note_41 : decode cX9_note 41 = .ok (.getfield 148, 3) := by decide +kernel
theorem dX9_note_44 : decode cX9_note 44 = .ok (.iconst 1, 1) := by decide +kernel
theorem dX9_note_45 : decode cX9_note 45 = .ok (.isub, 1) := by decide +kernel
theorem dX9_note_46 : decode cX9_note 46 = .ok (.putfield 148, 3) := by decide +kernel
theorem dX9_note_49 : decode cX9_note 49 = .ok (.aload_n 0, 1) := by decide +kernel
theorem dX9_note_50 : decode cX9_note 50 = .ok (.aload_n 0, 1) := by decide +kernel
theorem dX9_note_51 : decode cX9_note 51 = .ok (.getfield 54, 3) := by decide +kernel
theorem dX9_note_54 : decode cX9_note 54 = .ok (.bipush 27, 2) := by decide +kernel
theorem dX9_note_56 : decode cX9_note 56 = .ok (.aload_n 0, 1) := by decide +kernel
theorem dX9_note_57 : decode cX9_note 57 = .ok (.getfield 148, 3) := by decide +kernel
theorem dX9_note_60 : decode cX9_note 60 = .ok (.imul, 1) := by decide +kernel
theorem dX9_note_61 : decode cX9_note 61 = .ok (.invokevirtual 176, 3) := by decide +kernel
theorem dX9_note_64 : decode cX9_note 64 = .ok (.aload_n 0, 1) := by decide +kernel
theorem dX9_note_65 : decode cX9_note 65 = .ok (.dup, 1) := by decide +kernel
theorem dX9_note_66 : decode cX9_note 66 = .ok (.getfield 148, 3) := by decide +kernel
theorem dX9_note_69 : decode cX9_note 69 = .ok (.iconst 1, 1) := by decide +kernel
theorem dX9_note_70 : decode cX9_note 70 = .ok (.iadd, 1) := by decide +kernel
theorem dX9_note_71 : decode cX9_note 71 = .ok (.putfield 148, 3) := by decide +kernel
theorem dX9_note_74 : decode cX9_note 74 = .ok (.return_, 1) := by decide +kernel
theorem dX9_quarter_0 : decode cX9_quarter 0 = .ok (.aload_n 0, 1) := by decide +kernel
theorem dX9_quarter_1 : decode cX9_quarter 1 = .ok (.iconst 0, 1) := by decide +kernel
theorem dX9_quarter_2 : decode cX9_quarter 2 = .ok (.putfield 87, 3) := by decide +kernel
theorem dX9_quarter_5 : decode cX9_quarter 5 = .ok (.aload_n 0, 1) := by decide +kernel
theorem dX9_quarter_6 : decode cX9_quarter 6 = .ok (.iload_n 1, 1) := by decide +kernel
theorem dX9_quarter_7 : decode cX9_quarter 7 = .ok (.invokevirtual 167, 3) := by decide +kernel
theorem dX9_quarter_10 : decode cX9_quarter 10 = .ok (.ifCond .eq 6, 3) := by decide +kernel
theorem dX9_quarter_13 : decode cX9_quarter 13 = .ok (.bipush (-2), 2) := by decide +kernel
theorem dX9_quarter_15 : decode cX9_quarter 15 = .ok (.ireturn, 1) := by decide +kernel
theorem dX9_quarter_16 : decode cX9_quarter 16 = .ok (.aload_n 0, 1) := by decide +kernel
theorem dX9_quarter_17 : decode cX9_quarter 17 = .ok (.invokevirtual 170, 3) := by decide +kernel
theorem dX9_quarter_20 : decode cX9_quarter 20 = .ok (.aload_n 0, 1) := by decide +kernel
theorem dX9_quarter_21 : decode cX9_quarter 21 = .ok (.iload_n 1, 1) := by decide +kernel
theorem dX9_quarter_22 : decode cX9_quarter 22 = .ok (.invokevirtual 173, 3) := by decide +kernel
theorem dX9_quarter_25 : decode cX9_quarter 25 = .ok (.ifCond .ne 6, 3) := by decide +kernel
theorem dX9_quarter_28 : decode cX9_quarter 28 = .ok (.bipush (-3), 2) := by decide +kernel
theorem dX9_quarter_30 : decode cX9_quarter 30 = .ok (.ireturn, 1) := by decide +kernel
theorem dX9_quarter_31 : decode cX9_quarter 31 = .ok (.aload_n 0, 1) := by decide +kernel
theorem dX9_quarter_32 : decode cX9_quarter 32 = .ok (.invokevirtual 180, 3) := by decide +kernel
theorem dX9_quarter_35 : decode cX9_quarter 35 = .ok (.aload_n 0, 1) := by decide +kernel
theorem dX9_quarter_36 : decode cX9_quarter 36 = .ok (.iload_n 1, 1) := by decide +kernel
theorem dX9_quarter_37 : decode cX9_quarter 37 = .ok (.invokevirtual 183, 3) := by decide +kernel
theorem dX9_quarter_40 : decode cX9_quarter 40 = .ok (.istore_n 2, 1) := by decide +kernel
theorem dX9_quarter_41 : decode cX9_quarter 41 = .ok (.iconst 0, 1) := by decide +kernel
theorem dX9_quarter_42 : decode cX9_quarter 42 = .ok (.istore_n 3, 1) := by decide +kernel
theorem dX9_quarter_43 : decode cX9_quarter 43 = .ok (.iload_n 3, 1) := by decide +kernel
theorem dX9_quarter_44 : decode cX9_quarter 44 = .ok (.aload_n 0, 1) := by decide +kernel
theorem dX9_quarter_45 : decode cX9_quarter 45 = .ok (.getfield 90, 3) := by decide +kernel
theorem dX9_quarter_48 : decode cX9_quarter 48 = .ok (.if_icmp .ge 79, 3) := by decide +kernel
theorem dX9_quarter_51 : decode cX9_quarter 51 = .ok (.aload_n 0, 1) := by decide +kernel
theorem dX9_quarter_52 : decode cX9_quarter 52 = .ok (.getfield 17, 3) := by decide +kernel
theorem dX9_quarter_55 : decode cX9_quarter 55 = .ok (.iload_n 3, 1) := by decide +kernel
theorem dX9_quarter_56 : decode cX9_quarter 56 = .ok (.aload_n 0, 1) := by decide +kernel
theorem dX9_quarter_57 : decode cX9_quarter 57 = .ok (.getfield 72, 3) := by decide +kernel
theorem dX9_quarter_60 : decode cX9_quarter 60 = .ok (.iload_n 3, 1) := by decide +kernel
theorem dX9_quarter_61 : decode cX9_quarter 61 = .ok (.iaload, 1) := by decide +kernel
theorem dX9_quarter_62 : decode cX9_quarter 62 = .ok (.iastore, 1) := by decide +kernel
theorem dX9_quarter_63 : decode cX9_quarter 63 = .ok (.aload_n 0, 1) := by decide +kernel
theorem dX9_quarter_64 : decode cX9_quarter 64 = .ok (.getfield 20, 3) := by decide +kernel
theorem dX9_quarter_67 : decode cX9_quarter 67 = .ok (.iload_n 3, 1) := by decide +kernel
theorem dX9_quarter_68 : decode cX9_quarter 68 = .ok (.aload_n 0, 1) := by decide +kernel
theorem dX9_quarter_69 : decode cX9_quarter 69 = .ok (.getfield 75, 3) := by decide +kernel
theorem dX9_quarter_72 : decode cX9_quarter 72 = .ok (.iload_n 3, 1) := by decide +kernel
theorem dX9_quarter_73 : decode cX9_quarter 73 = .ok (.iaload, 1) := by decide +kernel
theorem dX9_quarter_74 : decode cX9_quarter 74 = .ok (.iastore, 1) := by decide +kernel
theorem dX9_quarter_75 : decode cX9_quarter 75 = .ok (.aload_n 0, 1) := by decide +kernel
theorem dX9_quarter_76 : decode cX9_quarter 76 = .ok (.getfield 23, 3) := by decide +kernel
theorem dX9_quarter_79 : decode cX9_quarter 79 = .ok (.iload_n 3, 1) := by decide +kernel
theorem dX9_quarter_80 : decode cX9_quarter 80 = .ok (.aload_n 0, 1) := by decide +kernel
theorem dX9_quarter_81 : decode cX9_quarter 81 = .ok (.getfield 78, 3) := by decide +kernel
theorem dX9_quarter_84 : decode cX9_quarter 84 = .ok (.iload_n 3, 1) := by decide +kernel
theorem dX9_quarter_85 : decode cX9_quarter 85 = .ok (.iaload, 1) := by decide +kernel
theorem dX9_quarter_86 : decode cX9_quarter 86 = .ok (.iastore, 1) := by decide +kernel
theorem dX9_quarter_87 : decode cX9_quarter 87 = .ok (.aload_n 0, 1) := by decide +kernel
theorem dX9_quarter_88 : decode cX9_quarter 88 = .ok (.getfield 26, 3) := by decide +kernel
theorem dX9_quarter_91 : decode cX9_quarter 91 = .ok (.iload_n 3, 1) := by decide +kernel
theorem dX9_quarter_92 : decode cX9_quarter 92 = .ok (.aload_n 0, 1) := by decide +kernel
theorem dX9_quarter_93 : decode cX9_quarter 93 = .ok (.getfield 81, 3) := by decide +kernel
theorem dX9_quarter_96 : decode cX9_quarter 96 = .ok (.iload_n 3, 1) := by decide +kernel
theorem dX9_quarter_97 : decode cX9_quarter 97 = .ok (.baload, 1) := by decide +kernel
theorem dX9_quarter_98 : decode cX9_quarter 98 = .ok (.bastore, 1) := by decide +kernel
theorem dX9_quarter_99 : decode cX9_quarter 99 = .ok (.aload_n 0, 1) := by decide +kernel
theorem dX9_quarter_100 : decode cX9_quarter 100 = .ok (.getfield 36, 3) := by decide +kernel
theorem dX9_quarter_103 : decode cX9_quarter 103 = .ok (.iload_n 3, 1) := by decide +kernel
theorem dX9_quarter_104 : decode cX9_quarter 104 = .ok (.dup2, 1) := by decide +kernel
theorem dX9_quarter_105 : decode cX9_quarter 105 = .ok (.iaload, 1) := by decide +kernel
theorem dX9_quarter_106 : decode cX9_quarter 106 = .ok (.iload_n 1, 1) := by decide +kernel
theorem dX9_quarter_107 : decode cX9_quarter 107 = .ok (.iload_n 3, 1) := by decide +kernel
theorem dX9_quarter_108 : decode cX9_quarter 108 = .ok (.invokestatic 160, 3) := by decide +kernel
theorem dX9_quarter_111 : decode cX9_quarter 111 = .ok (.ifCond .eq 7, 3) := by decide +kernel
theorem dX9_quarter_114 : decode cX9_quarter 114 = .ok (.iconst 1, 1) := by decide +kernel
theorem dX9_quarter_115 : decode cX9_quarter 115 = .ok (.goto 4, 3) := by decide +kernel
theorem dX9_quarter_118 : decode cX9_quarter 118 = .ok (.iconst 0, 1) := by decide +kernel
theorem dX9_quarter_119 : decode cX9_quarter 119 = .ok (.iadd, 1) := by decide +kernel
theorem dX9_quarter_120 : decode cX9_quarter 120 = .ok (.iastore, 1) := by decide +kernel
theorem dX9_quarter_121 : decode cX9_quarter 121 = .ok (.iinc 3 1, 3) := by decide +kernel
theorem dX9_quarter_124 : decode cX9_quarter 124 = .ok (.goto (-81), 3) := by decide +kernel
theorem dX9_quarter_127 : decode cX9_quarter 127 = .ok (.aload_n 0, 1) := by decide +kernel
theorem dX9_quarter_128 : decode cX9_quarter 128 = .ok (.dup, 1) := by decide +kernel
theorem dX9_quarter_129 : decode cX9_quarter 129 = .ok (.getfield 142, 3) := by decide +kernel
theorem dX9_quarter_132 : decode cX9_quarter 132 = .ok (.iconst 1, 1) := by decide +kernel
theorem dX9_quarter_133 : decode cX9_quarter 133 = .ok (.iadd, 1) := by decide +kernel
theorem dX9_quarter_134 : decode cX9_quarter 134 = .ok (.putfield 142, 3) := by decide +kernel
theorem dX9_quarter_137 : decode cX9_quarter 137 = .ok (.aload_n 0, 1) := by decide +kernel
theorem dX9_quarter_138 : decode cX9_quarter 138 = .ok (.dup, 1) := by decide +kernel
theorem dX9_quarter_139 : decode cX9_quarter 139 = .ok (.getfield 145, 3) := by decide +kernel
theorem dX9_quarter_142 : decode cX9_quarter 142 = .ok (.iload_n 2, 1) := by decide +kernel
theorem dX9_quarter_143 : decode cX9_quarter 143 = .ok (.ifCond .ne 7, 3) := by decide +kernel
theorem dX9_quarter_146 : decode cX9_quarter 146 = .ok (.iconst 1, 1) := by decide +kernel
theorem dX9_quarter_147 : decode cX9_quarter 147 = .ok (.goto 4, 3) := by decide +kernel
theorem dX9_quarter_150 : decode cX9_quarter 150 = .ok (.iconst 0, 1) := by decide +kernel
theorem dX9_quarter_151 : decode cX9_quarter 151 = .ok (.iadd, 1) := by decide +kernel
theorem dX9_quarter_152 : decode cX9_quarter 152 = .ok (.putfield 145, 3) := by decide +kernel
theorem dX9_quarter_155 : decode cX9_quarter 155 = .ok (.iload_n 2, 1) := by decide +kernel
theorem dX9_quarter_156 : decode cX9_quarter 156 = .ok (.ireturn, 1) := by decide +kernel
theorem dX9_drum_0 : decode cX9_drum 0 = .ok (.aload_n 0, 1) := by decide +kernel
theorem dX9_drum_1 : decode cX9_drum 1 = .ok (.iconst 0, 1) := by decide +kernel
theorem dX9_drum_2 : decode cX9_drum 2 = .ok (.putfield 87, 3) := by decide +kernel
theorem dX9_drum_5 : decode cX9_drum 5 = .ok (.aload_n 0, 1) := by decide +kernel
theorem dX9_drum_6 : decode cX9_drum 6 = .ok (.invokevirtual 180, 3) := by decide +kernel
theorem dX9_drum_9 : decode cX9_drum 9 = .ok (.iconst 0, 1) := by decide +kernel
theorem dX9_drum_10 : decode cX9_drum 10 = .ok (.istore_n 1, 1) := by decide +kernel
theorem dX9_drum_11 : decode cX9_drum 11 = .ok (.iconst 0, 1) := by decide +kernel
theorem dX9_drum_12 : decode cX9_drum 12 = .ok (.istore_n 2, 1) := by decide +kernel
theorem dX9_drum_13 : decode cX9_drum 13 = .ok (.iload_n 2, 1) := by decide +kernel
theorem dX9_drum_14 : decode cX9_drum 14 = .ok (.aload_n 0, 1) := by decide +kernel
theorem dX9_drum_15 : decode cX9_drum 15 = .ok (.getfield 90, 3) := by decide +kernel
theorem dX9_drum_18 : decode cX9_drum 18 = .ok (.if_icmp .ge 58, 3) := by decide +kernel
theorem dX9_drum_21 : decode cX9_drum 21 = .ok (.aload_n 0, 1) := by decide +kernel
theorem dX9_drum_22 : decode cX9_drum 22 = .ok (.getfield 26, 3) := by decide +kernel
theorem dX9_drum_25 : decode cX9_drum 25 = .ok (.iload_n 2, 1) := by decide +kernel
theorem dX9_drum_26 : decode cX9_drum 26 = .ok (.baload, 1) := by decide +kernel
theorem dX9_drum_27 : decode cX9_drum 27 = .ok (.ifCond .eq 43, 3) := by decide +kernel
theorem dX9_drum_30 : decode cX9_drum 30 = .ok (.iinc 1 1, 3) := by decide +kernel
theorem dX9_drum_33 : decode cX9_drum 33 = .ok (.aload_n 0, 1) := by decide +kernel
theorem dX9_drum_34 : decode cX9_drum 34 = .ok (.getfield 26, 3) := by decide +kernel
theorem dX9_drum_37 : decode cX9_drum 37 = .ok (.iload_n 2, 1) := by decide +kernel
theorem dX9_drum_38 : decode cX9_drum 38 = .ok (.iconst 0, 1) := by decide +kernel
theorem dX9_drum_39 : decode cX9_drum 39 = .ok (.bastore, 1) := by decide +kernel
theorem dX9_drum_40 : decode cX9_drum 40 = .ok (.aload_n 0, 1) := by decide +kernel
theorem dX9_drum_41 : decode cX9_drum 41 = .ok (.getfield 17, 3) := by decide +kernel
theorem dX9_drum_44 : decode cX9_drum 44 = .ok (.iload_n 2, 1) := by decide +kernel
theorem dX9_drum_45 : decode cX9_drum 45 = .ok (.aload_n 0, 1) := by decide +kernel
theorem dX9_drum_46 : decode cX9_drum 46 = .ok (.getfield 17, 3) := by decide +kernel
theorem dX9_drum_49 : decode cX9_drum 49 = .ok (.iload_n 2, 1) := by decide +kernel
theorem dX9_drum_50 : decode cX9_drum 50 = .ok (.iaload, 1) := by decide +kernel
theorem dX9_drum_51 : decode cX9_drum 51 = .ok (.bipush 96, 2) := by decide +kernel
theorem dX9_drum_53 : decode cX9_drum 53 = .ok (.if_icmp .le 8, 3) := by decide +kernel
theorem dX9_drum_56 : decode cX9_drum 56 = .ok (.bipush 99, 2) := by decide +kernel
theorem dX9_drum_58 : decode cX9_drum 58 = .ok (.goto 11, 3) := by decide +kernel
theorem dX9_drum_61 : decode cX9_drum 61 = .ok (.aload_n 0, 1) := by decide +kernel
theorem dX9_drum_62 : decode cX9_drum 62 = .ok (.getfield 17, 3) := by decide +kernel
theorem dX9_drum_65 : decode cX9_drum 65 = .ok (.iload_n 2, 1) := by decide +kernel
theorem dX9_drum_66 : decode cX9_drum 66 = .ok (.iaload, 1) := by decide +kernel
theorem dX9_drum_67 : decode cX9_drum 67 = .ok (.iconst 3, 1) := by decide +kernel
theorem dX9_drum_68 : decode cX9_drum 68 = .ok (.iadd, 1) := by decide +kernel
theorem dX9_drum_69 : decode cX9_drum 69 = .ok (.iastore, 1) := by decide +kernel
theorem dX9_drum_70 : decode cX9_drum 70 = .ok (.iinc 2 1, 3) := by decide +kernel
theorem dX9_drum_73 : decode cX9_drum 73 = .ok (.goto (-60), 3) := by decide +kernel
theorem dX9_drum_76 : decode cX9_drum 76 = .ok (.iload_n 1, 1) := by decide +kernel
theorem dX9_drum_77 : decode cX9_drum 77 = .ok (.ireturn, 1) := by decide +kernel
theorem dX9_undo_0 : decode cX9_undo 0 = .ok (.aload_n 0, 1) := by decide +kernel
theorem dX9_undo_1 : decode cX9_undo 1 = .ok (.iconst 0, 1) := by decide +kernel
theorem dX9_undo_2 : decode cX9_undo 2 = .ok (.putfield 87, 3) := by decide +kernel
theorem dX9_undo_5 : decode cX9_undo 5 = .ok (.aload_n 0, 1) := by decide +kernel
theorem dX9_undo_6 : decode cX9_undo 6 = .ok (.getfield 148, 3) := by decide +kernel
theorem dX9_undo_9 : decode cX9_undo 9 = .ok (.ifCond .ne 6, 3) := by decide +kernel
theorem dX9_undo_12 : decode cX9_undo 12 = .ok (.bipush (-3), 2) := by decide +kernel
theorem dX9_undo_14 : decode cX9_undo 14 = .ok (.ireturn, 1) := by decide +kernel
theorem dX9_undo_15 : decode cX9_undo 15 = .ok (.aload_n 0, 1) := by decide +kernel
theorem dX9_undo_16 : decode cX9_undo 16 = .ok (.dup, 1) := by decide +kernel
theorem dX9_undo_17 : decode cX9_undo 17 = .ok (.getfield 148, 3) := by decide +kernel
theorem dX9_undo_20 : decode cX9_undo 20 = .ok (.iconst 1, 1) := by decide +kernel
theorem dX9_undo_21 : decode cX9_undo 21 = .ok (.isub, 1) := by decide +kernel
theorem dX9_undo_22 : decode cX9_undo 22 = .ok (.putfield 148, 3) := by decide +kernel
theorem dX9_undo_25 : decode cX9_undo 25 = .ok (.aload_n 0, 1) := by decide +kernel
theorem dX9_undo_26 : decode cX9_undo 26 = .ok (.aload_n 0, 1) := by decide +kernel
theorem dX9_undo_27 : decode cX9_undo 27 = .ok (.getfield 54, 3) := by decide +kernel
theorem dX9_undo_30 : decode cX9_undo 30 = .ok (.bipush 27, 2) := by decide +kernel
theorem dX9_undo_32 : decode cX9_undo 32 = .ok (.aload_n 0, 1) := by decide +kernel
theorem dX9_undo_33 : decode cX9_undo 33 = .ok (.getfield 148, 3) := by decide +kernel
theorem dX9_undo_36 : decode cX9_undo 36 = .ok (.imul, 1) := by decide +kernel
theorem dX9_undo_37 : decode cX9_undo 37 = .ok (.invokevirtual 186, 3) := by decide +kernel
theorem dX9_undo_40 : decode cX9_undo 40 = .ok (.aload_n 0, 1) := by decide +kernel
theorem dX9_undo_41 : decode cX9_undo 41 = .ok (.getfield 148, 3) := by decide +kernel
theorem dX9_undo_44 : decode cX9_undo 44 = .ok (.ireturn, 1) := by decide +kernel
theorem dX9_allTired_0 : decode cX9_allTired 0 = .ok (.iconst 0, 1) := by decide +kernel
theorem dX9_allTired_1 : decode cX9_allTired 1 = .ok (.istore_n 1, 1) := by decide +kernel
theorem dX9_allTired_2 : decode cX9_allTired 2 = .ok (.iconst 0, 1) := by decide +kernel
theorem dX9_allTired_3 : decode cX9_allTired 3 = .ok (.istore_n 2, 1) := by decide +kernel
theorem dX9_allTired_4 : decode cX9_allTired 4 = .ok (.iload_n 2, 1) := by decide +kernel
theorem dX9_allTired_5 : decode cX9_allTired 5 = .ok (.aload_n 0, 1) := by decide +kernel
theorem dX9_allTired_6 : decode cX9_allTired 6 = .ok (.getfield 90, 3) := by decide +kernel
theorem dX9_allTired_9 : decode cX9_allTired 9 = .ok (.if_icmp .ge 18, 3) := by decide +kernel
theorem dX9_allTired_12 : decode cX9_allTired 12 = .ok (.iload_n 1, 1) := by decide +kernel
theorem dX9_allTired_13 : decode cX9_allTired 13 = .ok (.aload_n 0, 1) := by decide +kernel
theorem dX9_allTired_14 : decode cX9_allTired 14 = .ok (.getfield 72, 3) := by decide +kernel
theorem dX9_allTired_17 : decode cX9_allTired 17 = .ok (.iload_n 2, 1) := by decide +kernel
theorem dX9_allTired_18 : decode cX9_allTired 18 = .ok (.iaload, 1) := by decide +kernel
theorem dX9_allTired_19 : decode cX9_allTired 19 = .ok (.iadd, 1) := by decide +kernel
theorem dX9_allTired_20 : decode cX9_allTired 20 = .ok (.istore_n 1, 1) := by decide +kernel
theorem dX9_allTired_21 : decode cX9_allTired 21 = .ok (.iinc 2 1, 3) := by decide +kernel
theorem dX9_allTired_24 : decode cX9_allTired 24 = .ok (.goto (-20), 3) := by decide +kernel
theorem dX9_allTired_27 : decode cX9_allTired 27 = .ok (.iload_n 1, 1) := by decide +kernel
theorem dX9_allTired_28 : decode cX9_allTired 28 = .ok (.ireturn, 1) := by decide +kernel
theorem dX9_findRota_0 : decode cX9_findRota 0 = .ok (.bipush (-9), 2) := by decide +kernel
theorem dX9_findRota_2 : decode cX9_findRota 2 = .ok (.istore_n 2, 1) := by decide +kernel
theorem dX9_findRota_3 : decode cX9_findRota 3 = .ok (.iconst 1, 1) := by decide +kernel
theorem dX9_findRota_4 : decode cX9_findRota 4 = .ok (.aload_n 0, 1) := by decide +kernel
theorem dX9_findRota_5 : decode cX9_findRota 5 = .ok (.getfield 90, 3) := by decide +kernel
theorem dX9_findRota_8 : decode cX9_findRota 8 = .ok (.iload_n 1, 1) := by decide +kernel
theorem dX9_findRota_9 : decode cX9_findRota 9 = .ok (.imul, 1) := by decide +kernel
theorem dX9_findRota_10 : decode cX9_findRota 10 = .ok (.ishl, 1) := by decide +kernel
theorem dX9_findRota_11 : decode cX9_findRota 11 = .ok (.istore_n 3, 1) := by decide +kernel
theorem dX9_findRota_12 : decode cX9_findRota 12 = .ok (.iconst 0, 1) := by decide +kernel
theorem dX9_findRota_13 : decode cX9_findRota 13 = .ok (.istore 4, 2) := by decide +kernel
theorem dX9_findRota_15 : decode cX9_findRota 15 = .ok (.iload 4, 2) := by decide +kernel
theorem dX9_findRota_17 : decode cX9_findRota 17 = .ok (.iload_n 3, 1) := by decide +kernel
theorem dX9_findRota_18 : decode cX9_findRota 18 = .ok (.if_icmp .ge 171, 3) := by decide +kernel
theorem dX9_findRota_21 : decode cX9_findRota 21 = .ok (.aload_n 0, 1) := by decide +kernel
theorem dX9_findRota_22 : decode cX9_findRota 22 = .ok (.invokevirtual 170, 3) := by decide +kernel
theorem dX9_findRota_25 : decode cX9_findRota 25 = .ok (.iconst 1, 1) := by decide +kernel
theorem dX9_findRota_26 : decode cX9_findRota 26 = .ok (.istore 5, 2) := by decide +kernel
theorem dX9_findRota_28 : decode cX9_findRota 28 = .ok (.aload_n 0, 1) := by decide +kernel
theorem dX9_findRota_29 : decode cX9_findRota 29 = .ok (.getfield 90, 3) := by decide +kernel
theorem dX9_findRota_32 : decode cX9_findRota 32 = .ok (.iload_n 1, 1) := by decide +kernel
theorem dX9_findRota_33 : decode cX9_findRota 33 = .ok (.imul, 1) := by decide +kernel
theorem dX9_findRota_34 : decode cX9_findRota 34 = .ok (.istore 6, 2) := by decide +kernel
theorem dX9_findRota_36 : decode cX9_findRota 36 = .ok (.iconst 0, 1) := by decide +kernel
theorem dX9_findRota_37 : decode cX9_findRota 37 = .ok (.istore 7, 2) := by decide +kernel
theorem dX9_findRota_39 : decode cX9_findRota 39 = .ok (.iload 7, 2) := by decide +kernel
theorem dX9_findRota_41 : decode cX9_findRota 41 = .ok (.iload_n 1, 1) := by decide +kernel
theorem dX9_findRota_42 : decode cX9_findRota 42 = .ok (.if_icmp .ge 64, 3) := by decide +kernel
theorem dX9_findRota_45 : decode cX9_findRota 45 = .ok (.iload 5, 2) := by decide +kernel
theorem dX9_findRota_47 : decode cX9_findRota 47 = .ok (.ifCond .eq 59, 3) := by decide +kernel
theorem dX9_findRota_50 : decode cX9_findRota 50 = .ok (.iload 6, 2) := by decide +kernel
theorem dX9_findRota_52 : decode cX9_findRota 52 = .ok (.aload_n 0, 1) := by decide +kernel
theorem dX9_findRota_53 : decode cX9_findRota 53 = .ok (.getfield 90, 3) := by decide +kernel
theorem dX9_findRota_56 : decode cX9_findRota 56 = .ok (.isub, 1) := by decide +kernel
theorem dX9_findRota_57 : decode cX9_findRota 57 = .ok (.istore 6, 2) := by decide +kernel
theorem dX9_findRota_59 : decode cX9_findRota 59 = .ok (.iload 4, 2) := by decide +kernel
theorem dX9_findRota_61 : decode cX9_findRota 61 = .ok (.iload 6, 2) := by decide +kernel
theorem dX9_findRota_63 : decode cX9_findRota 63 = .ok (.ishr, 1) := by decide +kernel
theorem dX9_findRota_64 : decode cX9_findRota 64 = .ok (.iconst 1, 1) := by decide +kernel
theorem dX9_findRota_65 : decode cX9_findRota 65 = .ok (.aload_n 0, 1) := by decide +kernel
theorem dX9_findRota_66 : decode cX9_findRota 66 = .ok (.getfield 90, 3) := by decide +kernel
theorem dX9_findRota_69 : decode cX9_findRota 69 = .ok (.ishl, 1) := by decide +kernel
theorem dX9_findRota_70 : decode cX9_findRota 70 = .ok (.iconst 1, 1) := by decide +kernel
theorem dX9_findRota_71 : decode cX9_findRota 71 = .ok (.isub, 1) := by decide +kernel
theorem dX9_findRota_72 : decode cX9_findRota 72 = .ok (.iand, 1) := by decide +kernel
theorem dX9_findRota_73 : decode cX9_findRota 73 = .ok (.istore 8, 2) := by decide +kernel
theorem dX9_findRota_75 : decode cX9_findRota 75 = .ok (.aload_n 0, 1) := by decide +kernel
theorem dX9_findRota_76 : decode cX9_findRota 76 = .ok (.iload 8, 2) := by decide +kernel
theorem dX9_findRota_78 : decode cX9_findRota 78 = .ok (.invokevirtual 173, 3) := by decide +kernel
theorem dX9_findRota_81 : decode cX9_findRota 81 = .ok (.ifCond .eq 16, 3) := by decide +kernel
theorem dX9_findRota_84 : decode cX9_findRota 84 = .ok (.aload_n 0, 1) := by decide +kernel
theorem dX9_findRota_85 : decode cX9_findRota 85 = .ok (.iload 8, 2) := by decide +kernel
theorem dX9_findRota_87 : decode cX9_findRota 87 = .ok (.invokevirtual 183, 3) := by decide +kernel
theorem dX9_findRota_90 : decode cX9_findRota 90 = .ok (.ifCond .eq 7, 3) := by decide +kernel
theorem dX9_findRota_93 : decode cX9_findRota 93 = .ok (.iconst 1, 1) := by decide +kernel
theorem dX9_findRota_94 : decode cX9_findRota 94 = .ok (.goto 4, 3) := by decide +kernel
theorem dX9_findRota_97 : decode cX9_findRota 97 = .ok (.iconst 0, 1) := by decide +kernel
theorem dX9_findRota_98 : decode cX9_findRota 98 = .ok (.istore 5, 2) := by decide +kernel
theorem dX9_findRota_100 : decode cX9_findRota 100 = .ok (.iinc 7 1, 3) := by decide +kernel
theorem dX9_findRota_103 : decode cX9_findRota 103 = .ok (.goto (-64), 3) := by decide +kernel
theorem dX9_findRota_106 : decode cX9_findRota 106 = .ok (.iload 5, 2) := by decide +kernel
theorem dX9_findRota_108 : decode cX9_findRota 108 = .ok (.ifCond .eq 75, 3) := by decide +kernel
theorem dX9_findRota_111 : decode cX9_findRota 111 = .ok (.iload_n 2, 1) := by decide +kernel
theorem dX9_findRota_112 : decode cX9_findRota 112 = .ok (.bipush (-9), 2) := by decide +kernel
theorem dX9_findRota_114 : decode cX9_findRota 114 = .ok (.if_icmp .eq 11, 3) := by decide +kernel
theorem dX9_findRota_117 : decode cX9_findRota 117 = .ok (.aload_n 0, 1) := by decide +kernel
theorem dX9_findRota_118 : decode cX9_findRota 118 = .ok (.invokevirtual 189, 3) := by decide +kernel
theorem dX9_findRota_121 : decode cX9_findRota 121 = .ok (.iload_n 2, 1) := by decide +kernel
theorem dX9_findRota_122 : decode cX9_findRota 122 = .ok (.if_icmp .ge 61, 3) := by decide +kernel
theorem dX9_findRota_125 : decode cX9_findRota 125 = .ok (.aload_n 0, 1) := by decide +kernel
theorem dX9_findRota_126 : decode cX9_findRota 126 = .ok (.invokevirtual 189, 3) := by decide +kernel
theorem dX9_findRota_129 : decode cX9_findRota 129 = .ok (.istore_n 2, 1) := by decide +kernel
theorem dX9_findRota_130 : decode cX9_findRota 130 = .ok (.aload_n 0, 1) := by decide +kernel
theorem dX9_findRota_131 : decode cX9_findRota 131 = .ok (.getfield 90, 3) := by decide +kernel
theorem dX9_findRota_134 : decode cX9_findRota 134 = .ok (.iload_n 1, 1) := by decide +kernel
theorem dX9_findRota_135 : decode cX9_findRota 135 = .ok (.imul, 1) := by decide +kernel
theorem dX9_findRota_136 : decode cX9_findRota 136 = .ok (.istore 6, 2) := by decide +kernel
theorem dX9_findRota_138 : decode cX9_findRota 138 = .ok (.iconst 0, 1) := by decide +kernel
theorem dX9_findRota_139 : decode cX9_findRota 139 = .ok (.istore 7, 2) := by decide +kernel
theorem dX9_findRota_141 : decode cX9_findRota 141 = .ok (.iload 7, 2) := by decide +kernel
theorem dX9_findRota_143 : decode cX9_findRota 143 = .ok (.iload_n 1, 1) := by decide +kernel
theorem dX9_findRota_144 : decode cX9_findRota 144 = .ok (.if_icmp .ge 39, 3) := by decide +kernel
theorem dX9_findRota_147 : decode cX9_findRota 147 = .ok (.iload 6, 2) := by decide +kernel
theorem dX9_findRota_149 : decode cX9_findRota 149 = .ok (.aload_n 0, 1) := by decide +kernel
theorem dX9_findRota_150 : decode cX9_findRota 150 = .ok (.getfield 90, 3) := by decide +kernel
theorem dX9_findRota_153 : decode cX9_findRota 153 = .ok (.isub, 1) := by decide +kernel
theorem dX9_findRota_154 : decode cX9_findRota 154 = .ok (.istore 6, 2) := by decide +kernel
theorem dX9_findRota_156 : decode cX9_findRota 156 = .ok (.aload_n 0, 1) := by decide +kernel
theorem dX9_findRota_157 : decode cX9_findRota 157 = .ok (.getfield 84, 3) := by decide +kernel
theorem dX9_findRota_160 : decode cX9_findRota 160 = .ok (.iload 7, 2) := by decide +kernel
theorem dX9_findRota_162 : decode cX9_findRota 162 = .ok (.iload 4, 2) := by decide +kernel
theorem dX9_findRota_164 : decode cX9_findRota 164 = .ok (.iload 6, 2) := by decide +kernel
theorem dX9_findRota_166 : decode cX9_findRota 166 = .ok (.ishr, 1) := by decide +kernel
theorem dX9_findRota_167 : decode cX9_findRota 167 = .ok (.iconst 1, 1) := by decide +kernel
theorem dX9_findRota_168 : decode cX9_findRota 168 = .ok (.aload_n 0, 1) := by decide +kernel
theorem dX9_findRota_169 : decode cX9_findRota 169 = .ok (.getfield 90, 3) := by decide +kernel
theorem dX9_findRota_172 : decode cX9_findRota 172 = .ok (.ishl, 1) := by decide +kernel
theorem dX9_findRota_173 : decode cX9_findRota 173 = .ok (.iconst 1, 1) := by decide +kernel
theorem dX9_findRota_174 : decode cX9_findRota 174 = .ok (.isub, 1) := by decide +kernel
theorem dX9_findRota_175 : decode cX9_findRota 175 = .ok (.iand, 1) := by decide +kernel
theorem dX9_findRota_176 : decode cX9_findRota 176 = .ok (.iastore, 1) := by decide +kernel
theorem dX9_findRota_177 : decode cX9_findRota 177 = .ok (.iinc 7 1, 3) := by decide +kernel
theorem dX9_findRota_180 : decode cX9_findRota 180 = .ok (.goto (-39), 3) := by decide +kernel
theorem dX9_findRota_183 : decode cX9_findRota 183 = .ok (.iinc 4 1, 3) := by decide +kernel
theorem dX9_findRota_186 : decode cX9_findRota 186 = .ok (.goto (-171), 3) := by decide +kernel
theorem dX9_findRota_189 : decode cX9_findRota 189 = .ok (.iload_n 2, 1) := by decide +kernel
theorem dX9_findRota_190 : decode cX9_findRota 190 = .ok (.ireturn, 1) := by decide +kernel
theorem dX9_noRota_0 : decode cX9_noRota 0 = .ok (.iload_n 1, 1) := by decide +kernel
theorem dX9_noRota_1 : decode cX9_noRota 1 = .ok (.i2l, 1) := by decide +kernel
theorem dX9_noRota_2 : decode cX9_noRota 2 = .ok (.lconst 1, 1) := by decide +kernel
theorem dX9_noRota_3 : decode cX9_noRota 3 = .ok (.ldc2_w 192, 3) := by decide +kernel
theorem dX9_noRota_6 : decode cX9_noRota 6 = .ok (.invokestatic 93, 3) := by decide +kernel
theorem dX9_noRota_9 : decode cX9_noRota 9 = .ok (.ifCond .ne 8, 3) := by decide +kernel
theorem dX9_noRota_12 : decode cX9_noRota 12 = .ok (.bipush (-2), 2) := by decide +kernel
theorem dX9_noRota_14 : decode cX9_noRota 14 = .ok (.goto 17, 3) := by decide +kernel
theorem dX9_noRota_17 : decode cX9_noRota 17 = .ok (.aload_n 0, 1) := by decide +kernel
theorem dX9_noRota_18 : decode cX9_noRota 18 = .ok (.getfield 90, 3) := by decide +kernel
theorem dX9_noRota_21 : decode cX9_noRota 21 = .ok (.iconst 4, 1) := by decide +kernel
theorem dX9_noRota_22 : decode cX9_noRota 22 = .ok (.if_icmp .le 8, 3) := by decide +kernel
theorem dX9_noRota_25 : decode cX9_noRota 25 = .ok (.bipush (-3), 2) := by decide +kernel
theorem dX9_noRota_27 : decode cX9_noRota 27 = .ok (.goto 4, 3) := by decide +kernel
theorem dX9_noRota_30 : decode cX9_noRota 30 = .ok (.iconst 0, 1) := by decide +kernel
theorem dX9_noRota_31 : decode cX9_noRota 31 = .ok (.ireturn, 1) := by decide +kernel
theorem dX9_rota_0 : decode cX9_rota 0 = .ok (.aload_n 0, 1) := by decide +kernel
theorem dX9_rota_1 : decode cX9_rota 1 = .ok (.iconst 0, 1) := by decide +kernel
theorem dX9_rota_2 : decode cX9_rota 2 = .ok (.putfield 87, 3) := by decide +kernel
theorem dX9_rota_5 : decode cX9_rota 5 = .ok (.aload_n 0, 1) := by decide +kernel
theorem dX9_rota_6 : decode cX9_rota 6 = .ok (.iload_n 1, 1) := by decide +kernel
theorem dX9_rota_7 : decode cX9_rota 7 = .ok (.invokevirtual 194, 3) := by decide +kernel
theorem dX9_rota_10 : decode cX9_rota 10 = .ok (.istore_n 2, 1) := by decide +kernel
theorem dX9_rota_11 : decode cX9_rota 11 = .ok (.iload_n 2, 1) := by decide +kernel
theorem dX9_rota_12 : decode cX9_rota 12 = .ok (.ifCond .eq 7, 3) := by decide +kernel
theorem dX9_rota_15 : decode cX9_rota 15 = .ok (.iload_n 2, 1) := by decide +kernel
theorem dX9_rota_16 : decode cX9_rota 16 = .ok (.goto 8, 3) := by decide +kernel
theorem dX9_rota_19 : decode cX9_rota 19 = .ok (.aload_n 0, 1) := by decide +kernel
theorem dX9_rota_20 : decode cX9_rota 20 = .ok (.iload_n 1, 1) := by decide +kernel
theorem dX9_rota_21 : decode cX9_rota 21 = .ok (.invokevirtual 197, 3) := by decide +kernel
theorem dX9_rota_24 : decode cX9_rota 24 = .ok (.ireturn, 1) := by decide +kernel
theorem dX9_rotaAt_0 : decode cX9_rotaAt 0 = .ok (.aload_n 0, 1) := by decide +kernel
theorem dX9_rotaAt_1 : decode cX9_rotaAt 1 = .ok (.iconst 0, 1) := by decide +kernel
theorem dX9_rotaAt_2 : decode cX9_rotaAt 2 = .ok (.putfield 87, 3) := by decide +kernel
theorem dX9_rotaAt_5 : decode cX9_rotaAt 5 = .ok (.aload_n 0, 1) := by decide +kernel
theorem dX9_rotaAt_6 : decode cX9_rotaAt 6 = .ok (.iload_n 1, 1) := by decide +kernel
theorem dX9_rotaAt_7 : decode cX9_rotaAt 7 = .ok (.invokevirtual 194, 3) := by decide +kernel
theorem dX9_rotaAt_10 : decode cX9_rotaAt 10 = .ok (.istore_n 3, 1) := by decide +kernel
theorem dX9_rotaAt_11 : decode cX9_rotaAt 11 = .ok (.iload_n 3, 1) := by decide +kernel
theorem dX9_rotaAt_12 : decode cX9_rotaAt 12 = .ok (.ifCond .eq 5, 3) := by decide +kernel
theorem dX9_rotaAt_15 : decode cX9_rotaAt 15 = .ok (.iload_n 3, 1) := by decide +kernel
theorem dX9_rotaAt_16 : decode cX9_rotaAt 16 = .ok (.ireturn, 1) := by decide +kernel
theorem dX9_rotaAt_17 : decode cX9_rotaAt 17 = .ok (.aload_n 0, 1) := by decide +kernel
theorem dX9_rotaAt_18 : decode cX9_rotaAt 18 = .ok (.iload_n 1, 1) := by decide +kernel
theorem dX9_rotaAt_19 : decode cX9_rotaAt 19 = .ok (.invokevirtual 197, 3) := by decide +kernel
theorem dX9_rotaAt_22 : decode cX9_rotaAt 22 = .ok (.bipush (-9), 2) := by decide +kernel
theorem dX9_rotaAt_24 : decode cX9_rotaAt 24 = .ok (.if_icmp .eq 25, 3) := by decide +kernel
theorem dX9_rotaAt_27 : decode cX9_rotaAt 27 = .ok (.iload_n 2, 1) := by decide +kernel
theorem dX9_rotaAt_28 : decode cX9_rotaAt 28 = .ok (.i2l, 1) := by decide +kernel
theorem dX9_rotaAt_29 : decode cX9_rotaAt 29 = .ok (.lconst 0, 1) := by decide +kernel
theorem dX9_rotaAt_30 : decode cX9_rotaAt 30 = .ok (.iload_n 1, 1) := by decide +kernel
theorem dX9_rotaAt_31 : decode cX9_rotaAt 31 = .ok (.iconst 1, 1) := by decide +kernel
theorem dX9_rotaAt_32 : decode cX9_rotaAt 32 = .ok (.isub, 1) := by decide +kernel
theorem dX9_rotaAt_33 : decode cX9_rotaAt 33 = .ok (.i2l, 1) := by decide +kernel
theorem dX9_rotaAt_34 : decode cX9_rotaAt 34 = .ok (.invokestatic 93, 3) := by decide +kernel
theorem dX9_rotaAt_37 : decode cX9_rotaAt 37 = .ok (.ifCond .eq 12, 3) := by decide +kernel
theorem dX9_rotaAt_40 : decode cX9_rotaAt 40 = .ok (.aload_n 0, 1) := by decide +kernel
theorem dX9_rotaAt_41 : decode cX9_rotaAt 41 = .ok (.getfield 84, 3) := by decide +kernel
theorem dX9_rotaAt_44 : decode cX9_rotaAt 44 = .ok (.iload_n 2, 1) := by decide +kernel
theorem dX9_rotaAt_45 : decode cX9_rotaAt 45 = .ok (.iaload, 1) := by decide +kernel
theorem dX9_rotaAt_46 : decode cX9_rotaAt 46 = .ok (.goto 5, 3) := by decide +kernel
theorem dX9_rotaAt_49 : decode cX9_rotaAt 49 = .ok (.bipush (-9), 2) := by decide +kernel
theorem dX9_rotaAt_51 : decode cX9_rotaAt 51 = .ok (.ireturn, 1) := by decide +kernel
theorem dX9_doAllNod_0 : decode cX9_doAllNod 0 = .ok (.iconst 1, 1) := by decide +kernel
theorem dX9_doAllNod_1 : decode cX9_doAllNod 1 = .ok (.istore_n 1, 1) := by decide +kernel
theorem dX9_doAllNod_2 : decode cX9_doAllNod 2 = .ok (.iconst 0, 1) := by decide +kernel
theorem dX9_doAllNod_3 : decode cX9_doAllNod 3 = .ok (.istore_n 2, 1) := by decide +kernel
theorem dX9_doAllNod_4 : decode cX9_doAllNod 4 = .ok (.iload_n 2, 1) := by decide +kernel
theorem dX9_doAllNod_5 : decode cX9_doAllNod 5 = .ok (.aload_n 0, 1) := by decide +kernel
theorem dX9_doAllNod_6 : decode cX9_doAllNod 6 = .ok (.getfield 90, 3) := by decide +kernel
theorem dX9_doAllNod_9 : decode cX9_doAllNod 9 = .ok (.if_icmp .ge 28, 3) := by decide +kernel
theorem dX9_doAllNod_12 : decode cX9_doAllNod 12 = .ok (.iload_n 1, 1) := by decide +kernel
theorem dX9_doAllNod_13 : decode cX9_doAllNod 13 = .ok (.ifCond .eq 16, 3) := by decide +kernel
theorem dX9_doAllNod_16 : decode cX9_doAllNod 16 = .ok (.aload_n 0, 1) := by decide +kernel
theorem dX9_doAllNod_17 : decode cX9_doAllNod 17 = .ok (.getfield 81, 3) := by decide +kernel
theorem dX9_doAllNod_20 : decode cX9_doAllNod 20 = .ok (.iload_n 2, 1) := by decide +kernel
theorem dX9_doAllNod_21 : decode cX9_doAllNod 21 = .ok (.baload, 1) := by decide +kernel
theorem dX9_doAllNod_22 : decode cX9_doAllNod 22 = .ok (.ifCond .eq 7, 3) := by decide +kernel
theorem dX9_doAllNod_25 : decode cX9_doAllNod 25 = .ok (.iconst 1, 1) := by decide +kernel
theorem dX9_doAllNod_26 : decode cX9_doAllNod 26 = .ok (.goto 4, 3) := by decide +kernel
theorem dX9_doAllNod_29 : decode cX9_doAllNod 29 = .ok (.iconst 0, 1) := by decide +kernel
theorem dX9_doAllNod_30 : decode cX9_doAllNod 30 = .ok (.istore_n 1, 1) := by decide +kernel
theorem dX9_doAllNod_31 : decode cX9_doAllNod 31 = .ok (.iinc 2 1, 3) := by decide +kernel
theorem dX9_doAllNod_34 : decode cX9_doAllNod 34 = .ok (.goto (-30), 3) := by decide +kernel
theorem dX9_doAllNod_37 : decode cX9_doAllNod 37 = .ok (.iload_n 1, 1) := by decide +kernel
theorem dX9_doAllNod_38 : decode cX9_doAllNod 38 = .ok (.ireturn, 1) := by decide +kernel
theorem dX9_allNod_0 : decode cX9_allNod 0 = .ok (.aload_n 0, 1) := by decide +kernel
theorem dX9_allNod_1 : decode cX9_allNod 1 = .ok (.iconst 0, 1) := by decide +kernel
theorem dX9_allNod_2 : decode cX9_allNod 2 = .ok (.putfield 87, 3) := by decide +kernel
theorem dX9_allNod_5 : decode cX9_allNod 5 = .ok (.aload_n 0, 1) := by decide +kernel
theorem dX9_allNod_6 : decode cX9_allNod 6 = .ok (.invokevirtual 170, 3) := by decide +kernel
theorem dX9_allNod_9 : decode cX9_allNod 9 = .ok (.iconst 0, 1) := by decide +kernel
theorem dX9_allNod_10 : decode cX9_allNod 10 = .ok (.istore_n 1, 1) := by decide +kernel
theorem dX9_allNod_11 : decode cX9_allNod 11 = .ok (.iload_n 1, 1) := by decide +kernel
theorem dX9_allNod_12 : decode cX9_allNod 12 = .ok (.bipush 100, 2) := by decide +kernel
theorem dX9_allNod_14 : decode cX9_allNod 14 = .ok (.if_icmp .ge 24, 3) := by decide +kernel
theorem dX9_allNod_17 : decode cX9_allNod 17 = .ok (.aload_n 0, 1) := by decide +kernel
theorem dX9_allNod_18 : decode cX9_allNod 18 = .ok (.invokevirtual 200, 3) := by decide +kernel
theorem dX9_allNod_21 : decode cX9_allNod 21 = .ok (.ifCond .eq 5, 3) := by decide +kernel
theorem dX9_allNod_24 : decode cX9_allNod 24 = .ok (.iload_n 1, 1) := by decide +kernel
theorem dX9_allNod_25 : decode cX9_allNod 25 = .ok (.ireturn, 1) := by decide +kernel
theorem dX9_allNod_26 : decode cX9_allNod 26 = .ok (.aload_n 0, 1) := by decide +kernel
theorem dX9_allNod_27 : decode cX9_allNod 27 = .ok (.iconst 0, 1) := by decide +kernel
theorem dX9_allNod_28 : decode cX9_allNod 28 = .ok (.invokevirtual 183, 3) := by decide +kernel
theorem dX9_allNod_31 : decode cX9_allNod 31 = .ok (.pop, 1) := by decide +kernel
theorem dX9_allNod_32 : decode cX9_allNod 32 = .ok (.iinc 1 1, 3) := by decide +kernel
theorem dX9_allNod_35 : decode cX9_allNod 35 = .ok (.goto (-24), 3) := by decide +kernel
theorem dX9_allNod_38 : decode cX9_allNod 38 = .ok (.bipush (-9), 2) := by decide +kernel
theorem dX9_allNod_40 : decode cX9_allNod 40 = .ok (.ireturn, 1) := by decide +kernel
theorem dX9_divisor_0 : decode cX9_divisor 0 = .ok (.lload_n 0, 1) := by decide +kernel
theorem dX9_divisor_1 : decode cX9_divisor 1 = .ok (.lstore 4, 2) := by decide +kernel
theorem dX9_divisor_3 : decode cX9_divisor 3 = .ok (.lload_n 2, 1) := by decide +kernel
theorem dX9_divisor_4 : decode cX9_divisor 4 = .ok (.lstore 6, 2) := by decide +kernel
theorem dX9_divisor_6 : decode cX9_divisor 6 = .ok (.lload 6, 2) := by decide +kernel
theorem dX9_divisor_8 : decode cX9_divisor 8 = .ok (.lconst 0, 1) := by decide +kernel
theorem dX9_divisor_9 : decode cX9_divisor 9 = .ok (.lcmp, 1) := by decide +kernel
theorem dX9_divisor_10 : decode cX9_divisor 10 = .ok (.ifCond .eq 21, 3) := by decide +kernel
theorem dX9_divisor_13 : decode cX9_divisor 13 = .ok (.lload 4, 2) := by decide +kernel
theorem dX9_divisor_15 : decode cX9_divisor 15 = .ok (.lload 6, 2) := by decide +kernel
theorem dX9_divisor_17 : decode cX9_divisor 17 = .ok (.lrem, 1) := by decide +kernel
theorem dX9_divisor_18 : decode cX9_divisor 18 = .ok (.lstore 8, 2) := by decide +kernel
theorem dX9_divisor_20 : decode cX9_divisor 20 = .ok (.lload 6, 2) := by decide +kernel
theorem dX9_divisor_22 : decode cX9_divisor 22 = .ok (.lstore 4, 2) := by decide +kernel
theorem dX9_divisor_24 : decode cX9_divisor 24 = .ok (.lload 8, 2) := by decide +kernel
theorem dX9_divisor_26 : decode cX9_divisor 26 = .ok (.lstore 6, 2) := by decide +kernel
theorem dX9_divisor_28 : decode cX9_divisor 28 = .ok (.goto (-22), 3) := by decide +kernel
theorem dX9_divisor_31 : decode cX9_divisor 31 = .ok (.lload 4, 2) := by decide +kernel
theorem dX9_divisor_33 : decode cX9_divisor 33 = .ok (.lreturn, 1) := by decide +kernel
theorem dX9_awakeBy_0 : decode cX9_awakeBy 0 = .ok (.aload_n 0, 1) := by decide +kernel
theorem dX9_awakeBy_1 : decode cX9_awakeBy 1 = .ok (.getfield 26, 3) := by decide +kernel
theorem dX9_awakeBy_4 : decode cX9_awakeBy 4 = .ok (.iload_n 1, 1) := by decide +kernel
theorem dX9_awakeBy_5 : decode cX9_awakeBy 5 = .ok (.baload, 1) := by decide +kernel
theorem dX9_awakeBy_6 : decode cX9_awakeBy 6 = .ok (.ifCond .eq 7, 3) := by decide +kernel
theorem dX9_awakeBy_9 : decode cX9_awakeBy 9 = .ok (.lconst 0, 1) := by decide +kernel
theorem dX9_awakeBy_10 : decode cX9_awakeBy 10 = .ok (.goto 4, 3) := by decide +kernel
theorem dX9_awakeBy_13 : decode cX9_awakeBy 13 = .ok (.lconst 1, 1) := by decide +kernel
theorem dX9_awakeBy_14 : decode cX9_awakeBy 14 = .ok (.lstore 4, 2) := by decide +kernel
theorem dX9_awakeBy_16 : decode cX9_awakeBy 16 = .ok (.aload_n 0, 1) := by decide +kernel
theorem dX9_awakeBy_17 : decode cX9_awakeBy 17 = .ok (.getfield 17, 3) := by decide +kernel
theorem dX9_awakeBy_20 : decode cX9_awakeBy 20 = .ok (.iload_n 1, 1) := by decide +kernel
theorem dX9_awakeBy_21 : decode cX9_awakeBy 21 = .ok (.iaload, 1) := by decide +kernel
theorem dX9_awakeBy_22 : decode cX9_awakeBy 22 = .ok (.istore 6, 2) := by decide +kernel
theorem dX9_awakeBy_24 : decode cX9_awakeBy 24 = .ok (.iconst 0, 1) := by decide +kernel
theorem dX9_awakeBy_25 : decode cX9_awakeBy 25 = .ok (.istore 7, 2) := by decide +kernel
theorem dX9_awakeBy_27 : decode cX9_awakeBy 27 = .ok (.iload 7, 2) := by decide +kernel
theorem dX9_awakeBy_29 : decode cX9_awakeBy 29 = .ok (.iload_n 2, 1) := by decide +kernel
theorem dX9_awakeBy_30 : decode cX9_awakeBy 30 = .ok (.if_icmp .ge 67, 3) := by decide +kernel
theorem dX9_awakeBy_33 : decode cX9_awakeBy 33 = .ok (.iload 6, 2) := by decide +kernel
theorem dX9_awakeBy_35 : decode cX9_awakeBy 35 = .ok (.bipush 97, 2) := by decide +kernel
theorem dX9_awakeBy_37 : decode cX9_awakeBy 37 = .ok (.if_icmp .le 8, 3) := by decide +kernel
theorem dX9_awakeBy_40 : decode cX9_awakeBy 40 = .ok (.bipush 99, 2) := by decide +kernel
theorem dX9_awakeBy_42 : decode cX9_awakeBy 42 = .ok (.goto 7, 3) := by decide +kernel
theorem dX9_awakeBy_45 : decode cX9_awakeBy 45 = .ok (.iload 6, 2) := by decide +kernel
theorem dX9_awakeBy_47 : decode cX9_awakeBy 47 = .ok (.iconst 2, 1) := by decide +kernel
theorem dX9_awakeBy_48 : decode cX9_awakeBy 48 = .ok (.iadd, 1) := by decide +kernel
theorem dX9_awakeBy_49 : decode cX9_awakeBy 49 = .ok (.istore 6, 2) := by decide +kernel
theorem dX9_awakeBy_51 : decode cX9_awakeBy 51 = .ok (.lload 4, 2) := by decide +kernel
theorem dX9_awakeBy_53 : decode cX9_awakeBy 53 = .ok (.iload 6, 2) := by decide +kernel
theorem dX9_awakeBy_55 : decode cX9_awakeBy 55 = .ok (.aload_n 0, 1) := by decide +kernel
theorem dX9_awakeBy_56 : decode cX9_awakeBy 56 = .ok (.getfield 13, 3) := by decide +kernel
theorem dX9_awakeBy_59 : decode cX9_awakeBy 59 = .ok (.if_icmp .lt 7, 3) := by decide +kernel
theorem dX9_awakeBy_62 : decode cX9_awakeBy 62 = .ok (.lconst 0, 1) := by decide +kernel
theorem dX9_awakeBy_63 : decode cX9_awakeBy 63 = .ok (.goto 25, 3) := by decide +kernel
theorem dX9_awakeBy_66 : decode cX9_awakeBy 66 = .ok (.iconst 2, 1) := by decide +kernel
theorem dX9_awakeBy_67 : decode cX9_awakeBy 67 = .ok (.iload 6, 2) := by decide +kernel
theorem dX9_awakeBy_69 : decode cX9_awakeBy 69 = .ok (.imul, 1) := by decide +kernel
theorem dX9_awakeBy_70 : decode cX9_awakeBy 70 = .ok (.aload_n 0, 1) := by decide +kernel
theorem dX9_awakeBy_71 : decode cX9_awakeBy 71 = .ok (.getfield 13, 3) := by decide +kernel
theorem dX9_awakeBy_74 : decode cX9_awakeBy 74 = .ok (.if_icmp .lt 11, 3) := by decide +kernel
theorem dX9_awakeBy_77 : decode cX9_awakeBy 77 = .ok (.bipush 10, 2) := by decide +kernel
theorem dX9_awakeBy_79 : decode cX9_awakeBy 79 = .ok (.iload_n 3, 1) := by decide +kernel
theorem dX9_awakeBy_80 : decode cX9_awakeBy 80 = .ok (.isub, 1) := by decide +kernel
theorem dX9_awakeBy_81 : decode cX9_awakeBy 81 = .ok (.i2l, 1) := by decide +kernel
theorem dX9_awakeBy_82 : decode cX9_awakeBy 82 = .ok (.goto 6, 3) := by decide +kernel
theorem dX9_awakeBy_85 : decode cX9_awakeBy 85 = .ok (.ldc2_w 203, 3) := by decide +kernel
theorem dX9_awakeBy_88 : decode cX9_awakeBy 88 = .ok (.lmul, 1) := by decide +kernel
theorem dX9_awakeBy_89 : decode cX9_awakeBy 89 = .ok (.lstore 4, 2) := by decide +kernel
theorem dX9_awakeBy_91 : decode cX9_awakeBy 91 = .ok (.iinc 7 1, 3) := by decide +kernel
theorem dX9_awakeBy_94 : decode cX9_awakeBy 94 = .ok (.goto (-67), 3) := by decide +kernel
theorem dX9_awakeBy_97 : decode cX9_awakeBy 97 = .ok (.lload 4, 2) := by decide +kernel
theorem dX9_awakeBy_99 : decode cX9_awakeBy 99 = .ok (.lreturn, 1) := by decide +kernel
theorem dX9_chance_0 : decode cX9_chance 0 = .ok (.aload_n 0, 1) := by decide +kernel
theorem dX9_chance_1 : decode cX9_chance 1 = .ok (.iconst 0, 1) := by decide +kernel
theorem dX9_chance_2 : decode cX9_chance 2 = .ok (.putfield 87, 3) := by decide +kernel
theorem dX9_chance_5 : decode cX9_chance 5 = .ok (.iload_n 1, 1) := by decide +kernel
theorem dX9_chance_6 : decode cX9_chance 6 = .ok (.i2l, 1) := by decide +kernel
theorem dX9_chance_7 : decode cX9_chance 7 = .ok (.lconst 1, 1) := by decide +kernel
theorem dX9_chance_8 : decode cX9_chance 8 = .ok (.ldc2_w 205, 3) := by decide +kernel
theorem dX9_chance_11 : decode cX9_chance 11 = .ok (.invokestatic 93, 3) := by decide +kernel
theorem dX9_chance_14 : decode cX9_chance 14 = .ok (.ifCond .eq 15, 3) := by decide +kernel
theorem dX9_chance_17 : decode cX9_chance 17 = .ok (.iload_n 2, 1) := by decide +kernel
theorem dX9_chance_18 : decode cX9_chance 18 = .ok (.i2l, 1) := by decide +kernel
theorem dX9_chance_19 : decode cX9_chance 19 = .ok (.lconst 0, 1) := by decide +kernel
theorem dX9_chance_20 : decode cX9_chance 20 = .ok (.ldc2_w 203, 3) := by decide +kernel
theorem dX9_chance_23 : decode cX9_chance 23 = .ok (.invokestatic 93, 3) := by decide +kernel
theorem dX9_chance_26 : decode cX9_chance 26 = .ok (.ifCond .ne 7, 3) := by decide +kernel
theorem dX9_chance_29 : decode cX9_chance 29 = .ok (.ldc2_w 207, 3) := by decide +kernel
theorem dX9_chance_32 : decode cX9_chance 32 = .ok (.lreturn, 1) := by decide +kernel
theorem dX9_chance_33 : decode cX9_chance 33 = .ok (.iload_n 1, 1) := by decide +kernel
theorem dX9_chance_34 : decode cX9_chance 34 = .ok (.iconst 1, 1) := by decide +kernel
theorem dX9_chance_35 : decode cX9_chance 35 = .ok (.if_icmp .ne 9, 3) := by decide +kernel
theorem dX9_chance_38 : decode cX9_chance 38 = .ok (.ldc2_w 203, 3) := by decide +kernel
theorem dX9_chance_41 : decode cX9_chance 41 = .ok (.goto 17, 3) := by decide +kernel
theorem dX9_chance_44 : decode cX9_chance 44 = .ok (.iload_n 1, 1) := by decide +kernel
theorem dX9_chance_45 : decode cX9_chance 45 = .ok (.iconst 2, 1) := by decide +kernel
theorem dX9_chance_46 : decode cX9_chance 46 = .ok (.if_icmp .ne 9, 3) := by decide +kernel
theorem dX9_chance_49 : decode cX9_chance 49 = .ok (.ldc2_w 209, 3) := by decide +kernel
theorem dX9_chance_52 : decode cX9_chance 52 = .ok (.goto 6, 3) := by decide +kernel
theorem dX9_chance_55 : decode cX9_chance 55 = .ok (.ldc2_w 211, 3) := by decide +kernel
theorem dX9_chance_58 : decode cX9_chance 58 = .ok (.lstore 4, 2) := by decide +kernel
theorem dX9_chance_60 : decode cX9_chance 60 = .ok (.lconst 1, 1) := by decide +kernel
theorem dX9_chance_61 : decode cX9_chance 61 = .ok (.lstore 6, 2) := by decide +kernel
theorem dX9_chance_63 : decode cX9_chance 63 = .ok (.lconst 1, 1) := by decide +kernel
theorem dX9_chance_64 : decode cX9_chance 64 = .ok (.lstore 8, 2) := by decide +kernel
theorem dX9_chance_66 : decode cX9_chance 66 = .ok (.iconst 0, 1) := by decide +kernel
theorem dX9_chance_67 : decode cX9_chance 67 = .ok (.istore 10, 2) := by decide +kernel
theorem dX9_chance_69 : decode cX9_chance 69 = .ok (.iload 10, 2) := by decide +kernel
theorem dX9_chance_71 : decode cX9_chance 71 = .ok (.aload_n 0, 1) := by decide +kernel
theorem dX9_chance_72 : decode cX9_chance 72 = .ok (.getfield 90, 3) := by decide +kernel
theorem dX9_chance_75 : decode cX9_chance 75 = .ok (.if_icmp .ge 32, 3) := by decide +kernel
theorem dX9_chance_78 : decode cX9_chance 78 = .ok (.lload 6, 2) := by decide +kernel
theorem dX9_chance_80 : decode cX9_chance 80 = .ok (.lload 4, 2) := by decide +kernel
theorem dX9_chance_82 : decode cX9_chance 82 = .ok (.aload_n 0, 1) := by decide +kernel
theorem dX9_chance_83 : decode cX9_chance 83 = .ok (.iload 10, 2) := by decide +kernel
theorem dX9_chance_85 : decode cX9_chance 85 = .ok (.iload_n 1, 1) := by decide +kernel
theorem dX9_chance_86 : decode cX9_chance 86 = .ok (.iload_n 2, 1) := by decide +kernel
theorem dX9_chance_87 : decode cX9_chance 87 = .ok (.invokevirtual 213, 3) := by decide +kernel
theorem dX9_chance_90 : decode cX9_chance 90 = .ok (.lsub, 1) := by decide +kernel
theorem dX9_chance_91 : decode cX9_chance 91 = .ok (.lmul, 1) := by decide +kernel
theorem dX9_chance_92 : decode cX9_chance 92 = .ok (.lstore 6, 2) := by decide +kernel
theorem dX9_chance_94 : decode cX9_chance 94 = .ok (.lload 8, 2) := by decide +kernel
theorem dX9_chance_96 : decode cX9_chance 96 = .ok (.lload 4, 2) := by decide +kernel
theorem dX9_chance_98 : decode cX9_chance 98 = .ok (.lmul, 1) := by decide +kernel
theorem dX9_chance_99 : decode cX9_chance 99 = .ok (.lstore 8, 2) := by decide +kernel
theorem dX9_chance_101 : decode cX9_chance 101 = .ok (.iinc 10 1, 3) := by decide +kernel
theorem dX9_chance_104 : decode cX9_chance 104 = .ok (.goto (-35), 3) := by decide +kernel
theorem dX9_chance_107 : decode cX9_chance 107 = .ok (.lload 6, 2) := by decide +kernel
theorem dX9_chance_109 : decode cX9_chance 109 = .ok (.lload 8, 2) := by decide +kernel
theorem dX9_chance_111 : decode cX9_chance 111 = .ok (.invokestatic 217, 3) := by decide +kernel
theorem dX9_chance_114 : decode cX9_chance 114 = .ok (.lstore 10, 2) := by decide +kernel
theorem dX9_chance_116 : decode cX9_chance 116 = .ok (.iload_n 3, 1) := by decide +kernel
theorem dX9_chance_117 : decode cX9_chance 117 = .ok (.ifCond .eq 11, 3) := by decide +kernel
theorem dX9_chance_120 : decode cX9_chance 120 = .ok (.lload 6, 2) := by decide +kernel
theorem dX9_chance_122 : decode cX9_chance 122 = .ok (.lload 10, 2) := by decide +kernel
theorem dX9_chance_124 : decode cX9_chance 124 = .ok (.ldiv, 1) := by decide +kernel
theorem dX9_chance_125 : decode cX9_chance 125 = .ok (.goto 8, 3) := by decide +kernel
theorem dX9_chance_128 : decode cX9_chance 128 = .ok (.lload 8, 2) := by decide +kernel
theorem dX9_chance_130 : decode cX9_chance 130 = .ok (.lload 10, 2) := by decide +kernel
theorem dX9_chance_132 : decode cX9_chance 132 = .ok (.ldiv, 1) := by decide +kernel
theorem dX9_chance_133 : decode cX9_chance 133 = .ok (.lreturn, 1) := by decide +kernel
theorem dX9_plan_0 : decode cX9_plan 0 = .ok (.aload_n 0, 1) := by decide +kernel
theorem dX9_plan_1 : decode cX9_plan 1 = .ok (.iconst 0, 1) := by decide +kernel
theorem dX9_plan_2 : decode cX9_plan 2 = .ok (.putfield 87, 3) := by decide +kernel
theorem dX9_plan_5 : decode cX9_plan 5 = .ok (.iload_n 1, 1) := by decide +kernel
theorem dX9_plan_6 : decode cX9_plan 6 = .ok (.i2l, 1) := by decide +kernel
theorem dX9_plan_7 : decode cX9_plan 7 = .ok (.lconst 0, 1) := by decide +kernel
theorem dX9_plan_8 : decode cX9_plan 8 = .ok (.ldc2_w 205, 3) := by decide +kernel
theorem dX9_plan_11 : decode cX9_plan 11 = .ok (.invokestatic 93, 3) := by decide +kernel
theorem dX9_plan_14 : decode cX9_plan 14 = .ok (.ifCond .eq 11, 3) := by decide +kernel
theorem dX9_plan_17 : decode cX9_plan 17 = .ok (.aload_n 0, 1) := by decide +kernel
theorem dX9_plan_18 : decode cX9_plan 18 = .ok (.iload_n 2, 1) := by decide +kernel
theorem dX9_plan_19 : decode cX9_plan 19 = .ok (.invokevirtual 167, 3) := by decide +kernel
theorem dX9_plan_22 : decode cX9_plan 22 = .ok (.ifCond .eq 6, 3) := by decide +kernel
theorem dX9_plan_25 : decode cX9_plan 25 = .ok (.bipush (-2), 2) := by decide +kernel
theorem dX9_plan_27 : decode cX9_plan 27 = .ok (.ireturn, 1) := by decide +kernel
theorem dX9_plan_28 : decode cX9_plan 28 = .ok (.aload_n 0, 1) := by decide +kernel
theorem dX9_plan_29 : decode cX9_plan 29 = .ok (.getfield 39, 3) := by decide +kernel
theorem dX9_plan_32 : decode cX9_plan 32 = .ok (.iload_n 1, 1) := by decide +kernel
theorem dX9_plan_33 : decode cX9_plan 33 = .ok (.iaload, 1) := by decide +kernel
theorem dX9_plan_34 : decode cX9_plan 34 = .ok (.istore_n 3, 1) := by decide +kernel
theorem dX9_plan_35 : decode cX9_plan 35 = .ok (.aload_n 0, 1) := by decide +kernel
theorem dX9_plan_36 : decode cX9_plan 36 = .ok (.getfield 39, 3) := by decide +kernel
theorem dX9_plan_39 : decode cX9_plan 39 = .ok (.iload_n 1, 1) := by decide +kernel
theorem dX9_plan_40 : decode cX9_plan 40 = .ok (.iload_n 2, 1) := by decide +kernel
theorem dX9_plan_41 : decode cX9_plan 41 = .ok (.iastore, 1) := by decide +kernel
theorem dX9_plan_42 : decode cX9_plan 42 = .ok (.iload_n 3, 1) := by decide +kernel
theorem dX9_plan_43 : decode cX9_plan 43 = .ok (.ireturn, 1) := by decide +kernel
theorem dX9_weakest_0 : decode cX9_weakest 0 = .ok (.aload_n 0, 1) := by decide +kernel
theorem dX9_weakest_1 : decode cX9_weakest 1 = .ok (.iconst 0, 1) := by decide +kernel
theorem dX9_weakest_2 : decode cX9_weakest 2 = .ok (.putfield 87, 3) := by decide +kernel
theorem dX9_weakest_5 : decode cX9_weakest 5 = .ok (.aload_n 0, 1) := by decide +kernel
theorem dX9_weakest_6 : decode cX9_weakest 6 = .ok (.invokevirtual 170, 3) := by decide +kernel
theorem dX9_weakest_9 : decode cX9_weakest 9 = .ok (.iconst 0, 1) := by decide +kernel
theorem dX9_weakest_10 : decode cX9_weakest 10 = .ok (.istore_n 1, 1) := by decide +kernel
theorem dX9_weakest_11 : decode cX9_weakest 11 = .ok (.ldc 221, 2) := by decide +kernel
theorem dX9_weakest_13 : decode cX9_weakest 13 = .ok (.istore_n 2, 1) := by decide +kernel
theorem dX9_weakest_14 : decode cX9_weakest 14 = .ok (.iconst 0, 1) := by decide +kernel
theorem dX9_weakest_15 : decode cX9_weakest 15 = .ok (.istore_n 3, 1) := by decide +kernel
theorem dX9_weakest_16 : decode cX9_weakest 16 = .ok (.iload_n 3, 1) := by decide +kernel
theorem dX9_weakest_17 : decode cX9_weakest 17 = .ok (.bipush 8, 2) := by decide +kernel
theorem dX9_weakest_19 : decode cX9_weakest 19 = .ok (.if_icmp .ge 108, 3) := by decide +kernel
theorem dX9_weakest_22 : decode cX9_weakest 22 = .ok (.aload_n 0, 1) := by decide +kernel
theorem dX9_weakest_23 : decode cX9_weakest 23 = .ok (.aload_n 0, 1) := by decide +kernel
theorem dX9_weakest_24 : decode cX9_weakest 24 = .ok (.aload_n 0, 1) := by decide +kernel
theorem dX9_weakest_25 : decode cX9_weakest 25 = .ok (.getfield 39, 3) := by decide +kernel
theorem dX9_weakest_28 : decode cX9_weakest 28 = .ok (.iload_n 3, 1) := by decide +kernel
theorem dX9_weakest_29 : decode cX9_weakest 29 = .ok (.iconst 4, 1) := by decide +kernel
theorem dX9_weakest_30 : decode cX9_weakest 30 = .ok (.irem, 1) := by decide +kernel
theorem dX9_weakest_31 : decode cX9_weakest 31 = .ok (.iaload, 1) := by decide +kernel
theorem dX9_weakest_32 : decode cX9_weakest 32 = .ok (.invokevirtual 173, 3) := by decide +kernel
theorem dX9_weakest_35 : decode cX9_weakest 35 = .ok (.ifCond .eq 14, 3) := by decide +kernel
theorem dX9_weakest_38 : decode cX9_weakest 38 = .ok (.aload_n 0, 1) := by decide +kernel
theorem dX9_weakest_39 : decode cX9_weakest 39 = .ok (.getfield 39, 3) := by decide +kernel
theorem dX9_weakest_42 : decode cX9_weakest 42 = .ok (.iload_n 3, 1) := by decide +kernel
theorem dX9_weakest_43 : decode cX9_weakest 43 = .ok (.iconst 4, 1) := by decide +kernel
theorem dX9_weakest_44 : decode cX9_weakest 44 = .ok (.irem, 1) := by decide +kernel
theorem dX9_weakest_45 : decode cX9_weakest 45 = .ok (.iaload, 1) := by decide +kernel
theorem dX9_weakest_46 : decode cX9_weakest 46 = .ok (.goto 4, 3) := by decide +kernel
theorem dX9_weakest_49 : decode cX9_weakest 49 = .ok (.iconst 0, 1) := by decide +kernel
theorem dX9_weakest_50 : decode cX9_weakest 50 = .ok (.invokevirtual 183, 3) := by decide +kernel
theorem dX9_weakest_53 : decode cX9_weakest 53 = .ok (.istore 4, 2) := by decide +kernel
theorem dX9_weakest_55 : decode cX9_weakest 55 = .ok (.iconst 0, 1) := by decide +kernel
theorem dX9_weakest_56 : decode cX9_weakest 56 = .ok (.istore 5, 2) := by decide +kernel
theorem dX9_weakest_58 : decode cX9_weakest 58 = .ok (.iconst 0, 1) := by decide +kernel
theorem dX9_weakest_59 : decode cX9_weakest 59 = .ok (.istore 6, 2) := by decide +kernel
theorem dX9_weakest_61 : decode cX9_weakest 61 = .ok (.iload 6, 2) := by decide +kernel
theorem dX9_weakest_63 : decode cX9_weakest 63 = .ok (.aload_n 0, 1) := by decide +kernel
theorem dX9_weakest_64 : decode cX9_weakest 64 = .ok (.getfield 90, 3) := by decide +kernel
theorem dX9_weakest_67 : decode cX9_weakest 67 = .ok (.if_icmp .ge 29, 3) := by decide +kernel
theorem dX9_weakest_70 : decode cX9_weakest 70 = .ok (.iload 5, 2) := by decide +kernel
theorem dX9_weakest_72 : decode cX9_weakest 72 = .ok (.iload 4, 2) := by decide +kernel
theorem dX9_weakest_74 : decode cX9_weakest 74 = .ok (.iload 6, 2) := by decide +kernel
theorem dX9_weakest_76 : decode cX9_weakest 76 = .ok (.invokestatic 160, 3) := by decide +kernel
theorem dX9_weakest_79 : decode cX9_weakest 79 = .ok (.ifCond .eq 7, 3) := by decide +kernel
theorem dX9_weakest_82 : decode cX9_weakest 82 = .ok (.iconst 1, 1) := by decide +kernel
theorem dX9_weakest_83 : decode cX9_weakest 83 = .ok (.goto 4, 3) := by decide +kernel
theorem dX9_weakest_86 : decode cX9_weakest 86 = .ok (.iconst 0, 1) := by decide +kernel
theorem dX9_weakest_87 : decode cX9_weakest 87 = .ok (.iadd, 1) := by decide +kernel
theorem dX9_weakest_88 : decode cX9_weakest 88 = .ok (.istore 5, 2) := by decide +kernel
theorem dX9_weakest_90 : decode cX9_weakest 90 = .ok (.iinc 6 1, 3) := by decide +kernel
theorem dX9_weakest_93 : decode cX9_weakest 93 = .ok (.goto (-32), 3) := by decide +kernel
theorem dX9_weakest_96 : decode cX9_weakest 96 = .ok (.iload 5, 2) := by decide +kernel
theorem dX9_weakest_98 : decode cX9_weakest 98 = .ok (.iload_n 2, 1) := by decide +kernel
theorem dX9_weakest_99 : decode cX9_weakest 99 = .ok (.if_icmp .ge 7, 3) := by decide +kernel
theorem dX9_weakest_102 : decode cX9_weakest 102 = .ok (.iload_n 3, 1) := by decide +kernel
theorem dX9_weakest_103 : decode cX9_weakest 103 = .ok (.goto 4, 3) := by decide +kernel
theorem dX9_weakest_106 : decode cX9_weakest 106 = .ok (.iload_n 1, 1) := by decide +kernel
theorem dX9_weakest_107 : decode cX9_weakest 107 = .ok (.istore_n 1, 1) := by decide +kernel
theorem dX9_weakest_108 : decode cX9_weakest 108 = .ok (.iload 5, 2) := by decide +kernel
theorem dX9_weakest_110 : decode cX9_weakest 110 = .ok (.iload_n 2, 1) := by decide +kernel
theorem dX9_weakest_111 : decode cX9_weakest 111 = .ok (.if_icmp .ge 8, 3) := by decide +kernel
theorem dX9_weakest_114 : decode cX9_weakest 114 = .ok (.iload 5, 2) := by decide +kernel
theorem dX9_weakest_116 : decode cX9_weakest 116 = .ok (.goto 4, 3) := by decide +kernel
theorem dX9_weakest_119 : decode cX9_weakest 119 = .ok (.iload_n 2, 1) := by decide +kernel
theorem dX9_weakest_120 : decode cX9_weakest 120 = .ok (.istore_n 2, 1) := by decide +kernel
theorem dX9_weakest_121 : decode cX9_weakest 121 = .ok (.iinc 3 1, 3) := by decide +kernel
theorem dX9_weakest_124 : decode cX9_weakest 124 = .ok (.goto (-108), 3) := by decide +kernel
theorem dX9_weakest_127 : decode cX9_weakest 127 = .ok (.iload_n 1, 1) := by decide +kernel
theorem dX9_weakest_128 : decode cX9_weakest 128 = .ok (.ireturn, 1) := by decide +kernel
theorem dX9_settled_0 : decode cX9_settled 0 = .ok (.aload_n 0, 1) := by decide +kernel
theorem dX9_settled_1 : decode cX9_settled 1 = .ok (.iconst 0, 1) := by decide +kernel
theorem dX9_settled_2 : decode cX9_settled 2 = .ok (.putfield 87, 3) := by decide +kernel
theorem dX9_settled_5 : decode cX9_settled 5 = .ok (.aload_n 0, 1) := by decide +kernel
theorem dX9_settled_6 : decode cX9_settled 6 = .ok (.invokevirtual 170, 3) := by decide +kernel
theorem dX9_settled_9 : decode cX9_settled 9 = .ok (.iconst 0, 1) := by decide +kernel
theorem dX9_settled_10 : decode cX9_settled 10 = .ok (.istore_n 2, 1) := by decide +kernel
theorem dX9_settled_11 : decode cX9_settled 11 = .ok (.iconst 0, 1) := by decide +kernel
theorem dX9_settled_12 : decode cX9_settled 12 = .ok (.istore_n 3, 1) := by decide +kernel
theorem dX9_settled_13 : decode cX9_settled 13 = .ok (.iload_n 3, 1) := by decide +kernel
theorem dX9_settled_14 : decode cX9_settled 14 = .ok (.aload_n 0, 1) := by decide +kernel
theorem dX9_settled_15 : decode cX9_settled 15 = .ok (.getfield 90, 3) := by decide +kernel
theorem dX9_settled_18 : decode cX9_settled 18 = .ok (.if_icmp .ge 68, 3) := by decide +kernel
theorem dX9_settled_21 : decode cX9_settled 21 = .ok (.aload_n 0, 1) := by decide +kernel
theorem dX9_settled_22 : decode cX9_settled 22 = .ok (.getfield 78, 3) := by decide +kernel
theorem dX9_settled_25 : decode cX9_settled 25 = .ok (.iload_n 3, 1) := by decide +kernel
theorem dX9_settled_26 : decode cX9_settled 26 = .ok (.iaload, 1) := by decide +kernel
theorem dX9_settled_27 : decode cX9_settled 27 = .ok (.aload_n 0, 1) := by decide +kernel
theorem dX9_settled_28 : decode cX9_settled 28 = .ok (.getfield 75, 3) := by decide +kernel
theorem dX9_settled_31 : decode cX9_settled 31 = .ok (.iload_n 3, 1) := by decide +kernel
theorem dX9_settled_32 : decode cX9_settled 32 = .ok (.iaload, 1) := by decide +kernel
theorem dX9_settled_33 : decode cX9_settled 33 = .ok (.if_icmp .ge 12, 3) := by decide +kernel
theorem dX9_settled_36 : decode cX9_settled 36 = .ok (.aload_n 0, 1) := by decide +kernel
theorem dX9_settled_37 : decode cX9_settled 37 = .ok (.getfield 78, 3) := by decide +kernel
theorem dX9_settled_40 : decode cX9_settled 40 = .ok (.iload_n 3, 1) := by decide +kernel
theorem dX9_settled_41 : decode cX9_settled 41 = .ok (.iaload, 1) := by decide +kernel
theorem dX9_settled_42 : decode cX9_settled 42 = .ok (.goto 9, 3) := by decide +kernel
theorem dX9_settled_45 : decode cX9_settled 45 = .ok (.aload_n 0, 1) := by decide +kernel
theorem dX9_settled_46 : decode cX9_settled 46 = .ok (.getfield 75, 3) := by decide +kernel
theorem dX9_settled_49 : decode cX9_settled 49 = .ok (.iload_n 3, 1) := by decide +kernel
theorem dX9_settled_50 : decode cX9_settled 50 = .ok (.iaload, 1) := by decide +kernel
theorem dX9_settled_51 : decode cX9_settled 51 = .ok (.istore 4, 2) := by decide +kernel
theorem dX9_settled_53 : decode cX9_settled 53 = .ok (.aload_n 0, 1) := by decide +kernel
theorem dX9_settled_54 : decode cX9_settled 54 = .ok (.getfield 78, 3) := by decide +kernel
theorem dX9_settled_57 : decode cX9_settled 57 = .ok (.iload_n 3, 1) := by decide +kernel
theorem dX9_settled_58 : decode cX9_settled 58 = .ok (.dup2, 1) := by decide +kernel
theorem dX9_settled_59 : decode cX9_settled 59 = .ok (.iaload, 1) := by decide +kernel
theorem dX9_settled_60 : decode cX9_settled 60 = .ok (.iload 4, 2) := by decide +kernel
theorem dX9_settled_62 : decode cX9_settled 62 = .ok (.isub, 1) := by decide +kernel
theorem dX9_settled_63 : decode cX9_settled 63 = .ok (.iastore, 1) := by decide +kernel
theorem dX9_settled_64 : decode cX9_settled 64 = .ok (.aload_n 0, 1) := by decide +kernel
theorem dX9_settled_65 : decode cX9_settled 65 = .ok (.getfield 75, 3) := by decide +kernel
theorem dX9_settled_68 : decode cX9_settled 68 = .ok (.iload_n 3, 1) := by decide +kernel
theorem dX9_settled_69 : decode cX9_settled 69 = .ok (.dup2, 1) := by decide +kernel
theorem dX9_settled_70 : decode cX9_settled 70 = .ok (.iaload, 1) := by decide +kernel
theorem dX9_settled_71 : decode cX9_settled 71 = .ok (.iload 4, 2) := by decide +kernel
theorem dX9_settled_73 : decode cX9_settled 73 = .ok (.isub, 1) := by decide +kernel
theorem dX9_settled_74 : decode cX9_settled 74 = .ok (.iastore, 1) := by decide +kernel
theorem dX9_settled_75 : decode cX9_settled 75 = .ok (.iload_n 2, 1) := by decide +kernel
theorem dX9_settled_76 : decode cX9_settled 76 = .ok (.iload 4, 2) := by decide +kernel
theorem dX9_settled_78 : decode cX9_settled 78 = .ok (.iadd, 1) := by decide +kernel
theorem dX9_settled_79 : decode cX9_settled 79 = .ok (.istore_n 2, 1) := by decide +kernel
theorem dX9_settled_80 : decode cX9_settled 80 = .ok (.iinc 3 1, 3) := by decide +kernel
theorem dX9_settled_83 : decode cX9_settled 83 = .ok (.goto (-70), 3) := by decide +kernel
theorem dX9_settled_86 : decode cX9_settled 86 = .ok (.iconst 0, 1) := by decide +kernel
theorem dX9_settled_87 : decode cX9_settled 87 = .ok (.istore_n 3, 1) := by decide +kernel
theorem dX9_settled_88 : decode cX9_settled 88 = .ok (.iconst 0, 1) := by decide +kernel
theorem dX9_settled_89 : decode cX9_settled 89 = .ok (.istore 4, 2) := by decide +kernel
theorem dX9_settled_91 : decode cX9_settled 91 = .ok (.iload 4, 2) := by decide +kernel
theorem dX9_settled_93 : decode cX9_settled 93 = .ok (.aload_n 0, 1) := by decide +kernel
theorem dX9_settled_94 : decode cX9_settled 94 = .ok (.getfield 90, 3) := by decide +kernel
theorem dX9_settled_97 : decode cX9_settled 97 = .ok (.if_icmp .ge 120, 3) := by decide +kernel
theorem dX9_settled_100 : decode cX9_settled 100 = .ok (.aload_n 0, 1) := by decide +kernel
theorem dX9_settled_101 : decode cX9_settled 101 = .ok (.getfield 33, 3) := by decide +kernel
theorem dX9_settled_104 : decode cX9_settled 104 = .ok (.iload 4, 2) := by decide +kernel
theorem dX9_settled_106 : decode cX9_settled 106 = .ok (.iaload, 1) := by decide +kernel
theorem dX9_settled_107 : decode cX9_settled 107 = .ok (.istore 5, 2) := by decide +kernel
theorem dX9_settled_109 : decode cX9_settled 109 = .ok (.iload 5, 2) := by decide +kernel
theorem dX9_settled_111 : decode cX9_settled 111 = .ok (.bipush (-9), 2) := by decide +kernel
theorem dX9_settled_113 : decode cX9_settled 113 = .ok (.if_icmp .ne 7, 3) := by decide +kernel
theorem dX9_settled_116 : decode cX9_settled 116 = .ok (.iconst 0, 1) := by decide +kernel
theorem dX9_settled_117 : decode cX9_settled 117 = .ok (.goto 37, 3) := by decide +kernel
theorem dX9_settled_120 : decode cX9_settled 120 = .ok (.aload_n 0, 1) := by decide +kernel
theorem dX9_settled_121 : decode cX9_settled 121 = .ok (.getfield 78, 3) := by decide +kernel
theorem dX9_settled_124 : decode cX9_settled 124 = .ok (.iload 4, 2) := by decide +kernel
theorem dX9_settled_126 : decode cX9_settled 126 = .ok (.iaload, 1) := by decide +kernel
theorem dX9_settled_127 : decode cX9_settled 127 = .ok (.aload_n 0, 1) := by decide +kernel
theorem dX9_settled_128 : decode cX9_settled 128 = .ok (.getfield 75, 3) := by decide +kernel
theorem dX9_settled_131 : decode cX9_settled 131 = .ok (.iload 5, 2) := by decide +kernel
theorem dX9_settled_133 : decode cX9_settled 133 = .ok (.iaload, 1) := by decide +kernel
theorem dX9_settled_134 : decode cX9_settled 134 = .ok (.if_icmp .ge 13, 3) := by decide +kernel
theorem dX9_settled_137 : decode cX9_settled 137 = .ok (.aload_n 0, 1) := by decide +kernel
theorem dX9_settled_138 : decode cX9_settled 138 = .ok (.getfield 78, 3) := by decide +kernel
theorem dX9_settled_141 : decode cX9_settled 141 = .ok (.iload 4, 2) := by decide +kernel
theorem dX9_settled_143 : decode cX9_settled 143 = .ok (.iaload, 1) := by decide +kernel
theorem dX9_settled_144 : decode cX9_settled 144 = .ok (.goto 10, 3) := by decide +kernel
theorem dX9_settled_147 : decode cX9_settled 147 = .ok (.aload_n 0, 1) := by decide +kernel
theorem dX9_settled_148 : decode cX9_settled 148 = .ok (.getfield 75, 3) := by decide +kernel
theorem dX9_settled_151 : decode cX9_settled 151 = .ok (.iload 5, 2) := by decide +kernel
theorem dX9_settled_153 : decode cX9_settled 153 = .ok (.iaload, 1) := by decide +kernel
theorem dX9_settled_154 : decode cX9_settled 154 = .ok (.istore 6, 2) := by decide +kernel
theorem dX9_settled_156 : decode cX9_settled 156 = .ok (.iload 6, 2) := by decide +kernel
theorem dX9_settled_158 : decode cX9_settled 158 = .ok (.ifCond .le 32, 3) := by decide +kernel
theorem dX9_settled_161 : decode cX9_settled 161 = .ok (.aload_n 0, 1) := by decide +kernel
theorem dX9_settled_162 : decode cX9_settled 162 = .ok (.getfield 78, 3) := by decide +kernel
theorem dX9_settled_165 : decode cX9_settled 165 = .ok (.iload 4, 2) := by decide +kernel
theorem dX9_settled_167 : decode cX9_settled 167 = .ok (.dup2, 1) := by decide +kernel
theorem dX9_settled_168 : decode cX9_settled 168 = .ok (.iaload, 1) := by decide +kernel
theorem dX9_settled_169 : decode cX9_settled 169 = .ok (.iload 6, 2) := by decide +kernel
theorem dX9_settled_171 : decode cX9_settled 171 = .ok (.isub, 1) := by decide +kernel
theorem dX9_settled_172 : decode cX9_settled 172 = .ok (.iastore, 1) := by decide +kernel
theorem dX9_settled_173 : decode cX9_settled 173 = .ok (.aload_n 0, 1) := by decide +kernel
theorem dX9_settled_174 : decode cX9_settled 174 = .ok (.getfield 75, 3) := by decide +kernel
theorem dX9_settled_177 : decode cX9_settled 177 = .ok (.iload 5, 2) := by decide +kernel
theorem dX9_settled_179 : decode cX9_settled 179 = .ok (.dup2, 1) := by decide +kernel
theorem dX9_settled_180 : decode cX9_settled 180 = .ok (.iaload, 1) := by decide +kernel
theorem dX9_settled_181 : decode cX9_settled 181 = .ok (.iload 6, 2) := by decide +kernel
theorem dX9_settled_183 : decode cX9_settled 183 = .ok (.isub, 1) := by decide +kernel
theorem dX9_settled_184 : decode cX9_settled 184 = .ok (.iastore, 1) := by decide +kernel
theorem dX9_settled_185 : decode cX9_settled 185 = .ok (.iload_n 2, 1) := by decide +kernel
theorem dX9_settled_186 : decode cX9_settled 186 = .ok (.iload 6, 2) := by decide +kernel
theorem dX9_settled_188 : decode cX9_settled 188 = .ok (.iadd, 1) := by decide +kernel
theorem dX9_settled_189 : decode cX9_settled 189 = .ok (.istore_n 2, 1) := by decide +kernel
theorem dX9_settled_190 : decode cX9_settled 190 = .ok (.iload_n 3, 1) := by decide +kernel
theorem dX9_settled_191 : decode cX9_settled 191 = .ok (.aload_n 0, 1) := by decide +kernel
theorem dX9_settled_192 : decode cX9_settled 192 = .ok (.getfield 78, 3) := by decide +kernel
theorem dX9_settled_195 : decode cX9_settled 195 = .ok (.iload 4, 2) := by decide +kernel
theorem dX9_settled_197 : decode cX9_settled 197 = .ok (.iaload, 1) := by decide +kernel
theorem dX9_settled_198 : decode cX9_settled 198 = .ok (.ifCond .le 10, 3) := by decide +kernel
theorem dX9_settled_201 : decode cX9_settled 201 = .ok (.iconst 1, 1) := by decide +kernel
theorem dX9_settled_202 : decode cX9_settled 202 = .ok (.iload 4, 2) := by decide +kernel
theorem dX9_settled_204 : decode cX9_settled 204 = .ok (.ishl, 1) := by decide +kernel
theorem dX9_settled_205 : decode cX9_settled 205 = .ok (.goto 4, 3) := by decide +kernel
theorem dX9_settled_208 : decode cX9_settled 208 = .ok (.iconst 0, 1) := by decide +kernel
theorem dX9_settled_209 : decode cX9_settled 209 = .ok (.ior, 1) := by decide +kernel
theorem dX9_settled_210 : decode cX9_settled 210 = .ok (.istore_n 3, 1) := by decide +kernel
theorem dX9_settled_211 : decode cX9_settled 211 = .ok (.iinc 4 1, 3) := by decide +kernel
theorem dX9_settled_214 : decode cX9_settled 214 = .ok (.goto (-123), 3) := by decide +kernel
theorem dX9_settled_217 : decode cX9_settled 217 = .ok (.iload_n 1, 1) := by decide +kernel
theorem dX9_settled_218 : decode cX9_settled 218 = .ok (.ifCond .eq 7, 3) := by decide +kernel
theorem dX9_settled_221 : decode cX9_settled 221 = .ok (.iload_n 3, 1) := by decide +kernel
theorem dX9_settled_222 : decode cX9_settled 222 = .ok (.goto 4, 3) := by decide +kernel
theorem dX9_settled_225 : decode cX9_settled 225 = .ok (.iload_n 2, 1) := by decide +kernel
theorem dX9_settled_226 : decode cX9_settled 226 = .ok (.ireturn, 1) := by decide +kernel
theorem dX9_use_0 : decode cX9_use 0 = .ok (.aload_n 0, 1) := by decide +kernel
theorem dX9_use_1 : decode cX9_use 1 = .ok (.iconst 0, 1) := by decide +kernel
theorem dX9_use_2 : decode cX9_use 2 = .ok (.putfield 87, 3) := by decide +kernel
theorem dX9_use_5 : decode cX9_use 5 = .ok (.aload_n 0, 1) := by decide +kernel
theorem dX9_use_6 : decode cX9_use 6 = .ok (.iload_n 2, 1) := by decide +kernel
theorem dX9_use_7 : decode cX9_use 7 = .ok (.invokevirtual 154, 3) := by decide +kernel
theorem dX9_use_10 : decode cX9_use 10 = .ok (.ifCond .eq 5, 3) := by decide +kernel
theorem dX9_use_13 : decode cX9_use 13 = .ok (.iconst (-1), 1) := by decide +kernel
theorem dX9_use_14 : decode cX9_use 14 = .ok (.ireturn, 1) := by decide +kernel
theorem dX9_use_15 : decode cX9_use 15 = .ok (.iload_n 1, 1) := by decide +kernel
theorem dX9_use_16 : decode cX9_use 16 = .ok (.i2l, 1) := by decide +kernel
theorem dX9_use_17 : decode cX9_use 17 = .ok (.lconst 0, 1) := by decide +kernel
theorem dX9_use_18 : decode cX9_use 18 = .ok (.ldc2_w 222, 3) := by decide +kernel
theorem dX9_use_21 : decode cX9_use 21 = .ok (.invokestatic 93, 3) := by decide +kernel
theorem dX9_use_24 : decode cX9_use 24 = .ok (.ifCond .eq 15, 3) := by decide +kernel
theorem dX9_use_27 : decode cX9_use 27 = .ok (.iload_n 3, 1) := by decide +kernel
theorem dX9_use_28 : decode cX9_use 28 = .ok (.i2l, 1) := by decide +kernel
theorem dX9_use_29 : decode cX9_use 29 = .ok (.lconst 0, 1) := by decide +kernel
theorem dX9_use_30 : decode cX9_use 30 = .ok (.ldc2_w 222, 3) := by decide +kernel
theorem dX9_use_33 : decode cX9_use 33 = .ok (.invokestatic 93, 3) := by decide +kernel
theorem dX9_use_36 : decode cX9_use 36 = .ok (.ifCond .ne 6, 3) := by decide +kernel
theorem dX9_use_39 : decode cX9_use 39 = .ok (.bipush (-2), 2) := by decide +kernel
theorem dX9_use_41 : decode cX9_use 41 = .ok (.ireturn, 1) := by decide +kernel
theorem dX9_use_42 : decode cX9_use 42 = .ok (.aload_n 0, 1) := by decide +kernel
theorem dX9_use_43 : decode cX9_use 43 = .ok (.getfield 151, 3) := by decide +kernel
theorem dX9_use_46 : decode cX9_use 46 = .ok (.bipush 12, 2) := by decide +kernel
theorem dX9_use_48 : decode cX9_use 48 = .ok (.if_icmp .ne 6, 3) := by decide +kernel
theorem dX9_use_51 : decode cX9_use 51 = .ok (.bipush (-4), 2) := by decide +kernel
theorem dX9_use_53 : decode cX9_use 53 = .ok (.ireturn, 1) := by decide +kernel
theorem dX9_use_54 : decode cX9_use 54 = .ok (.aload_n 0, 1) := by decide +kernel
theorem dX9_use_55 : decode cX9_use 55 = .ok (.getfield 63, 3) := by decide +kernel
theorem dX9_use_58 : decode cX9_use 58 = .ok (.aload_n 0, 1) := by decide +kernel
theorem dX9_use_59 : decode cX9_use 59 = .ok (.getfield 151, 3) := by decide +kernel
theorem dX9_use_62 : decode cX9_use 62 = .ok (.iload_n 1, 1) := by decide +kernel
theorem dX9_use_63 : decode cX9_use 63 = .ok (.iastore, 1) := by decide +kernel
theorem dX9_use_64 : decode cX9_use 64 = .ok (.aload_n 0, 1) := by decide +kernel
theorem dX9_use_65 : decode cX9_use 65 = .ok (.getfield 66, 3) := by decide +kernel
theorem dX9_use_68 : decode cX9_use 68 = .ok (.aload_n 0, 1) := by decide +kernel
theorem dX9_use_69 : decode cX9_use 69 = .ok (.getfield 151, 3) := by decide +kernel
theorem dX9_use_72 : decode cX9_use 72 = .ok (.iload_n 2, 1) := by decide +kernel
theorem dX9_use_73 : decode cX9_use 73 = .ok (.iastore, 1) := by decide +kernel
theorem dX9_use_74 : decode cX9_use 74 = .ok (.aload_n 0, 1) := by decide +kernel
theorem dX9_use_75 : decode cX9_use 75 = .ok (.getfield 69, 3) := by decide +kernel
theorem dX9_use_78 : decode cX9_use 78 = .ok (.aload_n 0, 1) := by decide +kernel
theorem dX9_use_79 : decode cX9_use 79 = .ok (.getfield 151, 3) := by decide +kernel
theorem dX9_use_82 : decode cX9_use 82 = .ok (.iload_n 3, 1) := by decide +kernel
theorem dX9_use_83 : decode cX9_use 83 = .ok (.iastore, 1) := by decide +kernel
theorem dX9_use_84 : decode cX9_use 84 = .ok (.aload_n 0, 1) := by decide +kernel
theorem dX9_use_85 : decode cX9_use 85 = .ok (.dup, 1) := by decide +kernel
theorem dX9_use_86 : decode cX9_use 86 = .ok (.getfield 151, 3) := by decide +kernel
theorem dX9_use_89 : decode cX9_use 89 = .ok (.iconst 1, 1) := by decide +kernel
theorem dX9_use_90 : decode cX9_use 90 = .ok (.iadd, 1) := by decide +kernel
theorem dX9_use_91 : decode cX9_use 91 = .ok (.putfield 151, 3) := by decide +kernel
theorem dX9_use_94 : decode cX9_use 94 = .ok (.aload_n 0, 1) := by decide +kernel
theorem dX9_use_95 : decode cX9_use 95 = .ok (.getfield 151, 3) := by decide +kernel
theorem dX9_use_98 : decode cX9_use 98 = .ok (.ireturn, 1) := by decide +kernel
theorem dX9_burn_0 : decode cX9_burn 0 = .ok (.aload_n 0, 1) := by decide +kernel
theorem dX9_burn_1 : decode cX9_burn 1 = .ok (.iconst 0, 1) := by decide +kernel
theorem dX9_burn_2 : decode cX9_burn 2 = .ok (.putfield 87, 3) := by decide +kernel
theorem dX9_burn_5 : decode cX9_burn 5 = .ok (.aload_n 0, 1) := by decide +kernel
theorem dX9_burn_6 : decode cX9_burn 6 = .ok (.getfield 151, 3) := by decide +kernel
theorem dX9_burn_9 : decode cX9_burn 9 = .ok (.istore_n 1, 1) := by decide +kernel
theorem dX9_burn_10 : decode cX9_burn 10 = .ok (.aload_n 0, 1) := by decide +kernel
theorem dX9_burn_11 : decode cX9_burn 11 = .ok (.iconst 0, 1) := by decide +kernel
theorem dX9_burn_12 : decode cX9_burn 12 = .ok (.putfield 151, 3) := by decide +kernel
theorem dX9_burn_15 : decode cX9_burn 15 = .ok (.iload_n 1, 1) := by decide +kernel
theorem dX9_burn_16 : decode cX9_burn 16 = .ok (.ireturn, 1) := by decide +kernel
theorem dX9_areTwins_0 : decode cX9_areTwins 0 = .ok (.aload_n 0, 1) := by decide +kernel
theorem dX9_areTwins_1 : decode cX9_areTwins 1 = .ok (.iload_n 1, 1) := by decide +kernel
theorem dX9_areTwins_2 : decode cX9_areTwins 2 = .ok (.invokevirtual 154, 3) := by decide +kernel
theorem dX9_areTwins_5 : decode cX9_areTwins 5 = .ok (.ifCond .ne 25, 3) := by decide +kernel
theorem dX9_areTwins_8 : decode cX9_areTwins 8 = .ok (.aload_n 0, 1) := by decide +kernel
theorem dX9_areTwins_9 : decode cX9_areTwins 9 = .ok (.iload_n 2, 1) := by decide +kernel
theorem dX9_areTwins_10 : decode cX9_areTwins 10 = .ok (.invokevirtual 154, 3) := by decide +kernel
theorem dX9_areTwins_13 : decode cX9_areTwins 13 = .ok (.ifCond .ne 17, 3) := by decide +kernel
theorem dX9_areTwins_16 : decode cX9_areTwins 16 = .ok (.aload_n 0, 1) := by decide +kernel
theorem dX9_areTwins_17 : decode cX9_areTwins 17 = .ok (.getfield 33, 3) := by decide +kernel
theorem dX9_areTwins_20 : decode cX9_areTwins 20 = .ok (.iload_n 1, 1) := by decide +kernel
theorem dX9_areTwins_21 : decode cX9_areTwins 21 = .ok (.iaload, 1) := by decide +kernel
theorem dX9_areTwins_22 : decode cX9_areTwins 22 = .ok (.iload_n 2, 1) := by decide +kernel
theorem dX9_areTwins_23 : decode cX9_areTwins 23 = .ok (.if_icmp .ne 7, 3) := by decide +kernel
theorem dX9_areTwins_26 : decode cX9_areTwins 26 = .ok (.iconst 1, 1) := by decide +kernel
theorem dX9_areTwins_27 : decode cX9_areTwins 27 = .ok (.goto 4, 3) := by decide +kernel
theorem dX9_areTwins_30 : decode cX9_areTwins 30 = .ok (.iconst 0, 1) := by decide +kernel
theorem dX9_areTwins_31 : decode cX9_areTwins 31 = .ok (.ireturn, 1) := by decide +kernel
theorem dX9_isForged_0 : decode cX9_isForged 0 = .ok (.iconst 0, 1) := by decide +kernel
theorem dX9_isForged_1 : decode cX9_isForged 1 = .ok (.istore_n 2, 1) := by decide +kernel
theorem dX9_isForged_2 : decode cX9_isForged 2 = .ok (.iconst 0, 1) := by decide +kernel
theorem dX9_isForged_3 : decode cX9_isForged 3 = .ok (.istore_n 3, 1) := by decide +kernel
theorem dX9_isForged_4 : decode cX9_isForged 4 = .ok (.iload_n 3, 1) := by decide +kernel
theorem dX9_isForged_5 : decode cX9_isForged 5 = .ok (.aload_n 0, 1) := by decide +kernel
theorem dX9_isForged_6 : decode cX9_isForged 6 = .ok (.getfield 151, 3) := by decide +kernel
theorem dX9_isForged_9 : decode cX9_isForged 9 = .ok (.if_icmp .ge 103, 3) := by decide +kernel
theorem dX9_isForged_12 : decode cX9_isForged 12 = .ok (.iconst 0, 1) := by decide +kernel
theorem dX9_isForged_13 : decode cX9_isForged 13 = .ok (.istore 4, 2) := by decide +kernel
theorem dX9_isForged_15 : decode cX9_isForged 15 = .ok (.iload 4, 2) := by decide +kernel
theorem dX9_isForged_17 : decode cX9_isForged 17 = .ok (.iload_n 3, 1) := by decide +kernel
theorem dX9_isForged_18 : decode cX9_isForged 18 = .ok (.if_icmp .ge 88, 3) := by decide +kernel
theorem dX9_isForged_21 : decode cX9_isForged 21 = .ok (.aload_n 0, 1) := by decide +kernel
theorem dX9_isForged_22 : decode cX9_isForged 22 = .ok (.getfield 63, 3) := by decide +kernel
theorem dX9_isForged_25 : decode cX9_isForged 25 = .ok (.iload_n 3, 1) := by decide +kernel
theorem dX9_isForged_26 : decode cX9_isForged 26 = .ok (.iaload, 1) := by decide +kernel
theorem dX9_isForged_27 : decode cX9_isForged 27 = .ok (.iload_n 1, 1) := by decide +kernel
theorem dX9_isForged_28 : decode cX9_isForged 28 = .ok (.if_icmp .ne 18, 3) := by decide +kernel
theorem dX9_isForged_31 : decode cX9_isForged 31 = .ok (.aload_n 0, 1) := by decide +kernel
theorem dX9_isForged_32 : decode cX9_isForged 32 = .ok (.getfield 63, 3) := by decide +kernel
theorem dX9_isForged_35 : decode cX9_isForged 35 = .ok (.iload 4, 2) := by decide +kernel
theorem dX9_isForged_37 : decode cX9_isForged 37 = .ok (.iaload, 1) := by decide +kernel
theorem dX9_isForged_38 : decode cX9_isForged 38 = .ok (.iload_n 1, 1) := by decide +kernel
theorem dX9_isForged_39 : decode cX9_isForged 39 = .ok (.if_icmp .ne 7, 3) := by decide +kernel
theorem dX9_isForged_42 : decode cX9_isForged 42 = .ok (.iconst 1, 1) := by decide +kernel
theorem dX9_isForged_43 : decode cX9_isForged 43 = .ok (.goto 4, 3) := by decide +kernel
theorem dX9_isForged_46 : decode cX9_isForged 46 = .ok (.iconst 0, 1) := by decide +kernel
theorem dX9_isForged_47 : decode cX9_isForged 47 = .ok (.istore 5, 2) := by decide +kernel
theorem dX9_isForged_49 : decode cX9_isForged 49 = .ok (.iload_n 2, 1) := by decide +kernel
theorem dX9_isForged_50 : decode cX9_isForged 50 = .ok (.ifCond .ne 44, 3) := by decide +kernel
theorem dX9_isForged_53 : decode cX9_isForged 53 = .ok (.iload 5, 2) := by decide +kernel
theorem dX9_isForged_55 : decode cX9_isForged 55 = .ok (.ifCond .eq 43, 3) := by decide +kernel
theorem dX9_isForged_58 : decode cX9_isForged 58 = .ok (.aload_n 0, 1) := by decide +kernel
theorem dX9_isForged_59 : decode cX9_isForged 59 = .ok (.getfield 69, 3) := by decide +kernel
theorem dX9_isForged_62 : decode cX9_isForged 62 = .ok (.iload_n 3, 1) := by decide +kernel
theorem dX9_isForged_63 : decode cX9_isForged 63 = .ok (.iaload, 1) := by decide +kernel
theorem dX9_isForged_64 : decode cX9_isForged 64 = .ok (.aload_n 0, 1) := by decide +kernel
theorem dX9_isForged_65 : decode cX9_isForged 65 = .ok (.getfield 69, 3) := by decide +kernel
theorem dX9_isForged_68 : decode cX9_isForged 68 = .ok (.iload 4, 2) := by decide +kernel
theorem dX9_isForged_70 : decode cX9_isForged 70 = .ok (.iaload, 1) := by decide +kernel
theorem dX9_isForged_71 : decode cX9_isForged 71 = .ok (.if_icmp .ne 23, 3) := by decide +kernel
theorem dX9_isForged_74 : decode cX9_isForged 74 = .ok (.aload_n 0, 1) := by decide +kernel
theorem dX9_isForged_75 : decode cX9_isForged 75 = .ok (.aload_n 0, 1) := by decide +kernel
theorem dX9_isForged_76 : decode cX9_isForged 76 = .ok (.getfield 66, 3) := by decide +kernel
theorem dX9_isForged_79 : decode cX9_isForged 79 = .ok (.iload_n 3, 1) := by decide +kernel
end
section
theorem dX9_isForged_80 : decode cX9_isForged 80 = .ok (.iaload, 1) := by decide +kernel
theorem dX9_isForged_81 : decode cX9_isForged 81 = .ok (.aload_n 0, 1) := by decide +kernel
theorem dX9_isForged_82 : decode cX9_isForged 82 = .ok (.getfield 66, 3) := by decide +kernel
theorem dX9_isForged_85 : decode cX9_isForged 85 = .ok (.iload 4, 2) := by decide +kernel
theorem dX9_isForged_87 : decode cX9_isForged 87 = .ok (.iaload, 1) := by decide +kernel
theorem dX9_isForged_88 : decode cX9_isForged 88 = .ok (.invokevirtual 224, 3) := by decide +kernel
theorem dX9_isForged_91 : decode cX9_isForged 91 = .ok (.ifCond .ne 7, 3) := by decide +kernel
theorem dX9_isForged_94 : decode cX9_isForged 94 = .ok (.iconst 1, 1) := by decide +kernel
theorem dX9_isForged_95 : decode cX9_isForged 95 = .ok (.goto 4, 3) := by decide +kernel
theorem dX9_isForged_98 : decode cX9_isForged 98 = .ok (.iconst 0, 1) := by decide +kernel
theorem dX9_isForged_99 : decode cX9_isForged 99 = .ok (.istore_n 2, 1) := by decide +kernel
theorem dX9_isForged_100 : decode cX9_isForged 100 = .ok (.iinc 4 1, 3) := by decide +kernel
theorem dX9_isForged_103 : decode cX9_isForged 103 = .ok (.goto (-88), 3) := by decide +kernel
theorem dX9_isForged_106 : decode cX9_isForged 106 = .ok (.iinc 3 1, 3) := by decide +kernel
theorem dX9_isForged_109 : decode cX9_isForged 109 = .ok (.goto (-105), 3) := by decide +kernel
theorem dX9_isForged_112 : decode cX9_isForged 112 = .ok (.iload_n 2, 1) := by decide +kernel
theorem dX9_isForged_113 : decode cX9_isForged 113 = .ok (.ireturn, 1) := by decide +kernel
theorem dX9_forged_0 : decode cX9_forged 0 = .ok (.aload_n 0, 1) := by decide +kernel
theorem dX9_forged_1 : decode cX9_forged 1 = .ok (.iconst 0, 1) := by decide +kernel
theorem dX9_forged_2 : decode cX9_forged 2 = .ok (.putfield 87, 3) := by decide +kernel
theorem dX9_forged_5 : decode cX9_forged 5 = .ok (.iconst 0, 1) := by decide +kernel
theorem dX9_forged_6 : decode cX9_forged 6 = .ok (.istore_n 1, 1) := by decide +kernel
theorem dX9_forged_7 : decode cX9_forged 7 = .ok (.iconst 0, 1) := by decide +kernel
theorem dX9_forged_8 : decode cX9_forged 8 = .ok (.istore_n 2, 1) := by decide +kernel
theorem dX9_forged_9 : decode cX9_forged 9 = .ok (.iload_n 2, 1) := by decide +kernel
theorem dX9_forged_10 : decode cX9_forged 10 = .ok (.bipush 100, 2) := by decide +kernel
theorem dX9_forged_12 : decode cX9_forged 12 = .ok (.if_icmp .ge 25, 3) := by decide +kernel
theorem dX9_forged_15 : decode cX9_forged 15 = .ok (.iload_n 1, 1) := by decide +kernel
theorem dX9_forged_16 : decode cX9_forged 16 = .ok (.aload_n 0, 1) := by decide +kernel
theorem dX9_forged_17 : decode cX9_forged 17 = .ok (.iload_n 2, 1) := by decide +kernel
theorem dX9_forged_18 : decode cX9_forged 18 = .ok (.invokevirtual 227, 3) := by decide +kernel
theorem dX9_forged_21 : decode cX9_forged 21 = .ok (.ifCond .eq 7, 3) := by decide +kernel
theorem dX9_forged_24 : decode cX9_forged 24 = .ok (.iconst 1, 1) := by decide +kernel
theorem dX9_forged_25 : decode cX9_forged 25 = .ok (.goto 4, 3) := by decide +kernel
theorem dX9_forged_28 : decode cX9_forged 28 = .ok (.iconst 0, 1) := by decide +kernel
theorem dX9_forged_29 : decode cX9_forged 29 = .ok (.iadd, 1) := by decide +kernel
theorem dX9_forged_30 : decode cX9_forged 30 = .ok (.istore_n 1, 1) := by decide +kernel
theorem dX9_forged_31 : decode cX9_forged 31 = .ok (.iinc 2 1, 3) := by decide +kernel
theorem dX9_forged_34 : decode cX9_forged 34 = .ok (.goto (-25), 3) := by decide +kernel
theorem dX9_forged_37 : decode cX9_forged 37 = .ok (.iload_n 1, 1) := by decide +kernel
theorem dX9_forged_38 : decode cX9_forged 38 = .ok (.ireturn, 1) := by decide +kernel
theorem dX9_forgedAt_0 : decode cX9_forgedAt 0 = .ok (.aload_n 0, 1) := by decide +kernel
theorem dX9_forgedAt_1 : decode cX9_forgedAt 1 = .ok (.iconst 0, 1) := by decide +kernel
theorem dX9_forgedAt_2 : decode cX9_forgedAt 2 = .ok (.putfield 87, 3) := by decide +kernel
theorem dX9_forgedAt_5 : decode cX9_forgedAt 5 = .ok (.iload_n 1, 1) := by decide +kernel
theorem dX9_forgedAt_6 : decode cX9_forgedAt 6 = .ok (.istore_n 2, 1) := by decide +kernel
theorem dX9_forgedAt_7 : decode cX9_forgedAt 7 = .ok (.iconst 0, 1) := by decide +kernel
theorem dX9_forgedAt_8 : decode cX9_forgedAt 8 = .ok (.istore_n 3, 1) := by decide +kernel
theorem dX9_forgedAt_9 : decode cX9_forgedAt 9 = .ok (.iload_n 3, 1) := by decide +kernel
theorem dX9_forgedAt_10 : decode cX9_forgedAt 10 = .ok (.bipush 100, 2) := by decide +kernel
theorem dX9_forgedAt_12 : decode cX9_forgedAt 12 = .ok (.if_icmp .ge 30, 3) := by decide +kernel
theorem dX9_forgedAt_15 : decode cX9_forgedAt 15 = .ok (.iload_n 1, 1) := by decide +kernel
theorem dX9_forgedAt_16 : decode cX9_forgedAt 16 = .ok (.ifCond .lt 26, 3) := by decide +kernel
theorem dX9_forgedAt_19 : decode cX9_forgedAt 19 = .ok (.aload_n 0, 1) := by decide +kernel
theorem dX9_forgedAt_20 : decode cX9_forgedAt 20 = .ok (.iload_n 3, 1) := by decide +kernel
theorem dX9_forgedAt_21 : decode cX9_forgedAt 21 = .ok (.invokevirtual 227, 3) := by decide +kernel
theorem dX9_forgedAt_24 : decode cX9_forgedAt 24 = .ok (.ifCond .eq 12, 3) := by decide +kernel
theorem dX9_forgedAt_27 : decode cX9_forgedAt 27 = .ok (.iload_n 2, 1) := by decide +kernel
theorem dX9_forgedAt_28 : decode cX9_forgedAt 28 = .ok (.ifCond .ne 5, 3) := by decide +kernel
theorem dX9_forgedAt_31 : decode cX9_forgedAt 31 = .ok (.iload_n 3, 1) := by decide +kernel
theorem dX9_forgedAt_32 : decode cX9_forgedAt 32 = .ok (.ireturn, 1) := by decide +kernel
theorem dX9_forgedAt_33 : decode cX9_forgedAt 33 = .ok (.iinc 2 (-1), 3) := by decide +kernel
theorem dX9_forgedAt_36 : decode cX9_forgedAt 36 = .ok (.iinc 3 1, 3) := by decide +kernel
theorem dX9_forgedAt_39 : decode cX9_forgedAt 39 = .ok (.goto (-30), 3) := by decide +kernel
theorem dX9_forgedAt_42 : decode cX9_forgedAt 42 = .ok (.bipush (-9), 2) := by decide +kernel
theorem dX9_forgedAt_44 : decode cX9_forgedAt 44 = .ok (.ireturn, 1) := by decide +kernel
theorem dX9_forgers_0 : decode cX9_forgers 0 = .ok (.aload_n 0, 1) := by decide +kernel
theorem dX9_forgers_1 : decode cX9_forgers 1 = .ok (.iconst 0, 1) := by decide +kernel
theorem dX9_forgers_2 : decode cX9_forgers 2 = .ok (.putfield 87, 3) := by decide +kernel
theorem dX9_forgers_5 : decode cX9_forgers 5 = .ok (.iconst 0, 1) := by decide +kernel
theorem dX9_forgers_6 : decode cX9_forgers 6 = .ok (.istore_n 1, 1) := by decide +kernel
theorem dX9_forgers_7 : decode cX9_forgers 7 = .ok (.iconst 0, 1) := by decide +kernel
theorem dX9_forgers_8 : decode cX9_forgers 8 = .ok (.istore_n 2, 1) := by decide +kernel
theorem dX9_forgers_9 : decode cX9_forgers 9 = .ok (.iload_n 2, 1) := by decide +kernel
theorem dX9_forgers_10 : decode cX9_forgers 10 = .ok (.aload_n 0, 1) := by decide +kernel
theorem dX9_forgers_11 : decode cX9_forgers 11 = .ok (.getfield 151, 3) := by decide +kernel
theorem dX9_forgers_14 : decode cX9_forgers 14 = .ok (.if_icmp .ge 50, 3) := by decide +kernel
theorem dX9_forgers_17 : decode cX9_forgers 17 = .ok (.iload_n 1, 1) := by decide +kernel
theorem dX9_forgers_18 : decode cX9_forgers 18 = .ok (.aload_n 0, 1) := by decide +kernel
theorem dX9_forgers_19 : decode cX9_forgers 19 = .ok (.aload_n 0, 1) := by decide +kernel
theorem dX9_forgers_20 : decode cX9_forgers 20 = .ok (.getfield 63, 3) := by decide +kernel
theorem dX9_forgers_23 : decode cX9_forgers 23 = .ok (.iload_n 2, 1) := by decide +kernel
theorem dX9_forgers_24 : decode cX9_forgers 24 = .ok (.iaload, 1) := by decide +kernel
theorem dX9_forgers_25 : decode cX9_forgers 25 = .ok (.invokevirtual 227, 3) := by decide +kernel
theorem dX9_forgers_28 : decode cX9_forgers 28 = .ok (.ifCond .eq 27, 3) := by decide +kernel
theorem dX9_forgers_31 : decode cX9_forgers 31 = .ok (.aload_n 0, 1) := by decide +kernel
theorem dX9_forgers_32 : decode cX9_forgers 32 = .ok (.aload_n 0, 1) := by decide +kernel
theorem dX9_forgers_33 : decode cX9_forgers 33 = .ok (.getfield 66, 3) := by decide +kernel
theorem dX9_forgers_36 : decode cX9_forgers 36 = .ok (.iload_n 2, 1) := by decide +kernel
theorem dX9_forgers_37 : decode cX9_forgers 37 = .ok (.iaload, 1) := by decide +kernel
theorem dX9_forgers_38 : decode cX9_forgers 38 = .ok (.invokevirtual 154, 3) := by decide +kernel
theorem dX9_forgers_41 : decode cX9_forgers 41 = .ok (.ifCond .ne 14, 3) := by decide +kernel
theorem dX9_forgers_44 : decode cX9_forgers 44 = .ok (.iconst 1, 1) := by decide +kernel
theorem dX9_forgers_45 : decode cX9_forgers 45 = .ok (.aload_n 0, 1) := by decide +kernel
theorem dX9_forgers_46 : decode cX9_forgers 46 = .ok (.getfield 66, 3) := by decide +kernel
theorem dX9_forgers_49 : decode cX9_forgers 49 = .ok (.iload_n 2, 1) := by decide +kernel
theorem dX9_forgers_50 : decode cX9_forgers 50 = .ok (.iaload, 1) := by decide +kernel
theorem dX9_forgers_51 : decode cX9_forgers 51 = .ok (.ishl, 1) := by decide +kernel
theorem dX9_forgers_52 : decode cX9_forgers 52 = .ok (.goto 4, 3) := by decide +kernel
theorem dX9_forgers_55 : decode cX9_forgers 55 = .ok (.iconst 0, 1) := by decide +kernel
theorem dX9_forgers_56 : decode cX9_forgers 56 = .ok (.ior, 1) := by decide +kernel
theorem dX9_forgers_57 : decode cX9_forgers 57 = .ok (.istore_n 1, 1) := by decide +kernel
theorem dX9_forgers_58 : decode cX9_forgers 58 = .ok (.iinc 2 1, 3) := by decide +kernel
theorem dX9_forgers_61 : decode cX9_forgers 61 = .ok (.goto (-52), 3) := by decide +kernel
theorem dX9_forgers_64 : decode cX9_forgers 64 = .ok (.iload_n 1, 1) := by decide +kernel
theorem dX9_forgers_65 : decode cX9_forgers 65 = .ok (.ireturn, 1) := by decide +kernel
theorem dX9_keep_0 : decode cX9_keep 0 = .ok (.aload_n 0, 1) := by decide +kernel
theorem dX9_keep_1 : decode cX9_keep 1 = .ok (.iconst 0, 1) := by decide +kernel
theorem dX9_keep_2 : decode cX9_keep 2 = .ok (.putfield 87, 3) := by decide +kernel
theorem dX9_keep_5 : decode cX9_keep 5 = .ok (.iload_n 1, 1) := by decide +kernel
theorem dX9_keep_6 : decode cX9_keep 6 = .ok (.i2l, 1) := by decide +kernel
theorem dX9_keep_7 : decode cX9_keep 7 = .ok (.lconst 0, 1) := by decide +kernel
theorem dX9_keep_8 : decode cX9_keep 8 = .ok (.lconst 1, 1) := by decide +kernel
theorem dX9_keep_9 : decode cX9_keep 9 = .ok (.invokestatic 93, 3) := by decide +kernel
theorem dX9_keep_12 : decode cX9_keep 12 = .ok (.ifCond .ne 5, 3) := by decide +kernel
theorem dX9_keep_15 : decode cX9_keep 15 = .ok (.iconst (-1), 1) := by decide +kernel
theorem dX9_keep_16 : decode cX9_keep 16 = .ok (.ireturn, 1) := by decide +kernel
theorem dX9_keep_17 : decode cX9_keep 17 = .ok (.aload_n 0, 1) := by decide +kernel
theorem dX9_keep_18 : decode cX9_keep 18 = .ok (.getfield 60, 3) := by decide +kernel
theorem dX9_keep_21 : decode cX9_keep 21 = .ok (.iload_n 1, 1) := by decide +kernel
theorem dX9_keep_22 : decode cX9_keep 22 = .ok (.iconst 1, 1) := by decide +kernel
theorem dX9_keep_23 : decode cX9_keep 23 = .ok (.bastore, 1) := by decide +kernel
theorem dX9_keep_24 : decode cX9_keep 24 = .ok (.bipush 42, 2) := by decide +kernel
theorem dX9_keep_26 : decode cX9_keep 26 = .ok (.iload_n 1, 1) := by decide +kernel
theorem dX9_keep_27 : decode cX9_keep 27 = .ok (.imul, 1) := by decide +kernel
theorem dX9_keep_28 : decode cX9_keep 28 = .ok (.istore_n 2, 1) := by decide +kernel
theorem dX9_keep_29 : decode cX9_keep 29 = .ok (.aload_n 0, 1) := by decide +kernel
theorem dX9_keep_30 : decode cX9_keep 30 = .ok (.aload_n 0, 1) := by decide +kernel
theorem dX9_keep_31 : decode cX9_keep 31 = .ok (.getfield 57, 3) := by decide +kernel
theorem dX9_keep_34 : decode cX9_keep 34 = .ok (.iload_n 2, 1) := by decide +kernel
theorem dX9_keep_35 : decode cX9_keep 35 = .ok (.invokevirtual 176, 3) := by decide +kernel
theorem dX9_keep_38 : decode cX9_keep 38 = .ok (.iconst 0, 1) := by decide +kernel
theorem dX9_keep_39 : decode cX9_keep 39 = .ok (.istore_n 3, 1) := by decide +kernel
theorem dX9_keep_40 : decode cX9_keep 40 = .ok (.iload_n 3, 1) := by decide +kernel
theorem dX9_keep_41 : decode cX9_keep 41 = .ok (.iconst 5, 1) := by decide +kernel
theorem dX9_keep_42 : decode cX9_keep 42 = .ok (.if_icmp .ge 34, 3) := by decide +kernel
theorem dX9_keep_45 : decode cX9_keep 45 = .ok (.aload_n 0, 1) := by decide +kernel
theorem dX9_keep_46 : decode cX9_keep 46 = .ok (.getfield 57, 3) := by decide +kernel
theorem dX9_keep_49 : decode cX9_keep 49 = .ok (.iload_n 2, 1) := by decide +kernel
theorem dX9_keep_50 : decode cX9_keep 50 = .ok (.bipush 27, 2) := by decide +kernel
theorem dX9_keep_52 : decode cX9_keep 52 = .ok (.iadd, 1) := by decide +kernel
theorem dX9_keep_53 : decode cX9_keep 53 = .ok (.iload_n 3, 1) := by decide +kernel
theorem dX9_keep_54 : decode cX9_keep 54 = .ok (.iadd, 1) := by decide +kernel
theorem dX9_keep_55 : decode cX9_keep 55 = .ok (.aload_n 0, 1) := by decide +kernel
theorem dX9_keep_56 : decode cX9_keep 56 = .ok (.getfield 30, 3) := by decide +kernel
theorem dX9_keep_59 : decode cX9_keep 59 = .ok (.iload_n 3, 1) := by decide +kernel
theorem dX9_keep_60 : decode cX9_keep 60 = .ok (.baload, 1) := by decide +kernel
theorem dX9_keep_61 : decode cX9_keep 61 = .ok (.ifCond .eq 7, 3) := by decide +kernel
theorem dX9_keep_64 : decode cX9_keep 64 = .ok (.iconst 1, 1) := by decide +kernel
theorem dX9_keep_65 : decode cX9_keep 65 = .ok (.goto 4, 3) := by decide +kernel
theorem dX9_keep_68 : decode cX9_keep 68 = .ok (.iconst 0, 1) := by decide +kernel
theorem dX9_keep_69 : decode cX9_keep 69 = .ok (.iastore, 1) := by decide +kernel
theorem dX9_keep_70 : decode cX9_keep 70 = .ok (.iinc 3 1, 3) := by decide +kernel
theorem dX9_keep_73 : decode cX9_keep 73 = .ok (.goto (-33), 3) := by decide +kernel
theorem dX9_keep_76 : decode cX9_keep 76 = .ok (.iconst 0, 1) := by decide +kernel
theorem dX9_keep_77 : decode cX9_keep 77 = .ok (.istore_n 3, 1) := by decide +kernel
theorem dX9_keep_78 : decode cX9_keep 78 = .ok (.iload_n 3, 1) := by decide +kernel
theorem dX9_keep_79 : decode cX9_keep 79 = .ok (.iconst 4, 1) := by decide +kernel
theorem dX9_keep_80 : decode cX9_keep 80 = .ok (.if_icmp .ge 26, 3) := by decide +kernel
theorem dX9_keep_83 : decode cX9_keep 83 = .ok (.aload_n 0, 1) := by decide +kernel
theorem dX9_keep_84 : decode cX9_keep 84 = .ok (.getfield 57, 3) := by decide +kernel
theorem dX9_keep_87 : decode cX9_keep 87 = .ok (.iload_n 2, 1) := by decide +kernel
theorem dX9_keep_88 : decode cX9_keep 88 = .ok (.bipush 32, 2) := by decide +kernel
theorem dX9_keep_90 : decode cX9_keep 90 = .ok (.iadd, 1) := by decide +kernel
theorem dX9_keep_91 : decode cX9_keep 91 = .ok (.iload_n 3, 1) := by decide +kernel
theorem dX9_keep_92 : decode cX9_keep 92 = .ok (.iadd, 1) := by decide +kernel
theorem dX9_keep_93 : decode cX9_keep 93 = .ok (.aload_n 0, 1) := by decide +kernel
theorem dX9_keep_94 : decode cX9_keep 94 = .ok (.getfield 39, 3) := by decide +kernel
theorem dX9_keep_97 : decode cX9_keep 97 = .ok (.iload_n 3, 1) := by decide +kernel
theorem dX9_keep_98 : decode cX9_keep 98 = .ok (.iaload, 1) := by decide +kernel
theorem dX9_keep_99 : decode cX9_keep 99 = .ok (.iastore, 1) := by decide +kernel
theorem dX9_keep_100 : decode cX9_keep 100 = .ok (.iinc 3 1, 3) := by decide +kernel
theorem dX9_keep_103 : decode cX9_keep 103 = .ok (.goto (-25), 3) := by decide +kernel
theorem dX9_keep_106 : decode cX9_keep 106 = .ok (.aload_n 0, 1) := by decide +kernel
theorem dX9_keep_107 : decode cX9_keep 107 = .ok (.getfield 142, 3) := by decide +kernel
theorem dX9_keep_110 : decode cX9_keep 110 = .ok (.ireturn, 1) := by decide +kernel
theorem dX9_again_0 : decode cX9_again 0 = .ok (.aload_n 0, 1) := by decide +kernel
theorem dX9_again_1 : decode cX9_again 1 = .ok (.iconst 0, 1) := by decide +kernel
theorem dX9_again_2 : decode cX9_again 2 = .ok (.putfield 87, 3) := by decide +kernel
theorem dX9_again_5 : decode cX9_again 5 = .ok (.iload_n 1, 1) := by decide +kernel
theorem dX9_again_6 : decode cX9_again 6 = .ok (.i2l, 1) := by decide +kernel
theorem dX9_again_7 : decode cX9_again 7 = .ok (.lconst 0, 1) := by decide +kernel
theorem dX9_again_8 : decode cX9_again 8 = .ok (.lconst 1, 1) := by decide +kernel
theorem dX9_again_9 : decode cX9_again 9 = .ok (.invokestatic 93, 3) := by decide +kernel
theorem dX9_again_12 : decode cX9_again 12 = .ok (.ifCond .ne 5, 3) := by decide +kernel
theorem dX9_again_15 : decode cX9_again 15 = .ok (.iconst (-1), 1) := by decide +kernel
theorem dX9_again_16 : decode cX9_again 16 = .ok (.ireturn, 1) := by decide +kernel
theorem dX9_again_17 : decode cX9_again 17 = .ok (.aload_n 0, 1) := by decide +kernel
theorem dX9_again_18 : decode cX9_again 18 = .ok (.getfield 60, 3) := by decide +kernel
theorem dX9_again_21 : decode cX9_again 21 = .ok (.iload_n 1, 1) := by decide +kernel
theorem dX9_again_22 : decode cX9_again 22 = .ok (.baload, 1) := by decide +kernel
theorem dX9_again_23 : decode cX9_again 23 = .ok (.ifCond .ne 6, 3) := by decide +kernel
theorem dX9_again_26 : decode cX9_again 26 = .ok (.bipush (-3), 2) := by decide +kernel
theorem dX9_again_28 : decode cX9_again 28 = .ok (.ireturn, 1) := by decide +kernel
theorem dX9_again_29 : decode cX9_again 29 = .ok (.bipush 42, 2) := by decide +kernel
theorem dX9_again_31 : decode cX9_again 31 = .ok (.iload_n 1, 1) := by decide +kernel
theorem dX9_again_32 : decode cX9_again 32 = .ok (.imul, 1) := by decide +kernel
theorem dX9_again_33 : decode cX9_again 33 = .ok (.istore_n 2, 1) := by decide +kernel
theorem dX9_again_34 : decode cX9_again 34 = .ok (.aload_n 0, 1) := by decide +kernel
theorem dX9_again_35 : decode cX9_again 35 = .ok (.aload_n 0, 1) := by decide +kernel
theorem dX9_again_36 : decode cX9_again 36 = .ok (.getfield 57, 3) := by decide +kernel
theorem dX9_again_39 : decode cX9_again 39 = .ok (.iload_n 2, 1) := by decide +kernel
theorem dX9_again_40 : decode cX9_again 40 = .ok (.invokevirtual 186, 3) := by decide +kernel
theorem dX9_again_43 : decode cX9_again 43 = .ok (.iconst 0, 1) := by decide +kernel
theorem dX9_again_44 : decode cX9_again 44 = .ok (.istore_n 3, 1) := by decide +kernel
theorem dX9_again_45 : decode cX9_again 45 = .ok (.iload_n 3, 1) := by decide +kernel
theorem dX9_again_46 : decode cX9_again 46 = .ok (.iconst 5, 1) := by decide +kernel
theorem dX9_again_47 : decode cX9_again 47 = .ok (.if_icmp .ge 35, 3) := by decide +kernel
theorem dX9_again_50 : decode cX9_again 50 = .ok (.aload_n 0, 1) := by decide +kernel
theorem dX9_again_51 : decode cX9_again 51 = .ok (.getfield 30, 3) := by decide +kernel
theorem dX9_again_54 : decode cX9_again 54 = .ok (.iload_n 3, 1) := by decide +kernel
theorem dX9_again_55 : decode cX9_again 55 = .ok (.aload_n 0, 1) := by decide +kernel
theorem dX9_again_56 : decode cX9_again 56 = .ok (.getfield 57, 3) := by decide +kernel
theorem dX9_again_59 : decode cX9_again 59 = .ok (.iload_n 2, 1) := by decide +kernel
theorem dX9_again_60 : decode cX9_again 60 = .ok (.bipush 27, 2) := by decide +kernel
theorem dX9_again_62 : decode cX9_again 62 = .ok (.iadd, 1) := by decide +kernel
theorem dX9_again_63 : decode cX9_again 63 = .ok (.iload_n 3, 1) := by decide +kernel
theorem dX9_again_64 : decode cX9_again 64 = .ok (.iadd, 1) := by decide +kernel
theorem dX9_again_65 : decode cX9_again 65 = .ok (.iaload, 1) := by decide +kernel
theorem dX9_again_66 : decode cX9_again 66 = .ok (.iconst 1, 1) := by decide +kernel
theorem dX9_again_67 : decode cX9_again 67 = .ok (.if_icmp .ne 7, 3) := by decide +kernel
theorem dX9_again_70 : decode cX9_again 70 = .ok (.iconst 1, 1) := by decide +kernel
theorem dX9_again_71 : decode cX9_again 71 = .ok (.goto 4, 3) := by decide +kernel
theorem dX9_again_74 : decode cX9_again 74 = .ok (.iconst 0, 1) := by decide +kernel
theorem dX9_again_75 : decode cX9_again 75 = .ok (.bastore, 1) := by decide +kernel
theorem dX9_again_76 : decode cX9_again 76 = .ok (.iinc 3 1, 3) := by decide +kernel
theorem dX9_again_79 : decode cX9_again 79 = .ok (.goto (-34), 3) := by decide +kernel
theorem dX9_again_82 : decode cX9_again 82 = .ok (.iconst 0, 1) := by decide +kernel
theorem dX9_again_83 : decode cX9_again 83 = .ok (.istore_n 3, 1) := by decide +kernel
theorem dX9_again_84 : decode cX9_again 84 = .ok (.iload_n 3, 1) := by decide +kernel
theorem dX9_again_85 : decode cX9_again 85 = .ok (.iconst 4, 1) := by decide +kernel
theorem dX9_again_86 : decode cX9_again 86 = .ok (.if_icmp .ge 26, 3) := by decide +kernel
theorem dX9_again_89 : decode cX9_again 89 = .ok (.aload_n 0, 1) := by decide +kernel
theorem dX9_again_90 : decode cX9_again 90 = .ok (.getfield 39, 3) := by decide +kernel
theorem dX9_again_93 : decode cX9_again 93 = .ok (.iload_n 3, 1) := by decide +kernel
theorem dX9_again_94 : decode cX9_again 94 = .ok (.aload_n 0, 1) := by decide +kernel
theorem dX9_again_95 : decode cX9_again 95 = .ok (.getfield 57, 3) := by decide +kernel
theorem dX9_again_98 : decode cX9_again 98 = .ok (.iload_n 2, 1) := by decide +kernel
theorem dX9_again_99 : decode cX9_again 99 = .ok (.bipush 32, 2) := by decide +kernel
theorem dX9_again_101 : decode cX9_again 101 = .ok (.iadd, 1) := by decide +kernel
theorem dX9_again_102 : decode cX9_again 102 = .ok (.iload_n 3, 1) := by decide +kernel
theorem dX9_again_103 : decode cX9_again 103 = .ok (.iadd, 1) := by decide +kernel
theorem dX9_again_104 : decode cX9_again 104 = .ok (.iaload, 1) := by decide +kernel
theorem dX9_again_105 : decode cX9_again 105 = .ok (.iastore, 1) := by decide +kernel
theorem dX9_again_106 : decode cX9_again 106 = .ok (.iinc 3 1, 3) := by decide +kernel
theorem dX9_again_109 : decode cX9_again 109 = .ok (.goto (-25), 3) := by decide +kernel
theorem dX9_again_112 : decode cX9_again 112 = .ok (.aload_n 0, 1) := by decide +kernel
theorem dX9_again_113 : decode cX9_again 113 = .ok (.iconst 0, 1) := by decide +kernel
theorem dX9_again_114 : decode cX9_again 114 = .ok (.putfield 148, 3) := by decide +kernel
theorem dX9_again_117 : decode cX9_again 117 = .ok (.aload_n 0, 1) := by decide +kernel
theorem dX9_again_118 : decode cX9_again 118 = .ok (.getfield 142, 3) := by decide +kernel
theorem dX9_again_121 : decode cX9_again 121 = .ok (.ireturn, 1) := by decide +kernel
theorem dJ6_bitCount_0f7a4_0 : decode cJ6_bitCount_0f7a4 0 = .ok (.iload_n 0, 1) := by decide +kernel
theorem dJ6_bitCount_0f7a4_1 : decode cJ6_bitCount_0f7a4 1 = .ok (.iload_n 0, 1) := by decide +kernel
theorem dJ6_bitCount_0f7a4_2 : decode cJ6_bitCount_0f7a4 2 = .ok (.iconst 1, 1) := by decide +kernel
theorem dJ6_bitCount_0f7a4_3 : decode cJ6_bitCount_0f7a4 3 = .ok (.iushr, 1) := by decide +kernel
theorem dJ6_bitCount_0f7a4_4 : decode cJ6_bitCount_0f7a4 4 = .ok (.ldc_w 265, 3) := by decide +kernel
theorem dJ6_bitCount_0f7a4_7 : decode cJ6_bitCount_0f7a4 7 = .ok (.iand, 1) := by decide +kernel
theorem dJ6_bitCount_0f7a4_8 : decode cJ6_bitCount_0f7a4 8 = .ok (.isub, 1) := by decide +kernel
theorem dJ6_bitCount_0f7a4_9 : decode cJ6_bitCount_0f7a4 9 = .ok (.istore_n 0, 1) := by decide +kernel
theorem dJ6_bitCount_0f7a4_10 : decode cJ6_bitCount_0f7a4 10 = .ok (.iload_n 0, 1) := by decide +kernel
theorem dJ6_bitCount_0f7a4_11 : decode cJ6_bitCount_0f7a4 11 = .ok (.ldc_w 266, 3) := by decide +kernel
theorem dJ6_bitCount_0f7a4_14 : decode cJ6_bitCount_0f7a4 14 = .ok (.iand, 1) := by decide +kernel
theorem dJ6_bitCount_0f7a4_15 : decode cJ6_bitCount_0f7a4 15 = .ok (.iload_n 0, 1) := by decide +kernel
theorem dJ6_bitCount_0f7a4_16 : decode cJ6_bitCount_0f7a4 16 = .ok (.iconst 2, 1) := by decide +kernel
theorem dJ6_bitCount_0f7a4_17 : decode cJ6_bitCount_0f7a4 17 = .ok (.iushr, 1) := by decide +kernel
theorem dJ6_bitCount_0f7a4_18 : decode cJ6_bitCount_0f7a4 18 = .ok (.ldc_w 266, 3) := by decide +kernel
theorem dJ6_bitCount_0f7a4_21 : decode cJ6_bitCount_0f7a4 21 = .ok (.iand, 1) := by decide +kernel
theorem dJ6_bitCount_0f7a4_22 : decode cJ6_bitCount_0f7a4 22 = .ok (.iadd, 1) := by decide +kernel
theorem dJ6_bitCount_0f7a4_23 : decode cJ6_bitCount_0f7a4 23 = .ok (.istore_n 0, 1) := by decide +kernel
theorem dJ6_bitCount_0f7a4_24 : decode cJ6_bitCount_0f7a4 24 = .ok (.iload_n 0, 1) := by decide +kernel
theorem dJ6_bitCount_0f7a4_25 : decode cJ6_bitCount_0f7a4 25 = .ok (.iload_n 0, 1) := by decide +kernel
theorem dJ6_bitCount_0f7a4_26 : decode cJ6_bitCount_0f7a4 26 = .ok (.iconst 4, 1) := by decide +kernel
theorem dJ6_bitCount_0f7a4_27 : decode cJ6_bitCount_0f7a4 27 = .ok (.iushr, 1) := by decide +kernel
theorem dJ6_bitCount_0f7a4_28 : decode cJ6_bitCount_0f7a4 28 = .ok (.iadd, 1) := by decide +kernel
theorem dJ6_bitCount_0f7a4_29 : decode cJ6_bitCount_0f7a4 29 = .ok (.ldc_w 267, 3) := by decide +kernel
theorem dJ6_bitCount_0f7a4_32 : decode cJ6_bitCount_0f7a4 32 = .ok (.iand, 1) := by decide +kernel
theorem dJ6_bitCount_0f7a4_33 : decode cJ6_bitCount_0f7a4 33 = .ok (.istore_n 0, 1) := by decide +kernel
theorem dJ6_bitCount_0f7a4_34 : decode cJ6_bitCount_0f7a4 34 = .ok (.iload_n 0, 1) := by decide +kernel
theorem dJ6_bitCount_0f7a4_35 : decode cJ6_bitCount_0f7a4 35 = .ok (.iload_n 0, 1) := by decide +kernel
theorem dJ6_bitCount_0f7a4_36 : decode cJ6_bitCount_0f7a4 36 = .ok (.bipush 8, 2) := by decide +kernel
theorem dJ6_bitCount_0f7a4_38 : decode cJ6_bitCount_0f7a4 38 = .ok (.iushr, 1) := by decide +kernel
theorem dJ6_bitCount_0f7a4_39 : decode cJ6_bitCount_0f7a4 39 = .ok (.iadd, 1) := by decide +kernel
theorem dJ6_bitCount_0f7a4_40 : decode cJ6_bitCount_0f7a4 40 = .ok (.istore_n 0, 1) := by decide +kernel
theorem dJ6_bitCount_0f7a4_41 : decode cJ6_bitCount_0f7a4 41 = .ok (.iload_n 0, 1) := by decide +kernel
theorem dJ6_bitCount_0f7a4_42 : decode cJ6_bitCount_0f7a4 42 = .ok (.iload_n 0, 1) := by decide +kernel
theorem dJ6_bitCount_0f7a4_43 : decode cJ6_bitCount_0f7a4 43 = .ok (.bipush 16, 2) := by decide +kernel
theorem dJ6_bitCount_0f7a4_45 : decode cJ6_bitCount_0f7a4 45 = .ok (.iushr, 1) := by decide +kernel
theorem dJ6_bitCount_0f7a4_46 : decode cJ6_bitCount_0f7a4 46 = .ok (.iadd, 1) := by decide +kernel
theorem dJ6_bitCount_0f7a4_47 : decode cJ6_bitCount_0f7a4 47 = .ok (.istore_n 0, 1) := by decide +kernel
theorem dJ6_bitCount_0f7a4_48 : decode cJ6_bitCount_0f7a4 48 = .ok (.iload_n 0, 1) := by decide +kernel
theorem dJ6_bitCount_0f7a4_49 : decode cJ6_bitCount_0f7a4 49 = .ok (.bipush 63, 2) := by decide +kernel
theorem dJ6_bitCount_0f7a4_51 : decode cJ6_bitCount_0f7a4 51 = .ok (.iand, 1) := by decide +kernel
theorem dJ6_bitCount_0f7a4_52 : decode cJ6_bitCount_0f7a4 52 = .ok (.ireturn, 1) := by decide +kernel
theorem dJ9_max_7cf53_0 : decode cJ9_max_7cf53 0 = .ok (.iload_n 0, 1) := by decide +kernel
theorem dJ9_max_7cf53_1 : decode cJ9_max_7cf53 1 = .ok (.iload_n 1, 1) := by decide +kernel
theorem dJ9_max_7cf53_2 : decode cJ9_max_7cf53 2 = .ok (.if_icmp .lt 7, 3) := by decide +kernel
theorem dJ9_max_7cf53_5 : decode cJ9_max_7cf53 5 = .ok (.iload_n 0, 1) := by decide +kernel
theorem dJ9_max_7cf53_6 : decode cJ9_max_7cf53 6 = .ok (.goto 4, 3) := by decide +kernel
theorem dJ9_max_7cf53_9 : decode cJ9_max_7cf53 9 = .ok (.iload_n 1, 1) := by decide +kernel
theorem dJ9_max_7cf53_10 : decode cJ9_max_7cf53 10 = .ok (.ireturn, 1) := by decide +kernel
theorem dJ9_min_7cf53_0 : decode cJ9_min_7cf53 0 = .ok (.iload_n 0, 1) := by decide +kernel
theorem dJ9_min_7cf53_1 : decode cJ9_min_7cf53 1 = .ok (.iload_n 1, 1) := by decide +kernel
theorem dJ9_min_7cf53_2 : decode cJ9_min_7cf53 2 = .ok (.if_icmp .gt 7, 3) := by decide +kernel
theorem dJ9_min_7cf53_5 : decode cJ9_min_7cf53 5 = .ok (.iload_n 0, 1) := by decide +kernel
theorem dJ9_min_7cf53_6 : decode cJ9_min_7cf53 6 = .ok (.goto 4, 3) := by decide +kernel
theorem dJ9_min_7cf53_9 : decode cJ9_min_7cf53 9 = .ok (.iload_n 1, 1) := by decide +kernel
theorem dJ9_min_7cf53_10 : decode cJ9_min_7cf53 10 = .ok (.ireturn, 1) := by decide +kernel
theorem dJ7_fill_53178_0 : decode cJ7_fill_53178 0 = .ok (.iconst 0, 1) := by decide +kernel
theorem dJ7_fill_53178_1 : decode cJ7_fill_53178 1 = .ok (.istore_n 2, 1) := by decide +kernel
theorem dJ7_fill_53178_2 : decode cJ7_fill_53178 2 = .ok (.aload_n 0, 1) := by decide +kernel
theorem dJ7_fill_53178_3 : decode cJ7_fill_53178 3 = .ok (.arraylength, 1) := by decide +kernel
theorem dJ7_fill_53178_4 : decode cJ7_fill_53178 4 = .ok (.istore_n 3, 1) := by decide +kernel
theorem dJ7_fill_53178_5 : decode cJ7_fill_53178 5 = .ok (.iload_n 2, 1) := by decide +kernel
theorem dJ7_fill_53178_6 : decode cJ7_fill_53178 6 = .ok (.iload_n 3, 1) := by decide +kernel
theorem dJ7_fill_53178_7 : decode cJ7_fill_53178 7 = .ok (.if_icmp .ge 13, 3) := by decide +kernel
theorem dJ7_fill_53178_10 : decode cJ7_fill_53178 10 = .ok (.aload_n 0, 1) := by decide +kernel
theorem dJ7_fill_53178_11 : decode cJ7_fill_53178 11 = .ok (.iload_n 2, 1) := by decide +kernel
theorem dJ7_fill_53178_12 : decode cJ7_fill_53178 12 = .ok (.iload_n 1, 1) := by decide +kernel
theorem dJ7_fill_53178_13 : decode cJ7_fill_53178 13 = .ok (.iastore, 1) := by decide +kernel
theorem dJ7_fill_53178_14 : decode cJ7_fill_53178 14 = .ok (.iinc 2 1, 3) := by decide +kernel
theorem dJ7_fill_53178_17 : decode cJ7_fill_53178 17 = .ok (.goto (-12), 3) := by decide +kernel
theorem dJ7_fill_53178_20 : decode cJ7_fill_53178 20 = .ok (.return_, 1) := by decide +kernel
theorem dL_law_0 : decode cL_law 0 = .ok (.new 7, 3) := by decide +kernel
theorem dL_law_3 : decode cL_law 3 = .ok (.dup, 1) := by decide +kernel
theorem dL_law_4 : decode cL_law 4 = .ok (.invokespecial 9, 3) := by decide +kernel
theorem dL_law_7 : decode cL_law 7 = .ok (.astore_n 1, 1) := by decide +kernel
theorem dL_law_8 : decode cL_law 8 = .ok (.new 10, 3) := by decide +kernel
theorem dL_law_11 : decode cL_law 11 = .ok (.dup, 1) := by decide +kernel
theorem dL_law_12 : decode cL_law 12 = .ok (.invokespecial 12, 3) := by decide +kernel
theorem dL_law_15 : decode cL_law 15 = .ok (.astore_n 2, 1) := by decide +kernel
theorem dL_law_16 : decode cL_law 16 = .ok (.iconst 0, 1) := by decide +kernel
theorem dL_law_17 : decode cL_law 17 = .ok (.istore_n 3, 1) := by decide +kernel
theorem dL_law_18 : decode cL_law 18 = .ok (.iload_n 3, 1) := by decide +kernel
theorem dL_law_19 : decode cL_law 19 = .ok (.aload_n 0, 1) := by decide +kernel
theorem dL_law_20 : decode cL_law 20 = .ok (.arraylength, 1) := by decide +kernel
theorem dL_law_21 : decode cL_law 21 = .ok (.iconst 4, 1) := by decide +kernel
theorem dL_law_22 : decode cL_law 22 = .ok (.isub, 1) := by decide +kernel
theorem dL_law_23 : decode cL_law 23 = .ok (.if_icmp .gt 859, 3) := by decide +kernel
theorem dL_law_26 : decode cL_law 26 = .ok (.aload_n 0, 1) := by decide +kernel
theorem dL_law_27 : decode cL_law 27 = .ok (.iload_n 3, 1) := by decide +kernel
theorem dL_law_28 : decode cL_law 28 = .ok (.iaload, 1) := by decide +kernel
theorem dL_law_29 : decode cL_law 29 = .ok (.bipush 31, 2) := by decide +kernel
theorem dL_law_31 : decode cL_law 31 = .ok (.iand, 1) := by decide +kernel
theorem dL_law_32 : decode cL_law 32 = .ok (.tableswitch 844 0 26 #[124, 187, 200, 213, 226, 249, 282, 331, 374, 407, 430, 453, 466, 479, 502, 535, 548, 608, 641, 654, 693, 736, 749, 762, 785, 798, 821], 124) := by decide +kernel
theorem dL_law_156 : decode cL_law 156 = .ok (.aload_n 1, 1) := by decide +kernel
theorem dL_law_157 : decode cL_law 157 = .ok (.aload_n 0, 1) := by decide +kernel
theorem dL_law_158 : decode cL_law 158 = .ok (.iload_n 3, 1) := by decide +kernel
theorem dL_law_159 : decode cL_law 159 = .ok (.iconst 1, 1) := by decide +kernel
theorem dL_law_160 : decode cL_law 160 = .ok (.iadd, 1) := by decide +kernel
theorem dL_law_161 : decode cL_law 161 = .ok (.iaload, 1) := by decide +kernel
theorem dL_law_162 : decode cL_law 162 = .ok (.aload_n 0, 1) := by decide +kernel
theorem dL_law_163 : decode cL_law 163 = .ok (.iload_n 3, 1) := by decide +kernel
theorem dL_law_164 : decode cL_law 164 = .ok (.iconst 2, 1) := by decide +kernel
theorem dL_law_165 : decode cL_law 165 = .ok (.iadd, 1) := by decide +kernel
theorem dL_law_166 : decode cL_law 166 = .ok (.iaload, 1) := by decide +kernel
theorem dL_law_167 : decode cL_law 167 = .ok (.i2l, 1) := by decide +kernel
theorem dL_law_168 : decode cL_law 168 = .ok (.bipush 32, 2) := by decide +kernel
theorem dL_law_170 : decode cL_law 170 = .ok (.lshl, 1) := by decide +kernel
theorem dL_law_171 : decode cL_law 171 = .ok (.aload_n 0, 1) := by decide +kernel
theorem dL_law_172 : decode cL_law 172 = .ok (.iload_n 3, 1) := by decide +kernel
theorem dL_law_173 : decode cL_law 173 = .ok (.iconst 3, 1) := by decide +kernel
theorem dL_law_174 : decode cL_law 174 = .ok (.iadd, 1) := by decide +kernel
theorem dL_law_175 : decode cL_law 175 = .ok (.iaload, 1) := by decide +kernel
theorem dL_law_176 : decode cL_law 176 = .ok (.i2l, 1) := by decide +kernel
theorem dL_law_177 : decode cL_law 177 = .ok (.ldc2_w 13, 3) := by decide +kernel
theorem dL_law_180 : decode cL_law 180 = .ok (.land, 1) := by decide +kernel
theorem dL_law_181 : decode cL_law 181 = .ok (.lor, 1) := by decide +kernel
theorem dL_law_182 : decode cL_law 182 = .ok (.invokevirtual 15, 3) := by decide +kernel
theorem dL_law_185 : decode cL_law 185 = .ok (.aload_n 2, 1) := by decide +kernel
theorem dL_law_186 : decode cL_law 186 = .ok (.aload_n 0, 1) := by decide +kernel
theorem dL_law_187 : decode cL_law 187 = .ok (.iload_n 3, 1) := by decide +kernel
theorem dL_law_188 : decode cL_law 188 = .ok (.iconst 1, 1) := by decide +kernel
theorem dL_law_189 : decode cL_law 189 = .ok (.iadd, 1) := by decide +kernel
theorem dL_law_190 : decode cL_law 190 = .ok (.iaload, 1) := by decide +kernel
theorem dL_law_191 : decode cL_law 191 = .ok (.aload_n 0, 1) := by decide +kernel
theorem dL_law_192 : decode cL_law 192 = .ok (.iload_n 3, 1) := by decide +kernel
theorem dL_law_193 : decode cL_law 193 = .ok (.iconst 2, 1) := by decide +kernel
theorem dL_law_194 : decode cL_law 194 = .ok (.iadd, 1) := by decide +kernel
theorem dL_law_195 : decode cL_law 195 = .ok (.iaload, 1) := by decide +kernel
theorem dL_law_196 : decode cL_law 196 = .ok (.i2l, 1) := by decide +kernel
theorem dL_law_197 : decode cL_law 197 = .ok (.bipush 32, 2) := by decide +kernel
theorem dL_law_199 : decode cL_law 199 = .ok (.lshl, 1) := by decide +kernel
theorem dL_law_200 : decode cL_law 200 = .ok (.aload_n 0, 1) := by decide +kernel
theorem dL_law_201 : decode cL_law 201 = .ok (.iload_n 3, 1) := by decide +kernel
theorem dL_law_202 : decode cL_law 202 = .ok (.iconst 3, 1) := by decide +kernel
theorem dL_law_203 : decode cL_law 203 = .ok (.iadd, 1) := by decide +kernel
theorem dL_law_204 : decode cL_law 204 = .ok (.iaload, 1) := by decide +kernel
theorem dL_law_205 : decode cL_law 205 = .ok (.i2l, 1) := by decide +kernel
theorem dL_law_206 : decode cL_law 206 = .ok (.ldc2_w 13, 3) := by decide +kernel
theorem dL_law_209 : decode cL_law 209 = .ok (.land, 1) := by decide +kernel
theorem dL_law_210 : decode cL_law 210 = .ok (.lor, 1) := by decide +kernel
theorem dL_law_211 : decode cL_law 211 = .ok (.invokevirtual 19, 3) := by decide +kernel
theorem dL_law_214 : decode cL_law 214 = .ok (.if_icmp .eq 662, 3) := by decide +kernel
theorem dL_law_217 : decode cL_law 217 = .ok (.iconst 0, 1) := by decide +kernel
theorem dL_law_218 : decode cL_law 218 = .ok (.ireturn, 1) := by decide +kernel
theorem dL_law_219 : decode cL_law 219 = .ok (.aload_n 1, 1) := by decide +kernel
theorem dL_law_220 : decode cL_law 220 = .ok (.invokevirtual 20, 3) := by decide +kernel
theorem dL_law_223 : decode cL_law 223 = .ok (.aload_n 2, 1) := by decide +kernel
theorem dL_law_224 : decode cL_law 224 = .ok (.invokevirtual 24, 3) := by decide +kernel
theorem dL_law_227 : decode cL_law 227 = .ok (.if_icmp .eq 649, 3) := by decide +kernel
theorem dL_law_230 : decode cL_law 230 = .ok (.iconst 0, 1) := by decide +kernel
theorem dL_law_231 : decode cL_law 231 = .ok (.ireturn, 1) := by decide +kernel
theorem dL_law_232 : decode cL_law 232 = .ok (.aload_n 1, 1) := by decide +kernel
theorem dL_law_233 : decode cL_law 233 = .ok (.invokevirtual 25, 3) := by decide +kernel
theorem dL_law_236 : decode cL_law 236 = .ok (.aload_n 2, 1) := by decide +kernel
theorem dL_law_237 : decode cL_law 237 = .ok (.invokevirtual 28, 3) := by decide +kernel
theorem dL_law_240 : decode cL_law 240 = .ok (.if_icmp .eq 636, 3) := by decide +kernel
theorem dL_law_243 : decode cL_law 243 = .ok (.iconst 0, 1) := by decide +kernel
theorem dL_law_244 : decode cL_law 244 = .ok (.ireturn, 1) := by decide +kernel
theorem dL_law_245 : decode cL_law 245 = .ok (.aload_n 1, 1) := by decide +kernel
theorem dL_law_246 : decode cL_law 246 = .ok (.invokevirtual 29, 3) := by decide +kernel
theorem dL_law_249 : decode cL_law 249 = .ok (.aload_n 2, 1) := by decide +kernel
theorem dL_law_250 : decode cL_law 250 = .ok (.invokevirtual 32, 3) := by decide +kernel
theorem dL_law_253 : decode cL_law 253 = .ok (.if_icmp .eq 623, 3) := by decide +kernel
theorem dL_law_256 : decode cL_law 256 = .ok (.iconst 0, 1) := by decide +kernel
theorem dL_law_257 : decode cL_law 257 = .ok (.ireturn, 1) := by decide +kernel
theorem dL_law_258 : decode cL_law 258 = .ok (.aload_n 1, 1) := by decide +kernel
theorem dL_law_259 : decode cL_law 259 = .ok (.aload_n 0, 1) := by decide +kernel
theorem dL_law_260 : decode cL_law 260 = .ok (.iload_n 3, 1) := by decide +kernel
theorem dL_law_261 : decode cL_law 261 = .ok (.iconst 1, 1) := by decide +kernel
theorem dL_law_262 : decode cL_law 262 = .ok (.iadd, 1) := by decide +kernel
theorem dL_law_263 : decode cL_law 263 = .ok (.iaload, 1) := by decide +kernel
theorem dL_law_264 : decode cL_law 264 = .ok (.invokevirtual 33, 3) := by decide +kernel
theorem dL_law_267 : decode cL_law 267 = .ok (.aload_n 2, 1) := by decide +kernel
theorem dL_law_268 : decode cL_law 268 = .ok (.aload_n 0, 1) := by decide +kernel
theorem dL_law_269 : decode cL_law 269 = .ok (.iload_n 3, 1) := by decide +kernel
theorem dL_law_270 : decode cL_law 270 = .ok (.iconst 1, 1) := by decide +kernel
theorem dL_law_271 : decode cL_law 271 = .ok (.iadd, 1) := by decide +kernel
theorem dL_law_272 : decode cL_law 272 = .ok (.iaload, 1) := by decide +kernel
theorem dL_law_273 : decode cL_law 273 = .ok (.invokevirtual 37, 3) := by decide +kernel
theorem dL_law_276 : decode cL_law 276 = .ok (.if_icmp .eq 600, 3) := by decide +kernel
theorem dL_law_279 : decode cL_law 279 = .ok (.iconst 0, 1) := by decide +kernel
theorem dL_law_280 : decode cL_law 280 = .ok (.ireturn, 1) := by decide +kernel
theorem dL_law_281 : decode cL_law 281 = .ok (.aload_n 1, 1) := by decide +kernel
theorem dL_law_282 : decode cL_law 282 = .ok (.aload_n 0, 1) := by decide +kernel
theorem dL_law_283 : decode cL_law 283 = .ok (.iload_n 3, 1) := by decide +kernel
theorem dL_law_284 : decode cL_law 284 = .ok (.iconst 1, 1) := by decide +kernel
theorem dL_law_285 : decode cL_law 285 = .ok (.iadd, 1) := by decide +kernel
theorem dL_law_286 : decode cL_law 286 = .ok (.iaload, 1) := by decide +kernel
theorem dL_law_287 : decode cL_law 287 = .ok (.aload_n 0, 1) := by decide +kernel
theorem dL_law_288 : decode cL_law 288 = .ok (.iload_n 3, 1) := by decide +kernel
theorem dL_law_289 : decode cL_law 289 = .ok (.iconst 2, 1) := by decide +kernel
theorem dL_law_290 : decode cL_law 290 = .ok (.iadd, 1) := by decide +kernel
theorem dL_law_291 : decode cL_law 291 = .ok (.iaload, 1) := by decide +kernel
theorem dL_law_292 : decode cL_law 292 = .ok (.invokevirtual 38, 3) := by decide +kernel
theorem dL_law_295 : decode cL_law 295 = .ok (.aload_n 2, 1) := by decide +kernel
theorem dL_law_296 : decode cL_law 296 = .ok (.aload_n 0, 1) := by decide +kernel
theorem dL_law_297 : decode cL_law 297 = .ok (.iload_n 3, 1) := by decide +kernel
theorem dL_law_298 : decode cL_law 298 = .ok (.iconst 1, 1) := by decide +kernel
theorem dL_law_299 : decode cL_law 299 = .ok (.iadd, 1) := by decide +kernel
theorem dL_law_300 : decode cL_law 300 = .ok (.iaload, 1) := by decide +kernel
theorem dL_law_301 : decode cL_law 301 = .ok (.aload_n 0, 1) := by decide +kernel
theorem dL_law_302 : decode cL_law 302 = .ok (.iload_n 3, 1) := by decide +kernel
theorem dL_law_303 : decode cL_law 303 = .ok (.iconst 2, 1) := by decide +kernel
theorem dL_law_304 : decode cL_law 304 = .ok (.iadd, 1) := by decide +kernel
theorem dL_law_305 : decode cL_law 305 = .ok (.iaload, 1) := by decide +kernel
theorem dL_law_306 : decode cL_law 306 = .ok (.invokevirtual 42, 3) := by decide +kernel
theorem dL_law_309 : decode cL_law 309 = .ok (.if_icmp .eq 567, 3) := by decide +kernel
theorem dL_law_312 : decode cL_law 312 = .ok (.iconst 0, 1) := by decide +kernel
theorem dL_law_313 : decode cL_law 313 = .ok (.ireturn, 1) := by decide +kernel
theorem dL_law_314 : decode cL_law 314 = .ok (.aload_n 1, 1) := by decide +kernel
theorem dL_law_315 : decode cL_law 315 = .ok (.aload_n 0, 1) := by decide +kernel
theorem dL_law_316 : decode cL_law 316 = .ok (.iload_n 3, 1) := by decide +kernel
theorem dL_law_317 : decode cL_law 317 = .ok (.iconst 1, 1) := by decide +kernel
theorem dL_law_318 : decode cL_law 318 = .ok (.iadd, 1) := by decide +kernel
theorem dL_law_319 : decode cL_law 319 = .ok (.iaload, 1) := by decide +kernel
theorem dL_law_320 : decode cL_law 320 = .ok (.aload_n 0, 1) := by decide +kernel
theorem dL_law_321 : decode cL_law 321 = .ok (.iload_n 3, 1) := by decide +kernel
theorem dL_law_322 : decode cL_law 322 = .ok (.iconst 2, 1) := by decide +kernel
theorem dL_law_323 : decode cL_law 323 = .ok (.iadd, 1) := by decide +kernel
theorem dL_law_324 : decode cL_law 324 = .ok (.iaload, 1) := by decide +kernel
theorem dL_law_325 : decode cL_law 325 = .ok (.ifCond .eq 7, 3) := by decide +kernel
theorem dL_law_328 : decode cL_law 328 = .ok (.iconst 1, 1) := by decide +kernel
theorem dL_law_329 : decode cL_law 329 = .ok (.goto 4, 3) := by decide +kernel
theorem dL_law_332 : decode cL_law 332 = .ok (.iconst 0, 1) := by decide +kernel
theorem dL_law_333 : decode cL_law 333 = .ok (.invokevirtual 43, 3) := by decide +kernel
theorem dL_law_336 : decode cL_law 336 = .ok (.aload_n 2, 1) := by decide +kernel
theorem dL_law_337 : decode cL_law 337 = .ok (.aload_n 0, 1) := by decide +kernel
theorem dL_law_338 : decode cL_law 338 = .ok (.iload_n 3, 1) := by decide +kernel
theorem dL_law_339 : decode cL_law 339 = .ok (.iconst 1, 1) := by decide +kernel
theorem dL_law_340 : decode cL_law 340 = .ok (.iadd, 1) := by decide +kernel
theorem dL_law_341 : decode cL_law 341 = .ok (.iaload, 1) := by decide +kernel
theorem dL_law_342 : decode cL_law 342 = .ok (.aload_n 0, 1) := by decide +kernel
theorem dL_law_343 : decode cL_law 343 = .ok (.iload_n 3, 1) := by decide +kernel
theorem dL_law_344 : decode cL_law 344 = .ok (.iconst 2, 1) := by decide +kernel
theorem dL_law_345 : decode cL_law 345 = .ok (.iadd, 1) := by decide +kernel
theorem dL_law_346 : decode cL_law 346 = .ok (.iaload, 1) := by decide +kernel
theorem dL_law_347 : decode cL_law 347 = .ok (.ifCond .eq 7, 3) := by decide +kernel
theorem dL_law_350 : decode cL_law 350 = .ok (.iconst 1, 1) := by decide +kernel
theorem dL_law_351 : decode cL_law 351 = .ok (.goto 4, 3) := by decide +kernel
theorem dL_law_354 : decode cL_law 354 = .ok (.iconst 0, 1) := by decide +kernel
theorem dL_law_355 : decode cL_law 355 = .ok (.invokevirtual 47, 3) := by decide +kernel
theorem dL_law_358 : decode cL_law 358 = .ok (.if_icmp .eq 518, 3) := by decide +kernel
theorem dL_law_361 : decode cL_law 361 = .ok (.iconst 0, 1) := by decide +kernel
theorem dL_law_362 : decode cL_law 362 = .ok (.ireturn, 1) := by decide +kernel
theorem dL_law_363 : decode cL_law 363 = .ok (.aload_n 1, 1) := by decide +kernel
theorem dL_law_364 : decode cL_law 364 = .ok (.aload_n 0, 1) := by decide +kernel
theorem dL_law_365 : decode cL_law 365 = .ok (.iload_n 3, 1) := by decide +kernel
theorem dL_law_366 : decode cL_law 366 = .ok (.iconst 1, 1) := by decide +kernel
theorem dL_law_367 : decode cL_law 367 = .ok (.iadd, 1) := by decide +kernel
theorem dL_law_368 : decode cL_law 368 = .ok (.iaload, 1) := by decide +kernel
theorem dL_law_369 : decode cL_law 369 = .ok (.aload_n 0, 1) := by decide +kernel
theorem dL_law_370 : decode cL_law 370 = .ok (.iload_n 3, 1) := by decide +kernel
theorem dL_law_371 : decode cL_law 371 = .ok (.iconst 2, 1) := by decide +kernel
theorem dL_law_372 : decode cL_law 372 = .ok (.iadd, 1) := by decide +kernel
theorem dL_law_373 : decode cL_law 373 = .ok (.iaload, 1) := by decide +kernel
theorem dL_law_374 : decode cL_law 374 = .ok (.aload_n 0, 1) := by decide +kernel
theorem dL_law_375 : decode cL_law 375 = .ok (.iload_n 3, 1) := by decide +kernel
theorem dL_law_376 : decode cL_law 376 = .ok (.iconst 3, 1) := by decide +kernel
theorem dL_law_377 : decode cL_law 377 = .ok (.iadd, 1) := by decide +kernel
theorem dL_law_378 : decode cL_law 378 = .ok (.iaload, 1) := by decide +kernel
theorem dL_law_379 : decode cL_law 379 = .ok (.invokevirtual 48, 3) := by decide +kernel
theorem dL_law_382 : decode cL_law 382 = .ok (.aload_n 2, 1) := by decide +kernel
theorem dL_law_383 : decode cL_law 383 = .ok (.aload_n 0, 1) := by decide +kernel
theorem dL_law_384 : decode cL_law 384 = .ok (.iload_n 3, 1) := by decide +kernel
theorem dL_law_385 : decode cL_law 385 = .ok (.iconst 1, 1) := by decide +kernel
theorem dL_law_386 : decode cL_law 386 = .ok (.iadd, 1) := by decide +kernel
theorem dL_law_387 : decode cL_law 387 = .ok (.iaload, 1) := by decide +kernel
theorem dL_law_388 : decode cL_law 388 = .ok (.aload_n 0, 1) := by decide +kernel
theorem dL_law_389 : decode cL_law 389 = .ok (.iload_n 3, 1) := by decide +kernel
theorem dL_law_390 : decode cL_law 390 = .ok (.iconst 2, 1) := by decide +kernel
theorem dL_law_391 : decode cL_law 391 = .ok (.iadd, 1) := by decide +kernel
theorem dL_law_392 : decode cL_law 392 = .ok (.iaload, 1) := by decide +kernel
theorem dL_law_393 : decode cL_law 393 = .ok (.aload_n 0, 1) := by decide +kernel
theorem dL_law_394 : decode cL_law 394 = .ok (.iload_n 3, 1) := by decide +kernel
theorem dL_law_395 : decode cL_law 395 = .ok (.iconst 3, 1) := by decide +kernel
theorem dL_law_396 : decode cL_law 396 = .ok (.iadd, 1) := by decide +kernel
theorem dL_law_397 : decode cL_law 397 = .ok (.iaload, 1) := by decide +kernel
theorem dL_law_398 : decode cL_law 398 = .ok (.invokevirtual 52, 3) := by decide +kernel
theorem dL_law_401 : decode cL_law 401 = .ok (.if_icmp .eq 475, 3) := by decide +kernel
theorem dL_law_404 : decode cL_law 404 = .ok (.iconst 0, 1) := by decide +kernel
theorem dL_law_405 : decode cL_law 405 = .ok (.ireturn, 1) := by decide +kernel
theorem dL_law_406 : decode cL_law 406 = .ok (.aload_n 1, 1) := by decide +kernel
theorem dL_law_407 : decode cL_law 407 = .ok (.aload_n 0, 1) := by decide +kernel
theorem dL_law_408 : decode cL_law 408 = .ok (.iload_n 3, 1) := by decide +kernel
theorem dL_law_409 : decode cL_law 409 = .ok (.iconst 1, 1) := by decide +kernel
theorem dL_law_410 : decode cL_law 410 = .ok (.iadd, 1) := by decide +kernel
theorem dL_law_411 : decode cL_law 411 = .ok (.iaload, 1) := by decide +kernel
theorem dL_law_412 : decode cL_law 412 = .ok (.aload_n 0, 1) := by decide +kernel
theorem dL_law_413 : decode cL_law 413 = .ok (.iload_n 3, 1) := by decide +kernel
theorem dL_law_414 : decode cL_law 414 = .ok (.iconst 2, 1) := by decide +kernel
theorem dL_law_415 : decode cL_law 415 = .ok (.iadd, 1) := by decide +kernel
theorem dL_law_416 : decode cL_law 416 = .ok (.iaload, 1) := by decide +kernel
theorem dL_law_417 : decode cL_law 417 = .ok (.invokevirtual 53, 3) := by decide +kernel
theorem dL_law_420 : decode cL_law 420 = .ok (.aload_n 2, 1) := by decide +kernel
theorem dL_law_421 : decode cL_law 421 = .ok (.aload_n 0, 1) := by decide +kernel
theorem dL_law_422 : decode cL_law 422 = .ok (.iload_n 3, 1) := by decide +kernel
theorem dL_law_423 : decode cL_law 423 = .ok (.iconst 1, 1) := by decide +kernel
theorem dL_law_424 : decode cL_law 424 = .ok (.iadd, 1) := by decide +kernel
theorem dL_law_425 : decode cL_law 425 = .ok (.iaload, 1) := by decide +kernel
theorem dL_law_426 : decode cL_law 426 = .ok (.aload_n 0, 1) := by decide +kernel
theorem dL_law_427 : decode cL_law 427 = .ok (.iload_n 3, 1) := by decide +kernel
theorem dL_law_428 : decode cL_law 428 = .ok (.iconst 2, 1) := by decide +kernel
theorem dL_law_429 : decode cL_law 429 = .ok (.iadd, 1) := by decide +kernel
theorem dL_law_430 : decode cL_law 430 = .ok (.iaload, 1) := by decide +kernel
theorem dL_law_431 : decode cL_law 431 = .ok (.invokevirtual 56, 3) := by decide +kernel
theorem dL_law_434 : decode cL_law 434 = .ok (.if_icmp .eq 442, 3) := by decide +kernel
theorem dL_law_437 : decode cL_law 437 = .ok (.iconst 0, 1) := by decide +kernel
theorem dL_law_438 : decode cL_law 438 = .ok (.ireturn, 1) := by decide +kernel
theorem dL_law_439 : decode cL_law 439 = .ok (.aload_n 1, 1) := by decide +kernel
theorem dL_law_440 : decode cL_law 440 = .ok (.aload_n 0, 1) := by decide +kernel
theorem dL_law_441 : decode cL_law 441 = .ok (.iload_n 3, 1) := by decide +kernel
theorem dL_law_442 : decode cL_law 442 = .ok (.iconst 1, 1) := by decide +kernel
theorem dL_law_443 : decode cL_law 443 = .ok (.iadd, 1) := by decide +kernel
theorem dL_law_444 : decode cL_law 444 = .ok (.iaload, 1) := by decide +kernel
theorem dL_law_445 : decode cL_law 445 = .ok (.invokevirtual 57, 3) := by decide +kernel
theorem dL_law_448 : decode cL_law 448 = .ok (.aload_n 2, 1) := by decide +kernel
theorem dL_law_449 : decode cL_law 449 = .ok (.aload_n 0, 1) := by decide +kernel
theorem dL_law_450 : decode cL_law 450 = .ok (.iload_n 3, 1) := by decide +kernel
theorem dL_law_451 : decode cL_law 451 = .ok (.iconst 1, 1) := by decide +kernel
theorem dL_law_452 : decode cL_law 452 = .ok (.iadd, 1) := by decide +kernel
theorem dL_law_453 : decode cL_law 453 = .ok (.iaload, 1) := by decide +kernel
theorem dL_law_454 : decode cL_law 454 = .ok (.invokevirtual 60, 3) := by decide +kernel
theorem dL_law_457 : decode cL_law 457 = .ok (.if_icmp .eq 419, 3) := by decide +kernel
theorem dL_law_460 : decode cL_law 460 = .ok (.iconst 0, 1) := by decide +kernel
theorem dL_law_461 : decode cL_law 461 = .ok (.ireturn, 1) := by decide +kernel
theorem dL_law_462 : decode cL_law 462 = .ok (.aload_n 1, 1) := by decide +kernel
theorem dL_law_463 : decode cL_law 463 = .ok (.aload_n 0, 1) := by decide +kernel
theorem dL_law_464 : decode cL_law 464 = .ok (.iload_n 3, 1) := by decide +kernel
theorem dL_law_465 : decode cL_law 465 = .ok (.iconst 1, 1) := by decide +kernel
theorem dL_law_466 : decode cL_law 466 = .ok (.iadd, 1) := by decide +kernel
theorem dL_law_467 : decode cL_law 467 = .ok (.iaload, 1) := by decide +kernel
theorem dL_law_468 : decode cL_law 468 = .ok (.invokevirtual 61, 3) := by decide +kernel
theorem dL_law_471 : decode cL_law 471 = .ok (.aload_n 2, 1) := by decide +kernel
theorem dL_law_472 : decode cL_law 472 = .ok (.aload_n 0, 1) := by decide +kernel
theorem dL_law_473 : decode cL_law 473 = .ok (.iload_n 3, 1) := by decide +kernel
theorem dL_law_474 : decode cL_law 474 = .ok (.iconst 1, 1) := by decide +kernel
theorem dL_law_475 : decode cL_law 475 = .ok (.iadd, 1) := by decide +kernel
theorem dL_law_476 : decode cL_law 476 = .ok (.iaload, 1) := by decide +kernel
theorem dL_law_477 : decode cL_law 477 = .ok (.invokevirtual 64, 3) := by decide +kernel
theorem dL_law_480 : decode cL_law 480 = .ok (.if_icmp .eq 396, 3) := by decide +kernel
theorem dL_law_483 : decode cL_law 483 = .ok (.iconst 0, 1) := by decide +kernel
theorem dL_law_484 : decode cL_law 484 = .ok (.ireturn, 1) := by decide +kernel
theorem dL_law_485 : decode cL_law 485 = .ok (.aload_n 1, 1) := by decide +kernel
theorem dL_law_486 : decode cL_law 486 = .ok (.invokevirtual 65, 3) := by decide +kernel
theorem dL_law_489 : decode cL_law 489 = .ok (.aload_n 2, 1) := by decide +kernel
theorem dL_law_490 : decode cL_law 490 = .ok (.invokevirtual 68, 3) := by decide +kernel
theorem dL_law_493 : decode cL_law 493 = .ok (.if_icmp .eq 383, 3) := by decide +kernel
theorem dL_law_496 : decode cL_law 496 = .ok (.iconst 0, 1) := by decide +kernel
theorem dL_law_497 : decode cL_law 497 = .ok (.ireturn, 1) := by decide +kernel
theorem dL_law_498 : decode cL_law 498 = .ok (.aload_n 1, 1) := by decide +kernel
theorem dL_law_499 : decode cL_law 499 = .ok (.invokevirtual 69, 3) := by decide +kernel
theorem dL_law_502 : decode cL_law 502 = .ok (.aload_n 2, 1) := by decide +kernel
theorem dL_law_503 : decode cL_law 503 = .ok (.invokevirtual 72, 3) := by decide +kernel
theorem dL_law_506 : decode cL_law 506 = .ok (.if_icmp .eq 370, 3) := by decide +kernel
theorem dL_law_509 : decode cL_law 509 = .ok (.iconst 0, 1) := by decide +kernel
theorem dL_law_510 : decode cL_law 510 = .ok (.ireturn, 1) := by decide +kernel
theorem dL_law_511 : decode cL_law 511 = .ok (.aload_n 1, 1) := by decide +kernel
theorem dL_law_512 : decode cL_law 512 = .ok (.aload_n 0, 1) := by decide +kernel
theorem dL_law_513 : decode cL_law 513 = .ok (.iload_n 3, 1) := by decide +kernel
theorem dL_law_514 : decode cL_law 514 = .ok (.iconst 1, 1) := by decide +kernel
theorem dL_law_515 : decode cL_law 515 = .ok (.iadd, 1) := by decide +kernel
theorem dL_law_516 : decode cL_law 516 = .ok (.iaload, 1) := by decide +kernel
theorem dL_law_517 : decode cL_law 517 = .ok (.invokevirtual 73, 3) := by decide +kernel
theorem dL_law_520 : decode cL_law 520 = .ok (.aload_n 2, 1) := by decide +kernel
theorem dL_law_521 : decode cL_law 521 = .ok (.aload_n 0, 1) := by decide +kernel
theorem dL_law_522 : decode cL_law 522 = .ok (.iload_n 3, 1) := by decide +kernel
theorem dL_law_523 : decode cL_law 523 = .ok (.iconst 1, 1) := by decide +kernel
theorem dL_law_524 : decode cL_law 524 = .ok (.iadd, 1) := by decide +kernel
theorem dL_law_525 : decode cL_law 525 = .ok (.iaload, 1) := by decide +kernel
theorem dL_law_526 : decode cL_law 526 = .ok (.invokevirtual 76, 3) := by decide +kernel
theorem dL_law_529 : decode cL_law 529 = .ok (.if_icmp .eq 347, 3) := by decide +kernel
theorem dL_law_532 : decode cL_law 532 = .ok (.iconst 0, 1) := by decide +kernel
theorem dL_law_533 : decode cL_law 533 = .ok (.ireturn, 1) := by decide +kernel
theorem dL_law_534 : decode cL_law 534 = .ok (.aload_n 1, 1) := by decide +kernel
theorem dL_law_535 : decode cL_law 535 = .ok (.aload_n 0, 1) := by decide +kernel
theorem dL_law_536 : decode cL_law 536 = .ok (.iload_n 3, 1) := by decide +kernel
theorem dL_law_537 : decode cL_law 537 = .ok (.iconst 1, 1) := by decide +kernel
theorem dL_law_538 : decode cL_law 538 = .ok (.iadd, 1) := by decide +kernel
theorem dL_law_539 : decode cL_law 539 = .ok (.iaload, 1) := by decide +kernel
theorem dL_law_540 : decode cL_law 540 = .ok (.aload_n 0, 1) := by decide +kernel
theorem dL_law_541 : decode cL_law 541 = .ok (.iload_n 3, 1) := by decide +kernel
theorem dL_law_542 : decode cL_law 542 = .ok (.iconst 2, 1) := by decide +kernel
theorem dL_law_543 : decode cL_law 543 = .ok (.iadd, 1) := by decide +kernel
theorem dL_law_544 : decode cL_law 544 = .ok (.iaload, 1) := by decide +kernel
theorem dL_law_545 : decode cL_law 545 = .ok (.invokevirtual 77, 3) := by decide +kernel
theorem dL_law_548 : decode cL_law 548 = .ok (.aload_n 2, 1) := by decide +kernel
theorem dL_law_549 : decode cL_law 549 = .ok (.aload_n 0, 1) := by decide +kernel
theorem dL_law_550 : decode cL_law 550 = .ok (.iload_n 3, 1) := by decide +kernel
theorem dL_law_551 : decode cL_law 551 = .ok (.iconst 1, 1) := by decide +kernel
theorem dL_law_552 : decode cL_law 552 = .ok (.iadd, 1) := by decide +kernel
theorem dL_law_553 : decode cL_law 553 = .ok (.iaload, 1) := by decide +kernel
theorem dL_law_554 : decode cL_law 554 = .ok (.aload_n 0, 1) := by decide +kernel
theorem dL_law_555 : decode cL_law 555 = .ok (.iload_n 3, 1) := by decide +kernel
theorem dL_law_556 : decode cL_law 556 = .ok (.iconst 2, 1) := by decide +kernel
theorem dL_law_557 : decode cL_law 557 = .ok (.iadd, 1) := by decide +kernel
theorem dL_law_558 : decode cL_law 558 = .ok (.iaload, 1) := by decide +kernel
theorem dL_law_559 : decode cL_law 559 = .ok (.invokevirtual 80, 3) := by decide +kernel
theorem dL_law_562 : decode cL_law 562 = .ok (.if_icmp .eq 314, 3) := by decide +kernel
theorem dL_law_565 : decode cL_law 565 = .ok (.iconst 0, 1) := by decide +kernel
theorem dL_law_566 : decode cL_law 566 = .ok (.ireturn, 1) := by decide +kernel
theorem dL_law_567 : decode cL_law 567 = .ok (.aload_n 1, 1) := by decide +kernel
theorem dL_law_568 : decode cL_law 568 = .ok (.invokevirtual 81, 3) := by decide +kernel
theorem dL_law_571 : decode cL_law 571 = .ok (.aload_n 2, 1) := by decide +kernel
theorem dL_law_572 : decode cL_law 572 = .ok (.invokevirtual 84, 3) := by decide +kernel
theorem dL_law_575 : decode cL_law 575 = .ok (.if_icmp .eq 301, 3) := by decide +kernel
theorem dL_law_578 : decode cL_law 578 = .ok (.iconst 0, 1) := by decide +kernel
theorem dL_law_579 : decode cL_law 579 = .ok (.ireturn, 1) := by decide +kernel
theorem dL_law_580 : decode cL_law 580 = .ok (.aload_n 1, 1) := by decide +kernel
theorem dL_law_581 : decode cL_law 581 = .ok (.aload_n 0, 1) := by decide +kernel
theorem dL_law_582 : decode cL_law 582 = .ok (.iload_n 3, 1) := by decide +kernel
theorem dL_law_583 : decode cL_law 583 = .ok (.iconst 1, 1) := by decide +kernel
theorem dL_law_584 : decode cL_law 584 = .ok (.iadd, 1) := by decide +kernel
theorem dL_law_585 : decode cL_law 585 = .ok (.iaload, 1) := by decide +kernel
theorem dL_law_586 : decode cL_law 586 = .ok (.aload_n 0, 1) := by decide +kernel
theorem dL_law_587 : decode cL_law 587 = .ok (.iload_n 3, 1) := by decide +kernel
theorem dL_law_588 : decode cL_law 588 = .ok (.iconst 2, 1) := by decide +kernel
theorem dL_law_589 : decode cL_law 589 = .ok (.iadd, 1) := by decide +kernel
theorem dL_law_590 : decode cL_law 590 = .ok (.iaload, 1) := by decide +kernel
theorem dL_law_591 : decode cL_law 591 = .ok (.aload_n 0, 1) := by decide +kernel
theorem dL_law_592 : decode cL_law 592 = .ok (.iload_n 3, 1) := by decide +kernel
theorem dL_law_593 : decode cL_law 593 = .ok (.iconst 3, 1) := by decide +kernel
theorem dL_law_594 : decode cL_law 594 = .ok (.iadd, 1) := by decide +kernel
theorem dL_law_595 : decode cL_law 595 = .ok (.iaload, 1) := by decide +kernel
theorem dL_law_596 : decode cL_law 596 = .ok (.ifCond .eq 7, 3) := by decide +kernel
theorem dL_law_599 : decode cL_law 599 = .ok (.iconst 1, 1) := by decide +kernel
theorem dL_law_600 : decode cL_law 600 = .ok (.goto 4, 3) := by decide +kernel
theorem dL_law_603 : decode cL_law 603 = .ok (.iconst 0, 1) := by decide +kernel
theorem dL_law_604 : decode cL_law 604 = .ok (.invokevirtual 85, 3) := by decide +kernel
theorem dL_law_607 : decode cL_law 607 = .ok (.aload_n 2, 1) := by decide +kernel
theorem dL_law_608 : decode cL_law 608 = .ok (.aload_n 0, 1) := by decide +kernel
theorem dL_law_609 : decode cL_law 609 = .ok (.iload_n 3, 1) := by decide +kernel
theorem dL_law_610 : decode cL_law 610 = .ok (.iconst 1, 1) := by decide +kernel
theorem dL_law_611 : decode cL_law 611 = .ok (.iadd, 1) := by decide +kernel
theorem dL_law_612 : decode cL_law 612 = .ok (.iaload, 1) := by decide +kernel
theorem dL_law_613 : decode cL_law 613 = .ok (.aload_n 0, 1) := by decide +kernel
theorem dL_law_614 : decode cL_law 614 = .ok (.iload_n 3, 1) := by decide +kernel
theorem dL_law_615 : decode cL_law 615 = .ok (.iconst 2, 1) := by decide +kernel
theorem dL_law_616 : decode cL_law 616 = .ok (.iadd, 1) := by decide +kernel
theorem dL_law_617 : decode cL_law 617 = .ok (.iaload, 1) := by decide +kernel
theorem dL_law_618 : decode cL_law 618 = .ok (.aload_n 0, 1) := by decide +kernel
theorem dL_law_619 : decode cL_law 619 = .ok (.iload_n 3, 1) := by decide +kernel
theorem dL_law_620 : decode cL_law 620 = .ok (.iconst 3, 1) := by decide +kernel
theorem dL_law_621 : decode cL_law 621 = .ok (.iadd, 1) := by decide +kernel
theorem dL_law_622 : decode cL_law 622 = .ok (.iaload, 1) := by decide +kernel
theorem dL_law_623 : decode cL_law 623 = .ok (.ifCond .eq 7, 3) := by decide +kernel
theorem dL_law_626 : decode cL_law 626 = .ok (.iconst 1, 1) := by decide +kernel
theorem dL_law_627 : decode cL_law 627 = .ok (.goto 4, 3) := by decide +kernel
theorem dL_law_630 : decode cL_law 630 = .ok (.iconst 0, 1) := by decide +kernel
theorem dL_law_631 : decode cL_law 631 = .ok (.invokevirtual 89, 3) := by decide +kernel
theorem dL_law_634 : decode cL_law 634 = .ok (.lcmp, 1) := by decide +kernel
theorem dL_law_635 : decode cL_law 635 = .ok (.ifCond .eq 241, 3) := by decide +kernel
theorem dL_law_638 : decode cL_law 638 = .ok (.iconst 0, 1) := by decide +kernel
theorem dL_law_639 : decode cL_law 639 = .ok (.ireturn, 1) := by decide +kernel
theorem dL_law_640 : decode cL_law 640 = .ok (.aload_n 1, 1) := by decide +kernel
theorem dL_law_641 : decode cL_law 641 = .ok (.aload_n 0, 1) := by decide +kernel
theorem dL_law_642 : decode cL_law 642 = .ok (.iload_n 3, 1) := by decide +kernel
theorem dL_law_643 : decode cL_law 643 = .ok (.iconst 1, 1) := by decide +kernel
theorem dL_law_644 : decode cL_law 644 = .ok (.iadd, 1) := by decide +kernel
theorem dL_law_645 : decode cL_law 645 = .ok (.iaload, 1) := by decide +kernel
theorem dL_law_646 : decode cL_law 646 = .ok (.aload_n 0, 1) := by decide +kernel
theorem dL_law_647 : decode cL_law 647 = .ok (.iload_n 3, 1) := by decide +kernel
theorem dL_law_648 : decode cL_law 648 = .ok (.iconst 2, 1) := by decide +kernel
theorem dL_law_649 : decode cL_law 649 = .ok (.iadd, 1) := by decide +kernel
theorem dL_law_650 : decode cL_law 650 = .ok (.iaload, 1) := by decide +kernel
theorem dL_law_651 : decode cL_law 651 = .ok (.invokevirtual 90, 3) := by decide +kernel
theorem dL_law_654 : decode cL_law 654 = .ok (.aload_n 2, 1) := by decide +kernel
theorem dL_law_655 : decode cL_law 655 = .ok (.aload_n 0, 1) := by decide +kernel
theorem dL_law_656 : decode cL_law 656 = .ok (.iload_n 3, 1) := by decide +kernel
theorem dL_law_657 : decode cL_law 657 = .ok (.iconst 1, 1) := by decide +kernel
theorem dL_law_658 : decode cL_law 658 = .ok (.iadd, 1) := by decide +kernel
theorem dL_law_659 : decode cL_law 659 = .ok (.iaload, 1) := by decide +kernel
theorem dL_law_660 : decode cL_law 660 = .ok (.aload_n 0, 1) := by decide +kernel
theorem dL_law_661 : decode cL_law 661 = .ok (.iload_n 3, 1) := by decide +kernel
theorem dL_law_662 : decode cL_law 662 = .ok (.iconst 2, 1) := by decide +kernel
theorem dL_law_663 : decode cL_law 663 = .ok (.iadd, 1) := by decide +kernel
theorem dL_law_664 : decode cL_law 664 = .ok (.iaload, 1) := by decide +kernel
theorem dL_law_665 : decode cL_law 665 = .ok (.invokevirtual 93, 3) := by decide +kernel
theorem dL_law_668 : decode cL_law 668 = .ok (.if_icmp .eq 208, 3) := by decide +kernel
theorem dL_law_671 : decode cL_law 671 = .ok (.iconst 0, 1) := by decide +kernel
theorem dL_law_672 : decode cL_law 672 = .ok (.ireturn, 1) := by decide +kernel
theorem dL_law_673 : decode cL_law 673 = .ok (.aload_n 1, 1) := by decide +kernel
theorem dL_law_674 : decode cL_law 674 = .ok (.invokevirtual 94, 3) := by decide +kernel
theorem dL_law_677 : decode cL_law 677 = .ok (.aload_n 2, 1) := by decide +kernel
theorem dL_law_678 : decode cL_law 678 = .ok (.invokevirtual 97, 3) := by decide +kernel
theorem dL_law_681 : decode cL_law 681 = .ok (.if_icmp .eq 195, 3) := by decide +kernel
theorem dL_law_684 : decode cL_law 684 = .ok (.iconst 0, 1) := by decide +kernel
theorem dL_law_685 : decode cL_law 685 = .ok (.ireturn, 1) := by decide +kernel
theorem dL_law_686 : decode cL_law 686 = .ok (.aload_n 1, 1) := by decide +kernel
theorem dL_law_687 : decode cL_law 687 = .ok (.aload_n 0, 1) := by decide +kernel
theorem dL_law_688 : decode cL_law 688 = .ok (.iload_n 3, 1) := by decide +kernel
theorem dL_law_689 : decode cL_law 689 = .ok (.iconst 1, 1) := by decide +kernel
theorem dL_law_690 : decode cL_law 690 = .ok (.iadd, 1) := by decide +kernel
theorem dL_law_691 : decode cL_law 691 = .ok (.iaload, 1) := by decide +kernel
theorem dL_law_692 : decode cL_law 692 = .ok (.ifCond .eq 7, 3) := by decide +kernel
theorem dL_law_695 : decode cL_law 695 = .ok (.iconst 1, 1) := by decide +kernel
theorem dL_law_696 : decode cL_law 696 = .ok (.goto 4, 3) := by decide +kernel
theorem dL_law_699 : decode cL_law 699 = .ok (.iconst 0, 1) := by decide +kernel
theorem dL_law_700 : decode cL_law 700 = .ok (.invokevirtual 98, 3) := by decide +kernel
theorem dL_law_703 : decode cL_law 703 = .ok (.aload_n 2, 1) := by decide +kernel
theorem dL_law_704 : decode cL_law 704 = .ok (.aload_n 0, 1) := by decide +kernel
theorem dL_law_705 : decode cL_law 705 = .ok (.iload_n 3, 1) := by decide +kernel
theorem dL_law_706 : decode cL_law 706 = .ok (.iconst 1, 1) := by decide +kernel
theorem dL_law_707 : decode cL_law 707 = .ok (.iadd, 1) := by decide +kernel
theorem dL_law_708 : decode cL_law 708 = .ok (.iaload, 1) := by decide +kernel
theorem dL_law_709 : decode cL_law 709 = .ok (.ifCond .eq 7, 3) := by decide +kernel
theorem dL_law_712 : decode cL_law 712 = .ok (.iconst 1, 1) := by decide +kernel
theorem dL_law_713 : decode cL_law 713 = .ok (.goto 4, 3) := by decide +kernel
theorem dL_law_716 : decode cL_law 716 = .ok (.iconst 0, 1) := by decide +kernel
theorem dL_law_717 : decode cL_law 717 = .ok (.invokevirtual 102, 3) := by decide +kernel
theorem dL_law_720 : decode cL_law 720 = .ok (.if_icmp .eq 156, 3) := by decide +kernel
theorem dL_law_723 : decode cL_law 723 = .ok (.iconst 0, 1) := by decide +kernel
theorem dL_law_724 : decode cL_law 724 = .ok (.ireturn, 1) := by decide +kernel
theorem dL_law_725 : decode cL_law 725 = .ok (.aload_n 1, 1) := by decide +kernel
theorem dL_law_726 : decode cL_law 726 = .ok (.aload_n 0, 1) := by decide +kernel
theorem dL_law_727 : decode cL_law 727 = .ok (.iload_n 3, 1) := by decide +kernel
theorem dL_law_728 : decode cL_law 728 = .ok (.iconst 1, 1) := by decide +kernel
theorem dL_law_729 : decode cL_law 729 = .ok (.iadd, 1) := by decide +kernel
theorem dL_law_730 : decode cL_law 730 = .ok (.iaload, 1) := by decide +kernel
theorem dL_law_731 : decode cL_law 731 = .ok (.aload_n 0, 1) := by decide +kernel
theorem dL_law_732 : decode cL_law 732 = .ok (.iload_n 3, 1) := by decide +kernel
theorem dL_law_733 : decode cL_law 733 = .ok (.iconst 2, 1) := by decide +kernel
theorem dL_law_734 : decode cL_law 734 = .ok (.iadd, 1) := by decide +kernel
theorem dL_law_735 : decode cL_law 735 = .ok (.iaload, 1) := by decide +kernel
theorem dL_law_736 : decode cL_law 736 = .ok (.aload_n 0, 1) := by decide +kernel
theorem dL_law_737 : decode cL_law 737 = .ok (.iload_n 3, 1) := by decide +kernel
theorem dL_law_738 : decode cL_law 738 = .ok (.iconst 3, 1) := by decide +kernel
theorem dL_law_739 : decode cL_law 739 = .ok (.iadd, 1) := by decide +kernel
theorem dL_law_740 : decode cL_law 740 = .ok (.iaload, 1) := by decide +kernel
theorem dL_law_741 : decode cL_law 741 = .ok (.invokevirtual 103, 3) := by decide +kernel
theorem dL_law_744 : decode cL_law 744 = .ok (.aload_n 2, 1) := by decide +kernel
theorem dL_law_745 : decode cL_law 745 = .ok (.aload_n 0, 1) := by decide +kernel
theorem dL_law_746 : decode cL_law 746 = .ok (.iload_n 3, 1) := by decide +kernel
theorem dL_law_747 : decode cL_law 747 = .ok (.iconst 1, 1) := by decide +kernel
theorem dL_law_748 : decode cL_law 748 = .ok (.iadd, 1) := by decide +kernel
theorem dL_law_749 : decode cL_law 749 = .ok (.iaload, 1) := by decide +kernel
theorem dL_law_750 : decode cL_law 750 = .ok (.aload_n 0, 1) := by decide +kernel
theorem dL_law_751 : decode cL_law 751 = .ok (.iload_n 3, 1) := by decide +kernel
theorem dL_law_752 : decode cL_law 752 = .ok (.iconst 2, 1) := by decide +kernel
theorem dL_law_753 : decode cL_law 753 = .ok (.iadd, 1) := by decide +kernel
theorem dL_law_754 : decode cL_law 754 = .ok (.iaload, 1) := by decide +kernel
theorem dL_law_755 : decode cL_law 755 = .ok (.aload_n 0, 1) := by decide +kernel
theorem dL_law_756 : decode cL_law 756 = .ok (.iload_n 3, 1) := by decide +kernel
theorem dL_law_757 : decode cL_law 757 = .ok (.iconst 3, 1) := by decide +kernel
theorem dL_law_758 : decode cL_law 758 = .ok (.iadd, 1) := by decide +kernel
theorem dL_law_759 : decode cL_law 759 = .ok (.iaload, 1) := by decide +kernel
theorem dL_law_760 : decode cL_law 760 = .ok (.invokevirtual 106, 3) := by decide +kernel
theorem dL_law_763 : decode cL_law 763 = .ok (.if_icmp .eq 113, 3) := by decide +kernel
theorem dL_law_766 : decode cL_law 766 = .ok (.iconst 0, 1) := by decide +kernel
theorem dL_law_767 : decode cL_law 767 = .ok (.ireturn, 1) := by decide +kernel
theorem dL_law_768 : decode cL_law 768 = .ok (.aload_n 1, 1) := by decide +kernel
theorem dL_law_769 : decode cL_law 769 = .ok (.invokevirtual 107, 3) := by decide +kernel
theorem dL_law_772 : decode cL_law 772 = .ok (.aload_n 2, 1) := by decide +kernel
theorem dL_law_773 : decode cL_law 773 = .ok (.invokevirtual 110, 3) := by decide +kernel
theorem dL_law_776 : decode cL_law 776 = .ok (.if_icmp .eq 100, 3) := by decide +kernel
theorem dL_law_779 : decode cL_law 779 = .ok (.iconst 0, 1) := by decide +kernel
theorem dL_law_780 : decode cL_law 780 = .ok (.ireturn, 1) := by decide +kernel
theorem dL_law_781 : decode cL_law 781 = .ok (.aload_n 1, 1) := by decide +kernel
theorem dL_law_782 : decode cL_law 782 = .ok (.invokevirtual 111, 3) := by decide +kernel
theorem dL_law_785 : decode cL_law 785 = .ok (.aload_n 2, 1) := by decide +kernel
theorem dL_law_786 : decode cL_law 786 = .ok (.invokevirtual 114, 3) := by decide +kernel
theorem dL_law_789 : decode cL_law 789 = .ok (.if_icmp .eq 87, 3) := by decide +kernel
theorem dL_law_792 : decode cL_law 792 = .ok (.iconst 0, 1) := by decide +kernel
theorem dL_law_793 : decode cL_law 793 = .ok (.ireturn, 1) := by decide +kernel
theorem dL_law_794 : decode cL_law 794 = .ok (.aload_n 1, 1) := by decide +kernel
theorem dL_law_795 : decode cL_law 795 = .ok (.aload_n 0, 1) := by decide +kernel
theorem dL_law_796 : decode cL_law 796 = .ok (.iload_n 3, 1) := by decide +kernel
theorem dL_law_797 : decode cL_law 797 = .ok (.iconst 1, 1) := by decide +kernel
theorem dL_law_798 : decode cL_law 798 = .ok (.iadd, 1) := by decide +kernel
theorem dL_law_799 : decode cL_law 799 = .ok (.iaload, 1) := by decide +kernel
theorem dL_law_800 : decode cL_law 800 = .ok (.invokevirtual 115, 3) := by decide +kernel
theorem dL_law_803 : decode cL_law 803 = .ok (.aload_n 2, 1) := by decide +kernel
theorem dL_law_804 : decode cL_law 804 = .ok (.aload_n 0, 1) := by decide +kernel
theorem dL_law_805 : decode cL_law 805 = .ok (.iload_n 3, 1) := by decide +kernel
theorem dL_law_806 : decode cL_law 806 = .ok (.iconst 1, 1) := by decide +kernel
theorem dL_law_807 : decode cL_law 807 = .ok (.iadd, 1) := by decide +kernel
theorem dL_law_808 : decode cL_law 808 = .ok (.iaload, 1) := by decide +kernel
theorem dL_law_809 : decode cL_law 809 = .ok (.invokevirtual 118, 3) := by decide +kernel
theorem dL_law_812 : decode cL_law 812 = .ok (.if_icmp .eq 64, 3) := by decide +kernel
theorem dL_law_815 : decode cL_law 815 = .ok (.iconst 0, 1) := by decide +kernel
theorem dL_law_816 : decode cL_law 816 = .ok (.ireturn, 1) := by decide +kernel
theorem dL_law_817 : decode cL_law 817 = .ok (.aload_n 1, 1) := by decide +kernel
theorem dL_law_818 : decode cL_law 818 = .ok (.invokevirtual 119, 3) := by decide +kernel
theorem dL_law_821 : decode cL_law 821 = .ok (.aload_n 2, 1) := by decide +kernel
theorem dL_law_822 : decode cL_law 822 = .ok (.invokevirtual 122, 3) := by decide +kernel
theorem dL_law_825 : decode cL_law 825 = .ok (.if_icmp .eq 51, 3) := by decide +kernel
theorem dL_law_828 : decode cL_law 828 = .ok (.iconst 0, 1) := by decide +kernel
theorem dL_law_829 : decode cL_law 829 = .ok (.ireturn, 1) := by decide +kernel
theorem dL_law_830 : decode cL_law 830 = .ok (.aload_n 1, 1) := by decide +kernel
theorem dL_law_831 : decode cL_law 831 = .ok (.aload_n 0, 1) := by decide +kernel
theorem dL_law_832 : decode cL_law 832 = .ok (.iload_n 3, 1) := by decide +kernel
theorem dL_law_833 : decode cL_law 833 = .ok (.iconst 1, 1) := by decide +kernel
theorem dL_law_834 : decode cL_law 834 = .ok (.iadd, 1) := by decide +kernel
theorem dL_law_835 : decode cL_law 835 = .ok (.iaload, 1) := by decide +kernel
theorem dL_law_836 : decode cL_law 836 = .ok (.invokevirtual 123, 3) := by decide +kernel
theorem dL_law_839 : decode cL_law 839 = .ok (.aload_n 2, 1) := by decide +kernel
theorem dL_law_840 : decode cL_law 840 = .ok (.aload_n 0, 1) := by decide +kernel
theorem dL_law_841 : decode cL_law 841 = .ok (.iload_n 3, 1) := by decide +kernel
theorem dL_law_842 : decode cL_law 842 = .ok (.iconst 1, 1) := by decide +kernel
theorem dL_law_843 : decode cL_law 843 = .ok (.iadd, 1) := by decide +kernel
theorem dL_law_844 : decode cL_law 844 = .ok (.iaload, 1) := by decide +kernel
theorem dL_law_845 : decode cL_law 845 = .ok (.invokevirtual 126, 3) := by decide +kernel
theorem dL_law_848 : decode cL_law 848 = .ok (.if_icmp .eq 28, 3) := by decide +kernel
theorem dL_law_851 : decode cL_law 851 = .ok (.iconst 0, 1) := by decide +kernel
theorem dL_law_852 : decode cL_law 852 = .ok (.ireturn, 1) := by decide +kernel
theorem dL_law_853 : decode cL_law 853 = .ok (.aload_n 1, 1) := by decide +kernel
theorem dL_law_854 : decode cL_law 854 = .ok (.aload_n 0, 1) := by decide +kernel
theorem dL_law_855 : decode cL_law 855 = .ok (.iload_n 3, 1) := by decide +kernel
theorem dL_law_856 : decode cL_law 856 = .ok (.iconst 1, 1) := by decide +kernel
theorem dL_law_857 : decode cL_law 857 = .ok (.iadd, 1) := by decide +kernel
theorem dL_law_858 : decode cL_law 858 = .ok (.iaload, 1) := by decide +kernel
theorem dL_law_859 : decode cL_law 859 = .ok (.invokevirtual 127, 3) := by decide +kernel
theorem dL_law_862 : decode cL_law 862 = .ok (.aload_n 2, 1) := by decide +kernel
theorem dL_law_863 : decode cL_law 863 = .ok (.aload_n 0, 1) := by decide +kernel
theorem dL_law_864 : decode cL_law 864 = .ok (.iload_n 3, 1) := by decide +kernel
theorem dL_law_865 : decode cL_law 865 = .ok (.iconst 1, 1) := by decide +kernel
theorem dL_law_866 : decode cL_law 866 = .ok (.iadd, 1) := by decide +kernel
theorem dL_law_867 : decode cL_law 867 = .ok (.iaload, 1) := by decide +kernel
theorem dL_law_868 : decode cL_law 868 = .ok (.invokevirtual 130, 3) := by decide +kernel
theorem dL_law_871 : decode cL_law 871 = .ok (.if_icmp .eq 5, 3) := by decide +kernel
theorem dL_law_874 : decode cL_law 874 = .ok (.iconst 0, 1) := by decide +kernel
theorem dL_law_875 : decode cL_law 875 = .ok (.ireturn, 1) := by decide +kernel
theorem dL_law_876 : decode cL_law 876 = .ok (.iinc 3 4, 3) := by decide +kernel
theorem dL_law_879 : decode cL_law 879 = .ok (.goto (-861), 3) := by decide +kernel
theorem dL_law_882 : decode cL_law 882 = .ok (.iconst 1, 1) := by decide +kernel
theorem dL_law_883 : decode cL_law 883 = .ok (.ireturn, 1) := by decide +kernel
end
section
/-! the heap as numbers: cell k of the world lies at b + k; what refers to what is fixed (lay), all else is ints -/
abbrev Hp : Type := Nat → Nat → Int32
abbrev KD : Type := (Nat × Nat) ⊕ ((Nat × Nat × Nat × Nat) ⊕ (Nat × List (Option Nat)))
abbrev ix (i : Int32) : Nat := i.toNatClampNeg
def wr (σ : Hp) (k j : Nat) (v : Int32) : Hp := va_up σ k (upd (σ k) j v)
def mkF (b : Nat) (row : Nat → Int32) : Nat → List (Option Nat) → List Value
  | _, [] => []
  | i, none :: r => .int (row i) :: mkF b row (i + 1) r
  | i, some q :: r => .ref (b + q) :: mkF b row (i + 1) r
theorem mkF_int (b : Nat) (row : Nat → Int32) : ∀ (tpl : List (Option Nat)) (i k : Nat), tpl[k]? = some none → (mkF b row i tpl)[k]? = some (.int (row (i + k)))
  | [], _, _, h => by simp at h
  | none :: r, i, 0, _ => by simp [mkF]
  | some q :: r, i, 0, h => by simp at h
  | none :: r, i, k + 1, h => by
    have e := mkF_int b row r (i + 1) k (by simpa using h)
    simp only [mkF, List.getElem?_cons_succ]
    rw [e, Nat.add_assoc, Nat.add_comm 1 k]
  | some q :: r, i, k + 1, h => by
    have e := mkF_int b row r (i + 1) k (by simpa using h)
    simp only [mkF, List.getElem?_cons_succ]
    rw [e, Nat.add_assoc, Nat.add_comm 1 k]
theorem mkF_ref (b : Nat) (row : Nat → Int32) {q : Nat} : ∀ (tpl : List (Option Nat)) (i k : Nat), tpl[k]? = some (some q) → (mkF b row i tpl)[k]? = some (.ref (b + q))
  | [], _, _, h => by simp at h
  | none :: r, i, 0, h => by simp at h
  | some q' :: r, i, 0, h => by simp at h; simp [mkF, h]
  | none :: r, i, k + 1, h => by
    have e := mkF_ref b row r (i + 1) k (by simpa using h)
    simp only [mkF, List.getElem?_cons_succ]
    exact e
  | some q' :: r, i, k + 1, h => by
    have e := mkF_ref b row r (i + 1) k (by simpa using h)
    simp only [mkF, List.getElem?_cons_succ]
    exact e
theorem mkF_len (b : Nat) (row : Nat → Int32) : ∀ (tpl : List (Option Nat)) (i : Nat), (mkF b row i tpl).length = tpl.length
  | [], _ => rfl
  | none :: r, i => by simp [mkF, mkF_len b row r]
  | some q :: r, i => by simp [mkF, mkF_len b row r]
theorem mkF_congr (b : Nat) {row row' : Nat → Int32} : ∀ (tpl : List (Option Nat)) (i : Nat), (∀ j, i ≤ j → row' j = row j) → mkF b row' i tpl = mkF b row i tpl
  | [], _, _ => rfl
  | none :: r, i, h => by simp only [mkF]; rw [h i (Nat.le_refl i), mkF_congr b r (i + 1) (fun j hj => h j (by omega))]
  | some q :: r, i, h => by simp only [mkF]; rw [mkF_congr b r (i + 1) (fun j hj => h j (by omega))]
theorem mkF_set (b : Nat) (row : Nat → Int32) (v : Int32) : ∀ (tpl : List (Option Nat)) (i k : Nat), tpl[k]? = some none → (mkF b row i tpl).set k (.int v) = mkF b (upd row (i + k) v) i tpl
  | [], _, _, h => by simp at h
  | none :: r, i, 0, _ => by
    have hrow : ∀ j, i + 1 ≤ j → upd row i v j = row j := by
      intro j hj
      have q : j ≠ i := by omega
      simp [upd, q]
    have e := mkF_congr b (row := row) (row' := upd row i v) r (i + 1) hrow
    simp only [mkF, List.set_cons_zero, Nat.add_zero]
    rw [e]
    simp [upd]
  | some q :: r, i, 0, h => by simp at h
  | none :: r, i, k + 1, h => by
    have e := mkF_set b row v r (i + 1) k (by simpa using h)
    simp only [mkF, List.set_cons_succ]
    rw [e, Nat.add_assoc, Nat.add_comm 1 k]
    simp [upd]
  | some q :: r, i, k + 1, h => by
    have e := mkF_set b row v r (i + 1) k (by simpa using h)
    simp only [mkF, List.set_cons_succ]
    rw [e, Nat.add_assoc, Nat.add_comm 1 k]
def cE (b : Nat) (cA : Nat → ClassId) (k : KD) (row : Nat → Int32) : va_E := match k with
  | .inl (t, n) => .inl (cA t, n, .inl row)
  | .inr (.inl (t, n, a, d)) => .inl (cA t, n, .inr (.inr (.inr (.inr (fun j => some (b + (a + d * j)))))))
  | .inr (.inr (ci, tpl)) => .inr (ci, mkF b row 0 tpl)
def NN : Nat := 159
def layL : List KD := [
  .inr (.inr (8, [some 1, some 3, some 11, some 13, some 18, some 23, some 24, some 86, some 115, some 119])),
  .inr (.inr (7, [some 2, none])),
  .inl (1, 48),
  .inr (.inr (3, [some 1, some 4, some 6, none, none])),
  .inr (.inr (2, [some 5, none, none, none])),
  .inl (0, 5),
  .inr (.inr (4, [some 4, some 7, some 8, some 9, some 10, none, none, none, none])),
  .inl (0, 5),
  .inl (0, 5),
  .inl (0, 5),
  .inl (0, 5),
  .inr (.inr (2, [some 12, none, none, none])),
  .inl (0, 5),
  .inr (.inr (4, [some 11, some 14, some 15, some 16, some 17, none, none, none, none])),
  .inl (0, 5),
  .inl (0, 5),
  .inl (0, 5),
  .inl (0, 5),
  .inr (.inr (4, [some 11, some 19, some 20, some 21, some 22, none, none, none, none])),
  .inl (0, 5),
  .inl (0, 5),
  .inl (0, 5),
  .inl (0, 5),
  .inl (0, 4),
  .inr (.inr (0, [some 25, none, none])),
  .inr (.inl (3, 12, 26, 5)),
  .inr (.inr (4, [some 11, some 27, some 28, some 29, some 30, none, none, none, none])),
  .inl (0, 5),
  .inl (0, 5),
  .inl (0, 5),
  .inl (0, 5),
  .inr (.inr (4, [some 11, some 32, some 33, some 34, some 35, none, none, none, none])),
  .inl (0, 5),
  .inl (0, 5),
  .inl (0, 5),
  .inl (0, 5),
  .inr (.inr (4, [some 11, some 37, some 38, some 39, some 40, none, none, none, none])),
  .inl (0, 5),
  .inl (0, 5),
  .inl (0, 5),
  .inl (0, 5),
  .inr (.inr (4, [some 11, some 42, some 43, some 44, some 45, none, none, none, none])),
  .inl (0, 5),
  .inl (0, 5),
  .inl (0, 5),
  .inl (0, 5),
  .inr (.inr (4, [some 11, some 47, some 48, some 49, some 50, none, none, none, none])),
  .inl (0, 5),
  .inl (0, 5),
  .inl (0, 5),
  .inl (0, 5),
  .inr (.inr (4, [some 11, some 52, some 53, some 54, some 55, none, none, none, none])),
  .inl (0, 5),
  .inl (0, 5),
  .inl (0, 5),
  .inl (0, 5),
  .inr (.inr (4, [some 11, some 57, some 58, some 59, some 60, none, none, none, none])),
  .inl (0, 5),
  .inl (0, 5),
  .inl (0, 5),
  .inl (0, 5),
  .inr (.inr (4, [some 11, some 62, some 63, some 64, some 65, none, none, none, none])),
  .inl (0, 5),
  .inl (0, 5),
  .inl (0, 5),
  .inl (0, 5),
  .inr (.inr (4, [some 11, some 67, some 68, some 69, some 70, none, none, none, none])),
  .inl (0, 5),
  .inl (0, 5),
  .inl (0, 5),
  .inl (0, 5),
  .inr (.inr (4, [some 11, some 72, some 73, some 74, some 75, none, none, none, none])),
  .inl (0, 5),
  .inl (0, 5),
  .inl (0, 5),
  .inl (0, 5),
  .inr (.inr (4, [some 11, some 77, some 78, some 79, some 80, none, none, none, none])),
  .inl (0, 5),
  .inl (0, 5),
  .inl (0, 5),
  .inl (0, 5),
  .inr (.inr (4, [some 11, some 82, some 83, some 84, some 85, none, none, none, none])),
  .inl (0, 5),
  .inl (0, 5),
  .inl (0, 5),
  .inl (0, 5),
  .inr (.inr (5, [some 11, some 87, some 88, some 89, none, none, none])),
  .inr (.inl (3, 5, 90, 5)),
  .inl (0, 4),
  .inl (0, 4),
  .inr (.inr (4, [some 11, some 91, some 92, some 93, some 94, none, none, none, none])),
  .inl (0, 5),
  .inl (0, 5),
  .inl (0, 5),
  .inl (0, 5),
  .inr (.inr (4, [some 11, some 96, some 97, some 98, some 99, none, none, none, none])),
  .inl (0, 5),
  .inl (0, 5),
  .inl (0, 5),
  .inl (0, 5),
  .inr (.inr (4, [some 11, some 101, some 102, some 103, some 104, none, none, none, none])),
  .inl (0, 5),
  .inl (0, 5),
  .inl (0, 5),
  .inl (0, 5),
  .inr (.inr (4, [some 11, some 106, some 107, some 108, some 109, none, none, none, none])),
  .inl (0, 5),
  .inl (0, 5),
  .inl (0, 5),
  .inl (0, 5),
  .inr (.inr (4, [some 11, some 111, some 112, some 113, some 114, none, none, none, none])),
  .inl (0, 5),
  .inl (0, 5),
  .inl (0, 5),
  .inl (0, 5),
  .inr (.inr (1, [some 116, some 117, some 118, none])),
  .inl (0, 12),
  .inl (0, 12),
  .inl (0, 12),
  .inr (.inl (4, 2, 120, 7)),
  .inr (.inr (6, [some 122, some 121, none])),
  .inl (0, 4),
  .inr (.inr (4, [some 11, some 123, some 124, some 125, some 126, none, none, none, none])),
  .inl (0, 5),
  .inl (0, 5),
  .inl (0, 5),
  .inl (0, 5),
  .inr (.inr (6, [some 129, some 128, none])),
  .inl (0, 4),
  .inr (.inr (4, [some 11, some 130, some 131, some 132, some 133, none, none, none, none])),
  .inl (0, 5),
  .inl (0, 5),
  .inl (0, 5),
  .inl (0, 5),
  .inr (.inr (9, [none, some 135, none, none, none, none, none, some 136, some 137, some 138, some 139, some 140, some 141, some 142, none, none, some 143, none, none, none, some 144, some 145, some 146, some 147, some 148, none, some 149, some 150, none, some 151, some 152, some 153, some 154, some 155, some 156, some 157, some 158])),
  .inl (0, 48),
  .inl (0, 5),
  .inl (0, 5),
  .inl (0, 5),
  .inl (2, 5),
  .inl (2, 5),
  .inl (0, 5),
  .inl (0, 5),
  .inl (0, 4),
  .inl (0, 5),
  .inl (0, 5),
  .inl (0, 5),
  .inl (0, 5),
  .inl (0, 324),
  .inl (0, 84),
  .inl (2, 2),
  .inl (0, 12),
  .inl (0, 12),
  .inl (0, 12),
  .inl (0, 5),
  .inl (0, 5),
  .inl (0, 5),
  .inl (2, 5),
  .inl (0, 4)]
def lay (k : Nat) : KD := layL.getD k (.inl (0, 0))
def wl (cA : Nat → ClassId) (b : Nat) (σ : Hp) : va_W := (List.range NN).map (fun k => (b + k, cE b cA (lay k) (σ k)))
theorem wl_get {cA : Nat → ClassId} {b : Nat} {σ : Hp} {k : Nat} (h : k < NN) : (wl cA b σ)[k]? = some (b + k, cE b cA (lay k) (σ k)) := by
  simp [wl, List.getElem?_map, List.getElem?_range h]
theorem wl_set {cA : Nat → ClassId} {b : Nat} {σ : Hp} {k : Nat} (row : Nat → Int32) : (wl cA b σ).set k (b + k, cE b cA (lay k) row) = wl cA b (va_up σ k row) := by
  apply List.ext_getElem?
  intro i
  by_cases hi : i < NN
  · by_cases hk : i = k
    · subst hk
      rw [List.getElem?_set_self (by simp [wl, hi]), wl_get hi]
      simp [va_up]
    · rw [List.getElem?_set_ne (Ne.symm hk), wl_get hi, wl_get hi]
      simp [va_up, hk]
  · rw [List.getElem?_eq_none (by simp [wl]; omega), List.getElem?_eq_none (by simp [wl]; omega)]
theorem wl_D (cA : Nat → ClassId) (b : Nat) (σ : Hp) : va_D (fun q => b ≤ q) (wl cA b σ) := by
  have key : ∀ (k : Nat) (q : Nat × va_E), (wl cA b σ)[k]? = some q → q.1 = b + k := by
    intro k q h
    have hk : k < NN := by
      have := (List.getElem?_eq_some_iff.mp h).1
      simpa [wl] using this
    rw [wl_get hk] at h
    cases h
    rfl
  refine ⟨fun i j p q hi hj e => ?_, fun k q h => ?_⟩
  · rw [key i p hi, key j q hj] at e
    omega
  · rw [key k q h]
    exact Nat.le_add_right b k
def tyL (cA : Nat → ClassId) : List (ClassId × FieldType) := [(cA 0, .int), (cA 1, .byte), (cA 2, .boolean), (cA 3, .object "SleepByRation$Roll"), (cA 4, .object "SleepByRation$Slot")]
/-! words -/
def BW : List Cond := lw_tbl.filter goodWord
theorem BW_of {w : Cond} (h : w ∈ lw_tbl) (g : goodWord w = true) : w ∈ BW := List.mem_filter.mpr ⟨h, g⟩
theorem BW_good {y : Cond} (hy : y ∈ BW) : GoodIn BW (y :: BW) := fun w hw => by
  have h : w ∈ BW := (List.mem_cons.mp hw).elim (fun e => e ▸ hy) id
  exact ⟨h, good_of_word (List.mem_filter.mp h).2⟩
theorem BW_self : GoodIn BW BW := fun _ h => ⟨h, good_of_word (List.mem_filter.mp h).2⟩
theorem BW_cons {a : Cond} {ws : List Cond} (ha : a ∈ BW) (h : GoodIn BW ws) : GoodIn BW (a :: ws) := fun w hw => (List.mem_cons.mp hw).elim (fun e => e ▸ BW_self a ha) (h w)
theorem BW_app {a ws : List Cond} (ha : ∀ w ∈ a, w ∈ BW) (h : GoodIn BW ws) : GoodIn BW (a ++ ws) := fun w hw => (List.mem_append.mp hw).elim (fun e => BW_self w (ha w e)) (h w)
theorem tb0 {w : Cond} (h : w ∈ k2_sels lw_privs) (g : goodWord w = true) : w ∈ BW := BW_of (List.mem_append_left _ h) g
theorem tb1 {w : Cond} (h : w ∈ tables_1_1) (g : goodWord w = true) : w ∈ BW := BW_of (List.mem_append_right _ (List.mem_append_left _ h)) g
theorem tb2 {w : Cond} (h : w ∈ tables_1_2) (g : goodWord w = true) : w ∈ BW := BW_of (List.mem_append_right _ (List.mem_append_right _ (List.mem_append_left _ h))) g
theorem tb3 {w : Cond} (h : w ∈ tables_1_3) (g : goodWord w = true) : w ∈ BW := BW_of (List.mem_append_right _ (List.mem_append_right _ (List.mem_append_right _ (List.mem_append_left _ h)))) g
theorem tb4 {w : Cond} (h : w ∈ tables_1_4) (g : goodWord w = true) : w ∈ BW := BW_of (List.mem_append_right _ (List.mem_append_right _ (List.mem_append_right _ (List.mem_append_right _ h)))) g
theorem bw_acN : Cond.native arraycopyName ∈ BW := tb2 (List.mem_of_getElem? (i := 103) (by decide +kernel)) (by decide +kernel)
theorem bw_acS : Cond.static arraycopyName ∈ BW := tb2 (List.mem_of_getElem? (i := 102) (by decide +kernel)) (by decide +kernel)
theorem bw_acI : Cond.initialized "java/lang/System" ∈ BW := tb1 (List.mem_of_getElem? (i := 12) (by decide +kernel)) (by decide +kernel)
theorem bw_mI : Cond.initialized "java/lang/Math" ∈ BW := tb1 (List.mem_of_getElem? (i := 14) (by decide +kernel)) (by decide +kernel)
theorem bw_mmaxS : Cond.static Lib.Math.max.name ∈ BW := tb2 (List.mem_of_getElem? (i := 186) (by decide +kernel)) (by decide +kernel)
theorem bw_mminS : Cond.static Lib.Math.min.name ∈ BW := tb2 (List.mem_of_getElem? (i := 175) (by decide +kernel)) (by decide +kernel)
theorem bw_mmaxC : Cond.code Lib.Math.max.name Lib.Math.max.code 2 (some .int) ∈ BW := tb2 (List.mem_of_getElem? (i := 187) (by decide +kernel)) (by decide +kernel)
theorem bw_mminC : Cond.code Lib.Math.min.name Lib.Math.min.code 2 (some .int) ∈ BW := tb2 (List.mem_of_getElem? (i := 176) (by decide +kernel)) (by decide +kernel)
theorem inB0 : ∀ w ∈ wsX00, w ∈ BW := by decide +kernel
theorem inB1 : ∀ w ∈ wsX10, w ∈ BW := by decide +kernel
theorem inB2 : ∀ w ∈ wsX20, w ∈ BW := by decide +kernel
theorem inB3 : ∀ w ∈ wsX30, w ∈ BW := by decide +kernel
theorem inB4 : ∀ w ∈ wsX40, w ∈ BW := by decide +kernel
theorem inB5 : ∀ w ∈ wsX50, w ∈ BW := by decide +kernel
theorem inB6 : ∀ w ∈ wsX60, w ∈ BW := by decide +kernel
theorem inB7 : ∀ w ∈ wsX70, w ∈ BW := by decide +kernel
theorem inB8 : ∀ w ∈ wsX80, w ∈ BW := by decide +kernel
theorem inB9 : ∀ w ∈ wsX90, w ∈ BW := by decide +kernel
def isNest : Cond → Bool
  | .fieldLinkNest _ _ _ _ _ _ => true
  | .methodLinkNest _ _ _ _ => true
  | _ => false
def NW : List Cond := lw_tbl.filter isNest
theorem NW_of {w : Cond} (h : w ∈ lw_tbl) (g : isNest w = true) : w ∈ NW := List.mem_filter.mpr ⟨h, g⟩
theorem tn1 {w : Cond} (h : w ∈ tables_1_1) (g : isNest w = true) : w ∈ NW := NW_of (List.mem_append_right _ (List.mem_append_left _ h)) g
theorem tn2 {w : Cond} (h : w ∈ tables_1_2) (g : isNest w = true) : w ∈ NW := NW_of (List.mem_append_right _ (List.mem_append_right _ (List.mem_append_left _ h))) g
theorem tn3 {w : Cond} (h : w ∈ tables_1_3) (g : isNest w = true) : w ∈ NW := NW_of (List.mem_append_right _ (List.mem_append_right _ (List.mem_append_right _ (List.mem_append_left _ h)))) g
theorem tn4 {w : Cond} (h : w ∈ tables_1_4) (g : isNest w = true) : w ∈ NW := NW_of (List.mem_append_right _ (List.mem_append_right _ (List.mem_append_right _ (List.mem_append_right _ h)))) g
theorem NW_warm {w : Cond} (hw : w ∈ NW) {s U : State} (hW : s.WarmedH U.vm) (hZ : va_Nw w s) : va_Nw w U := by
  have h := (List.mem_filter.mp hw).2
  cases w <;> first | (simp [isNest] at h; done) | exact va_Nw.warmF hW hZ | exact va_Nw.warmM hW hZ
theorem NW_same {w : Cond} (hw : w ∈ NW) {u U : State} (h : u.vm = U.vm) (hZ : va_Nw w u) : va_Nw w U := by
  have h2 := (List.mem_filter.mp hw).2
  cases w <;> first | (simp [isNest] at h2; done) | exact va_Nw.same rfl h hZ
theorem NW_use {w : Cond} (hw : w ∈ NW) {A : Array Value} {U : State} (hZ : va_Nw w U) : w.before A U = true := by
  have h2 := (List.mem_filter.mp hw).2
  cases w <;> first | (simp [isNest] at h2; done) | exact va_Nw.use rfl hZ
def KK (dC : Nat → ClassId) (dI : Nat → Nat → Nat) (cA : Nat → ClassId) (U : State) : Prop := va_K (dC, dI) vwCl (tyL cA) U ∧ ∀ w ∈ NW, va_Nw w U
theorem KK_warm {dC : Nat → ClassId} {dI : Nat → Nat → Nat} {cA : Nat → ClassId} {s U : State} (h : KK dC dI cA s) (hW : s.WarmedH U.vm) : KK dC dI cA U := ⟨va_K.moved hW.alike h.1, fun w hw => NW_warm hw hW (h.2 w hw)⟩
theorem KK_call {dC : Nat → ClassId} {dI : Nat → Nat → Nat} {cA : Nat → ClassId} {U : State} (h : KK dC dI cA U) (g : JFrame) (mk : MethodId) (a : Array Value) : KK dC dI cA (U.calling g mk a) := ⟨va_K.moved (u := U) (U := U.calling g mk a) (Vm.Alike.refl U.vm) h.1, fun w hw => NW_same (u := U) hw rfl (h.2 w hw)⟩
def HW (dC : Nat → ClassId) (dI : Nat → Nat → Nat) (cA : Nat → ClassId) (b : Nat) (σ : Hp) (H : Heap) : Prop := va_P (dC, dI) vwCl (wl cA b σ) H
/-- a method's end: what it returns, what the cells hold -/
def Qx (dC : Nat → ClassId) (dI : Nat → Nat → Nat) (cA : Nat → ClassId) (b : Nat) (ro : Option Value) (σ' : Hp) : Array Value → State → Outcome → State → Prop := fun _ st oc t => oc = .returned ro ∧ HW dC dI cA b σ' t.heap ∧ va_F (fun q => b ≤ q) st t
def rmD (d : Nat) : Room := { frames := d, cells := 0, slots := 0, locals := 60 * d }
def rvI (r : Int32) : Option Value := some (.int r)
def rvL (r : Int64) : Option Value := some (.long r)
def rvV (_ : Unit) : Option Value := none
/-- all that stands still while a method runs -/
abbrev Ev : Type := Program × Launch × Env × Room × State × MethodId × Array Value × List Frame × Method × Code × Nat × Nat × (Nat → ClassId) × (Nat → Nat → Nat) × (Nat → ClassId)
def CX (E : Ev) (own : String) (cc : ByteArray) (nL : Nat) (d : Nat) : Prop := match E with
  | (p, _, _, R, s, m, args, _, _, c, cells, slots, dC, dI, cA) => CallFix p m c cc nL s args BW own ∧ KK dC dI cA s ∧ d ≤ R.frames ∧ 60 * d ≤ R.locals ∧ cells ≤ R.cells ∧ slots ≤ R.slots
def QM (E : Ev) (b : Nat) (ro : Option Value) (σ' : Hp) : State → Prop := match E with
  | (_, _, _, _, s, _, args, below, _, _, cells, slots, dC, dI, cA) => MQ below (Qx dC dI cA b ro σ') args s cells slots (fun q => b ≤ q)
def CR (E : Ev) (ret : Option FieldType) : Prop := match E with
  | (_, _, _, _, _, _, _, _, meth, _, _, _, _, _, _) => meth.sig.returnType = ret ∧ meth.locks = false
def VJ {α : Type} (rv : α → Option Value) (QF : Option Value → Hp → State → Prop) (E : Ev) (b nL : Nat) (σ : Hp) (pc : Nat) (L : List (Nat × Value)) (S : List Value) (x : Option (α × Hp)) : Prop := match E with
  | (p, l, e, R, s, m, args, below, meth, c, cells, slots, dC, dI, cA) => ∀ (r : α) (σ' : Hp), x = some (r, σ') → ∀ (H : Heap) (locs : List Loc) (ls : Array Slot), HW dC dI cA b σ H → va_S (fun q => b ≤ q) s.heap H locs → lv_has ls nL L → W p l e R s m args below meth c H locs cells slots (QF (rv r) σ') (F0 m pc ls S)
/-- a method's contract -/
def CT {α : Type} (l : Launch) (dC : Nat → ClassId) (dI : Nat → Nat → Nat) (cA : Nat → ClassId) (b : Nat) (y : MethodName) (cc : ByteArray) (maxL : Nat) (ret : Option FieldType) (d : Nat) (av : List Value) (σ : Hp) (rv : α → Option Value) (x : Option (α × Hp)) : Prop :=
  ∀ r σ', x = some (r, σ') → Met l y (.code y cc maxL ret :: BW) (rmD d) (va_Pc av (fun U => HW dC dI cA b σ U.heap ∧ KK dC dI cA U)) (Qx dC dI cA b (rv r) σ') 0 0 (fun q => b ≤ q)
theorem CT_of {α : Type} {l : Launch} {dC : Nat → ClassId} {dI : Nat → Nat → Nat} {cA : Nat → ClassId} {b : Nat} {y : MethodName} {cc : ByteArray} {maxL : Nat} {ret : Option FieldType} {d : Nat} {av : List Value} {σ : Hp} {rv : α → Option Value} {x : Option (α × Hp)} {own : String} (L : List (Nat × Value)) (hy : plainName y.cls = true) (ho : y.cls = own) (hn : (lg_sl av).length ≤ maxL) (hL : lv_args 0 av = L)
    (body : ∀ E : Ev, E.2.1 = l → CX E own cc maxL d → CR E ret → E.2.2.2.2.2.2.2.2.2.2.2.2.1 = dC → E.2.2.2.2.2.2.2.2.2.2.2.2.2.1 = dI → E.2.2.2.2.2.2.2.2.2.2.2.2.2.2 = cA → VJ rv (QM E b) E b maxL σ 0 L [] x) : CT l dC dI cA b y cc maxL ret d av σ rv x := by
  intro r σ' hx
  refine Met.ofW (cc := cc) (maxL := maxL) (ret := ret) hy rfl ?_
  intro p e s m args below meth c s₁ B hml hv
  obtain ⟨rfl, hP, hK⟩ := hv
  have hts := atoms_spec (ws := .code y cc maxL ret :: BW) B.pre
  have hown : s.vm.findClass own = some m.cls := by rw [← ho]; exact findClass_of_methodNamed B.named
  have V := body (p, l, e, rmD d, s, m, av.toArray, below, meth, c, 0, 0, dC, dI, cA) rfl ⟨⟨B.exec, B.bytes, hml, hown, fun w hw => hts w (List.mem_cons_of_mem _ hw)⟩, hK, Nat.le_refl _, Nat.le_refl _, Nat.zero_le _, Nat.zero_le _⟩ ⟨B.returns, B.notSynchronized⟩ rfl rfl rfl
  have hl := lv_entry av (n := maxL) hn
  rw [lg_entry_eq]
  rw [hL] at hl
  exact V r σ' hx s.heap [] _ hP va_S.rf hl
end
section
section VR
variable {α : Type} {rv : α → Option Value} {QF : Option Value → Hp → State → Prop} {E : Ev} {b nL : Nat} {σ : Hp} {pc : Nat} {L L' : List (Nat × Value)} {S : List Value} {X X1 X2 : Option (α × Hp)} {own : String} {cc : ByteArray} {d : Nat}
theorem HW_of {dC : Nat → ClassId} {dI : Nat → Nat → Nat} {cA : Nat → ClassId} {b : Nat} {σ : Hp} {ws : va_W} {H : Heap} (h : ws = wl cA b σ) (hP : va_P (dC, dI) vwCl ws H) : HW dC dI cA b σ H := by
  unfold HW
  rw [← h]
  exact hP
/-! what a method's answer is made of -/
def ck (i : Int32) (n : Nat) (x : Option (α × Hp)) : Option (α × Hp) := if i < 0 ∨ n ≤ i.toNatClampNeg then none else x
def nzI (i : Int32) (x : Option (α × Hp)) : Option (α × Hp) := if i = 0 then none else x
def nzL (i : Int64) (x : Option (α × Hp)) : Option (α × Hp) := if i = 0 then none else x
def zr (v : Int32) (σ : Hp) : Option (Int32 × Hp) := if v = 0 ∨ v = 1 then some (v, σ) else none
def Lt {β γ : Type} (e : β) (k : β → γ) : γ := k e
def bd {β : Type} (x : Option (β × Hp)) (k : β → Hp → Option (α × Hp)) : Option (α × Hp) := match x with
  | none => none
  | some p => k p.1 p.2
def swt (x : Int32) (xs : List (Option (α × Hp))) (dx : Option (α × Hp)) : Option (α × Hp) := if x < 0 then dx else (xs[x.toNatClampNeg]?).getD dx
theorem ck_some {i : Int32} {n : Nat} {x : Option (α × Hp)} {y : α × Hp} (h : ck i n x = some y) : vp_in i n ∧ x = some y := by
  unfold ck at h
  by_cases c : i < 0 ∨ n ≤ i.toNatClampNeg
  · rw [if_pos c] at h; cases h
  · rw [if_neg c] at h; exact ⟨c, h⟩
theorem ck_in {i : Int32} {n : Nat} (h : vp_in i n) : ix i < n := Nat.not_le.mp fun q => h (Or.inr q)
theorem V_ltI {e : Int32} {k : Int32 → Option (α × Hp)} (kk : ∀ v : Int32, VJ rv QF E b nL σ pc L (.int v :: S) (k v)) : VJ rv QF E b nL σ pc L (.int e :: S) (Lt e k) := kk e
theorem V_ltL {e : Int64} {k : Int64 → Option (α × Hp)} (kk : ∀ v : Int64, VJ rv QF E b nL σ pc L (.long v :: S) (k v)) : VJ rv QF E b nL σ pc L (.long e :: S) (Lt e k) := kk e
theorem V_none : VJ rv QF E b nL σ pc L S (none : Option (α × Hp)) := by
  obtain ⟨p, l, e, R, s, m, args, below, meth, c, cells, slots, dC, dI, cA⟩ := E
  intro r σ' hX
  cases hX
theorem V_sub (ks : List Nat) (hl : lv_pick L ks = L') (kk : VJ rv QF E b nL σ pc L' S X) : VJ rv QF E b nL σ pc L S X := by
  obtain ⟨p, l, e, R, s, m, args, below, meth, c, cells, slots, dC, dI, cA⟩ := E
  intro r σ' hX H locs ls hP hS hL
  exact kk r σ' hX H locs ls hP hS (lv_sub hL ks hl)
theorem V_iconst (C : CX E own cc nL d) {n : Int} {v : Int32} (hdg : decode cc pc = .ok (.iconst n, 1)) (hv : Int32.ofInt n = v) (kk : VJ rv QF E b nL σ (pc + 1) L (.int v :: S) (X)) : VJ rv QF E b nL σ (pc) L (S) (X) := by
  obtain ⟨p, l, e, R, s, m, args, below, meth, c, cells, slots, dC, dI, cA⟩ := E
  obtain ⟨⟨hx, hb, hml, ho, hts⟩, hK, hR1, hR2, hR3, hR4⟩ := C
  intro r σ' hX H locs ls hP hS hl
  exact lv_iconst hx hb hdg hv (kk r σ' hX H locs ls hP hS hl)
theorem V_bipush (C : CX E own cc nL d) {n : Int} {v : Int32} (hdg : decode cc pc = .ok (.bipush n, 2)) (hv : (Int8.ofInt n).toInt32 = v) (kk : VJ rv QF E b nL σ (pc + 2) L (.int v :: S) (X)) : VJ rv QF E b nL σ (pc) L (S) (X) := by
  obtain ⟨p, l, e, R, s, m, args, below, meth, c, cells, slots, dC, dI, cA⟩ := E
  obtain ⟨⟨hx, hb, hml, ho, hts⟩, hK, hR1, hR2, hR3, hR4⟩ := C
  intro r σ' hX H locs ls hP hS hl
  exact lv_bipush hx hb hdg hv (kk r σ' hX H locs ls hP hS hl)
theorem V_sipush (C : CX E own cc nL d) {n : Int} {v : Int32} (hdg : decode cc pc = .ok (.sipush n, 3)) (hv : (Int16.ofInt n).toInt32 = v) (kk : VJ rv QF E b nL σ (pc + 3) L (.int v :: S) (X)) : VJ rv QF E b nL σ (pc) L (S) (X) := by
  obtain ⟨p, l, e, R, s, m, args, below, meth, c, cells, slots, dC, dI, cA⟩ := E
  obtain ⟨⟨hx, hb, hml, ho, hts⟩, hK, hR1, hR2, hR3, hR4⟩ := C
  intro r σ' hX H locs ls hP hS hl
  exact lv_sipush hx hb hdg hv (kk r σ' hX H locs ls hP hS hl)
theorem V_lconst (C : CX E own cc nL d) {n : Fin 2} {v : Int64} (hdg : decode cc pc = .ok (.lconst n, 1)) (hv : Int64.ofNat (n : Nat) = v) (kk : VJ rv QF E b nL σ (pc + 1) L (.long v :: S) (X)) : VJ rv QF E b nL σ (pc) L (S) (X) := by
  obtain ⟨p, l, e, R, s, m, args, below, meth, c, cells, slots, dC, dI, cA⟩ := E
  obtain ⟨⟨hx, hb, hml, ho, hts⟩, hK, hR1, hR2, hR3, hR4⟩ := C
  intro r σ' hX H locs ls hP hS hl
  exact lv_lconst hx hb hdg hv (kk r σ' hX H locs ls hP hS hl)
theorem V_ldc2 (C : CX E own cc nL d) {index : Nat} {v : Int64} (hw : Cond.constantLong own index v ∈ BW) (hdg : decode cc pc = .ok (.ldc2_w index, 3)) (kk : VJ rv QF E b nL σ (pc + 3) L (.long v :: S) (X)) : VJ rv QF E b nL σ (pc) L (S) (X) := by
  obtain ⟨p, l, e, R, s, m, args, below, meth, c, cells, slots, dC, dI, cA⟩ := E
  obtain ⟨⟨hx, hb, hml, ho, hts⟩, hK, hR1, hR2, hR3, hR4⟩ := C
  intro r σ' hX H locs ls hP hS hl
  exact lv_ldc2 hx hb ho (hts _ hw) hdg (kk r σ' hX H locs ls hP hS hl)
theorem V_ldcw (C : CX E own cc nL d) {index : Nat} {v : Int32} (hw : Cond.constant own index v ∈ BW) (hdg : decode cc pc = .ok (.ldc_w index, 3)) (kk : VJ rv QF E b nL σ (pc + 3) L (.int v :: S) (X)) : VJ rv QF E b nL σ (pc) L (S) (X) := by
  obtain ⟨p, l, e, R, s, m, args, below, meth, c, cells, slots, dC, dI, cA⟩ := E
  obtain ⟨⟨hx, hb, hml, ho, hts⟩, hK, hR1, hR2, hR3, hR4⟩ := C
  intro r σ' hX H locs ls hP hS hl
  exact lv_ldcw hx hb ho (hts _ hw) hdg (kk r σ' hX H locs ls hP hS hl)
theorem V_iload_n (C : CX E own cc nL d) {n : Fin 4} {i : Nat} {x : Int32} (hdg : decode cc pc = .ok (.iload_n n, 1)) (hi : (n : Nat) = i) (k : Nat) (hk : L[k]? = some (i, .int x)) (kk : VJ rv QF E b nL σ (pc + 1) L (.int x :: S) (X)) : VJ rv QF E b nL σ (pc) L (S) (X) := by
  obtain ⟨p, l, e, R, s, m, args, below, meth, c, cells, slots, dC, dI, cA⟩ := E
  obtain ⟨⟨hx, hb, hml, ho, hts⟩, hK, hR1, hR2, hR3, hR4⟩ := C
  intro r σ' hX H locs ls hP hS hl
  exact lv_iload_n hx hb hdg hi (lv_at hl k hk) (kk r σ' hX H locs ls hP hS hl)
theorem V_iload (C : CX E own cc nL d) {i : Nat} {x : Int32} (hdg : decode cc pc = .ok (.iload i, 2)) (k : Nat) (hk : L[k]? = some (i, .int x)) (kk : VJ rv QF E b nL σ (pc + 2) L (.int x :: S) (X)) : VJ rv QF E b nL σ (pc) L (S) (X) := by
  obtain ⟨p, l, e, R, s, m, args, below, meth, c, cells, slots, dC, dI, cA⟩ := E
  obtain ⟨⟨hx, hb, hml, ho, hts⟩, hK, hR1, hR2, hR3, hR4⟩ := C
  intro r σ' hX H locs ls hP hS hl
  exact lv_iload hx hb hdg (lv_at hl k hk) (kk r σ' hX H locs ls hP hS hl)
theorem V_lload_n (C : CX E own cc nL d) {n : Fin 4} {i : Nat} {x : Int64} (hdg : decode cc pc = .ok (.lload_n n, 1)) (hi : (n : Nat) = i) (k : Nat) (hk : L[k]? = some (i, .long x)) (kk : VJ rv QF E b nL σ (pc + 1) L (.long x :: S) (X)) : VJ rv QF E b nL σ (pc) L (S) (X) := by
  obtain ⟨p, l, e, R, s, m, args, below, meth, c, cells, slots, dC, dI, cA⟩ := E
  obtain ⟨⟨hx, hb, hml, ho, hts⟩, hK, hR1, hR2, hR3, hR4⟩ := C
  intro r σ' hX H locs ls hP hS hl
  exact lv_lload_n hx hb hdg hi (lv_at hl k hk) (kk r σ' hX H locs ls hP hS hl)
theorem V_lload (C : CX E own cc nL d) {i : Nat} {x : Int64} (hdg : decode cc pc = .ok (.lload i, 2)) (k : Nat) (hk : L[k]? = some (i, .long x)) (kk : VJ rv QF E b nL σ (pc + 2) L (.long x :: S) (X)) : VJ rv QF E b nL σ (pc) L (S) (X) := by
  obtain ⟨p, l, e, R, s, m, args, below, meth, c, cells, slots, dC, dI, cA⟩ := E
  obtain ⟨⟨hx, hb, hml, ho, hts⟩, hK, hR1, hR2, hR3, hR4⟩ := C
  intro r σ' hX H locs ls hP hS hl
  exact lv_lload hx hb hdg (lv_at hl k hk) (kk r σ' hX H locs ls hP hS hl)
theorem V_aload_n (C : CX E own cc nL d) {n : Fin 4} {i : Nat} {x : Nat} (hdg : decode cc pc = .ok (.aload_n n, 1)) (hi : (n : Nat) = i) (k : Nat) (hk : L[k]? = some (i, .ref x)) (kk : VJ rv QF E b nL σ (pc + 1) L (.ref x :: S) (X)) : VJ rv QF E b nL σ (pc) L (S) (X) := by
  obtain ⟨p, l, e, R, s, m, args, below, meth, c, cells, slots, dC, dI, cA⟩ := E
  obtain ⟨⟨hx, hb, hml, ho, hts⟩, hK, hR1, hR2, hR3, hR4⟩ := C
  intro r σ' hX H locs ls hP hS hl
  exact lv_aload_n hx hb hdg hi (lv_at hl k hk) (kk r σ' hX H locs ls hP hS hl)
theorem V_aload (C : CX E own cc nL d) {i : Nat} {x : Nat} (hdg : decode cc pc = .ok (.aload i, 2)) (k : Nat) (hk : L[k]? = some (i, .ref x)) (kk : VJ rv QF E b nL σ (pc + 2) L (.ref x :: S) (X)) : VJ rv QF E b nL σ (pc) L (S) (X) := by
  obtain ⟨p, l, e, R, s, m, args, below, meth, c, cells, slots, dC, dI, cA⟩ := E
  obtain ⟨⟨hx, hb, hml, ho, hts⟩, hK, hR1, hR2, hR3, hR4⟩ := C
  intro r σ' hX H locs ls hP hS hl
  exact lv_aload hx hb hdg (lv_at hl k hk) (kk r σ' hX H locs ls hP hS hl)
theorem V_istore_n (C : CX E own cc nL d) {n : Fin 4} {i : Nat} {x : Int32} (hdg : decode cc pc = .ok (.istore_n n, 1)) (hi : (n : Nat) = i) (hn : i < nL) (hL : (i, Value.int x) :: L.filter (fun q => !(q.1 == i) && !(q.1 + 1 == i && q.2.category == 2)) = L') (kk : VJ rv QF E b nL σ (pc + 1) L' (S) (X)) : VJ rv QF E b nL σ (pc) L (Value.int x :: S) (X) := by
  obtain ⟨p, l, e, R, s, m, args, below, meth, c, cells, slots, dC, dI, cA⟩ := E
  obtain ⟨⟨hx, hb, hml, ho, hts⟩, hK, hR1, hR2, hR3, hR4⟩ := C
  intro r σ' hX H locs ls hP hS hl
  exact lv_istore_n hx hb hdg hi hl hn hL (fun ls hl => kk r σ' hX H locs ls hP hS hl)
theorem V_istore (C : CX E own cc nL d) {i : Nat} {x : Int32} (hdg : decode cc pc = .ok (.istore i, 2)) (hn : i < nL) (hL : (i, Value.int x) :: L.filter (fun q => !(q.1 == i) && !(q.1 + 1 == i && q.2.category == 2)) = L') (kk : VJ rv QF E b nL σ (pc + 2) L' (S) (X)) : VJ rv QF E b nL σ (pc) L (Value.int x :: S) (X) := by
  obtain ⟨p, l, e, R, s, m, args, below, meth, c, cells, slots, dC, dI, cA⟩ := E
  obtain ⟨⟨hx, hb, hml, ho, hts⟩, hK, hR1, hR2, hR3, hR4⟩ := C
  intro r σ' hX H locs ls hP hS hl
  exact lv_istore hx hb hdg hl hn hL (fun ls hl => kk r σ' hX H locs ls hP hS hl)
theorem V_lstore_n (C : CX E own cc nL d) {n : Fin 4} {i : Nat} {x : Int64} (hdg : decode cc pc = .ok (.lstore_n n, 1)) (hi : (n : Nat) = i) (hn : i + 1 < nL) (hL : (i, Value.long x) :: L.filter (fun q => !(q.1 == i) && (!(q.1 == i + 1) && !(q.1 + 1 == i && q.2.category == 2))) = L') (kk : VJ rv QF E b nL σ (pc + 1) L' (S) (X)) : VJ rv QF E b nL σ (pc) L (Value.long x :: S) (X) := by
  obtain ⟨p, l, e, R, s, m, args, below, meth, c, cells, slots, dC, dI, cA⟩ := E
  obtain ⟨⟨hx, hb, hml, ho, hts⟩, hK, hR1, hR2, hR3, hR4⟩ := C
  intro r σ' hX H locs ls hP hS hl
  exact lv_lstore_n hx hb hdg hi hl hn hL (fun ls hl => kk r σ' hX H locs ls hP hS hl)
theorem V_lstore (C : CX E own cc nL d) {i : Nat} {x : Int64} (hdg : decode cc pc = .ok (.lstore i, 2)) (hn : i + 1 < nL) (hL : (i, Value.long x) :: L.filter (fun q => !(q.1 == i) && (!(q.1 == i + 1) && !(q.1 + 1 == i && q.2.category == 2))) = L') (kk : VJ rv QF E b nL σ (pc + 2) L' (S) (X)) : VJ rv QF E b nL σ (pc) L (Value.long x :: S) (X) := by
  obtain ⟨p, l, e, R, s, m, args, below, meth, c, cells, slots, dC, dI, cA⟩ := E
  obtain ⟨⟨hx, hb, hml, ho, hts⟩, hK, hR1, hR2, hR3, hR4⟩ := C
  intro r σ' hX H locs ls hP hS hl
  exact lv_lstore hx hb hdg hl hn hL (fun ls hl => kk r σ' hX H locs ls hP hS hl)
theorem V_astore_n (C : CX E own cc nL d) {n : Fin 4} {i : Nat} {x : Nat} (hdg : decode cc pc = .ok (.astore_n n, 1)) (hi : (n : Nat) = i) (hn : i < nL) (hL : (i, Value.ref x) :: L.filter (fun q => !(q.1 == i) && !(q.1 + 1 == i && q.2.category == 2)) = L') (kk : VJ rv QF E b nL σ (pc + 1) L' (S) (X)) : VJ rv QF E b nL σ (pc) L (Value.ref x :: S) (X) := by
  obtain ⟨p, l, e, R, s, m, args, below, meth, c, cells, slots, dC, dI, cA⟩ := E
  obtain ⟨⟨hx, hb, hml, ho, hts⟩, hK, hR1, hR2, hR3, hR4⟩ := C
  intro r σ' hX H locs ls hP hS hl
  exact lv_astore_n hx hb hdg hi hl hn hL (fun ls hl => kk r σ' hX H locs ls hP hS hl)
theorem V_astore (C : CX E own cc nL d) {i : Nat} {x : Nat} (hdg : decode cc pc = .ok (.astore i, 2)) (hn : i < nL) (hL : (i, Value.ref x) :: L.filter (fun q => !(q.1 == i) && !(q.1 + 1 == i && q.2.category == 2)) = L') (kk : VJ rv QF E b nL σ (pc + 2) L' (S) (X)) : VJ rv QF E b nL σ (pc) L (Value.ref x :: S) (X) := by
  obtain ⟨p, l, e, R, s, m, args, below, meth, c, cells, slots, dC, dI, cA⟩ := E
  obtain ⟨⟨hx, hb, hml, ho, hts⟩, hK, hR1, hR2, hR3, hR4⟩ := C
  intro r σ' hX H locs ls hP hS hl
  exact lv_astore hx hb hdg hl hn hL (fun ls hl => kk r σ' hX H locs ls hP hS hl)
theorem V_iinc (C : CX E own cc nL d) {i k : Nat} {n : Int} {x v : Int32} {K : Int32 → Option (α × Hp)} {L' : Int32 → List (Nat × Value)} (hdg : decode cc pc = .ok (.iinc i n, 3)) (hk : L[k]? = some (i, .int x)) (hv : Int32.ofInt n = v) (hn : i < nL) (hL : ∀ y, (i, Value.int y) :: L.filter (fun q => !(q.1 == i) && !(q.1 + 1 == i && q.2.category == 2)) = L' y) (kk : ∀ y : Int32, VJ rv QF E b nL σ (pc + 3) (L' y) S (K y)) : VJ rv QF E b nL σ pc L S (Lt (x + v) K) := by
  obtain ⟨p, l, e, R, s, m, args, below, meth, c, cells, slots, dC, dI, cA⟩ := E
  obtain ⟨⟨hx, hb, hml, ho, hts⟩, hK, hR1, hR2, hR3, hR4⟩ := C
  intro r σ' hX H locs ls hP hS hl
  exact lv_iinc hx hb hdg hl hk (by rw [hv]) hn (hL (x + v)) (fun ls hl => kk (x + v) r σ' hX H locs ls hP hS hl)
theorem V_iadd (C : CX E own cc nL d) {x y : Int32} (hdg : decode cc pc = .ok (.iadd, 1)) (kk : VJ rv QF E b nL σ (pc + 1) L (.int (x + y) :: S) (X)) : VJ rv QF E b nL σ (pc) L (.int y :: .int x :: S) (X) := by
  obtain ⟨p, l, e, R, s, m, args, below, meth, c, cells, slots, dC, dI, cA⟩ := E
  obtain ⟨⟨hx, hb, hml, ho, hts⟩, hK, hR1, hR2, hR3, hR4⟩ := C
  intro r σ' hX H locs ls hP hS hl
  exact lv_iadd hx hb hdg (kk r σ' hX H locs ls hP hS hl)
theorem V_isub (C : CX E own cc nL d) {x y : Int32} (hdg : decode cc pc = .ok (.isub, 1)) (kk : VJ rv QF E b nL σ (pc + 1) L (.int (x - y) :: S) (X)) : VJ rv QF E b nL σ (pc) L (.int y :: .int x :: S) (X) := by
  obtain ⟨p, l, e, R, s, m, args, below, meth, c, cells, slots, dC, dI, cA⟩ := E
  obtain ⟨⟨hx, hb, hml, ho, hts⟩, hK, hR1, hR2, hR3, hR4⟩ := C
  intro r σ' hX H locs ls hP hS hl
  exact lv_isub hx hb hdg (kk r σ' hX H locs ls hP hS hl)
theorem V_imul (C : CX E own cc nL d) {x y : Int32} (hdg : decode cc pc = .ok (.imul, 1)) (kk : VJ rv QF E b nL σ (pc + 1) L (.int (x * y) :: S) (X)) : VJ rv QF E b nL σ (pc) L (.int y :: .int x :: S) (X) := by
  obtain ⟨p, l, e, R, s, m, args, below, meth, c, cells, slots, dC, dI, cA⟩ := E
  obtain ⟨⟨hx, hb, hml, ho, hts⟩, hK, hR1, hR2, hR3, hR4⟩ := C
  intro r σ' hX H locs ls hP hS hl
  exact lv_imul hx hb hdg (kk r σ' hX H locs ls hP hS hl)
theorem V_iand (C : CX E own cc nL d) {x y : Int32} (hdg : decode cc pc = .ok (.iand, 1)) (kk : VJ rv QF E b nL σ (pc + 1) L (.int (x &&& y) :: S) (X)) : VJ rv QF E b nL σ (pc) L (.int y :: .int x :: S) (X) := by
  obtain ⟨p, l, e, R, s, m, args, below, meth, c, cells, slots, dC, dI, cA⟩ := E
  obtain ⟨⟨hx, hb, hml, ho, hts⟩, hK, hR1, hR2, hR3, hR4⟩ := C
  intro r σ' hX H locs ls hP hS hl
  exact lv_iand hx hb hdg (kk r σ' hX H locs ls hP hS hl)
theorem V_ior (C : CX E own cc nL d) {x y : Int32} (hdg : decode cc pc = .ok (.ior, 1)) (kk : VJ rv QF E b nL σ (pc + 1) L (.int (x ||| y) :: S) (X)) : VJ rv QF E b nL σ (pc) L (.int y :: .int x :: S) (X) := by
  obtain ⟨p, l, e, R, s, m, args, below, meth, c, cells, slots, dC, dI, cA⟩ := E
  obtain ⟨⟨hx, hb, hml, ho, hts⟩, hK, hR1, hR2, hR3, hR4⟩ := C
  intro r σ' hX H locs ls hP hS hl
  exact lv_ior hx hb hdg (kk r σ' hX H locs ls hP hS hl)
theorem V_ixor (C : CX E own cc nL d) {x y : Int32} (hdg : decode cc pc = .ok (.ixor, 1)) (kk : VJ rv QF E b nL σ (pc + 1) L (.int (x ^^^ y) :: S) (X)) : VJ rv QF E b nL σ (pc) L (.int y :: .int x :: S) (X) := by
  obtain ⟨p, l, e, R, s, m, args, below, meth, c, cells, slots, dC, dI, cA⟩ := E
  obtain ⟨⟨hx, hb, hml, ho, hts⟩, hK, hR1, hR2, hR3, hR4⟩ := C
  intro r σ' hX H locs ls hP hS hl
  exact lv_ixor hx hb hdg (kk r σ' hX H locs ls hP hS hl)
theorem V_ishl (C : CX E own cc nL d) {x y : Int32} (hdg : decode cc pc = .ok (.ishl, 1)) (kk : VJ rv QF E b nL σ (pc + 1) L (.int (x <<< (y &&& 31)) :: S) (X)) : VJ rv QF E b nL σ (pc) L (.int y :: .int x :: S) (X) := by
  obtain ⟨p, l, e, R, s, m, args, below, meth, c, cells, slots, dC, dI, cA⟩ := E
  obtain ⟨⟨hx, hb, hml, ho, hts⟩, hK, hR1, hR2, hR3, hR4⟩ := C
  intro r σ' hX H locs ls hP hS hl
  exact lv_ishl hx hb hdg (kk r σ' hX H locs ls hP hS hl)
theorem V_ishr (C : CX E own cc nL d) {x y : Int32} (hdg : decode cc pc = .ok (.ishr, 1)) (kk : VJ rv QF E b nL σ (pc + 1) L (.int (x >>> (y &&& 31)) :: S) (X)) : VJ rv QF E b nL σ (pc) L (.int y :: .int x :: S) (X) := by
  obtain ⟨p, l, e, R, s, m, args, below, meth, c, cells, slots, dC, dI, cA⟩ := E
  obtain ⟨⟨hx, hb, hml, ho, hts⟩, hK, hR1, hR2, hR3, hR4⟩ := C
  intro r σ' hX H locs ls hP hS hl
  exact lv_ishr hx hb hdg (kk r σ' hX H locs ls hP hS hl)
theorem V_iushr (C : CX E own cc nL d) {x y : Int32} (hdg : decode cc pc = .ok (.iushr, 1)) (kk : VJ rv QF E b nL σ (pc + 1) L (.int ((x.toUInt32 >>> (y.toUInt32 &&& Int32.toUInt32 31)).toInt32) :: S) (X)) : VJ rv QF E b nL σ (pc) L (.int y :: .int x :: S) (X) := by
  obtain ⟨p, l, e, R, s, m, args, below, meth, c, cells, slots, dC, dI, cA⟩ := E
  obtain ⟨⟨hx, hb, hml, ho, hts⟩, hK, hR1, hR2, hR3, hR4⟩ := C
  intro r σ' hX H locs ls hP hS hl
  exact lv_iushr hx hb hdg rfl (kk r σ' hX H locs ls hP hS hl)
theorem V_ladd (C : CX E own cc nL d) {x y : Int64} (hdg : decode cc pc = .ok (.ladd, 1)) (kk : VJ rv QF E b nL σ (pc + 1) L (.long (x + y) :: S) (X)) : VJ rv QF E b nL σ (pc) L (.long y :: .long x :: S) (X) := by
  obtain ⟨p, l, e, R, s, m, args, below, meth, c, cells, slots, dC, dI, cA⟩ := E
  obtain ⟨⟨hx, hb, hml, ho, hts⟩, hK, hR1, hR2, hR3, hR4⟩ := C
  intro r σ' hX H locs ls hP hS hl
  exact lv_ladd hx hb hdg (kk r σ' hX H locs ls hP hS hl)
theorem V_lsub (C : CX E own cc nL d) {x y : Int64} (hdg : decode cc pc = .ok (.lsub, 1)) (kk : VJ rv QF E b nL σ (pc + 1) L (.long (x - y) :: S) (X)) : VJ rv QF E b nL σ (pc) L (.long y :: .long x :: S) (X) := by
  obtain ⟨p, l, e, R, s, m, args, below, meth, c, cells, slots, dC, dI, cA⟩ := E
  obtain ⟨⟨hx, hb, hml, ho, hts⟩, hK, hR1, hR2, hR3, hR4⟩ := C
  intro r σ' hX H locs ls hP hS hl
  exact lv_lsub hx hb hdg (kk r σ' hX H locs ls hP hS hl)
theorem V_lmul (C : CX E own cc nL d) {x y : Int64} (hdg : decode cc pc = .ok (.lmul, 1)) (kk : VJ rv QF E b nL σ (pc + 1) L (.long (x * y) :: S) (X)) : VJ rv QF E b nL σ (pc) L (.long y :: .long x :: S) (X) := by
  obtain ⟨p, l, e, R, s, m, args, below, meth, c, cells, slots, dC, dI, cA⟩ := E
  obtain ⟨⟨hx, hb, hml, ho, hts⟩, hK, hR1, hR2, hR3, hR4⟩ := C
  intro r σ' hX H locs ls hP hS hl
  exact lv_lmul hx hb hdg (kk r σ' hX H locs ls hP hS hl)
theorem V_land (C : CX E own cc nL d) {x y : Int64} (hdg : decode cc pc = .ok (.land, 1)) (kk : VJ rv QF E b nL σ (pc + 1) L (.long (x &&& y) :: S) (X)) : VJ rv QF E b nL σ (pc) L (.long y :: .long x :: S) (X) := by
  obtain ⟨p, l, e, R, s, m, args, below, meth, c, cells, slots, dC, dI, cA⟩ := E
  obtain ⟨⟨hx, hb, hml, ho, hts⟩, hK, hR1, hR2, hR3, hR4⟩ := C
  intro r σ' hX H locs ls hP hS hl
  exact lv_land hx hb hdg (kk r σ' hX H locs ls hP hS hl)
theorem V_lor (C : CX E own cc nL d) {x y : Int64} (hdg : decode cc pc = .ok (.lor, 1)) (kk : VJ rv QF E b nL σ (pc + 1) L (.long (x ||| y) :: S) (X)) : VJ rv QF E b nL σ (pc) L (.long y :: .long x :: S) (X) := by
  obtain ⟨p, l, e, R, s, m, args, below, meth, c, cells, slots, dC, dI, cA⟩ := E
  obtain ⟨⟨hx, hb, hml, ho, hts⟩, hK, hR1, hR2, hR3, hR4⟩ := C
  intro r σ' hX H locs ls hP hS hl
  exact lv_lor hx hb hdg (kk r σ' hX H locs ls hP hS hl)
theorem V_lshl (C : CX E own cc nL d) {x : Int64} {y : Int32} (hdg : decode cc pc = .ok (.lshl, 1)) (kk : VJ rv QF E b nL σ (pc + 1) L (.long (x <<< (y.toInt64 &&& 63)) :: S) (X)) : VJ rv QF E b nL σ (pc) L (.int y :: .long x :: S) (X) := by
  obtain ⟨p, l, e, R, s, m, args, below, meth, c, cells, slots, dC, dI, cA⟩ := E
  obtain ⟨⟨hx, hb, hml, ho, hts⟩, hK, hR1, hR2, hR3, hR4⟩ := C
  intro r σ' hX H locs ls hP hS hl
  exact lv_lshl hx hb hdg rfl (kk r σ' hX H locs ls hP hS hl)
theorem V_lshr (C : CX E own cc nL d) {x : Int64} {y : Int32} (hdg : decode cc pc = .ok (.lshr, 1)) (kk : VJ rv QF E b nL σ (pc + 1) L (.long (x >>> (y.toInt64 &&& 63)) :: S) (X)) : VJ rv QF E b nL σ (pc) L (.int y :: .long x :: S) (X) := by
  obtain ⟨p, l, e, R, s, m, args, below, meth, c, cells, slots, dC, dI, cA⟩ := E
  obtain ⟨⟨hx, hb, hml, ho, hts⟩, hK, hR1, hR2, hR3, hR4⟩ := C
  intro r σ' hX H locs ls hP hS hl
  exact lv_lshr hx hb hdg rfl (kk r σ' hX H locs ls hP hS hl)
theorem V_i2l (C : CX E own cc nL d) {x : Int32} (hdg : decode cc pc = .ok (.i2l, 1)) (kk : VJ rv QF E b nL σ (pc + 1) L (.long x.toInt64 :: S) (X)) : VJ rv QF E b nL σ (pc) L (.int x :: S) (X) := by
  obtain ⟨p, l, e, R, s, m, args, below, meth, c, cells, slots, dC, dI, cA⟩ := E
  obtain ⟨⟨hx, hb, hml, ho, hts⟩, hK, hR1, hR2, hR3, hR4⟩ := C
  intro r σ' hX H locs ls hP hS hl
  exact lv_i2l hx hb hdg rfl (kk r σ' hX H locs ls hP hS hl)
theorem V_l2i (C : CX E own cc nL d) {x : Int64} (hdg : decode cc pc = .ok (.l2i, 1)) (kk : VJ rv QF E b nL σ (pc + 1) L (.int x.toInt32 :: S) (X)) : VJ rv QF E b nL σ (pc) L (.long x :: S) (X) := by
  obtain ⟨p, l, e, R, s, m, args, below, meth, c, cells, slots, dC, dI, cA⟩ := E
  obtain ⟨⟨hx, hb, hml, ho, hts⟩, hK, hR1, hR2, hR3, hR4⟩ := C
  intro r σ' hX H locs ls hP hS hl
  exact lv_l2i hx hb hdg rfl (kk r σ' hX H locs ls hP hS hl)
theorem V_i2b (C : CX E own cc nL d) {x : Int32} (hdg : decode cc pc = .ok (.i2b, 1)) (kk : VJ rv QF E b nL σ (pc + 1) L (.int x.toInt8.toInt32 :: S) (X)) : VJ rv QF E b nL σ (pc) L (.int x :: S) (X) := by
  obtain ⟨p, l, e, R, s, m, args, below, meth, c, cells, slots, dC, dI, cA⟩ := E
  obtain ⟨⟨hx, hb, hml, ho, hts⟩, hK, hR1, hR2, hR3, hR4⟩ := C
  intro r σ' hX H locs ls hP hS hl
  exact lv_i2b hx hb hdg rfl (kk r σ' hX H locs ls hP hS hl)
theorem V_lcmp (C : CX E own cc nL d) {x y : Int64} (hdg : decode cc pc = .ok (.lcmp, 1)) (kk : VJ rv QF E b nL σ (pc + 1) L (.int (lg_cmp x y) :: S) (X)) : VJ rv QF E b nL σ (pc) L (.long y :: .long x :: S) (X) := by
  obtain ⟨p, l, e, R, s, m, args, below, meth, c, cells, slots, dC, dI, cA⟩ := E
  obtain ⟨⟨hx, hb, hml, ho, hts⟩, hK, hR1, hR2, hR3, hR4⟩ := C
  intro r σ' hX H locs ls hP hS hl
  exact W.lcmp hx hb hdg (kk r σ' hX H locs ls hP hS hl)
theorem V_irem (C : CX E own cc nL d) {x y : Int32} (hdg : decode cc pc = .ok (.irem, 1)) (kk : VJ rv QF E b nL σ (pc + 1) L (.int (x - x / y * y) :: S) (X)) : VJ rv QF E b nL σ (pc) L (.int y :: .int x :: S) (nzI y X) := by
  obtain ⟨p, l, e, R, s, m, args, below, meth, c, cells, slots, dC, dI, cA⟩ := E
  obtain ⟨⟨hx, hb, hml, ho, hts⟩, hK, hR1, hR2, hR3, hR4⟩ := C
  intro r σ' hX H locs ls hP hS hl
  have hz : ¬ y = 0 ∧ X = some (r, σ') := by
    unfold nzI at hX
    by_cases q : y = 0
    · rw [if_pos q] at hX; cases hX
    · rw [if_neg q] at hX; exact ⟨q, hX⟩
  exact lv_irem hx hb hdg hz.1 (kk r σ' hz.2 H locs ls hP hS hl)
theorem V_lrem (C : CX E own cc nL d) {x y : Int64} (hdg : decode cc pc = .ok (.lrem, 1)) (kk : VJ rv QF E b nL σ (pc + 1) L (.long (x - x / y * y) :: S) (X)) : VJ rv QF E b nL σ (pc) L (.long y :: .long x :: S) (nzL y X) := by
  obtain ⟨p, l, e, R, s, m, args, below, meth, c, cells, slots, dC, dI, cA⟩ := E
  obtain ⟨⟨hx, hb, hml, ho, hts⟩, hK, hR1, hR2, hR3, hR4⟩ := C
  intro r σ' hX H locs ls hP hS hl
  have hz : ¬ y = 0 ∧ X = some (r, σ') := by
    unfold nzL at hX
    by_cases q : y = 0
    · rw [if_pos q] at hX; cases hX
    · rw [if_neg q] at hX; exact ⟨q, hX⟩
  exact lv_lrem hx hb hdg hz.1 (kk r σ' hz.2 H locs ls hP hS hl)
theorem V_ldiv (C : CX E own cc nL d) {x y : Int64} (hdg : decode cc pc = .ok (.ldiv, 1)) (kk : VJ rv QF E b nL σ (pc + 1) L (.long (x / y) :: S) (X)) : VJ rv QF E b nL σ (pc) L (.long y :: .long x :: S) (nzL y X) := by
  obtain ⟨p, l, e, R, s, m, args, below, meth, c, cells, slots, dC, dI, cA⟩ := E
  obtain ⟨⟨hx, hb, hml, ho, hts⟩, hK, hR1, hR2, hR3, hR4⟩ := C
  intro r σ' hX H locs ls hP hS hl
  have hz : ¬ y = 0 ∧ X = some (r, σ') := by
    unfold nzL at hX
    by_cases q : y = 0
    · rw [if_pos q] at hX; cases hX
    · rw [if_neg q] at hX; exact ⟨q, hX⟩
  exact lv_ldiv hx hb hdg hz.1 (kk r σ' hz.2 H locs ls hP hS hl)
theorem V_dup (C : CX E own cc nL d) {v : Value} (hdg : decode cc pc = .ok (.dup, 1)) (hv : v.category = 1) (kk : VJ rv QF E b nL σ (pc + 1) L (v :: v :: S) (X)) : VJ rv QF E b nL σ (pc) L (v :: S) (X) := by
  obtain ⟨p, l, e, R, s, m, args, below, meth, c, cells, slots, dC, dI, cA⟩ := E
  obtain ⟨⟨hx, hb, hml, ho, hts⟩, hK, hR1, hR2, hR3, hR4⟩ := C
  intro r σ' hX H locs ls hP hS hl
  exact lv_dup hx hb hdg hv (kk r σ' hX H locs ls hP hS hl)
theorem V_pop (C : CX E own cc nL d) {v : Value} (hdg : decode cc pc = .ok (.pop, 1)) (hv : v.category = 1) (kk : VJ rv QF E b nL σ (pc + 1) L (S) (X)) : VJ rv QF E b nL σ (pc) L (v :: S) (X) := by
  obtain ⟨p, l, e, R, s, m, args, below, meth, c, cells, slots, dC, dI, cA⟩ := E
  obtain ⟨⟨hx, hb, hml, ho, hts⟩, hK, hR1, hR2, hR3, hR4⟩ := C
  intro r σ' hX H locs ls hP hS hl
  exact lv_pop hx hb hdg hv (kk r σ' hX H locs ls hP hS hl)
theorem V_dup2 (C : CX E own cc nL d) {v u : Value} (hdg : decode cc pc = .ok (.dup2, 1)) (hv : v.category = 1) (hu : u.category = 1) (kk : VJ rv QF E b nL σ (pc + 1) L (v :: u :: v :: u :: S) (X)) : VJ rv QF E b nL σ (pc) L (v :: u :: S) (X) := by
  obtain ⟨p, l, e, R, s, m, args, below, meth, c, cells, slots, dC, dI, cA⟩ := E
  obtain ⟨⟨hx, hb, hml, ho, hts⟩, hK, hR1, hR2, hR3, hR4⟩ := C
  intro r σ' hX H locs ls hP hS hl
  exact lv_dup2_11 hx hb hdg hv hu (kk r σ' hX H locs ls hP hS hl)
theorem V_if_eq (C : CX E own cc nL d) {x : Int32} {off : Int} {tgt : Nat} (hdg : decode cc pc = .ok (.ifCond .eq off, 3)) (ht : (pc : Int) + off = (tgt : Int)) (kt : VJ rv QF E b nL σ tgt L S X1) (kf : VJ rv QF E b nL σ (pc + 3) L S X2) : VJ rv QF E b nL σ pc L (.int x :: S) (if x = 0 then X1 else X2) := by
  obtain ⟨p, l, e, R, s, m, args, below, meth, c, cells, slots, dC, dI, cA⟩ := E
  obtain ⟨⟨hx, hb, hml, ho, hts⟩, hK, hR1, hR2, hR3, hR4⟩ := C
  intro r σ' hX H locs ls hP hS hl
  exact lv_if_eq hx hb hdg ht (fun q => kt r σ' (by rw [if_pos q] at hX; exact hX) H locs ls hP hS hl) (fun q => kf r σ' (by rw [if_neg q] at hX; exact hX) H locs ls hP hS hl)
theorem V_if_lt (C : CX E own cc nL d) {x : Int32} {off : Int} {tgt : Nat} (hdg : decode cc pc = .ok (.ifCond .lt off, 3)) (ht : (pc : Int) + off = (tgt : Int)) (kt : VJ rv QF E b nL σ tgt L S X1) (kf : VJ rv QF E b nL σ (pc + 3) L S X2) : VJ rv QF E b nL σ pc L (.int x :: S) (if x < 0 then X1 else X2) := by
  obtain ⟨p, l, e, R, s, m, args, below, meth, c, cells, slots, dC, dI, cA⟩ := E
  obtain ⟨⟨hx, hb, hml, ho, hts⟩, hK, hR1, hR2, hR3, hR4⟩ := C
  intro r σ' hX H locs ls hP hS hl
  exact lv_if_lt hx hb hdg ht (fun q => kt r σ' (by rw [if_pos q] at hX; exact hX) H locs ls hP hS hl) (fun q => kf r σ' (by rw [if_neg q] at hX; exact hX) H locs ls hP hS hl)
theorem V_if_ge (C : CX E own cc nL d) {x : Int32} {off : Int} {tgt : Nat} (hdg : decode cc pc = .ok (.ifCond .ge off, 3)) (ht : (pc : Int) + off = (tgt : Int)) (kt : VJ rv QF E b nL σ tgt L S X1) (kf : VJ rv QF E b nL σ (pc + 3) L S X2) : VJ rv QF E b nL σ pc L (.int x :: S) (if 0 ≤ x then X1 else X2) := by
  obtain ⟨p, l, e, R, s, m, args, below, meth, c, cells, slots, dC, dI, cA⟩ := E
  obtain ⟨⟨hx, hb, hml, ho, hts⟩, hK, hR1, hR2, hR3, hR4⟩ := C
  intro r σ' hX H locs ls hP hS hl
  exact lv_if_ge hx hb hdg ht (fun q => kt r σ' (by rw [if_pos q] at hX; exact hX) H locs ls hP hS hl) (fun q => kf r σ' (by rw [if_neg q] at hX; exact hX) H locs ls hP hS hl)
theorem V_if_gt (C : CX E own cc nL d) {x : Int32} {off : Int} {tgt : Nat} (hdg : decode cc pc = .ok (.ifCond .gt off, 3)) (ht : (pc : Int) + off = (tgt : Int)) (kt : VJ rv QF E b nL σ tgt L S X1) (kf : VJ rv QF E b nL σ (pc + 3) L S X2) : VJ rv QF E b nL σ pc L (.int x :: S) (if 0 < x then X1 else X2) := by
  obtain ⟨p, l, e, R, s, m, args, below, meth, c, cells, slots, dC, dI, cA⟩ := E
  obtain ⟨⟨hx, hb, hml, ho, hts⟩, hK, hR1, hR2, hR3, hR4⟩ := C
  intro r σ' hX H locs ls hP hS hl
  exact lv_if_gt hx hb hdg ht (fun q => kt r σ' (by rw [if_pos q] at hX; exact hX) H locs ls hP hS hl) (fun q => kf r σ' (by rw [if_neg q] at hX; exact hX) H locs ls hP hS hl)
theorem V_if_le (C : CX E own cc nL d) {x : Int32} {off : Int} {tgt : Nat} (hdg : decode cc pc = .ok (.ifCond .le off, 3)) (ht : (pc : Int) + off = (tgt : Int)) (kt : VJ rv QF E b nL σ tgt L S X1) (kf : VJ rv QF E b nL σ (pc + 3) L S X2) : VJ rv QF E b nL σ pc L (.int x :: S) (if x ≤ 0 then X1 else X2) := by
  obtain ⟨p, l, e, R, s, m, args, below, meth, c, cells, slots, dC, dI, cA⟩ := E
  obtain ⟨⟨hx, hb, hml, ho, hts⟩, hK, hR1, hR2, hR3, hR4⟩ := C
  intro r σ' hX H locs ls hP hS hl
  exact lv_if_le hx hb hdg ht (fun q => kt r σ' (by rw [if_pos q] at hX; exact hX) H locs ls hP hS hl) (fun q => kf r σ' (by rw [if_neg q] at hX; exact hX) H locs ls hP hS hl)
theorem V_if_ne (C : CX E own cc nL d) {x : Int32} {off : Int} {tgt : Nat} (hdg : decode cc pc = .ok (.ifCond .ne off, 3)) (ht : (pc : Int) + off = (tgt : Int)) (kt : VJ rv QF E b nL σ tgt L S X1) (kf : VJ rv QF E b nL σ (pc + 3) L S X2) : VJ rv QF E b nL σ pc L (.int x :: S) (if x = 0 then X2 else X1) := by
  obtain ⟨p, l, e, R, s, m, args, below, meth, c, cells, slots, dC, dI, cA⟩ := E
  obtain ⟨⟨hx, hb, hml, ho, hts⟩, hK, hR1, hR2, hR3, hR4⟩ := C
  intro r σ' hX H locs ls hP hS hl
  exact lv_if_ne hx hb hdg ht (fun q => kt r σ' (by rw [if_neg q] at hX; exact hX) H locs ls hP hS hl) (fun q => kf r σ' (by rw [if_pos q] at hX; exact hX) H locs ls hP hS hl)
theorem V_icmp_eq (C : CX E own cc nL d) {x y : Int32} {off : Int} {tgt : Nat} (hdg : decode cc pc = .ok (.if_icmp .eq off, 3)) (ht : (pc : Int) + off = (tgt : Int)) (kt : VJ rv QF E b nL σ tgt L S X1) (kf : VJ rv QF E b nL σ (pc + 3) L S X2) : VJ rv QF E b nL σ pc L (.int y :: .int x :: S) (if x = y then X1 else X2) := by
  obtain ⟨p, l, e, R, s, m, args, below, meth, c, cells, slots, dC, dI, cA⟩ := E
  obtain ⟨⟨hx, hb, hml, ho, hts⟩, hK, hR1, hR2, hR3, hR4⟩ := C
  intro r σ' hX H locs ls hP hS hl
  exact lv_icmp_eq hx hb hdg ht (fun q => kt r σ' (by rw [if_pos q] at hX; exact hX) H locs ls hP hS hl) (fun q => kf r σ' (by rw [if_neg q] at hX; exact hX) H locs ls hP hS hl)
theorem V_icmp_lt (C : CX E own cc nL d) {x y : Int32} {off : Int} {tgt : Nat} (hdg : decode cc pc = .ok (.if_icmp .lt off, 3)) (ht : (pc : Int) + off = (tgt : Int)) (kt : VJ rv QF E b nL σ tgt L S X1) (kf : VJ rv QF E b nL σ (pc + 3) L S X2) : VJ rv QF E b nL σ pc L (.int y :: .int x :: S) (if x < y then X1 else X2) := by
  obtain ⟨p, l, e, R, s, m, args, below, meth, c, cells, slots, dC, dI, cA⟩ := E
  obtain ⟨⟨hx, hb, hml, ho, hts⟩, hK, hR1, hR2, hR3, hR4⟩ := C
  intro r σ' hX H locs ls hP hS hl
  exact lv_icmp_lt hx hb hdg ht (fun q => kt r σ' (by rw [if_pos q] at hX; exact hX) H locs ls hP hS hl) (fun q => kf r σ' (by rw [if_neg q] at hX; exact hX) H locs ls hP hS hl)
theorem V_icmp_ge (C : CX E own cc nL d) {x y : Int32} {off : Int} {tgt : Nat} (hdg : decode cc pc = .ok (.if_icmp .ge off, 3)) (ht : (pc : Int) + off = (tgt : Int)) (kt : VJ rv QF E b nL σ tgt L S X1) (kf : VJ rv QF E b nL σ (pc + 3) L S X2) : VJ rv QF E b nL σ pc L (.int y :: .int x :: S) (if y ≤ x then X1 else X2) := by
  obtain ⟨p, l, e, R, s, m, args, below, meth, c, cells, slots, dC, dI, cA⟩ := E
  obtain ⟨⟨hx, hb, hml, ho, hts⟩, hK, hR1, hR2, hR3, hR4⟩ := C
  intro r σ' hX H locs ls hP hS hl
  exact lv_icmp_ge hx hb hdg ht (fun q => kt r σ' (by rw [if_pos q] at hX; exact hX) H locs ls hP hS hl) (fun q => kf r σ' (by rw [if_neg q] at hX; exact hX) H locs ls hP hS hl)
theorem V_icmp_gt (C : CX E own cc nL d) {x y : Int32} {off : Int} {tgt : Nat} (hdg : decode cc pc = .ok (.if_icmp .gt off, 3)) (ht : (pc : Int) + off = (tgt : Int)) (kt : VJ rv QF E b nL σ tgt L S X1) (kf : VJ rv QF E b nL σ (pc + 3) L S X2) : VJ rv QF E b nL σ pc L (.int y :: .int x :: S) (if y < x then X1 else X2) := by
  obtain ⟨p, l, e, R, s, m, args, below, meth, c, cells, slots, dC, dI, cA⟩ := E
  obtain ⟨⟨hx, hb, hml, ho, hts⟩, hK, hR1, hR2, hR3, hR4⟩ := C
  intro r σ' hX H locs ls hP hS hl
  exact lv_icmp_gt hx hb hdg ht (fun q => kt r σ' (by rw [if_pos q] at hX; exact hX) H locs ls hP hS hl) (fun q => kf r σ' (by rw [if_neg q] at hX; exact hX) H locs ls hP hS hl)
theorem V_icmp_le (C : CX E own cc nL d) {x y : Int32} {off : Int} {tgt : Nat} (hdg : decode cc pc = .ok (.if_icmp .le off, 3)) (ht : (pc : Int) + off = (tgt : Int)) (kt : VJ rv QF E b nL σ tgt L S X1) (kf : VJ rv QF E b nL σ (pc + 3) L S X2) : VJ rv QF E b nL σ pc L (.int y :: .int x :: S) (if x ≤ y then X1 else X2) := by
  obtain ⟨p, l, e, R, s, m, args, below, meth, c, cells, slots, dC, dI, cA⟩ := E
  obtain ⟨⟨hx, hb, hml, ho, hts⟩, hK, hR1, hR2, hR3, hR4⟩ := C
  intro r σ' hX H locs ls hP hS hl
  exact lv_icmp_le hx hb hdg ht (fun q => kt r σ' (by rw [if_pos q] at hX; exact hX) H locs ls hP hS hl) (fun q => kf r σ' (by rw [if_neg q] at hX; exact hX) H locs ls hP hS hl)
theorem V_icmp_ne (C : CX E own cc nL d) {x y : Int32} {off : Int} {tgt : Nat} (hdg : decode cc pc = .ok (.if_icmp .ne off, 3)) (ht : (pc : Int) + off = (tgt : Int)) (kt : VJ rv QF E b nL σ tgt L S X1) (kf : VJ rv QF E b nL σ (pc + 3) L S X2) : VJ rv QF E b nL σ pc L (.int y :: .int x :: S) (if x = y then X2 else X1) := by
  obtain ⟨p, l, e, R, s, m, args, below, meth, c, cells, slots, dC, dI, cA⟩ := E
  obtain ⟨⟨hx, hb, hml, ho, hts⟩, hK, hR1, hR2, hR3, hR4⟩ := C
  intro r σ' hX H locs ls hP hS hl
  exact lv_icmp_ne hx hb hdg ht (fun q => kt r σ' (by rw [if_neg q] at hX; exact hX) H locs ls hP hS hl) (fun q => kf r σ' (by rw [if_pos q] at hX; exact hX) H locs ls hP hS hl)
theorem V_goto (C : CX E own cc nL d) {off : Int} {tgt : Nat} (hdg : decode cc pc = .ok (.goto off, 3)) (ht : (pc : Int) + off = (tgt : Int)) (kk : VJ rv QF E b nL σ (tgt) L (S) (X)) : VJ rv QF E b nL σ (pc) L (S) (X) := by
  obtain ⟨p, l, e, R, s, m, args, below, meth, c, cells, slots, dC, dI, cA⟩ := E
  obtain ⟨⟨hx, hb, hml, ho, hts⟩, hK, hR1, hR2, hR3, hR4⟩ := C
  intro r σ' hX H locs ls hP hS hl
  exact lv_goto hx hb hdg ht (kk r σ' hX H locs ls hP hS hl)
theorem V_table (C : CX E own cc nL d) {dflt hi : Int} {offs : Array Int} {len : Nat} {x : Int32} {dt : Nat} {xs : List (Option (α × Hp))} {dx : Option (α × Hp)} (hdg : decode cc pc = .ok (.tableswitch dflt 0 hi offs, len)) (hhi : hi + 1 = (xs.length : Int)) (ht : (pc : Int) + dflt = (dt : Int)) (kd : VJ rv QF E b nL σ dt L S dx) (kk : ∀ (k : Nat) (X : Option (α × Hp)), xs[k]? = some X → ∃ (off : Int) (tgt : Nat), offs[k]? = some off ∧ (pc : Int) + off = (tgt : Int) ∧ VJ rv QF E b nL σ tgt L S X) : VJ rv QF E b nL σ pc L (.int x :: S) (swt x xs dx) := by
  obtain ⟨p, l, e, R, s, m, args, below, meth, c, cells, slots, dC, dI, cA⟩ := E
  obtain ⟨⟨hx, hb, hml, ho, hts⟩, hK, hR1, hR2, hR3, hR4⟩ := C
  intro r σ' hX H locs ls hP hS hl
  unfold swt at hX
  by_cases hneg : x < 0
  · rw [if_pos hneg] at hX
    have h0 : x.toInt < 0 := by
      have := Int32.lt_iff_toInt_lt.mp hneg
      simpa using this
    exact lv_tableOut hx hb hdg (Or.inl h0) ht (kd r σ' hX H locs ls hP hS hl)
  · rw [if_neg hneg] at hX
    have h0 : ¬ x.toInt < 0 := fun q => hneg (Int32.lt_iff_toInt_lt.mpr (by simpa using q))
    have hcl : x.toNatClampNeg = x.toInt.toNat := rfl
    cases hk : xs[x.toNatClampNeg]? with
    | none =>
      rw [hk] at hX
      have h1 : xs.length ≤ x.toNatClampNeg := List.getElem?_eq_none_iff.mp hk
      exact lv_tableOut hx hb hdg (Or.inr (by omega)) ht (kd r σ' hX H locs ls hP hS hl)
    | some Y =>
      rw [hk] at hX
      have h1 : x.toNatClampNeg < xs.length := (List.getElem?_eq_some_iff.mp hk).1
      obtain ⟨off, tgt, g1, g2, g3⟩ := kk _ _ hk
      exact lv_tableIn hx hb hdg h0 (by omega) (by rw [show (x.toInt - 0).toNat = x.toNatClampNeg by rw [hcl]; omega]; exact g1) g2 (g3 r σ' hX H locs ls hP hS hl)
theorem V_getI (C : CX E own cc nL d) {o ci k N : Nat} {Cn : String} {T : u_T} {index : Nat} {tpl : List (Option Nat)} (hN : o < NN) (hlay : lay o = .inr (.inr (ci, tpl))) (hc : vwCl[ci]? = some (Cn, T, N)) (hin : ∀ w ∈ u_ws Cn T N, w ∈ BW) (hk : k < N) (hlink : Cond.fieldLink own index (T k).1 (T k).2.1 (T k).2.2.1 ∈ BW) (ht : tpl[k]? = some none) (hdg : decode cc pc = .ok (.getfield index, 3)) (kk : VJ rv QF E b nL σ (pc + 3) L (.int (σ o k) :: S) (X)) : VJ rv QF E b nL σ (pc) L (.ref (b + o) :: S) (X) := by
  obtain ⟨p, l, e, R, s, m, args, below, meth, c, cells, slots, dC, dI, cA⟩ := E
  obtain ⟨⟨hx, hb, hml, ho, hts⟩, hK, hR1, hR2, hR3, hR4⟩ := C
  intro r σ' hX H locs ls hP hS hl
  have he : (wl cA b σ)[o]? = some (b + o, .inr (ci, mkF b (σ o) 0 tpl)) := by rw [wl_get hN, hlay]; rfl
  have hv : (mkF b (σ o) 0 tpl)[k]? = some (.int (σ o k)) := by have h := mkF_int b (σ o) tpl 0 k ht; simpa using h
  exact va_get (D := (dC, dI)) (ci := ci) (C := Cn) (T := T) (N := N) hx hb hts hin ho hK.1 hP o he hc k hk (hts _ hlink) (fun _ h => h) hv hdg (kk r σ' hX H locs ls hP hS hl)
theorem V_getR (C : CX E own cc nL d) {o ci k N : Nat} {Cn : String} {T : u_T} {index : Nat} {tpl : List (Option Nat)} (hN : o < NN) (hlay : lay o = .inr (.inr (ci, tpl))) (hc : vwCl[ci]? = some (Cn, T, N)) (hin : ∀ w ∈ u_ws Cn T N, w ∈ BW) (hk : k < N) (hlink : Cond.fieldLink own index (T k).1 (T k).2.1 (T k).2.2.1 ∈ BW) {q : Nat} (ht : tpl[k]? = some (some q)) (hdg : decode cc pc = .ok (.getfield index, 3)) (kk : VJ rv QF E b nL σ (pc + 3) L (.ref (b + q) :: S) (X)) : VJ rv QF E b nL σ (pc) L (.ref (b + o) :: S) (X) := by
  obtain ⟨p, l, e, R, s, m, args, below, meth, c, cells, slots, dC, dI, cA⟩ := E
  obtain ⟨⟨hx, hb, hml, ho, hts⟩, hK, hR1, hR2, hR3, hR4⟩ := C
  intro r σ' hX H locs ls hP hS hl
  have he : (wl cA b σ)[o]? = some (b + o, .inr (ci, mkF b (σ o) 0 tpl)) := by rw [wl_get hN, hlay]; rfl
  have hv : (mkF b (σ o) 0 tpl)[k]? = some (.ref (b + q)) := by have h := mkF_ref b (σ o) tpl 0 k ht; simpa using h
  exact va_get (D := (dC, dI)) (ci := ci) (C := Cn) (T := T) (N := N) hx hb hts hin ho hK.1 hP o he hc k hk (hts _ hlink) (fun _ h => h) hv hdg (kk r σ' hX H locs ls hP hS hl)
theorem V_putI (C : CX E own cc nL d) {o ci k N : Nat} {Cn : String} {T : u_T} {index : Nat} {tpl : List (Option Nat)} (hN : o < NN) (hlay : lay o = .inr (.inr (ci, tpl))) (hc : vwCl[ci]? = some (Cn, T, N)) (hin : ∀ w ∈ u_ws Cn T N, w ∈ BW) (hk : k < N) (hlink : Cond.fieldLink own index (T k).1 (T k).2.1 (T k).2.2.1 ∈ BW) (ty0 : Nat → FieldType) (hty : ∀ k, k < N → parseFieldDescriptor (T k).2.2.1 = some (ty0 k)) (hnm : ∀ a, a < N → ∀ b, b < N → a ≠ b → (T a).2.1 ≠ (T b).2.1) (hfin : (T k).2.2.2 = false) {ty : FieldType} (hd : parseFieldDescriptor (T k).2.2.1 = some ty) (ht : tpl[k]? = some none) {v : Int32} {K : Hp → Option (α × Hp)} (hn : narrow ty (.int v) = .int v) (hfit : fits ty (.int v) = true) (hdg : decode cc pc = .ok (.putfield index, 3)) (kk : ∀ σ1 : Hp, VJ rv QF E b nL σ1 (pc + 3) L S (K σ1)) : VJ rv QF E b nL σ pc L (.int v :: .ref (b + o) :: S) (Lt (wr σ o k v) K) := by
  obtain ⟨p, l, e, R, s, m, args, below, meth, c, cells, slots, dC, dI, cA⟩ := E
  obtain ⟨⟨hx, hb, hml, ho, hts⟩, hK, hR1, hR2, hR3, hR4⟩ := C
  intro r σ' hX H locs ls hP hS hl
  have he : (wl cA b σ)[o]? = some (b + o, .inr (ci, mkF b (σ o) 0 tpl)) := by rw [wl_get hN, hlay]; rfl
  have hlen : k < (mkF b (σ o) 0 tpl).length := by rw [mkF_len]; exact (List.getElem?_eq_some_iff.mp ht).1
  have hset : (wl cA b σ).set o (b + o, .inr (ci, (mkF b (σ o) 0 tpl).set k (.int v))) = wl cA b (wr σ o k v) := by
    rw [mkF_set b (σ o) v tpl 0 k ht, Nat.zero_add]
    have h2 := wl_set (cA := cA) (b := b) (σ := σ) (k := o) (upd (σ o) k v)
    rw [hlay] at h2
    exact h2
  refine va_put (D := (dC, dI)) (ci := ci) (C := Cn) (T := T) (N := N) hx hb hts hin ty0 hty hnm ho hK.1 hP (wl_D cA b σ) hS o he hc k hk (hts _ hlink) (fun _ h => h) hfin hd hn hfit hlen hdg (fun H1 locs1 hP1 _ hS1 => ?_)
  rw [hset] at hP1
  exact kk (wr σ o k v) r σ' hX H1 locs1 ls hP1 hS1 hl
theorem V_getIN (C : CX E own cc nL d) {o ci k N : Nat} {Cn : String} {T : u_T} {index : Nat} {tpl : List (Option Nat)} (hN : o < NN) (hlay : lay o = .inr (.inr (ci, tpl))) (hc : vwCl[ci]? = some (Cn, T, N)) (hin : ∀ w ∈ u_ws Cn T N, w ∈ BW) (hk : k < N) {host : String} (hlink : Cond.fieldLinkNest own index (T k).1 (T k).2.1 (T k).2.2.1 host ∈ NW) (ht : tpl[k]? = some none) (hdg : decode cc pc = .ok (.getfield index, 3)) (kk : VJ rv QF E b nL σ (pc + 3) L (.int (σ o k) :: S) (X)) : VJ rv QF E b nL σ (pc) L (.ref (b + o) :: S) (X) := by
  obtain ⟨p, l, e, R, s, m, args, below, meth, c, cells, slots, dC, dI, cA⟩ := E
  obtain ⟨⟨hx, hb, hml, ho, hts⟩, hK, hR1, hR2, hR3, hR4⟩ := C
  intro r σ' hX H locs ls hP hS hl
  have he : (wl cA b σ)[o]? = some (b + o, .inr (ci, mkF b (σ o) 0 tpl)) := by rw [wl_get hN, hlay]; rfl
  have hv : (mkF b (σ o) 0 tpl)[k]? = some (.int (σ o k)) := by have h := mkF_int b (σ o) tpl 0 k ht; simpa using h
  exact va_getN (D := (dC, dI)) (ci := ci) (C := Cn) (T := T) (N := N) hx hb hts hin ho hK.1 hP o he hc k hk (NW_use hlink (hK.2 _ hlink)) (fun _ h => h) hv hdg (kk r σ' hX H locs ls hP hS hl)
theorem V_getRN (C : CX E own cc nL d) {o ci k N : Nat} {Cn : String} {T : u_T} {index : Nat} {tpl : List (Option Nat)} (hN : o < NN) (hlay : lay o = .inr (.inr (ci, tpl))) (hc : vwCl[ci]? = some (Cn, T, N)) (hin : ∀ w ∈ u_ws Cn T N, w ∈ BW) (hk : k < N) {host : String} (hlink : Cond.fieldLinkNest own index (T k).1 (T k).2.1 (T k).2.2.1 host ∈ NW) {q : Nat} (ht : tpl[k]? = some (some q)) (hdg : decode cc pc = .ok (.getfield index, 3)) (kk : VJ rv QF E b nL σ (pc + 3) L (.ref (b + q) :: S) (X)) : VJ rv QF E b nL σ (pc) L (.ref (b + o) :: S) (X) := by
  obtain ⟨p, l, e, R, s, m, args, below, meth, c, cells, slots, dC, dI, cA⟩ := E
  obtain ⟨⟨hx, hb, hml, ho, hts⟩, hK, hR1, hR2, hR3, hR4⟩ := C
  intro r σ' hX H locs ls hP hS hl
  have he : (wl cA b σ)[o]? = some (b + o, .inr (ci, mkF b (σ o) 0 tpl)) := by rw [wl_get hN, hlay]; rfl
  have hv : (mkF b (σ o) 0 tpl)[k]? = some (.ref (b + q)) := by have h := mkF_ref b (σ o) tpl 0 k ht; simpa using h
  exact va_getN (D := (dC, dI)) (ci := ci) (C := Cn) (T := T) (N := N) hx hb hts hin ho hK.1 hP o he hc k hk (NW_use hlink (hK.2 _ hlink)) (fun _ h => h) hv hdg (kk r σ' hX H locs ls hP hS hl)
theorem V_putIN (C : CX E own cc nL d) {o ci k N : Nat} {Cn : String} {T : u_T} {index : Nat} {tpl : List (Option Nat)} (hN : o < NN) (hlay : lay o = .inr (.inr (ci, tpl))) (hc : vwCl[ci]? = some (Cn, T, N)) (hin : ∀ w ∈ u_ws Cn T N, w ∈ BW) (hk : k < N) {host : String} (hlink : Cond.fieldLinkNest own index (T k).1 (T k).2.1 (T k).2.2.1 host ∈ NW) (ty0 : Nat → FieldType) (hty : ∀ k, k < N → parseFieldDescriptor (T k).2.2.1 = some (ty0 k)) (hnm : ∀ a, a < N → ∀ b, b < N → a ≠ b → (T a).2.1 ≠ (T b).2.1) (hfin : (T k).2.2.2 = false) {ty : FieldType} (hd : parseFieldDescriptor (T k).2.2.1 = some ty) (ht : tpl[k]? = some none) {v : Int32} {K : Hp → Option (α × Hp)} (hn : narrow ty (.int v) = .int v) (hfit : fits ty (.int v) = true) (hdg : decode cc pc = .ok (.putfield index, 3)) (kk : ∀ σ1 : Hp, VJ rv QF E b nL σ1 (pc + 3) L S (K σ1)) : VJ rv QF E b nL σ pc L (.int v :: .ref (b + o) :: S) (Lt (wr σ o k v) K) := by
  obtain ⟨p, l, e, R, s, m, args, below, meth, c, cells, slots, dC, dI, cA⟩ := E
  obtain ⟨⟨hx, hb, hml, ho, hts⟩, hK, hR1, hR2, hR3, hR4⟩ := C
  intro r σ' hX H locs ls hP hS hl
  have he : (wl cA b σ)[o]? = some (b + o, .inr (ci, mkF b (σ o) 0 tpl)) := by rw [wl_get hN, hlay]; rfl
  have hlen : k < (mkF b (σ o) 0 tpl).length := by rw [mkF_len]; exact (List.getElem?_eq_some_iff.mp ht).1
  have hset : (wl cA b σ).set o (b + o, .inr (ci, (mkF b (σ o) 0 tpl).set k (.int v))) = wl cA b (wr σ o k v) := by
    rw [mkF_set b (σ o) v tpl 0 k ht, Nat.zero_add]
    have h2 := wl_set (cA := cA) (b := b) (σ := σ) (k := o) (upd (σ o) k v)
    rw [hlay] at h2
    exact h2
  refine va_putN (D := (dC, dI)) (ci := ci) (C := Cn) (T := T) (N := N) hx hb hts hin ty0 hty hnm ho hK.1 hP (wl_D cA b σ) hS o he hc k hk (NW_use hlink (hK.2 _ hlink)) (fun _ h => h) hfin hd hn hfit hlen hdg (fun H1 locs1 hP1 _ hS1 => ?_)
  rw [hset] at hP1
  exact kk (wr σ o k v) r σ' hX H1 locs1 ls hP1 hS1 hl
theorem V_iald (C : CX E own cc nL d) {o n : Nat} (hN : o < NN) (hlay : lay o = .inl (0, n)) {i : Int32} (hdg : decode cc pc = .ok (.iaload, 1)) (kk : VJ rv QF E b nL σ (pc + 1) L (.int (σ o (ix i)) :: S) (X)) : VJ rv QF E b nL σ (pc) L (.int i :: .ref (b + o) :: S) (ck i n X) := by
  obtain ⟨p, l, e, R, s, m, args, below, meth, c, cells, slots, dC, dI, cA⟩ := E
  obtain ⟨⟨hx, hb, hml, ho, hts⟩, hK, hR1, hR2, hR3, hR4⟩ := C
  intro r σ' hX H locs ls hP hS hl
  obtain ⟨hin, hX⟩ := ck_some hX
  have he : (wl cA b σ)[o]? = some (b + o, .inl (cA 0, n, .inl (σ o))) := by rw [wl_get hN, hlay]; rfl
  exact va_iald hx hb hK.1 hP o 0 he rfl hin hdg (kk r σ' hX H locs ls hP hS hl)
theorem V_iast (C : CX E own cc nL d) {o n : Nat} (hN : o < NN) (hlay : lay o = .inl (0, n)) {i v : Int32} {K : Hp → Option (α × Hp)} (hdg : decode cc pc = .ok (.iastore, 1)) (kk : ∀ σ1 : Hp, VJ rv QF E b nL σ1 (pc + 1) L S (K σ1)) : VJ rv QF E b nL σ pc L (.int v :: .int i :: .ref (b + o) :: S) (ck i n (Lt (wr σ o (ix i) (v)) K)) := by
  obtain ⟨p, l, e, R, s, m, args, below, meth, c, cells, slots, dC, dI, cA⟩ := E
  obtain ⟨⟨hx, hb, hml, ho, hts⟩, hK, hR1, hR2, hR3, hR4⟩ := C
  intro r σ' hX H locs ls hP hS hl
  obtain ⟨hin, hX⟩ := ck_some hX
  have he : (wl cA b σ)[o]? = some (b + o, .inl (cA 0, n, .inl (σ o))) := by rw [wl_get hN, hlay]; rfl
  have hset := wl_set (cA := cA) (b := b) (σ := σ) (k := o) (upd (σ o) (ix i) (v))
  rw [hlay] at hset
  refine va_iast hx hb hK.1 hP (wl_D cA b σ) hS o 0 he rfl hin hdg (fun H1 locs1 hP1 _ hS1 => ?_)
  exact kk (wr σ o (ix i) (v)) r σ' hX H1 locs1 ls (HW_of hset hP1) hS1 hl
theorem V_bald (C : CX E own cc nL d) {o n : Nat} (hN : o < NN) (hlay : lay o = .inl (1, n)) {i : Int32} (hdg : decode cc pc = .ok (.baload, 1)) (kk : VJ rv QF E b nL σ (pc + 1) L (.int (σ o (ix i)) :: S) (X)) : VJ rv QF E b nL σ (pc) L (.int i :: .ref (b + o) :: S) (ck i n X) := by
  obtain ⟨p, l, e, R, s, m, args, below, meth, c, cells, slots, dC, dI, cA⟩ := E
  obtain ⟨⟨hx, hb, hml, ho, hts⟩, hK, hR1, hR2, hR3, hR4⟩ := C
  intro r σ' hX H locs ls hP hS hl
  obtain ⟨hin, hX⟩ := ck_some hX
  have he : (wl cA b σ)[o]? = some (b + o, .inl (cA 1, n, .inl (σ o))) := by rw [wl_get hN, hlay]; rfl
  exact va_bald hx hb hK.1 hP o 1 he rfl hin hdg (kk r σ' hX H locs ls hP hS hl)
theorem V_bast (C : CX E own cc nL d) {o n : Nat} (hN : o < NN) (hlay : lay o = .inl (1, n)) {i v : Int32} {K : Hp → Option (α × Hp)} (hdg : decode cc pc = .ok (.bastore, 1)) (kk : ∀ σ1 : Hp, VJ rv QF E b nL σ1 (pc + 1) L S (K σ1)) : VJ rv QF E b nL σ pc L (.int v :: .int i :: .ref (b + o) :: S) (ck i n (Lt (wr σ o (ix i) (vp_nar .byte v)) K)) := by
  obtain ⟨p, l, e, R, s, m, args, below, meth, c, cells, slots, dC, dI, cA⟩ := E
  obtain ⟨⟨hx, hb, hml, ho, hts⟩, hK, hR1, hR2, hR3, hR4⟩ := C
  intro r σ' hX H locs ls hP hS hl
  obtain ⟨hin, hX⟩ := ck_some hX
  have he : (wl cA b σ)[o]? = some (b + o, .inl (cA 1, n, .inl (σ o))) := by rw [wl_get hN, hlay]; rfl
  have hset := wl_set (cA := cA) (b := b) (σ := σ) (k := o) (upd (σ o) (ix i) (vp_nar .byte v))
  rw [hlay] at hset
  refine va_bast hx hb hK.1 hP (wl_D cA b σ) hS o 1 he rfl hin hdg (fun H1 locs1 hP1 _ hS1 => ?_)
  exact kk (wr σ o (ix i) (vp_nar .byte v)) r σ' hX H1 locs1 ls (HW_of hset hP1) hS1 hl
theorem V_zald (C : CX E own cc nL d) {o n : Nat} (hN : o < NN) (hlay : lay o = .inl (2, n)) {i : Int32} (hdg : decode cc pc = .ok (.baload, 1)) (kk : VJ rv QF E b nL σ (pc + 1) L (.int (σ o (ix i)) :: S) (X)) : VJ rv QF E b nL σ (pc) L (.int i :: .ref (b + o) :: S) (ck i n X) := by
  obtain ⟨p, l, e, R, s, m, args, below, meth, c, cells, slots, dC, dI, cA⟩ := E
  obtain ⟨⟨hx, hb, hml, ho, hts⟩, hK, hR1, hR2, hR3, hR4⟩ := C
  intro r σ' hX H locs ls hP hS hl
  obtain ⟨hin, hX⟩ := ck_some hX
  have he : (wl cA b σ)[o]? = some (b + o, .inl (cA 2, n, .inl (σ o))) := by rw [wl_get hN, hlay]; rfl
  exact va_zald hx hb hK.1 hP o 2 he rfl hin hdg (kk r σ' hX H locs ls hP hS hl)
theorem V_zast (C : CX E own cc nL d) {o n : Nat} (hN : o < NN) (hlay : lay o = .inl (2, n)) {i v : Int32} {K : Hp → Option (α × Hp)} (hdg : decode cc pc = .ok (.bastore, 1)) (kk : ∀ σ1 : Hp, VJ rv QF E b nL σ1 (pc + 1) L S (K σ1)) : VJ rv QF E b nL σ pc L (.int v :: .int i :: .ref (b + o) :: S) (ck i n (Lt (wr σ o (ix i) (vp_nar .boolean v)) K)) := by
  obtain ⟨p, l, e, R, s, m, args, below, meth, c, cells, slots, dC, dI, cA⟩ := E
  obtain ⟨⟨hx, hb, hml, ho, hts⟩, hK, hR1, hR2, hR3, hR4⟩ := C
  intro r σ' hX H locs ls hP hS hl
  obtain ⟨hin, hX⟩ := ck_some hX
  have he : (wl cA b σ)[o]? = some (b + o, .inl (cA 2, n, .inl (σ o))) := by rw [wl_get hN, hlay]; rfl
  have hset := wl_set (cA := cA) (b := b) (σ := σ) (k := o) (upd (σ o) (ix i) (vp_nar .boolean v))
  rw [hlay] at hset
  refine va_zast hx hb hK.1 hP (wl_D cA b σ) hS o 2 he rfl hin hdg (fun H1 locs1 hP1 _ hS1 => ?_)
  exact kk (wr σ o (ix i) (vp_nar .boolean v)) r σ' hX H1 locs1 ls (HW_of hset hP1) hS1 hl
theorem V_aald (C : CX E own cc nL d) {o t n a dd : Nat} {Cn : String} (hN : o < NN) (hlay : lay o = .inr (.inl (t, n, a, dd))) (ht : ∀ cA : Nat → ClassId, (tyL cA)[t]? = some (cA t, .object Cn)) {i : Int32} (hdg : decode cc pc = .ok (.aaload, 1)) (kk : ix i < n → VJ rv QF E b nL σ (pc + 1) L (.ref (b + (a + dd * ix i)) :: S) X) : VJ rv QF E b nL σ pc L (.int i :: .ref (b + o) :: S) (ck i n X) := by
  obtain ⟨p, l, e, R, s, m, args, below, meth, c, cells, slots, dC, dI, cA⟩ := E
  obtain ⟨⟨hx, hb, hml, ho, hts⟩, hK, hR1, hR2, hR3, hR4⟩ := C
  intro r σ' hX H locs ls hP hS hl
  obtain ⟨hin, hX⟩ := ck_some hX
  have he : (wl cA b σ)[o]? = some (b + o, .inl (cA t, n, .inr (.inr (.inr (.inr (fun j => some (b + (a + dd * j)))))))) := by rw [wl_get hN, hlay]; rfl
  exact va_aldq hx hb hK.1 hP o t he (ht cA) hin hdg (kk (ck_in hin) r σ' hX H locs ls hP hS hl)
theorem V_alen (C : CX E own cc nL d) {o n : Nat} (hN : o < NN) (hlay : lay o = .inl (0, n)) (hdg : decode cc pc = .ok (.arraylength, 1)) (kk : VJ rv QF E b nL σ (pc + 1) L (.int (nI n) :: S) X) : VJ rv QF E b nL σ pc L (.ref (b + o) :: S) X := by
  obtain ⟨p, l, e, R, s, m, args, below, meth, c, cells, slots, dC, dI, cA⟩ := E
  obtain ⟨⟨hx, hb, hml, ho, hts⟩, hK, hR1, hR2, hR3, hR4⟩ := C
  intro r σ' hX H locs ls hP hS hl
  have he : (wl cA b σ)[o]? = some (b + o, .inl (cA 0, n, .inl (σ o))) := by rw [wl_get hN, hlay]; rfl
  exact va_alen hx hb hK.1 hP o 0 (ty := .int) he rfl rfl hdg (kk r σ' hX H locs ls hP hS hl)
theorem V_copy (C : CX E own cc nL d) (hd : 1 ≤ d) {o1 o2 n : Nat} (h1 : o1 < NN) (h2 : o2 < NN) (hl1 : lay o1 = .inl (0, n)) (hl2 : lay o2 = .inl (0, n)) {index : Nat} (hlink : Cond.methodLink own index arraycopyName ∈ BW) {K : Hp → Option (α × Hp)} {N : Int32} (hN : N = nI n) (hn : n < 1000) (hdg : decode cc pc = .ok (.invokestatic index, 3)) (kk : ∀ σ1 : Hp, VJ rv QF E b nL σ1 (pc + 3) L [] (K σ1)) : VJ rv QF E b nL σ pc L (.int N :: .int 0 :: .ref (b + o2) :: .int 0 :: .ref (b + o1) :: []) (Lt (va_up σ o2 (va_cpy (σ o1) (σ o2) 0 0 n)) K) := by
  obtain ⟨p, l, e, R, s, m, args, below, meth, c, cells, slots, dC, dI, cA⟩ := E
  obtain ⟨⟨hx, hb, hml, ho, hts⟩, hK, hR1, hR2, hR3, hR4⟩ := C
  intro r σ' hX H locs ls hP hS hl
  have he1 : (wl cA b σ)[o1]? = some (b + o1, .inl (cA 0, n, .inl (σ o1))) := by rw [wl_get h1, hl1]; rfl
  have he2 : (wl cA b σ)[o2]? = some (b + o2, .inl (cA 0, n, .inl (σ o2))) := by rw [wl_get h2, hl2]; rfl
  have hset := wl_set (cA := cA) (b := b) (σ := σ) (k := o2) (va_cpy (σ o1) (σ o2) 0 0 n)
  rw [hl2] at hset
  have hcl : (nI n).toNatClampNeg = n := nI_clamp (by omega)
  have h0 : (0 : Int32).toNatClampNeg = 0 := sb_cl0
  subst hN
  have q := @va_copyi p l e R s m args below meth c (H := H) (locs := locs) (cells := cells) (slots := slots) (Q := QF (rv r) σ') (pc := pc) (ls := ls) (rest := []) (D := (dC, dI)) (cl := vwCl) (A := fun q => b ≤ q) (a := b + o2) (tys := tyL cA) (ws := wl cA b σ) (H0 := s.heap) (cc := cc) hx hb (by rw [hml]; exact hl.1.symm) own index ho (hts _ hlink) (hts _ bw_acN) (hts _ bw_acS) (hts _ bw_acI) hK.1 hP (wl_D cA b σ) hS o1 o2 0 0 (b + o1) (cA 0) (cA 0) n n (σ o1) (σ o2) .int he1 he2 rfl rfl rfl 0 0 (nI n) (by decide) (by decide) (nI_pos (by omega)) (by rw [hcl, h0]; omega) (by rw [hcl, h0]; omega) (fun _ _ => rfl) (by omega) (Nat.le_trans (by decide) (Nat.le_trans (Nat.mul_le_mul_left 60 hd) hR2)) hdg
  rw [hcl, h0] at q
  exact q (fun H1 locs1 hP1 _ hS1 => kk _ r σ' hX H1 locs1 ls (HW_of hset hP1) hS1 hl)
theorem V_mmax (C : CX E own cc nL d) (hd : 1 ≤ d) {index : Nat} (hlink : Cond.methodLink own index Lib.Math.max.name ∈ BW) {x y : Int32} (hS : (S.map fun v => v.category).sum ≤ 8) (hdg : decode cc pc = .ok (.invokestatic index, 3)) (kk : VJ rv QF E b nL σ (pc + 3) L (.int (if x < y then y else x) :: S) (X)) : VJ rv QF E b nL σ (pc) L (.int y :: .int x :: S) (X) := by
  obtain ⟨p, l, e, R, s, m, args, below, meth, c, cells, slots, dC, dI, cA⟩ := E
  obtain ⟨⟨hx, hb, hml, ho, hts⟩, hK, hR1, hR2, hR3, hR4⟩ := C
  intro r σ' hX H locs ls hP hSS hl
  exact va_mmax hx hb (by rw [hml]; exact hl.1.symm) ho (hts _ hlink) (hts _ bw_mmaxS) (hts _ bw_mI) (hts _ bw_mmaxC) (by omega) (by omega) hR3 hR4 hdg (kk r σ' hX H locs ls hP hSS hl)
theorem V_mmin (C : CX E own cc nL d) (hd : 1 ≤ d) {index : Nat} (hlink : Cond.methodLink own index Lib.Math.min.name ∈ BW) {x y : Int32} (hS : (S.map fun v => v.category).sum ≤ 8) (hdg : decode cc pc = .ok (.invokestatic index, 3)) (kk : VJ rv QF E b nL σ (pc + 3) L (.int (if y < x then y else x) :: S) (X)) : VJ rv QF E b nL σ (pc) L (.int y :: .int x :: S) (X) := by
  obtain ⟨p, l, e, R, s, m, args, below, meth, c, cells, slots, dC, dI, cA⟩ := E
  obtain ⟨⟨hx, hb, hml, ho, hts⟩, hK, hR1, hR2, hR3, hR4⟩ := C
  intro r σ' hX H locs ls hP hSS hl
  exact va_mmin hx hb (by rw [hml]; exact hl.1.symm) ho (hts _ hlink) (hts _ bw_mminS) (hts _ bw_mI) (hts _ bw_mminC) (by omega) (by omega) hR3 hR4 hdg (kk r σ' hX H locs ls hP hSS hl)
theorem V_iret (C : CX E own cc nL d) (D : CR E (some .int)) {v : Int32} (hdg : decode cc pc = .ok (.ireturn, 1)) : VJ rvI (QM E b) E b nL σ pc L [.int v] (some (v, σ)) := by
  obtain ⟨p, l, e, R, s, m, args, below, meth, c, cells, slots, dC, dI, cA⟩ := E
  obtain ⟨⟨hx, hb, hml, ho, hts⟩, hK, hR1, hR2, hR3, hR4⟩ := C
  obtain ⟨hr, hlocks⟩ := D
  intro r σ' hX H locs ls hP hS hl
  cases hX
  exact W.iret hx hb hr (fun t ht hW => ⟨rfl, by rw [ht]; exact hP, hS.F ht⟩) hS.2.2 hdg hlocks
theorem V_zret (C : CX E own cc nL d) (D : CR E (some .boolean)) {v : Int32} (hdg : decode cc pc = .ok (.ireturn, 1)) : VJ rvI (QM E b) E b nL σ pc L [.int v] (zr v σ) := by
  obtain ⟨p, l, e, R, s, m, args, below, meth, c, cells, slots, dC, dI, cA⟩ := E
  obtain ⟨⟨hx, hb, hml, ho, hts⟩, hK, hR1, hR2, hR3, hR4⟩ := C
  obtain ⟨hr, hlocks⟩ := D
  intro r σ' hX H locs ls hP hS hl
  unfold zr at hX
  by_cases h : v = 0 ∨ v = 1
  · rw [if_pos h] at hX
    cases hX
    exact W.zret hx hb hr (by rcases h with rfl | rfl <;> rfl) (fun t ht hW => ⟨rfl, by rw [ht]; exact hP, hS.F ht⟩) hS.2.2 hdg hlocks
  · rw [if_neg h] at hX; cases hX
theorem V_lret (C : CX E own cc nL d) (D : CR E (some .long)) {v : Int64} (hdg : decode cc pc = .ok (.lreturn, 1)) : VJ rvL (QM E b) E b nL σ pc L [.long v] (some (v, σ)) := by
  obtain ⟨p, l, e, R, s, m, args, below, meth, c, cells, slots, dC, dI, cA⟩ := E
  obtain ⟨⟨hx, hb, hml, ho, hts⟩, hK, hR1, hR2, hR3, hR4⟩ := C
  obtain ⟨hr, hlocks⟩ := D
  intro r σ' hX H locs ls hP hS hl
  cases hX
  exact W.lret hx hb hr (fun t ht hW => ⟨rfl, by rw [ht]; exact hP, hS.F ht⟩) hS.2.2 hdg hlocks
theorem V_vret (C : CX E own cc nL d) (D : CR E none) (hdg : decode cc pc = .ok (.return_, 1)) : VJ rvV (QM E b) E b nL σ pc L [] (some ((), σ)) := by
  obtain ⟨p, l, e, R, s, m, args, below, meth, c, cells, slots, dC, dI, cA⟩ := E
  obtain ⟨⟨hx, hb, hml, ho, hts⟩, hK, hR1, hR2, hR3, hR4⟩ := C
  obtain ⟨hr, hlocks⟩ := D
  intro r σ' hX H locs ls hP hS hl
  cases hX
  exact W.vret hx hb hr (fun t ht hW => ⟨rfl, by rw [ht]; exact hP, hS.F ht⟩) hS.2.2 hdg hlocks
end VR
section VCALL
variable {α β : Type} {rv : α → Option Value} {rc : β → Option Value} {QF : Option Value → Hp → State → Prop} {E : Ev} {b nL : Nat} {σ : Hp} {pc : Nat} {L : List (Nat × Value)} {S : List Value} {X : Option (α × Hp)} {own : String} {cc : ByteArray} {d : Nat}
theorem bd_some {x : Option (β × Hp)} {k : β → Hp → Option (α × Hp)} {y : α × Hp} (h : bd x k = some y) : ∃ r σ1, x = some (r, σ1) ∧ k r σ1 = some y := by
  cases x with
  | none => cases h
  | some p => exact ⟨p.1, p.2, rfl, h⟩
/-- behind a call, whatever its kind -/
theorem V_back {p : Program} {l : Launch} {e : Env} {R : Room} {s : State} {m : MethodId} {args : Array Value} {below : List Frame} {meth : Method} {c : Code} {cells slots : Nat} {dC : Nat → ClassId} {dI : Nat → Nat → Nat} {cA : Nat → ClassId} {H : Heap} {locs : List Loc} {ls : Array Slot} {st0 : List Value} {a : Array Value} {ro : Option Value} {σ1 : Hp} {Q : State → Prop}
    (hr : va_Run p l e R s m args below meth c H locs cells slots 0 0 (F0 m pc ls st0) S (Qx dC dI cA b ro σ1 a) (fun q => b ≤ q)) (hS : va_S (fun q => b ≤ q) s.heap H locs)
    (kk : ∀ (H1 : Heap) (locs1 : List Loc), HW dC dI cA b σ1 H1 → va_S (fun q => b ≤ q) s.heap H1 locs1 → W p l e R s m args below meth c H1 locs1 cells slots Q (F0 m (pc + 3) ls (ro.toList ++ S))) : W p l e R s m args below meth c H locs cells slots Q (F0 m pc ls st0) := by
  intro T hT X
  obtain ⟨v, st₀, t, T', L, h0, X', hL, e1, e2, ⟨hv, hp, hz, hk⟩, st⟩ := hr T hT X
  cases hv
  rw [h0] at hz hk
  obtain ⟨t2, a1, b1⟩ := kk T'.heap (locs ++ L) (by rw [e1]; exact hp) ⟨Nat.le_trans hS.1 (by rw [e1]; exact hz), fun q h1 h2 => by rw [e1, hk q (Nat.lt_of_lt_of_le h1 hS.1) h2]; exact hS.2.1 q h1 h2, fun q hq => by
      rcases List.mem_append.mp hq with h | h
      · exact hS.2.2 q h
      · exact hL q h⟩ T' rfl X'
  exact ⟨t2, st t2 a1, b1⟩
theorem V_callV (C : CX E own cc nL d) {y : MethodName} {cy : ByteArray} {maxL dc n index : Nat} {ret : Option FieldType} {As : List Value} {x : Option (β × Hp)} {k : β → Hp → Option (α × Hp)} {o ci N : Nat} {T : u_T} {tpl : List (Option Nat)} (hN : o < NN) (hlay : lay o = .inr (.inr (ci, tpl))) (hc : vwCl[ci]? = some (y.cls, T, N)) (hinst : Cond.instanceMethod y ∈ BW) (hsel : Cond.selects y.cls y y ∈ BW) (hlink : Cond.methodLink own index y ∈ BW)
    (hM : CT E.2.1 E.2.2.2.2.2.2.2.2.2.2.2.2.1 E.2.2.2.2.2.2.2.2.2.2.2.2.2.1 E.2.2.2.2.2.2.2.2.2.2.2.2.2.2 b y cy maxL ret dc (.ref (b + o) :: As) σ rc x) (hd : dc + 1 ≤ d) (hmx : maxL ≤ 41) (hcode : Cond.code y cy maxL ret ∈ BW) (hini : Cond.initialized y.cls ∈ BW) (hy : y.cls ≠ "java/lang/invoke/MethodHandle" ∧ y.cls ≠ "java/lang/invoke/VarHandle" ∧ (parseMethodDescriptor y.desc).map (fun d => d.parameters.length) = some n) (hAs : As.length = n) {st0 : List Value} (hst : st0 = As.reverse ++ .ref (b + o) :: S) (hcat : (S.map fun v => v.category).sum ≤ 8) (hdg : decode cc pc = .ok (.invokevirtual index, 3))
    (kk : ∀ (r : β) (σ1 : Hp), VJ rv QF E b nL σ1 (pc + 3) L ((rc r).toList ++ S) (k r σ1)) : VJ rv QF E b nL σ pc L st0 (bd x k) := by
  obtain ⟨p, l, e, R, s, m, args, below, meth, c, cells, slots, dC, dI, cA⟩ := E
  obtain ⟨⟨hx, hb, hml, ho, hts⟩, hK, hR1, hR2, hR3, hR4⟩ := C
  intro r σ' hX H locs ls hP hS hl
  obtain ⟨rr, σ1, hxx, hXX⟩ := bd_some hX
  have hM := hM rr σ1 hxx
  have hr := va_runV (C := y.cls) (l := l) (e := e) (R := R) (below := below) (meth := meth) (locs := locs) (cells := cells) (slots := slots) (As := As) (rest := S) (g := F0 m pc ls st0) ⟨hx, hb, hml, ho, hts⟩ hM ⟨callB_of n hts (BW_good hcode) rfl rfl rfl (hts _ hini) (hts _ hlink) hy ⟨by show dc + 1 ≤ R.frames; omega, by show 8 + (maxL + 11) + 60 * dc ≤ R.locals; omega⟩, hts _ hinst, hts _ hsel⟩ ⟨fun a U g mk q => ⟨q.1, q.2.1, KK_call q.2.2 g mk a⟩, va_recv hK.1 hP hc (q0 := o) (fs := mkF b (σ o) 0 tpl) (by rw [wl_get hN, hlay]; rfl), fun U hU hW => ⟨rfl, by rw [hU]; exact hP, KK_warm hK hW⟩⟩ rfl hAs hl.1 hst (lv_room hcat) hdg ⟨hR3, hR4⟩
  exact V_back hr hS (fun H1 locs1 hP1 hS1 => kk rr σ1 r σ' hXX H1 locs1 ls hP1 hS1 hl)
theorem V_callVN (C : CX E own cc nL d) {y : MethodName} {cy : ByteArray} {maxL dc n index : Nat} {ret : Option FieldType} {As : List Value} {x : Option (β × Hp)} {k : β → Hp → Option (α × Hp)} {o ci N : Nat} {T : u_T} {tpl : List (Option Nat)} (hN : o < NN) (hlay : lay o = .inr (.inr (ci, tpl))) (hc : vwCl[ci]? = some (y.cls, T, N)) (hinst : Cond.instanceMethod y ∈ BW) (hsel : Cond.selects y.cls y y ∈ BW) {host : String} (hlink : Cond.methodLinkNest own index y host ∈ NW)
    (hM : CT E.2.1 E.2.2.2.2.2.2.2.2.2.2.2.2.1 E.2.2.2.2.2.2.2.2.2.2.2.2.2.1 E.2.2.2.2.2.2.2.2.2.2.2.2.2.2 b y cy maxL ret dc (.ref (b + o) :: As) σ rc x) (hd : dc + 1 ≤ d) (hmx : maxL ≤ 41) (hcode : Cond.code y cy maxL ret ∈ BW) (hini : Cond.initialized y.cls ∈ BW) (hy : y.cls ≠ "java/lang/invoke/MethodHandle" ∧ y.cls ≠ "java/lang/invoke/VarHandle" ∧ (parseMethodDescriptor y.desc).map (fun d => d.parameters.length) = some n) (hAs : As.length = n) {st0 : List Value} (hst : st0 = As.reverse ++ .ref (b + o) :: S) (hcat : (S.map fun v => v.category).sum ≤ 8) (hdg : decode cc pc = .ok (.invokevirtual index, 3))
    (kk : ∀ (r : β) (σ1 : Hp), VJ rv QF E b nL σ1 (pc + 3) L ((rc r).toList ++ S) (k r σ1)) : VJ rv QF E b nL σ pc L st0 (bd x k) := by
  obtain ⟨p, l, e, R, s, m, args, below, meth, c, cells, slots, dC, dI, cA⟩ := E
  obtain ⟨⟨hx, hb, hml, ho, hts⟩, hK, hR1, hR2, hR3, hR4⟩ := C
  intro r σ' hX H locs ls hP hS hl
  obtain ⟨rr, σ1, hxx, hXX⟩ := bd_some hX
  have hM := hM rr σ1 hxx
  have hr := va_runVN (C := y.cls) (l := l) (e := e) (R := R) (below := below) (meth := meth) (locs := locs) (cells := cells) (slots := slots) (As := As) (rest := S) (g := F0 m pc ls st0) ⟨hx, hb, hml, ho, hts⟩ hM ⟨va_cnB n hts (BW_good hcode) rfl rfl rfl (hK.2 _ hlink) (hts _ hini) hy ⟨by show dc + 1 ≤ R.frames; omega, by show 8 + (maxL + 11) + 60 * dc ≤ R.locals; omega⟩, hts _ hinst, hts _ hsel⟩ ⟨fun a U g mk q => ⟨q.1, q.2.1, KK_call q.2.2 g mk a⟩, va_recv hK.1 hP hc (q0 := o) (fs := mkF b (σ o) 0 tpl) (by rw [wl_get hN, hlay]; rfl), fun U hU hW => ⟨rfl, by rw [hU]; exact hP, KK_warm hK hW⟩⟩ rfl hAs hl.1 hst (lv_room hcat) hdg ⟨hR3, hR4⟩
  exact V_back hr hS (fun H1 locs1 hP1 hS1 => kk rr σ1 r σ' hXX H1 locs1 ls hP1 hS1 hl)
theorem V_callS (C : CX E own cc nL d) {y : MethodName} {cy : ByteArray} {maxL dc n index : Nat} {ret : Option FieldType} {As : List Value} {x : Option (β × Hp)} {k : β → Hp → Option (α × Hp)} (hstat : Cond.static y ∈ BW) (hlink : Cond.methodLink own index y ∈ BW)
    (hM : CT E.2.1 E.2.2.2.2.2.2.2.2.2.2.2.2.1 E.2.2.2.2.2.2.2.2.2.2.2.2.2.1 E.2.2.2.2.2.2.2.2.2.2.2.2.2.2 b y cy maxL ret dc (As) σ rc x) (hd : dc + 1 ≤ d) (hmx : maxL ≤ 41) (hcode : Cond.code y cy maxL ret ∈ BW) (hini : Cond.initialized y.cls ∈ BW) (hy : y.cls ≠ "java/lang/invoke/MethodHandle" ∧ y.cls ≠ "java/lang/invoke/VarHandle" ∧ (parseMethodDescriptor y.desc).map (fun d => d.parameters.length) = some n) (hAs : As.length = n) {st0 : List Value} (hst : st0 = As.reverse ++ S) (hcat : (S.map fun v => v.category).sum ≤ 8) (hdg : decode cc pc = .ok (.invokestatic index, 3))
    (kk : ∀ (r : β) (σ1 : Hp), VJ rv QF E b nL σ1 (pc + 3) L ((rc r).toList ++ S) (k r σ1)) : VJ rv QF E b nL σ pc L st0 (bd x k) := by
  obtain ⟨p, l, e, R, s, m, args, below, meth, c, cells, slots, dC, dI, cA⟩ := E
  obtain ⟨⟨hx, hb, hml, ho, hts⟩, hK, hR1, hR2, hR3, hR4⟩ := C
  intro r σ' hX H locs ls hP hS hl
  obtain ⟨rr, σ1, hxx, hXX⟩ := bd_some hX
  have hM := hM rr σ1 hxx
  have hr := va_runS (l := l) (e := e) (R := R) (below := below) (meth := meth) (locs := locs) (cells := cells) (slots := slots) (As := As) (rest := S) (g := F0 m pc ls st0) ⟨hx, hb, hml, ho, hts⟩ hM ⟨callB_of n hts (BW_good hcode) rfl rfl rfl (hts _ hini) (hts _ hlink) hy ⟨by show dc + 1 ≤ R.frames; omega, by show 8 + (maxL + 11) + 60 * dc ≤ R.locals; omega⟩, hts _ hstat⟩ ⟨fun a U g mk q => ⟨q.1, q.2.1, KK_call q.2.2 g mk a⟩, fun U hU hW => ⟨rfl, by rw [hU]; exact hP, KK_warm hK hW⟩⟩ rfl hAs hl.1 hst (lv_room hcat) hdg ⟨hR3, hR4⟩
  exact V_back hr hS (fun H1 locs1 hP1 hS1 => kk rr σ1 r σ' hXX H1 locs1 ls hP1 hS1 hl)
end VCALL
end
