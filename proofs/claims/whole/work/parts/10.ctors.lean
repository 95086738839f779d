theorem ly26 : lay 26 = .inr (.inr (4, [some 11, some 27, some 28, some 29, some 30, none, none, none, none])) := rfl
theorem ly31 : lay 31 = .inr (.inr (4, [some 11, some 32, some 33, some 34, some 35, none, none, none, none])) := rfl
theorem ly36 : lay 36 = .inr (.inr (4, [some 11, some 37, some 38, some 39, some 40, none, none, none, none])) := rfl
theorem ly41 : lay 41 = .inr (.inr (4, [some 11, some 42, some 43, some 44, some 45, none, none, none, none])) := rfl
theorem ly46 : lay 46 = .inr (.inr (4, [some 11, some 47, some 48, some 49, some 50, none, none, none, none])) := rfl
theorem ly51 : lay 51 = .inr (.inr (4, [some 11, some 52, some 53, some 54, some 55, none, none, none, none])) := rfl
theorem ly56 : lay 56 = .inr (.inr (4, [some 11, some 57, some 58, some 59, some 60, none, none, none, none])) := rfl
theorem ly61 : lay 61 = .inr (.inr (4, [some 11, some 62, some 63, some 64, some 65, none, none, none, none])) := rfl
theorem ly66 : lay 66 = .inr (.inr (4, [some 11, some 67, some 68, some 69, some 70, none, none, none, none])) := rfl
theorem ly71 : lay 71 = .inr (.inr (4, [some 11, some 72, some 73, some 74, some 75, none, none, none, none])) := rfl
theorem ly76 : lay 76 = .inr (.inr (4, [some 11, some 77, some 78, some 79, some 80, none, none, none, none])) := rfl
theorem ly81 : lay 81 = .inr (.inr (4, [some 11, some 82, some 83, some 84, some 85, none, none, none, none])) := rfl
theorem ly90 : lay 90 = .inr (.inr (4, [some 11, some 91, some 92, some 93, some 94, none, none, none, none])) := rfl
theorem ly95 : lay 95 = .inr (.inr (4, [some 11, some 96, some 97, some 98, some 99, none, none, none, none])) := rfl
theorem ly100 : lay 100 = .inr (.inr (4, [some 11, some 101, some 102, some 103, some 104, none, none, none, none])) := rfl
theorem ly105 : lay 105 = .inr (.inr (4, [some 11, some 106, some 107, some 108, some 109, none, none, none, none])) := rfl
theorem ly110 : lay 110 = .inr (.inr (4, [some 11, some 111, some 112, some 113, some 114, none, none, none, none])) := rfl
theorem ly120 : lay 120 = .inr (.inr (6, [some 122, some 121, none])) := rfl
theorem ly121 : lay 121 = .inl (0, 4) := rfl
theorem ly122 : lay 122 = .inr (.inr (4, [some 11, some 123, some 124, some 125, some 126, none, none, none, none])) := rfl
theorem ly127 : lay 127 = .inr (.inr (6, [some 129, some 128, none])) := rfl
theorem ly128 : lay 128 = .inl (0, 4) := rfl
theorem ly129 : lay 129 = .inr (.inr (4, [some 11, some 130, some 131, some 132, some 133, none, none, none, none])) := rfl
theorem wl_RX8_1 : Cond.methodLink RX8 1 objectInit ∈ BW := tb1 (List.mem_of_getElem? (i := 20) (by decide +kernel)) (by decide +kernel)
theorem wx_RX8_7 : Cond.classLink RX8 7 RX7 ∈ BW := tb1 (List.mem_of_getElem? (i := 23) (by decide +kernel)) (by decide +kernel)
theorem wq_7 : Cond.instantiable RX7 2 ∈ BW := tb1 (List.mem_of_getElem? (i := 24) (by decide +kernel)) (by decide +kernel)
theorem wl_RX8_9 : Cond.methodLinkNest RX8 9 yX7_init "SleepByRation" ∈ NW := tn1 (List.mem_of_getElem? (i := 25) (by decide +kernel)) (by decide +kernel)
theorem wl_RX7_3 : Cond.methodLink RX7 3 objectInit ∈ BW := tb1 (List.mem_of_getElem? (i := 28) (by decide +kernel)) (by decide +kernel)
theorem wy_byte : Cond.arrayClass .byte ∈ BW := tb1 (List.mem_of_getElem? (i := 39) (by decide +kernel)) (by decide +kernel)
theorem wm_X7_init : Cond.instanceMethod yX7_init ∈ BW := tb1 (List.mem_of_getElem? (i := 26) (by decide +kernel)) (by decide +kernel)
theorem wc_X7_init : Cond.code yX7_init cX7_init 1 none ∈ BW := tb1 (List.mem_of_getElem? (i := 27) (by decide +kernel)) (by decide +kernel)
theorem wx_RX8_16 : Cond.classLink RX8 16 RX3 ∈ BW := tb1 (List.mem_of_getElem? (i := 40) (by decide +kernel)) (by decide +kernel)
theorem wq_3 : Cond.instantiable RX3 5 ∈ BW := tb1 (List.mem_of_getElem? (i := 41) (by decide +kernel)) (by decide +kernel)
theorem wl_RX8_18 : Cond.methodLinkNest RX8 18 yX3_init "SleepByRation" ∈ NW := tn1 (List.mem_of_getElem? (i := 42) (by decide +kernel)) (by decide +kernel)
theorem wl_RX3_3 : Cond.methodLink RX3 3 objectInit ∈ BW := tb1 (List.mem_of_getElem? (i := 45) (by decide +kernel)) (by decide +kernel)
theorem wx_RX3_9 : Cond.classLink RX3 9 RX2 ∈ BW := tb1 (List.mem_of_getElem? (i := 46) (by decide +kernel)) (by decide +kernel)
theorem wq_2 : Cond.instantiable RX2 4 ∈ BW := tb1 (List.mem_of_getElem? (i := 47) (by decide +kernel)) (by decide +kernel)
theorem wl_RX3_11 : Cond.methodLinkNest RX3 11 yX2_init "SleepByRation" ∈ NW := tn1 (List.mem_of_getElem? (i := 48) (by decide +kernel)) (by decide +kernel)
theorem wl_RX2_3 : Cond.methodLink RX2 3 objectInit ∈ BW := tb1 (List.mem_of_getElem? (i := 51) (by decide +kernel)) (by decide +kernel)
theorem wy_int : Cond.arrayClass .int ∈ BW := tb1 (List.mem_of_getElem? (i := 85) (by decide +kernel)) (by decide +kernel)
theorem wl_RX2_15 : Cond.methodLink RX2 15 yX2_clear ∈ BW := tb1 (List.mem_of_getElem? (i := 52) (by decide +kernel)) (by decide +kernel)
theorem wm_X2_init : Cond.instanceMethod yX2_init ∈ BW := tb1 (List.mem_of_getElem? (i := 49) (by decide +kernel)) (by decide +kernel)
theorem wc_X2_init : Cond.code yX2_init cX2_init 1 none ∈ BW := tb1 (List.mem_of_getElem? (i := 50) (by decide +kernel)) (by decide +kernel)
theorem wx_RX3_18 : Cond.classLink RX3 18 RX4 ∈ BW := tb1 (List.mem_of_getElem? (i := 86) (by decide +kernel)) (by decide +kernel)
theorem wq_4 : Cond.instantiable RX4 9 ∈ BW := tb1 (List.mem_of_getElem? (i := 87) (by decide +kernel)) (by decide +kernel)
theorem wl_RX3_20 : Cond.methodLinkNest RX3 20 yX4_init "SleepByRation" ∈ NW := tn1 (List.mem_of_getElem? (i := 88) (by decide +kernel)) (by decide +kernel)
theorem wl_RX4_3 : Cond.methodLink RX4 3 objectInit ∈ BW := tb1 (List.mem_of_getElem? (i := 91) (by decide +kernel)) (by decide +kernel)
theorem wm_X4_init : Cond.instanceMethod yX4_init ∈ BW := tb1 (List.mem_of_getElem? (i := 89) (by decide +kernel)) (by decide +kernel)
theorem wc_X4_init : Cond.code yX4_init cX4_init 2 none ∈ BW := tb1 (List.mem_of_getElem? (i := 90) (by decide +kernel)) (by decide +kernel)
theorem wm_X3_init : Cond.instanceMethod yX3_init ∈ BW := tb1 (List.mem_of_getElem? (i := 43) (by decide +kernel)) (by decide +kernel)
theorem wc_X3_init : Cond.code yX3_init cX3_init 2 none ∈ BW := tb1 (List.mem_of_getElem? (i := 44) (by decide +kernel)) (by decide +kernel)
theorem wx_RX8_25 : Cond.classLink RX8 25 RX2 ∈ BW := tb1 (List.mem_of_getElem? (i := 150) (by decide +kernel)) (by decide +kernel)
theorem wl_RX8_27 : Cond.methodLinkNest RX8 27 yX2_init "SleepByRation" ∈ NW := tn1 (List.mem_of_getElem? (i := 151) (by decide +kernel)) (by decide +kernel)
theorem wx_RX8_32 : Cond.classLink RX8 32 RX4 ∈ BW := tb1 (List.mem_of_getElem? (i := 152) (by decide +kernel)) (by decide +kernel)
theorem wl_RX8_34 : Cond.methodLinkNest RX8 34 yX4_init "SleepByRation" ∈ NW := tn1 (List.mem_of_getElem? (i := 153) (by decide +kernel)) (by decide +kernel)
theorem wx_RX8_48 : Cond.classLink RX8 48 RX0 ∈ BW := tb1 (List.mem_of_getElem? (i := 154) (by decide +kernel)) (by decide +kernel)
theorem wq_0 : Cond.instantiable RX0 3 ∈ BW := tb1 (List.mem_of_getElem? (i := 155) (by decide +kernel)) (by decide +kernel)
theorem wl_RX8_50 : Cond.methodLinkNest RX8 50 yX0_init "SleepByRation" ∈ NW := tn1 (List.mem_of_getElem? (i := 156) (by decide +kernel)) (by decide +kernel)
theorem wl_RX0_3 : Cond.methodLink RX0 3 objectInit ∈ BW := tb1 (List.mem_of_getElem? (i := 159) (by decide +kernel)) (by decide +kernel)
theorem wx_RX0_9 : Cond.classLink RX0 9 RX4 ∈ BW := tb1 (List.mem_of_getElem? (i := 160) (by decide +kernel)) (by decide +kernel)
theorem wl_RX0_17 : Cond.methodLinkNest RX0 17 yX4_init "SleepByRation" ∈ NW := tn1 (List.mem_of_getElem? (i := 162) (by decide +kernel)) (by decide +kernel)
theorem wm_X0_init : Cond.instanceMethod yX0_init ∈ BW := tb1 (List.mem_of_getElem? (i := 157) (by decide +kernel)) (by decide +kernel)
theorem wc_X0_init : Cond.code yX0_init cX0_init 3 none ∈ BW := tb1 (List.mem_of_getElem? (i := 158) (by decide +kernel)) (by decide +kernel)
theorem wx_RX8_55 : Cond.classLink RX8 55 RX5 ∈ BW := tb1 (List.mem_of_getElem? (i := 174) (by decide +kernel)) (by decide +kernel)
theorem wq_5 : Cond.instantiable RX5 7 ∈ BW := tb1 (List.mem_of_getElem? (i := 175) (by decide +kernel)) (by decide +kernel)
theorem wl_RX8_57 : Cond.methodLinkNest RX8 57 yX5_init "SleepByRation" ∈ NW := tn1 (List.mem_of_getElem? (i := 176) (by decide +kernel)) (by decide +kernel)
theorem wl_RX5_3 : Cond.methodLink RX5 3 objectInit ∈ BW := tb1 (List.mem_of_getElem? (i := 179) (by decide +kernel)) (by decide +kernel)
theorem wx_RX5_9 : Cond.classLink RX5 9 RX4 ∈ BW := tb1 (List.mem_of_getElem? (i := 180) (by decide +kernel)) (by decide +kernel)
theorem wl_RX5_28 : Cond.methodLinkNest RX5 28 yX4_init "SleepByRation" ∈ NW := tn1 (List.mem_of_getElem? (i := 181) (by decide +kernel)) (by decide +kernel)
theorem wm_X5_init : Cond.instanceMethod yX5_init ∈ BW := tb1 (List.mem_of_getElem? (i := 177) (by decide +kernel)) (by decide +kernel)
theorem wc_X5_init : Cond.code yX5_init cX5_init 3 none ∈ BW := tb1 (List.mem_of_getElem? (i := 178) (by decide +kernel)) (by decide +kernel)
theorem wx_RX8_62 : Cond.classLink RX8 62 RX1 ∈ BW := tb1 (List.mem_of_getElem? (i := 207) (by decide +kernel)) (by decide +kernel)
theorem wq_1 : Cond.instantiable RX1 4 ∈ BW := tb1 (List.mem_of_getElem? (i := 208) (by decide +kernel)) (by decide +kernel)
theorem wl_RX8_64 : Cond.methodLinkNest RX8 64 yX1_init "SleepByRation" ∈ NW := tn1 (List.mem_of_getElem? (i := 209) (by decide +kernel)) (by decide +kernel)
theorem wl_RX1_3 : Cond.methodLink RX1 3 objectInit ∈ BW := tb1 (List.mem_of_getElem? (i := 212) (by decide +kernel)) (by decide +kernel)
theorem wm_X1_init : Cond.instanceMethod yX1_init ∈ BW := tb1 (List.mem_of_getElem? (i := 210) (by decide +kernel)) (by decide +kernel)
theorem wc_X1_init : Cond.code yX1_init cX1_init 1 none ∈ BW := tb1 (List.mem_of_getElem? (i := 211) (by decide +kernel)) (by decide +kernel)
theorem wx_RX8_69 : Cond.classLink RX8 69 RX6 ∈ BW := tb1 (List.mem_of_getElem? (i := 229) (by decide +kernel)) (by decide +kernel)
theorem wq_6 : Cond.instantiable RX6 3 ∈ BW := tb1 (List.mem_of_getElem? (i := 231) (by decide +kernel)) (by decide +kernel)
theorem wl_RX8_75 : Cond.methodLinkNest RX8 75 yX6_init "SleepByRation" ∈ NW := tn1 (List.mem_of_getElem? (i := 232) (by decide +kernel)) (by decide +kernel)
theorem wl_RX6_3 : Cond.methodLink RX6 3 objectInit ∈ BW := tb1 (List.mem_of_getElem? (i := 235) (by decide +kernel)) (by decide +kernel)
theorem wx_RX6_15 : Cond.classLink RX6 15 RX4 ∈ BW := tb1 (List.mem_of_getElem? (i := 236) (by decide +kernel)) (by decide +kernel)
theorem wl_RX6_17 : Cond.methodLinkNest RX6 17 yX4_init "SleepByRation" ∈ NW := tn1 (List.mem_of_getElem? (i := 237) (by decide +kernel)) (by decide +kernel)
theorem wm_X6_init : Cond.instanceMethod yX6_init ∈ BW := tb1 (List.mem_of_getElem? (i := 233) (by decide +kernel)) (by decide +kernel)
theorem wc_X6_init : Cond.code yX6_init cX6_init 2 none ∈ BW := tb1 (List.mem_of_getElem? (i := 234) (by decide +kernel)) (by decide +kernel)
theorem wl_RX9_1 : Cond.methodLink RX9 1 objectInit ∈ BW := tb3 (List.mem_of_getElem? (i := 96) (by decide +kernel)) (by decide +kernel)
theorem wy_boolean : Cond.arrayClass .boolean ∈ BW := tb3 (List.mem_of_getElem? (i := 209) (by decide +kernel)) (by decide +kernel)
theorem df1 {b : Nat} : ∀ j, j < 2 → defaultValue (tyX7 j) = vp_V (mkS b (fun _ => 0) (fun _ => false) 0 [some 2, none]) j := (by decide +kernel : ∀ j, j < 2 → defaultValue (tyX7 j) = vp_V [.null, .int 0] j)
theorem df3 {b : Nat} : ∀ j, j < 5 → defaultValue (tyX3 j) = vp_V (mkS b (fun _ => 0) (fun _ => false) 0 [some 1, some 4, some 6, none, none]) j := (by decide +kernel : ∀ j, j < 5 → defaultValue (tyX3 j) = vp_V [.null, .null, .null, .int 0, .int 0] j)
theorem df4 {b : Nat} : ∀ j, j < 4 → defaultValue (tyX2 j) = vp_V (mkS b (fun _ => 0) (fun _ => false) 0 [some 5, none, none, none]) j := (by decide +kernel : ∀ j, j < 4 → defaultValue (tyX2 j) = vp_V [.null, .int 0, .int 0, .int 0] j)
theorem df6 {b : Nat} : ∀ j, j < 9 → defaultValue (tyX4 j) = vp_V (mkS b (fun _ => 0) (fun _ => false) 0 [some 4, some 7, some 8, some 9, some 10, none, none, none, none]) j := (by decide +kernel : ∀ j, j < 9 → defaultValue (tyX4 j) = vp_V [.null, .null, .null, .null, .null, .int 0, .int 0, .int 0, .int 0] j)
theorem df11 {b : Nat} : ∀ j, j < 4 → defaultValue (tyX2 j) = vp_V (mkS b (fun _ => 0) (fun _ => false) 0 [some 12, none, none, none]) j := (by decide +kernel : ∀ j, j < 4 → defaultValue (tyX2 j) = vp_V [.null, .int 0, .int 0, .int 0] j)
theorem df13 {b : Nat} : ∀ j, j < 9 → defaultValue (tyX4 j) = vp_V (mkS b (fun _ => 0) (fun _ => false) 0 [some 11, some 14, some 15, some 16, some 17, none, none, none, none]) j := (by decide +kernel : ∀ j, j < 9 → defaultValue (tyX4 j) = vp_V [.null, .null, .null, .null, .null, .int 0, .int 0, .int 0, .int 0] j)
theorem df18 {b : Nat} : ∀ j, j < 9 → defaultValue (tyX4 j) = vp_V (mkS b (fun _ => 0) (fun _ => false) 0 [some 11, some 19, some 20, some 21, some 22, none, none, none, none]) j := (by decide +kernel : ∀ j, j < 9 → defaultValue (tyX4 j) = vp_V [.null, .null, .null, .null, .null, .int 0, .int 0, .int 0, .int 0] j)
theorem df24 {b : Nat} : ∀ j, j < 3 → defaultValue (tyX0 j) = vp_V (mkS b (fun _ => 0) (fun _ => false) 0 [some 25, none, none]) j := (by decide +kernel : ∀ j, j < 3 → defaultValue (tyX0 j) = vp_V [.null, .int 0, .int 0] j)
theorem df26 {b : Nat} : ∀ j, j < 9 → defaultValue (tyX4 j) = vp_V (mkS b (fun _ => 0) (fun _ => false) 0 [some 11, some 27, some 28, some 29, some 30, none, none, none, none]) j := (by decide +kernel : ∀ j, j < 9 → defaultValue (tyX4 j) = vp_V [.null, .null, .null, .null, .null, .int 0, .int 0, .int 0, .int 0] j)
theorem df31 {b : Nat} : ∀ j, j < 9 → defaultValue (tyX4 j) = vp_V (mkS b (fun _ => 0) (fun _ => false) 0 [some 11, some 32, some 33, some 34, some 35, none, none, none, none]) j := (by decide +kernel : ∀ j, j < 9 → defaultValue (tyX4 j) = vp_V [.null, .null, .null, .null, .null, .int 0, .int 0, .int 0, .int 0] j)
theorem df36 {b : Nat} : ∀ j, j < 9 → defaultValue (tyX4 j) = vp_V (mkS b (fun _ => 0) (fun _ => false) 0 [some 11, some 37, some 38, some 39, some 40, none, none, none, none]) j := (by decide +kernel : ∀ j, j < 9 → defaultValue (tyX4 j) = vp_V [.null, .null, .null, .null, .null, .int 0, .int 0, .int 0, .int 0] j)
theorem df41 {b : Nat} : ∀ j, j < 9 → defaultValue (tyX4 j) = vp_V (mkS b (fun _ => 0) (fun _ => false) 0 [some 11, some 42, some 43, some 44, some 45, none, none, none, none]) j := (by decide +kernel : ∀ j, j < 9 → defaultValue (tyX4 j) = vp_V [.null, .null, .null, .null, .null, .int 0, .int 0, .int 0, .int 0] j)
theorem df46 {b : Nat} : ∀ j, j < 9 → defaultValue (tyX4 j) = vp_V (mkS b (fun _ => 0) (fun _ => false) 0 [some 11, some 47, some 48, some 49, some 50, none, none, none, none]) j := (by decide +kernel : ∀ j, j < 9 → defaultValue (tyX4 j) = vp_V [.null, .null, .null, .null, .null, .int 0, .int 0, .int 0, .int 0] j)
theorem df51 {b : Nat} : ∀ j, j < 9 → defaultValue (tyX4 j) = vp_V (mkS b (fun _ => 0) (fun _ => false) 0 [some 11, some 52, some 53, some 54, some 55, none, none, none, none]) j := (by decide +kernel : ∀ j, j < 9 → defaultValue (tyX4 j) = vp_V [.null, .null, .null, .null, .null, .int 0, .int 0, .int 0, .int 0] j)
theorem df56 {b : Nat} : ∀ j, j < 9 → defaultValue (tyX4 j) = vp_V (mkS b (fun _ => 0) (fun _ => false) 0 [some 11, some 57, some 58, some 59, some 60, none, none, none, none]) j := (by decide +kernel : ∀ j, j < 9 → defaultValue (tyX4 j) = vp_V [.null, .null, .null, .null, .null, .int 0, .int 0, .int 0, .int 0] j)
theorem df61 {b : Nat} : ∀ j, j < 9 → defaultValue (tyX4 j) = vp_V (mkS b (fun _ => 0) (fun _ => false) 0 [some 11, some 62, some 63, some 64, some 65, none, none, none, none]) j := (by decide +kernel : ∀ j, j < 9 → defaultValue (tyX4 j) = vp_V [.null, .null, .null, .null, .null, .int 0, .int 0, .int 0, .int 0] j)
theorem df66 {b : Nat} : ∀ j, j < 9 → defaultValue (tyX4 j) = vp_V (mkS b (fun _ => 0) (fun _ => false) 0 [some 11, some 67, some 68, some 69, some 70, none, none, none, none]) j := (by decide +kernel : ∀ j, j < 9 → defaultValue (tyX4 j) = vp_V [.null, .null, .null, .null, .null, .int 0, .int 0, .int 0, .int 0] j)
theorem df71 {b : Nat} : ∀ j, j < 9 → defaultValue (tyX4 j) = vp_V (mkS b (fun _ => 0) (fun _ => false) 0 [some 11, some 72, some 73, some 74, some 75, none, none, none, none]) j := (by decide +kernel : ∀ j, j < 9 → defaultValue (tyX4 j) = vp_V [.null, .null, .null, .null, .null, .int 0, .int 0, .int 0, .int 0] j)
theorem df76 {b : Nat} : ∀ j, j < 9 → defaultValue (tyX4 j) = vp_V (mkS b (fun _ => 0) (fun _ => false) 0 [some 11, some 77, some 78, some 79, some 80, none, none, none, none]) j := (by decide +kernel : ∀ j, j < 9 → defaultValue (tyX4 j) = vp_V [.null, .null, .null, .null, .null, .int 0, .int 0, .int 0, .int 0] j)
theorem df81 {b : Nat} : ∀ j, j < 9 → defaultValue (tyX4 j) = vp_V (mkS b (fun _ => 0) (fun _ => false) 0 [some 11, some 82, some 83, some 84, some 85, none, none, none, none]) j := (by decide +kernel : ∀ j, j < 9 → defaultValue (tyX4 j) = vp_V [.null, .null, .null, .null, .null, .int 0, .int 0, .int 0, .int 0] j)
theorem df86 {b : Nat} : ∀ j, j < 7 → defaultValue (tyX5 j) = vp_V (mkS b (fun _ => 0) (fun _ => false) 0 [some 11, some 87, some 88, some 89, none, none, none]) j := (by decide +kernel : ∀ j, j < 7 → defaultValue (tyX5 j) = vp_V [.null, .null, .null, .null, .int 0, .int 0, .int 0] j)
theorem df90 {b : Nat} : ∀ j, j < 9 → defaultValue (tyX4 j) = vp_V (mkS b (fun _ => 0) (fun _ => false) 0 [some 11, some 91, some 92, some 93, some 94, none, none, none, none]) j := (by decide +kernel : ∀ j, j < 9 → defaultValue (tyX4 j) = vp_V [.null, .null, .null, .null, .null, .int 0, .int 0, .int 0, .int 0] j)
theorem df95 {b : Nat} : ∀ j, j < 9 → defaultValue (tyX4 j) = vp_V (mkS b (fun _ => 0) (fun _ => false) 0 [some 11, some 96, some 97, some 98, some 99, none, none, none, none]) j := (by decide +kernel : ∀ j, j < 9 → defaultValue (tyX4 j) = vp_V [.null, .null, .null, .null, .null, .int 0, .int 0, .int 0, .int 0] j)
theorem df100 {b : Nat} : ∀ j, j < 9 → defaultValue (tyX4 j) = vp_V (mkS b (fun _ => 0) (fun _ => false) 0 [some 11, some 101, some 102, some 103, some 104, none, none, none, none]) j := (by decide +kernel : ∀ j, j < 9 → defaultValue (tyX4 j) = vp_V [.null, .null, .null, .null, .null, .int 0, .int 0, .int 0, .int 0] j)
theorem df105 {b : Nat} : ∀ j, j < 9 → defaultValue (tyX4 j) = vp_V (mkS b (fun _ => 0) (fun _ => false) 0 [some 11, some 106, some 107, some 108, some 109, none, none, none, none]) j := (by decide +kernel : ∀ j, j < 9 → defaultValue (tyX4 j) = vp_V [.null, .null, .null, .null, .null, .int 0, .int 0, .int 0, .int 0] j)
theorem df110 {b : Nat} : ∀ j, j < 9 → defaultValue (tyX4 j) = vp_V (mkS b (fun _ => 0) (fun _ => false) 0 [some 11, some 111, some 112, some 113, some 114, none, none, none, none]) j := (by decide +kernel : ∀ j, j < 9 → defaultValue (tyX4 j) = vp_V [.null, .null, .null, .null, .null, .int 0, .int 0, .int 0, .int 0] j)
theorem df115 {b : Nat} : ∀ j, j < 4 → defaultValue (tyX1 j) = vp_V (mkS b (fun _ => 0) (fun _ => false) 0 [some 116, some 117, some 118, none]) j := (by decide +kernel : ∀ j, j < 4 → defaultValue (tyX1 j) = vp_V [.null, .null, .null, .int 0] j)
theorem df120 {b : Nat} : ∀ j, j < 3 → defaultValue (tyX6 j) = vp_V (mkS b (fun _ => 0) (fun _ => false) 0 [some 122, some 121, none]) j := (by decide +kernel : ∀ j, j < 3 → defaultValue (tyX6 j) = vp_V [.null, .null, .int 0] j)
theorem df122 {b : Nat} : ∀ j, j < 9 → defaultValue (tyX4 j) = vp_V (mkS b (fun _ => 0) (fun _ => false) 0 [some 11, some 123, some 124, some 125, some 126, none, none, none, none]) j := (by decide +kernel : ∀ j, j < 9 → defaultValue (tyX4 j) = vp_V [.null, .null, .null, .null, .null, .int 0, .int 0, .int 0, .int 0] j)
theorem df127 {b : Nat} : ∀ j, j < 3 → defaultValue (tyX6 j) = vp_V (mkS b (fun _ => 0) (fun _ => false) 0 [some 129, some 128, none]) j := (by decide +kernel : ∀ j, j < 3 → defaultValue (tyX6 j) = vp_V [.null, .null, .int 0] j)
theorem df129 {b : Nat} : ∀ j, j < 9 → defaultValue (tyX4 j) = vp_V (mkS b (fun _ => 0) (fun _ => false) 0 [some 11, some 130, some 131, some 132, some 133, none, none, none, none]) j := (by decide +kernel : ∀ j, j < 9 → defaultValue (tyX4 j) = vp_V [.null, .null, .null, .null, .null, .int 0, .int 0, .int 0, .int 0] j)
def sc_X7_init (st : St) : St := (sS st 1 0)
def sg_J7_fill_53178_5 (σ : Hp) : Hp := (wr (wr (wr (wr (wr σ 5 0 (-9 : Int32)) 5 1 (-9 : Int32)) 5 2 (-9 : Int32)) 5 3 (-9 : Int32)) 5 4 (-9 : Int32))
def sg_X2_clear_4 (σ : Hp) : Hp := (wr (wr (wr (sg_J7_fill_53178_5 σ) 4 1 (0 : Int32)) 4 2 (0 : Int32)) 4 3 (1 : Int32))
def sc_X2_init_4 (st : St) : St := (sS st 4 0)
def sg_X2_init_4 (σ : Hp) : Hp := (sg_X2_clear_4 σ)
def sc_X4_init (st : St) (o : Nat) : St := (sS (sS (sS (sS (sS st o 1) o 2) o 3) o 4) o 0)
def sc_X3_init (st : St) : St := (sS (sS (sc_X4_init (sS (sc_X2_init_4 st) 3 1) 6) 3 2) 3 0)
def sg_X3_init (σ : Hp) : Hp := (sg_X2_init_4 σ)
def sg_J7_fill_53178_12 (σ : Hp) : Hp := (wr (wr (wr (wr (wr σ 12 0 (-9 : Int32)) 12 1 (-9 : Int32)) 12 2 (-9 : Int32)) 12 3 (-9 : Int32)) 12 4 (-9 : Int32))
def sg_X2_clear_11 (σ : Hp) : Hp := (wr (wr (wr (sg_J7_fill_53178_12 σ) 11 1 (0 : Int32)) 11 2 (0 : Int32)) 11 3 (1 : Int32))
def sc_X2_init_11 (st : St) : St := (sS st 11 0)
def sg_X2_init_11 (σ : Hp) : Hp := (sg_X2_clear_11 σ)
def sc_X0_init (st : St) : St := (sS (sc_X4_init (sS (sc_X4_init (sS (sc_X4_init (sS (sc_X4_init (sS (sc_X4_init (sS (sc_X4_init (sS (sc_X4_init (sS (sc_X4_init (sS (sc_X4_init (sS (sc_X4_init (sS (sc_X4_init (sS (sc_X4_init (sS st 24 0) 26) 25 0) 31) 25 1) 36) 25 2) 41) 25 3) 46) 25 4) 51) 25 5) 56) 25 6) 61) 25 7) 66) 25 8) 71) 25 9) 76) 25 10) 81) 25 11)
def sc_X5_init (st : St) : St := (sS (sc_X4_init (sS (sc_X4_init (sS (sc_X4_init (sS (sc_X4_init (sS (sc_X4_init (sS (sS (sS (sS st 86 1) 86 2) 86 3) 86 0) 90) 87 0) 95) 87 1) 100) 87 2) 105) 87 3) 110) 87 4)
def sc_X1_init (st : St) : St := (sS (sS (sS st 115 0) 115 1) 115 2)
def sc_X6_init_120 (st : St) : St := (sS (sc_X4_init (sS st 120 1) 122) 120 0)
def sc_X6_init_127 (st : St) : St := (sS (sc_X4_init (sS st 127 1) 129) 127 0)
def sc_X8_init (st : St) : St := (sS (sc_X6_init_127 (sS (sc_X6_init_120 (sS (sS (sc_X1_init (sS (sc_X5_init (sS (sc_X0_init (sS (sS (sc_X4_init (sS (sc_X4_init (sS (sc_X2_init_11 (sS (sc_X3_init (sS (sc_X7_init st) 0 0)) 0 1)) 0 2) 13) 0 3) 18) 0 4) 0 5)) 0 6)) 0 7)) 0 8) 0 9)) 119 0)) 119 1)
def sg_X8_init (σ : Hp) : Hp := (sg_X2_init_11 (sg_X3_init σ))
def sc_X9_init (st : St) : St := (sS (sS (sS (sS (sS (sS (sS (sS (sS (sS (sS (sS (sS (sS (sS (sS (sS (sS (sS (sS (sS (sS (sS (sS st 134 1) 134 7) 134 8) 134 9) 134 10) 134 11) 134 12) 134 13) 134 16) 134 20) 134 21) 134 22) 134 23) 134 24) 134 26) 134 27) 134 29) 134 30) 134 31) 134 32) 134 33) 134 34) 134 35) 134 36)
def sg_X9_init (σ : Hp) : Hp := (wr (wr (wr (wr (wr (wr σ 134 6 (1 : Int32)) 141 0 (-9 : Int32)) 141 1 (-9 : Int32)) 141 2 (-9 : Int32)) 141 3 (-9 : Int32)) 141 4 (-9 : Int32))
set_option maxRecDepth 8000 in
theorem cc_X7_init (l : Launch) (dC : Nat → ClassId) (dI : Nat → Nat → Nat) (cA : Nat → ClassId) (b : Nat) (st : St) (σ : Hp) : CC l dC dI cA b yX7_init cX7_init 1 1 [.ref (b + 1)] 2 st σ 3 (sc_X7_init st) σ 1 48 := CC_of [(0, .ref (b + 1))] (by decide +kernel) rfl rfl (Nat.le_of_ble_eq_true rfl) rfl (fun E _ C D CN => by
  have CI := CN rfl
  refine C_aload_n C dX7_init_0 rfl 0 rfl ?_
  refine C_obj C (by decide) wl_RX7_3 (Nat.le_of_ble_eq_true rfl) dX7_init_1 ?_
  refine C_aload_n C dX7_init_4 rfl 0 rfl ?_
  refine C_bipush (v := (48 : Int32)) C dX7_init_5 (by decide) ?_
  refine C_newa (atype := .byte) (ty := .byte) (t := 1) (N := 48) (n2 := 3) (kc2 := 1) (ks2 := 48) C rfl rfl (fun _ => rfl) (fun _ _ h => h) ly2 wy_byte (by decide) (by decide) (by decide) (by decide) (by decide) dX7_init_7 rfl rfl rfl ?_
  refine C_putR C CI (by decide) ly1 rfl inB7 (by decide) wf_RX7_9 tyX7 tyX7_ok nmX7 rfl rfl (ty := tyX7 0) (by decide +kernel) rfl rfl rfl dX7_init_9 ?_
  exact C_vret C D dX7_init_12) trivial
set_option maxRecDepth 8000 in
theorem cc_J7_fill_53178_5 (l : Launch) (dC : Nat → ClassId) (dI : Nat → Nat → Nat) (cA : Nat → ClassId) (b : Nat) (st : St) (σ : Hp) : CC l dC dI cA b yJ7_fill_53178 cJ7_fill_53178 4 1 [.ref (b + 5), .int (-9 : Int32)] 6 st σ 6 st (sg_J7_fill_53178_5 σ) 0 0 := CC_of [(0, .ref (b + 5)), (1, .int (-9 : Int32))] (by decide +kernel) rfl rfl (Nat.le_of_ble_eq_true rfl) rfl (fun E _ C D CN => by
  refine C_iconst (v := (0 : Int32)) C dJ7_fill_53178_0 (by decide) ?_
  refine C_istore_n (L' := [(2, .int (0 : Int32)), (0, .ref (b + 5)), (1, .int (-9 : Int32))]) C dJ7_fill_53178_1 rfl (by decide) rfl ?_
  refine C_aload_n C dJ7_fill_53178_2 rfl 1 rfl ?_
  refine C_alen (v := (5 : Int32)) C (by decide) ly5 rfl dJ7_fill_53178_3 ?_
  refine C_istore_n (L' := [(3, .int (5 : Int32)), (2, .int (0 : Int32)), (0, .ref (b + 5)), (1, .int (-9 : Int32))]) C dJ7_fill_53178_4 rfl (by decide) rfl ?_
  refine C_iload_n C dJ7_fill_53178_5 rfl 1 rfl ?_
  refine C_iload_n C dJ7_fill_53178_6 rfl 0 rfl ?_
  refine C_ge_f (tgt := 20) C dJ7_fill_53178_7 (by decide) (by decide) ?_
  refine C_aload_n C dJ7_fill_53178_10 rfl 2 rfl ?_
  refine C_iload_n C dJ7_fill_53178_11 rfl 1 rfl ?_
  refine C_iload_n C dJ7_fill_53178_12 rfl 3 rfl ?_
  refine C_iast (j := 0) C (by decide) ly5 (by decide) (by decide) (by decide) dJ7_fill_53178_13 ?_
  refine C_iinc (k := 1) (v := (1 : Int32)) (L' := [(2, .int (1 : Int32)), (3, .int (5 : Int32)), (0, .ref (b + 5)), (1, .int (-9 : Int32))]) C dJ7_fill_53178_14 rfl (by decide) (by decide) rfl ?_
  refine C_goto (tgt := 5) C dJ7_fill_53178_17 (by decide) ?_
  refine C_iload_n C dJ7_fill_53178_5 rfl 0 rfl ?_
  refine C_iload_n C dJ7_fill_53178_6 rfl 1 rfl ?_
  refine C_ge_f (tgt := 20) C dJ7_fill_53178_7 (by decide) (by decide) ?_
  refine C_aload_n C dJ7_fill_53178_10 rfl 2 rfl ?_
  refine C_iload_n C dJ7_fill_53178_11 rfl 0 rfl ?_
  refine C_iload_n C dJ7_fill_53178_12 rfl 3 rfl ?_
  refine C_iast (j := 1) C (by decide) ly5 (by decide) (by decide) (by decide) dJ7_fill_53178_13 ?_
  refine C_iinc (k := 0) (v := (2 : Int32)) (L' := [(2, .int (2 : Int32)), (3, .int (5 : Int32)), (0, .ref (b + 5)), (1, .int (-9 : Int32))]) C dJ7_fill_53178_14 rfl (by decide) (by decide) rfl ?_
  refine C_goto (tgt := 5) C dJ7_fill_53178_17 (by decide) ?_
  refine C_iload_n C dJ7_fill_53178_5 rfl 0 rfl ?_
  refine C_iload_n C dJ7_fill_53178_6 rfl 1 rfl ?_
  refine C_ge_f (tgt := 20) C dJ7_fill_53178_7 (by decide) (by decide) ?_
  refine C_aload_n C dJ7_fill_53178_10 rfl 2 rfl ?_
  refine C_iload_n C dJ7_fill_53178_11 rfl 0 rfl ?_
  refine C_iload_n C dJ7_fill_53178_12 rfl 3 rfl ?_
  refine C_iast (j := 2) C (by decide) ly5 (by decide) (by decide) (by decide) dJ7_fill_53178_13 ?_
  refine C_iinc (k := 0) (v := (3 : Int32)) (L' := [(2, .int (3 : Int32)), (3, .int (5 : Int32)), (0, .ref (b + 5)), (1, .int (-9 : Int32))]) C dJ7_fill_53178_14 rfl (by decide) (by decide) rfl ?_
  refine C_goto (tgt := 5) C dJ7_fill_53178_17 (by decide) ?_
  refine C_iload_n C dJ7_fill_53178_5 rfl 0 rfl ?_
  refine C_iload_n C dJ7_fill_53178_6 rfl 1 rfl ?_
  refine C_ge_f (tgt := 20) C dJ7_fill_53178_7 (by decide) (by decide) ?_
  refine C_aload_n C dJ7_fill_53178_10 rfl 2 rfl ?_
  refine C_iload_n C dJ7_fill_53178_11 rfl 0 rfl ?_
  refine C_iload_n C dJ7_fill_53178_12 rfl 3 rfl ?_
  refine C_iast (j := 3) C (by decide) ly5 (by decide) (by decide) (by decide) dJ7_fill_53178_13 ?_
  refine C_iinc (k := 0) (v := (4 : Int32)) (L' := [(2, .int (4 : Int32)), (3, .int (5 : Int32)), (0, .ref (b + 5)), (1, .int (-9 : Int32))]) C dJ7_fill_53178_14 rfl (by decide) (by decide) rfl ?_
  refine C_goto (tgt := 5) C dJ7_fill_53178_17 (by decide) ?_
  refine C_iload_n C dJ7_fill_53178_5 rfl 0 rfl ?_
  refine C_iload_n C dJ7_fill_53178_6 rfl 1 rfl ?_
  refine C_ge_f (tgt := 20) C dJ7_fill_53178_7 (by decide) (by decide) ?_
  refine C_aload_n C dJ7_fill_53178_10 rfl 2 rfl ?_
  refine C_iload_n C dJ7_fill_53178_11 rfl 0 rfl ?_
  refine C_iload_n C dJ7_fill_53178_12 rfl 3 rfl ?_
  refine C_iast (j := 4) C (by decide) ly5 (by decide) (by decide) (by decide) dJ7_fill_53178_13 ?_
  refine C_iinc (k := 0) (v := (5 : Int32)) (L' := [(2, .int (5 : Int32)), (3, .int (5 : Int32)), (0, .ref (b + 5)), (1, .int (-9 : Int32))]) C dJ7_fill_53178_14 rfl (by decide) (by decide) rfl ?_
  refine C_goto (tgt := 5) C dJ7_fill_53178_17 (by decide) ?_
  refine C_iload_n C dJ7_fill_53178_5 rfl 0 rfl ?_
  refine C_iload_n C dJ7_fill_53178_6 rfl 1 rfl ?_
  refine C_ge_t (tgt := 20) C dJ7_fill_53178_7 (by decide) (by decide) ?_
  exact C_vret C D dJ7_fill_53178_20) trivial
set_option maxRecDepth 8000 in
theorem cc_X2_clear_4 (l : Launch) (dC : Nat → ClassId) (dI : Nat → Nat → Nat) (cA : Nat → ClassId) (b : Nat) (st : St) (σ : Hp) (h0 : st 4 0 = true) : CC l dC dI cA b yX2_clear cX2_clear 1 2 [.ref (b + 4)] 6 st σ 6 st (sg_X2_clear_4 σ) 0 0 := CC_of [(0, .ref (b + 4))] (by decide +kernel) rfl rfl (Nat.le_of_ble_eq_true rfl) rfl (fun E _ C D CN => by
  refine C_aload_n C dX2_clear_0 rfl 0 rfl ?_
  refine C_getR C (by decide) ly4 rfl inB2 (by decide) wf_RX2_9 rfl (h0) dX2_clear_1 ?_
  refine C_bipush (v := (-9 : Int32)) C dX2_clear_4 (by decide) ?_
  refine C_callS (na := 2) (kc2 := 0) (ks2 := 0) C wt_J7_fill_53178 wl_RX2_18 (cc_J7_fill_53178_5 _ _ _ _ _ _ _) (by decide) (by decide) (by decide) (by decide) wc_J7_fill_53178 wi_RJ7 (by decide +kernel) rfl rfl (Nat.le_of_ble_eq_true rfl) dX2_clear_6 rfl rfl ?_
  refine C_aload_n C dX2_clear_9 rfl 0 rfl ?_
  refine C_iconst (v := (0 : Int32)) C dX2_clear_10 (by decide) ?_
  refine C_putI C (by decide) ly4 rfl inB2 (by decide) wf_RX2_24 tyX2 tyX2_ok nmX2 rfl (by decide +kernel) rfl dX2_clear_11 ?_
  refine C_aload_n C dX2_clear_14 rfl 0 rfl ?_
  refine C_iconst (v := (0 : Int32)) C dX2_clear_15 (by decide) ?_
  refine C_putI C (by decide) ly4 rfl inB2 (by decide) wf_RX2_28 tyX2 tyX2_ok nmX2 rfl (by decide +kernel) rfl dX2_clear_16 ?_
  refine C_aload_n C dX2_clear_19 rfl 0 rfl ?_
  refine C_iconst (v := (1 : Int32)) C dX2_clear_20 (by decide) ?_
  refine C_putI C (by decide) ly4 rfl inB2 (by decide) wf_RX2_31 tyX2 tyX2_ok nmX2 rfl (by decide +kernel) rfl dX2_clear_21 ?_
  exact C_vret C D dX2_clear_24) trivial
set_option maxRecDepth 8000 in
theorem cc_X2_init_4 (l : Launch) (dC : Nat → ClassId) (dI : Nat → Nat → Nat) (cA : Nat → ClassId) (b : Nat) (st : St) (σ : Hp) : CC l dC dI cA b yX2_init cX2_init 1 3 [.ref (b + 4)] 5 st σ 6 (sc_X2_init_4 st) (sg_X2_init_4 σ) 1 5 := CC_of [(0, .ref (b + 4))] (by decide +kernel) rfl rfl (Nat.le_of_ble_eq_true rfl) rfl (fun E _ C D CN => by
  have CI := CN rfl
  refine C_aload_n C dX2_init_0 rfl 0 rfl ?_
  refine C_obj C (by decide) wl_RX2_3 (Nat.le_of_ble_eq_true rfl) dX2_init_1 ?_
  refine C_aload_n C dX2_init_4 rfl 0 rfl ?_
  refine C_iconst (v := (5 : Int32)) C dX2_init_5 (by decide) ?_
  refine C_newa (atype := .int) (ty := .int) (t := 0) (N := 5) (n2 := 6) (kc2 := 1) (ks2 := 5) C rfl rfl (fun _ => rfl) (fun _ _ h => h) ly5 wy_int (by decide) (by decide) (by decide) (by decide) (by decide) dX2_init_6 rfl rfl rfl ?_
  refine C_putR C CI (by decide) ly4 rfl inB2 (by decide) wf_RX2_9 tyX2 tyX2_ok nmX2 rfl rfl (ty := tyX2 0) (by decide +kernel) rfl rfl rfl dX2_init_8 ?_
  refine C_aload_n C dX2_init_11 rfl 0 rfl ?_
  refine C_callV (na := 0) (kc2 := 1) (ks2 := 5) C (by decide) ly4 rfl wm_X2_clear ws_X2_clear wl_RX2_15 (cc_X2_clear_4 _ _ _ _ _ _ _ (by simp [sS, va_up])) (by decide) (by decide) (by decide) (by decide) wc_X2_clear wi_RX2 (by decide +kernel) rfl rfl (Nat.le_of_ble_eq_true rfl) dX2_init_12 rfl rfl ?_
  exact C_vret C D dX2_init_15) trivial
set_option maxRecDepth 8000 in
theorem cc_X4_init (l : Launch) (dC : Nat → ClassId) (dI : Nat → Nat → Nat) (cA : Nat → ClassId) (b : Nat) (o : Nat) (ho : rollP o) (st : St) (σ : Hp) : CC l dC dI cA b yX4_init cX4_init 2 1 [.ref (b + o), .ref (b + (chO o))] (o + 1) st σ (o + 5) (sc_X4_init st o) σ 4 20 := CC_of [(0, .ref (b + o)), (1, .ref (b + (chO o)))] (by decide +kernel) rfl rfl (Nat.le_of_ble_eq_true rfl) rfl (fun E _ C D CN => by
  have CI := CN rfl
  refine C_aload_n C dX4_init_0 rfl 0 rfl ?_
  refine C_obj C (by decide) wl_RX4_3 (Nat.le_of_ble_eq_true rfl) dX4_init_1 ?_
  refine C_aload_n C dX4_init_4 rfl 0 rfl ?_
  refine C_iconst (v := (5 : Int32)) C dX4_init_5 (by decide) ?_
  refine C_newa (atype := .int) (ty := .int) (t := 0) (N := 5) (n2 := (o + 2)) (kc2 := 1) (ks2 := 5) C rfl rfl (fun _ => rfl) (fun _ _ h => h) (rl1 ho) wy_int (by decide) (by decide) (by decide) (by decide) (by decide) dX4_init_6 rfl rfl rfl ?_
  refine C_putR C CI (by omega) (rl0 ho) rfl inB4 (by decide) wf_RX4_9 tyX4 tyX4_ok nmX4 rfl rfl (ty := tyX4 1) (by decide +kernel) rfl rfl rfl dX4_init_8 ?_
  refine C_aload_n C dX4_init_11 rfl 0 rfl ?_
  refine C_iconst (v := (5 : Int32)) C dX4_init_12 (by decide) ?_
  refine C_newa (atype := .int) (ty := .int) (t := 0) (N := 5) (n2 := (o + 3)) (kc2 := 2) (ks2 := 10) C rfl rfl (fun _ => rfl) (fun _ _ h => h) (rl2 ho) wy_int (by decide) (by decide) (by decide) (by decide) (by decide) dX4_init_13 rfl rfl rfl ?_
  refine C_putR C CI (by omega) (rl0 ho) rfl inB4 (by decide) wf_RX4_15 tyX4 tyX4_ok nmX4 rfl rfl (ty := tyX4 2) (by decide +kernel) rfl rfl rfl dX4_init_15 ?_
  refine C_aload_n C dX4_init_18 rfl 0 rfl ?_
  refine C_iconst (v := (5 : Int32)) C dX4_init_19 (by decide) ?_
  refine C_newa (atype := .int) (ty := .int) (t := 0) (N := 5) (n2 := (o + 4)) (kc2 := 3) (ks2 := 15) C rfl rfl (fun _ => rfl) (fun _ _ h => h) (rl3 ho) wy_int (by decide) (by decide) (by decide) (by decide) (by decide) dX4_init_20 rfl rfl rfl ?_
  refine C_putR C CI (by omega) (rl0 ho) rfl inB4 (by decide) wf_RX4_18 tyX4 tyX4_ok nmX4 rfl rfl (ty := tyX4 3) (by decide +kernel) rfl rfl rfl dX4_init_22 ?_
  refine C_aload_n C dX4_init_25 rfl 0 rfl ?_
  refine C_iconst (v := (5 : Int32)) C dX4_init_26 (by decide) ?_
  refine C_newa (atype := .int) (ty := .int) (t := 0) (N := 5) (n2 := (o + 5)) (kc2 := 4) (ks2 := 20) C rfl rfl (fun _ => rfl) (fun _ _ h => h) (rl4 ho) wy_int (by decide) (by decide) (by decide) (by decide) (by decide) dX4_init_27 rfl rfl rfl ?_
  refine C_putR C CI (by omega) (rl0 ho) rfl inB4 (by decide) wf_RX4_21 tyX4 tyX4_ok nmX4 rfl rfl (ty := tyX4 4) (by decide +kernel) rfl rfl rfl dX4_init_29 ?_
  refine C_aload_n C dX4_init_32 rfl 0 rfl ?_
  refine C_aload_n C dX4_init_33 rfl 1 rfl ?_
  refine C_putR C CI (by omega) (rl0 ho) rfl inB4 (by decide) wf_RX4_24 tyX4 tyX4_ok nmX4 rfl rfl (ty := tyX4 0) (by decide +kernel) rfl rfl rfl dX4_init_34 ?_
  exact C_vret C D dX4_init_37) trivial
set_option maxRecDepth 8000 in
theorem cc_X3_init (l : Launch) (dC : Nat → ClassId) (dI : Nat → Nat → Nat) (cA : Nat → ClassId) (b : Nat) (st : St) (σ : Hp) : CC l dC dI cA b yX3_init cX3_init 2 4 [.ref (b + 3), .ref (b + 1)] 4 st σ 11 (sc_X3_init st) (sg_X3_init σ) 7 38 := CC_of [(0, .ref (b + 3)), (1, .ref (b + 1))] (by decide +kernel) rfl rfl (Nat.le_of_ble_eq_true rfl) rfl (fun E _ C D CN => by
  have CI := CN rfl
  refine C_aload_n C dX3_init_0 rfl 0 rfl ?_
  refine C_obj C (by decide) wl_RX3_3 (Nat.le_of_ble_eq_true rfl) dX3_init_1 ?_
  refine C_aload_n C dX3_init_4 rfl 0 rfl ?_
  refine C_new (n2 := 5) (kc2 := 1) (ks2 := 4) C ly4 rfl inB2 tyX2 tyX2_ok wx_RX3_9 wq_2 wi_RX2 df4 (by decide) (by decide) dX3_init_5 rfl rfl rfl ?_
  refine C_dup C dX3_init_8 rfl ?_
  refine C_callIN (na := 0) (kc2 := 2) (ks2 := 9) C rfl wm_X2_init wl_RX3_11 (cc_X2_init_4 _ _ _ _ _ _ _) (by decide) (by decide) (by decide) (by decide) wc_X2_init wi_RX2 (by decide +kernel) rfl rfl (Nat.le_of_ble_eq_true rfl) dX3_init_9 rfl rfl ?_
  refine C_putR C CI (by decide) ly3 rfl inB3 (by decide) wf_RX3_12 tyX3 tyX3_ok nmX3 rfl rfl (ty := tyX3 1) (by decide +kernel) rfl rfl rfl dX3_init_12 ?_
  refine C_aload_n C dX3_init_15 rfl 0 rfl ?_
  refine C_new (n2 := 7) (kc2 := 3) (ks2 := 18) C ly6 rfl inB4 tyX4 tyX4_ok wx_RX3_18 wq_4 wi_RX4 df6 (by decide) (by decide) dX3_init_16 rfl rfl rfl ?_
  refine C_dup C dX3_init_19 rfl ?_
  refine C_aload_n C dX3_init_20 rfl 0 rfl ?_
  refine C_getR C (by decide) ly3 rfl inB3 (by decide) wf_RX3_12 rfl (by simp [sS, va_up, sc_X2_init_4, sc_X7_init]) dX3_init_21 ?_
  refine C_callIN (na := 1) (kc2 := 7) (ks2 := 38) C rfl wm_X4_init wl_RX3_20 (cc_X4_init _ _ _ _ _ 6 rP_6 _ _) (by decide) (by decide) (by decide) (by decide) wc_X4_init wi_RX4 (by decide +kernel) rfl rfl (Nat.le_of_ble_eq_true rfl) dX3_init_24 rfl rfl ?_
  refine C_putR C CI (by decide) ly3 rfl inB3 (by decide) wf_RX3_23 tyX3 tyX3_ok nmX3 rfl rfl (ty := tyX3 2) (by decide +kernel) rfl rfl rfl dX3_init_27 ?_
  refine C_aload_n C dX3_init_30 rfl 0 rfl ?_
  refine C_aload_n C dX3_init_31 rfl 1 rfl ?_
  refine C_putR C CI (by decide) ly3 rfl inB3 (by decide) wf_RX3_27 tyX3 tyX3_ok nmX3 rfl rfl (ty := tyX3 0) (by decide +kernel) rfl rfl rfl dX3_init_32 ?_
  exact C_vret C D dX3_init_35) trivial
set_option maxRecDepth 8000 in
theorem cc_J7_fill_53178_12 (l : Launch) (dC : Nat → ClassId) (dI : Nat → Nat → Nat) (cA : Nat → ClassId) (b : Nat) (st : St) (σ : Hp) : CC l dC dI cA b yJ7_fill_53178 cJ7_fill_53178 4 1 [.ref (b + 12), .int (-9 : Int32)] 13 st σ 13 st (sg_J7_fill_53178_12 σ) 0 0 := CC_of [(0, .ref (b + 12)), (1, .int (-9 : Int32))] (by decide +kernel) rfl rfl (Nat.le_of_ble_eq_true rfl) rfl (fun E _ C D CN => by
  refine C_iconst (v := (0 : Int32)) C dJ7_fill_53178_0 (by decide) ?_
  refine C_istore_n (L' := [(2, .int (0 : Int32)), (0, .ref (b + 12)), (1, .int (-9 : Int32))]) C dJ7_fill_53178_1 rfl (by decide) rfl ?_
  refine C_aload_n C dJ7_fill_53178_2 rfl 1 rfl ?_
  refine C_alen (v := (5 : Int32)) C (by decide) ly12 rfl dJ7_fill_53178_3 ?_
  refine C_istore_n (L' := [(3, .int (5 : Int32)), (2, .int (0 : Int32)), (0, .ref (b + 12)), (1, .int (-9 : Int32))]) C dJ7_fill_53178_4 rfl (by decide) rfl ?_
  refine C_iload_n C dJ7_fill_53178_5 rfl 1 rfl ?_
  refine C_iload_n C dJ7_fill_53178_6 rfl 0 rfl ?_
  refine C_ge_f (tgt := 20) C dJ7_fill_53178_7 (by decide) (by decide) ?_
  refine C_aload_n C dJ7_fill_53178_10 rfl 2 rfl ?_
  refine C_iload_n C dJ7_fill_53178_11 rfl 1 rfl ?_
  refine C_iload_n C dJ7_fill_53178_12 rfl 3 rfl ?_
  refine C_iast (j := 0) C (by decide) ly12 (by decide) (by decide) (by decide) dJ7_fill_53178_13 ?_
  refine C_iinc (k := 1) (v := (1 : Int32)) (L' := [(2, .int (1 : Int32)), (3, .int (5 : Int32)), (0, .ref (b + 12)), (1, .int (-9 : Int32))]) C dJ7_fill_53178_14 rfl (by decide) (by decide) rfl ?_
  refine C_goto (tgt := 5) C dJ7_fill_53178_17 (by decide) ?_
  refine C_iload_n C dJ7_fill_53178_5 rfl 0 rfl ?_
  refine C_iload_n C dJ7_fill_53178_6 rfl 1 rfl ?_
  refine C_ge_f (tgt := 20) C dJ7_fill_53178_7 (by decide) (by decide) ?_
  refine C_aload_n C dJ7_fill_53178_10 rfl 2 rfl ?_
  refine C_iload_n C dJ7_fill_53178_11 rfl 0 rfl ?_
  refine C_iload_n C dJ7_fill_53178_12 rfl 3 rfl ?_
  refine C_iast (j := 1) C (by decide) ly12 (by decide) (by decide) (by decide) dJ7_fill_53178_13 ?_
  refine C_iinc (k := 0) (v := (2 : Int32)) (L' := [(2, .int (2 : Int32)), (3, .int (5 : Int32)), (0, .ref (b + 12)), (1, .int (-9 : Int32))]) C dJ7_fill_53178_14 rfl (by decide) (by decide) rfl ?_
  refine C_goto (tgt := 5) C dJ7_fill_53178_17 (by decide) ?_
  refine C_iload_n C dJ7_fill_53178_5 rfl 0 rfl ?_
  refine C_iload_n C dJ7_fill_53178_6 rfl 1 rfl ?_
  refine C_ge_f (tgt := 20) C dJ7_fill_53178_7 (by decide) (by decide) ?_
  refine C_aload_n C dJ7_fill_53178_10 rfl 2 rfl ?_
  refine C_iload_n C dJ7_fill_53178_11 rfl 0 rfl ?_
  refine C_iload_n C dJ7_fill_53178_12 rfl 3 rfl ?_
  refine C_iast (j := 2) C (by decide) ly12 (by decide) (by decide) (by decide) dJ7_fill_53178_13 ?_
  refine C_iinc (k := 0) (v := (3 : Int32)) (L' := [(2, .int (3 : Int32)), (3, .int (5 : Int32)), (0, .ref (b + 12)), (1, .int (-9 : Int32))]) C dJ7_fill_53178_14 rfl (by decide) (by decide) rfl ?_
  refine C_goto (tgt := 5) C dJ7_fill_53178_17 (by decide) ?_
  refine C_iload_n C dJ7_fill_53178_5 rfl 0 rfl ?_
  refine C_iload_n C dJ7_fill_53178_6 rfl 1 rfl ?_
  refine C_ge_f (tgt := 20) C dJ7_fill_53178_7 (by decide) (by decide) ?_
  refine C_aload_n C dJ7_fill_53178_10 rfl 2 rfl ?_
  refine C_iload_n C dJ7_fill_53178_11 rfl 0 rfl ?_
  refine C_iload_n C dJ7_fill_53178_12 rfl 3 rfl ?_
  refine C_iast (j := 3) C (by decide) ly12 (by decide) (by decide) (by decide) dJ7_fill_53178_13 ?_
  refine C_iinc (k := 0) (v := (4 : Int32)) (L' := [(2, .int (4 : Int32)), (3, .int (5 : Int32)), (0, .ref (b + 12)), (1, .int (-9 : Int32))]) C dJ7_fill_53178_14 rfl (by decide) (by decide) rfl ?_
  refine C_goto (tgt := 5) C dJ7_fill_53178_17 (by decide) ?_
  refine C_iload_n C dJ7_fill_53178_5 rfl 0 rfl ?_
  refine C_iload_n C dJ7_fill_53178_6 rfl 1 rfl ?_
  refine C_ge_f (tgt := 20) C dJ7_fill_53178_7 (by decide) (by decide) ?_
  refine C_aload_n C dJ7_fill_53178_10 rfl 2 rfl ?_
  refine C_iload_n C dJ7_fill_53178_11 rfl 0 rfl ?_
  refine C_iload_n C dJ7_fill_53178_12 rfl 3 rfl ?_
  refine C_iast (j := 4) C (by decide) ly12 (by decide) (by decide) (by decide) dJ7_fill_53178_13 ?_
  refine C_iinc (k := 0) (v := (5 : Int32)) (L' := [(2, .int (5 : Int32)), (3, .int (5 : Int32)), (0, .ref (b + 12)), (1, .int (-9 : Int32))]) C dJ7_fill_53178_14 rfl (by decide) (by decide) rfl ?_
  refine C_goto (tgt := 5) C dJ7_fill_53178_17 (by decide) ?_
  refine C_iload_n C dJ7_fill_53178_5 rfl 0 rfl ?_
  refine C_iload_n C dJ7_fill_53178_6 rfl 1 rfl ?_
  refine C_ge_t (tgt := 20) C dJ7_fill_53178_7 (by decide) (by decide) ?_
  exact C_vret C D dJ7_fill_53178_20) trivial
set_option maxRecDepth 8000 in
theorem cc_X2_clear_11 (l : Launch) (dC : Nat → ClassId) (dI : Nat → Nat → Nat) (cA : Nat → ClassId) (b : Nat) (st : St) (σ : Hp) (h0 : st 11 0 = true) : CC l dC dI cA b yX2_clear cX2_clear 1 2 [.ref (b + 11)] 13 st σ 13 st (sg_X2_clear_11 σ) 0 0 := CC_of [(0, .ref (b + 11))] (by decide +kernel) rfl rfl (Nat.le_of_ble_eq_true rfl) rfl (fun E _ C D CN => by
  refine C_aload_n C dX2_clear_0 rfl 0 rfl ?_
  refine C_getR C (by decide) ly11 rfl inB2 (by decide) wf_RX2_9 rfl (h0) dX2_clear_1 ?_
  refine C_bipush (v := (-9 : Int32)) C dX2_clear_4 (by decide) ?_
  refine C_callS (na := 2) (kc2 := 0) (ks2 := 0) C wt_J7_fill_53178 wl_RX2_18 (cc_J7_fill_53178_12 _ _ _ _ _ _ _) (by decide) (by decide) (by decide) (by decide) wc_J7_fill_53178 wi_RJ7 (by decide +kernel) rfl rfl (Nat.le_of_ble_eq_true rfl) dX2_clear_6 rfl rfl ?_
  refine C_aload_n C dX2_clear_9 rfl 0 rfl ?_
  refine C_iconst (v := (0 : Int32)) C dX2_clear_10 (by decide) ?_
  refine C_putI C (by decide) ly11 rfl inB2 (by decide) wf_RX2_24 tyX2 tyX2_ok nmX2 rfl (by decide +kernel) rfl dX2_clear_11 ?_
  refine C_aload_n C dX2_clear_14 rfl 0 rfl ?_
  refine C_iconst (v := (0 : Int32)) C dX2_clear_15 (by decide) ?_
  refine C_putI C (by decide) ly11 rfl inB2 (by decide) wf_RX2_28 tyX2 tyX2_ok nmX2 rfl (by decide +kernel) rfl dX2_clear_16 ?_
  refine C_aload_n C dX2_clear_19 rfl 0 rfl ?_
  refine C_iconst (v := (1 : Int32)) C dX2_clear_20 (by decide) ?_
  refine C_putI C (by decide) ly11 rfl inB2 (by decide) wf_RX2_31 tyX2 tyX2_ok nmX2 rfl (by decide +kernel) rfl dX2_clear_21 ?_
  exact C_vret C D dX2_clear_24) trivial
set_option maxRecDepth 8000 in
theorem cc_X2_init_11 (l : Launch) (dC : Nat → ClassId) (dI : Nat → Nat → Nat) (cA : Nat → ClassId) (b : Nat) (st : St) (σ : Hp) : CC l dC dI cA b yX2_init cX2_init 1 3 [.ref (b + 11)] 12 st σ 13 (sc_X2_init_11 st) (sg_X2_init_11 σ) 1 5 := CC_of [(0, .ref (b + 11))] (by decide +kernel) rfl rfl (Nat.le_of_ble_eq_true rfl) rfl (fun E _ C D CN => by
  have CI := CN rfl
  refine C_aload_n C dX2_init_0 rfl 0 rfl ?_
  refine C_obj C (by decide) wl_RX2_3 (Nat.le_of_ble_eq_true rfl) dX2_init_1 ?_
  refine C_aload_n C dX2_init_4 rfl 0 rfl ?_
  refine C_iconst (v := (5 : Int32)) C dX2_init_5 (by decide) ?_
  refine C_newa (atype := .int) (ty := .int) (t := 0) (N := 5) (n2 := 13) (kc2 := 1) (ks2 := 5) C rfl rfl (fun _ => rfl) (fun _ _ h => h) ly12 wy_int (by decide) (by decide) (by decide) (by decide) (by decide) dX2_init_6 rfl rfl rfl ?_
  refine C_putR C CI (by decide) ly11 rfl inB2 (by decide) wf_RX2_9 tyX2 tyX2_ok nmX2 rfl rfl (ty := tyX2 0) (by decide +kernel) rfl rfl rfl dX2_init_8 ?_
  refine C_aload_n C dX2_init_11 rfl 0 rfl ?_
  refine C_callV (na := 0) (kc2 := 1) (ks2 := 5) C (by decide) ly11 rfl wm_X2_clear ws_X2_clear wl_RX2_15 (cc_X2_clear_11 _ _ _ _ _ _ _ (by simp [sS, va_up])) (by decide) (by decide) (by decide) (by decide) wc_X2_clear wi_RX2 (by decide +kernel) rfl rfl (Nat.le_of_ble_eq_true rfl) dX2_init_12 rfl rfl ?_
  exact C_vret C D dX2_init_15) trivial
set_option maxRecDepth 8000 in
theorem cc_X0_init (l : Launch) (dC : Nat → ClassId) (dI : Nat → Nat → Nat) (cA : Nat → ClassId) (b : Nat) (st : St) (σ : Hp) : CC l dC dI cA b yX0_init cX0_init 3 2 [.ref (b + 24), .ref (b + 11)] 25 st σ 86 (sc_X0_init st) σ 61 360 := CC_of [(0, .ref (b + 24)), (1, .ref (b + 11))] (by decide +kernel) rfl rfl (Nat.le_of_ble_eq_true rfl) rfl (fun E _ C D CN => by
  have CI := CN rfl
  refine C_aload_n C dX0_init_0 rfl 0 rfl ?_
  refine C_obj C (by decide) wl_RX0_3 (Nat.le_of_ble_eq_true rfl) dX0_init_1 ?_
  refine C_aload_n C dX0_init_4 rfl 0 rfl ?_
  refine C_bipush (v := (12 : Int32)) C dX0_init_5 (by decide) ?_
  refine C_newq (t := 3) (N := 12) (Cn := "SleepByRation$Roll") (n2 := 26) (kc2 := 1) (ks2 := 12) C (fun _ => rfl) (fun _ _ _ _ h => h.2.1) ly25 wx_RX0_9 (by decide) (by decide) (by decide) (by decide) (by decide) dX0_init_7 rfl rfl rfl ?_
  refine C_putR C CI (by decide) ly24 rfl inB0 (by decide) wf_RX0_11 tyX0 tyX0_ok nmX0 rfl rfl (ty := tyX0 0) (by decide +kernel) rfl rfl rfl dX0_init_10 ?_
  refine C_iconst (v := (0 : Int32)) C dX0_init_13 (by decide) ?_
  refine C_istore_n (L' := [(2, .int (0 : Int32)), (0, .ref (b + 24)), (1, .ref (b + 11))]) C dX0_init_14 rfl (by decide) rfl ?_
  refine C_iload_n C dX0_init_15 rfl 0 rfl ?_
  refine C_bipush (v := (12 : Int32)) C dX0_init_16 (by decide) ?_
  refine C_ge_f (tgt := 41) C dX0_init_18 (by decide) (by decide) ?_
  refine C_aload_n C dX0_init_21 rfl 1 rfl ?_
  refine C_getR C (by decide) ly24 rfl inB0 (by decide) wf_RX0_11 rfl (by simp [sS, va_up, sc_X2_init_11, sc_X2_init_4, sc_X3_init, sc_X4_init, sc_X7_init]) dX0_init_22 ?_
  refine C_iload_n C dX0_init_25 rfl 0 rfl ?_
  refine C_new (n2 := 27) (kc2 := 2) (ks2 := 21) C ly26 rfl inB4 tyX4 tyX4_ok wx_RX0_9 wq_4 wi_RX4 df26 (by decide) (by decide) dX0_init_26 rfl rfl rfl ?_
  refine C_dup C dX0_init_29 rfl ?_
  refine C_aload_n C dX0_init_30 rfl 2 rfl ?_
  refine C_callIN (na := 1) (kc2 := 6) (ks2 := 41) C rfl wm_X4_init wl_RX0_17 (cc_X4_init _ _ _ _ _ 26 rP_26 _ _) (by decide) (by decide) (by decide) (by decide) wc_X4_init wi_RX4 (by decide +kernel) rfl rfl (Nat.le_of_ble_eq_true rfl) dX0_init_31 rfl rfl ?_
  refine C_astq (j := 0) C (by decide) ly25 (fun _ => rfl) (by decide) ly26 rfl (by decide) (by decide) (by decide) rfl dX0_init_34 ?_
  refine C_iinc (k := 0) (v := (1 : Int32)) (L' := [(2, .int (1 : Int32)), (0, .ref (b + 24)), (1, .ref (b + 11))]) C dX0_init_35 rfl (by decide) (by decide) rfl ?_
  refine C_goto (tgt := 15) C dX0_init_38 (by decide) ?_
  refine C_iload_n C dX0_init_15 rfl 0 rfl ?_
  refine C_bipush (v := (12 : Int32)) C dX0_init_16 (by decide) ?_
  refine C_ge_f (tgt := 41) C dX0_init_18 (by decide) (by decide) ?_
  refine C_aload_n C dX0_init_21 rfl 1 rfl ?_
  refine C_getR C (by decide) ly24 rfl inB0 (by decide) wf_RX0_11 rfl (by simp [sS, va_up, sc_X2_init_11, sc_X2_init_4, sc_X3_init, sc_X4_init, sc_X7_init]) dX0_init_22 ?_
  refine C_iload_n C dX0_init_25 rfl 0 rfl ?_
  refine C_new (n2 := 32) (kc2 := 7) (ks2 := 50) C ly31 rfl inB4 tyX4 tyX4_ok wx_RX0_9 wq_4 wi_RX4 df31 (by decide) (by decide) dX0_init_26 rfl rfl rfl ?_
  refine C_dup C dX0_init_29 rfl ?_
  refine C_aload_n C dX0_init_30 rfl 2 rfl ?_
  refine C_callIN (na := 1) (kc2 := 11) (ks2 := 70) C rfl wm_X4_init wl_RX0_17 (cc_X4_init _ _ _ _ _ 31 rP_31 _ _) (by decide) (by decide) (by decide) (by decide) wc_X4_init wi_RX4 (by decide +kernel) rfl rfl (Nat.le_of_ble_eq_true rfl) dX0_init_31 rfl rfl ?_
  refine C_astq (j := 1) C (by decide) ly25 (fun _ => rfl) (by decide) ly31 rfl (by decide) (by decide) (by decide) rfl dX0_init_34 ?_
  refine C_iinc (k := 0) (v := (2 : Int32)) (L' := [(2, .int (2 : Int32)), (0, .ref (b + 24)), (1, .ref (b + 11))]) C dX0_init_35 rfl (by decide) (by decide) rfl ?_
  refine C_goto (tgt := 15) C dX0_init_38 (by decide) ?_
  refine C_iload_n C dX0_init_15 rfl 0 rfl ?_
  refine C_bipush (v := (12 : Int32)) C dX0_init_16 (by decide) ?_
  refine C_ge_f (tgt := 41) C dX0_init_18 (by decide) (by decide) ?_
  refine C_aload_n C dX0_init_21 rfl 1 rfl ?_
  refine C_getR C (by decide) ly24 rfl inB0 (by decide) wf_RX0_11 rfl (by simp [sS, va_up, sc_X2_init_11, sc_X2_init_4, sc_X3_init, sc_X4_init, sc_X7_init]) dX0_init_22 ?_
  refine C_iload_n C dX0_init_25 rfl 0 rfl ?_
  refine C_new (n2 := 37) (kc2 := 12) (ks2 := 79) C ly36 rfl inB4 tyX4 tyX4_ok wx_RX0_9 wq_4 wi_RX4 df36 (by decide) (by decide) dX0_init_26 rfl rfl rfl ?_
  refine C_dup C dX0_init_29 rfl ?_
  refine C_aload_n C dX0_init_30 rfl 2 rfl ?_
  refine C_callIN (na := 1) (kc2 := 16) (ks2 := 99) C rfl wm_X4_init wl_RX0_17 (cc_X4_init _ _ _ _ _ 36 rP_36 _ _) (by decide) (by decide) (by decide) (by decide) wc_X4_init wi_RX4 (by decide +kernel) rfl rfl (Nat.le_of_ble_eq_true rfl) dX0_init_31 rfl rfl ?_
  refine C_astq (j := 2) C (by decide) ly25 (fun _ => rfl) (by decide) ly36 rfl (by decide) (by decide) (by decide) rfl dX0_init_34 ?_
  refine C_iinc (k := 0) (v := (3 : Int32)) (L' := [(2, .int (3 : Int32)), (0, .ref (b + 24)), (1, .ref (b + 11))]) C dX0_init_35 rfl (by decide) (by decide) rfl ?_
  refine C_goto (tgt := 15) C dX0_init_38 (by decide) ?_
  refine C_iload_n C dX0_init_15 rfl 0 rfl ?_
  refine C_bipush (v := (12 : Int32)) C dX0_init_16 (by decide) ?_
  refine C_ge_f (tgt := 41) C dX0_init_18 (by decide) (by decide) ?_
  refine C_aload_n C dX0_init_21 rfl 1 rfl ?_
  refine C_getR C (by decide) ly24 rfl inB0 (by decide) wf_RX0_11 rfl (by simp [sS, va_up, sc_X2_init_11, sc_X2_init_4, sc_X3_init, sc_X4_init, sc_X7_init]) dX0_init_22 ?_
  refine C_iload_n C dX0_init_25 rfl 0 rfl ?_
  refine C_new (n2 := 42) (kc2 := 17) (ks2 := 108) C ly41 rfl inB4 tyX4 tyX4_ok wx_RX0_9 wq_4 wi_RX4 df41 (by decide) (by decide) dX0_init_26 rfl rfl rfl ?_
  refine C_dup C dX0_init_29 rfl ?_
  refine C_aload_n C dX0_init_30 rfl 2 rfl ?_
  refine C_callIN (na := 1) (kc2 := 21) (ks2 := 128) C rfl wm_X4_init wl_RX0_17 (cc_X4_init _ _ _ _ _ 41 rP_41 _ _) (by decide) (by decide) (by decide) (by decide) wc_X4_init wi_RX4 (by decide +kernel) rfl rfl (Nat.le_of_ble_eq_true rfl) dX0_init_31 rfl rfl ?_
  refine C_astq (j := 3) C (by decide) ly25 (fun _ => rfl) (by decide) ly41 rfl (by decide) (by decide) (by decide) rfl dX0_init_34 ?_
  refine C_iinc (k := 0) (v := (4 : Int32)) (L' := [(2, .int (4 : Int32)), (0, .ref (b + 24)), (1, .ref (b + 11))]) C dX0_init_35 rfl (by decide) (by decide) rfl ?_
  refine C_goto (tgt := 15) C dX0_init_38 (by decide) ?_
  refine C_iload_n C dX0_init_15 rfl 0 rfl ?_
  refine C_bipush (v := (12 : Int32)) C dX0_init_16 (by decide) ?_
  refine C_ge_f (tgt := 41) C dX0_init_18 (by decide) (by decide) ?_
  refine C_aload_n C dX0_init_21 rfl 1 rfl ?_
  refine C_getR C (by decide) ly24 rfl inB0 (by decide) wf_RX0_11 rfl (by simp [sS, va_up, sc_X2_init_11, sc_X2_init_4, sc_X3_init, sc_X4_init, sc_X7_init]) dX0_init_22 ?_
  refine C_iload_n C dX0_init_25 rfl 0 rfl ?_
  refine C_new (n2 := 47) (kc2 := 22) (ks2 := 137) C ly46 rfl inB4 tyX4 tyX4_ok wx_RX0_9 wq_4 wi_RX4 df46 (by decide) (by decide) dX0_init_26 rfl rfl rfl ?_
  refine C_dup C dX0_init_29 rfl ?_
  refine C_aload_n C dX0_init_30 rfl 2 rfl ?_
  refine C_callIN (na := 1) (kc2 := 26) (ks2 := 157) C rfl wm_X4_init wl_RX0_17 (cc_X4_init _ _ _ _ _ 46 rP_46 _ _) (by decide) (by decide) (by decide) (by decide) wc_X4_init wi_RX4 (by decide +kernel) rfl rfl (Nat.le_of_ble_eq_true rfl) dX0_init_31 rfl rfl ?_
  refine C_astq (j := 4) C (by decide) ly25 (fun _ => rfl) (by decide) ly46 rfl (by decide) (by decide) (by decide) rfl dX0_init_34 ?_
  refine C_iinc (k := 0) (v := (5 : Int32)) (L' := [(2, .int (5 : Int32)), (0, .ref (b + 24)), (1, .ref (b + 11))]) C dX0_init_35 rfl (by decide) (by decide) rfl ?_
  refine C_goto (tgt := 15) C dX0_init_38 (by decide) ?_
  refine C_iload_n C dX0_init_15 rfl 0 rfl ?_
  refine C_bipush (v := (12 : Int32)) C dX0_init_16 (by decide) ?_
  refine C_ge_f (tgt := 41) C dX0_init_18 (by decide) (by decide) ?_
  refine C_aload_n C dX0_init_21 rfl 1 rfl ?_
  refine C_getR C (by decide) ly24 rfl inB0 (by decide) wf_RX0_11 rfl (by simp [sS, va_up, sc_X2_init_11, sc_X2_init_4, sc_X3_init, sc_X4_init, sc_X7_init]) dX0_init_22 ?_
  refine C_iload_n C dX0_init_25 rfl 0 rfl ?_
  refine C_new (n2 := 52) (kc2 := 27) (ks2 := 166) C ly51 rfl inB4 tyX4 tyX4_ok wx_RX0_9 wq_4 wi_RX4 df51 (by decide) (by decide) dX0_init_26 rfl rfl rfl ?_
  refine C_dup C dX0_init_29 rfl ?_
  refine C_aload_n C dX0_init_30 rfl 2 rfl ?_
  refine C_callIN (na := 1) (kc2 := 31) (ks2 := 186) C rfl wm_X4_init wl_RX0_17 (cc_X4_init _ _ _ _ _ 51 rP_51 _ _) (by decide) (by decide) (by decide) (by decide) wc_X4_init wi_RX4 (by decide +kernel) rfl rfl (Nat.le_of_ble_eq_true rfl) dX0_init_31 rfl rfl ?_
  refine C_astq (j := 5) C (by decide) ly25 (fun _ => rfl) (by decide) ly51 rfl (by decide) (by decide) (by decide) rfl dX0_init_34 ?_
  refine C_iinc (k := 0) (v := (6 : Int32)) (L' := [(2, .int (6 : Int32)), (0, .ref (b + 24)), (1, .ref (b + 11))]) C dX0_init_35 rfl (by decide) (by decide) rfl ?_
  refine C_goto (tgt := 15) C dX0_init_38 (by decide) ?_
  refine C_iload_n C dX0_init_15 rfl 0 rfl ?_
  refine C_bipush (v := (12 : Int32)) C dX0_init_16 (by decide) ?_
  refine C_ge_f (tgt := 41) C dX0_init_18 (by decide) (by decide) ?_
  refine C_aload_n C dX0_init_21 rfl 1 rfl ?_
  refine C_getR C (by decide) ly24 rfl inB0 (by decide) wf_RX0_11 rfl (by simp [sS, va_up, sc_X2_init_11, sc_X2_init_4, sc_X3_init, sc_X4_init, sc_X7_init]) dX0_init_22 ?_
  refine C_iload_n C dX0_init_25 rfl 0 rfl ?_
  refine C_new (n2 := 57) (kc2 := 32) (ks2 := 195) C ly56 rfl inB4 tyX4 tyX4_ok wx_RX0_9 wq_4 wi_RX4 df56 (by decide) (by decide) dX0_init_26 rfl rfl rfl ?_
  refine C_dup C dX0_init_29 rfl ?_
  refine C_aload_n C dX0_init_30 rfl 2 rfl ?_
  refine C_callIN (na := 1) (kc2 := 36) (ks2 := 215) C rfl wm_X4_init wl_RX0_17 (cc_X4_init _ _ _ _ _ 56 rP_56 _ _) (by decide) (by decide) (by decide) (by decide) wc_X4_init wi_RX4 (by decide +kernel) rfl rfl (Nat.le_of_ble_eq_true rfl) dX0_init_31 rfl rfl ?_
  refine C_astq (j := 6) C (by decide) ly25 (fun _ => rfl) (by decide) ly56 rfl (by decide) (by decide) (by decide) rfl dX0_init_34 ?_
  refine C_iinc (k := 0) (v := (7 : Int32)) (L' := [(2, .int (7 : Int32)), (0, .ref (b + 24)), (1, .ref (b + 11))]) C dX0_init_35 rfl (by decide) (by decide) rfl ?_
  refine C_goto (tgt := 15) C dX0_init_38 (by decide) ?_
  refine C_iload_n C dX0_init_15 rfl 0 rfl ?_
  refine C_bipush (v := (12 : Int32)) C dX0_init_16 (by decide) ?_
  refine C_ge_f (tgt := 41) C dX0_init_18 (by decide) (by decide) ?_
  refine C_aload_n C dX0_init_21 rfl 1 rfl ?_
  refine C_getR C (by decide) ly24 rfl inB0 (by decide) wf_RX0_11 rfl (by simp [sS, va_up, sc_X2_init_11, sc_X2_init_4, sc_X3_init, sc_X4_init, sc_X7_init]) dX0_init_22 ?_
  refine C_iload_n C dX0_init_25 rfl 0 rfl ?_
  refine C_new (n2 := 62) (kc2 := 37) (ks2 := 224) C ly61 rfl inB4 tyX4 tyX4_ok wx_RX0_9 wq_4 wi_RX4 df61 (by decide) (by decide) dX0_init_26 rfl rfl rfl ?_
  refine C_dup C dX0_init_29 rfl ?_
  refine C_aload_n C dX0_init_30 rfl 2 rfl ?_
  refine C_callIN (na := 1) (kc2 := 41) (ks2 := 244) C rfl wm_X4_init wl_RX0_17 (cc_X4_init _ _ _ _ _ 61 rP_61 _ _) (by decide) (by decide) (by decide) (by decide) wc_X4_init wi_RX4 (by decide +kernel) rfl rfl (Nat.le_of_ble_eq_true rfl) dX0_init_31 rfl rfl ?_
  refine C_astq (j := 7) C (by decide) ly25 (fun _ => rfl) (by decide) ly61 rfl (by decide) (by decide) (by decide) rfl dX0_init_34 ?_
  refine C_iinc (k := 0) (v := (8 : Int32)) (L' := [(2, .int (8 : Int32)), (0, .ref (b + 24)), (1, .ref (b + 11))]) C dX0_init_35 rfl (by decide) (by decide) rfl ?_
  refine C_goto (tgt := 15) C dX0_init_38 (by decide) ?_
  refine C_iload_n C dX0_init_15 rfl 0 rfl ?_
  refine C_bipush (v := (12 : Int32)) C dX0_init_16 (by decide) ?_
  refine C_ge_f (tgt := 41) C dX0_init_18 (by decide) (by decide) ?_
  refine C_aload_n C dX0_init_21 rfl 1 rfl ?_
  refine C_getR C (by decide) ly24 rfl inB0 (by decide) wf_RX0_11 rfl (by simp [sS, va_up, sc_X2_init_11, sc_X2_init_4, sc_X3_init, sc_X4_init, sc_X7_init]) dX0_init_22 ?_
  refine C_iload_n C dX0_init_25 rfl 0 rfl ?_
  refine C_new (n2 := 67) (kc2 := 42) (ks2 := 253) C ly66 rfl inB4 tyX4 tyX4_ok wx_RX0_9 wq_4 wi_RX4 df66 (by decide) (by decide) dX0_init_26 rfl rfl rfl ?_
  refine C_dup C dX0_init_29 rfl ?_
  refine C_aload_n C dX0_init_30 rfl 2 rfl ?_
  refine C_callIN (na := 1) (kc2 := 46) (ks2 := 273) C rfl wm_X4_init wl_RX0_17 (cc_X4_init _ _ _ _ _ 66 rP_66 _ _) (by decide) (by decide) (by decide) (by decide) wc_X4_init wi_RX4 (by decide +kernel) rfl rfl (Nat.le_of_ble_eq_true rfl) dX0_init_31 rfl rfl ?_
  refine C_astq (j := 8) C (by decide) ly25 (fun _ => rfl) (by decide) ly66 rfl (by decide) (by decide) (by decide) rfl dX0_init_34 ?_
  refine C_iinc (k := 0) (v := (9 : Int32)) (L' := [(2, .int (9 : Int32)), (0, .ref (b + 24)), (1, .ref (b + 11))]) C dX0_init_35 rfl (by decide) (by decide) rfl ?_
  refine C_goto (tgt := 15) C dX0_init_38 (by decide) ?_
  refine C_iload_n C dX0_init_15 rfl 0 rfl ?_
  refine C_bipush (v := (12 : Int32)) C dX0_init_16 (by decide) ?_
  refine C_ge_f (tgt := 41) C dX0_init_18 (by decide) (by decide) ?_
  refine C_aload_n C dX0_init_21 rfl 1 rfl ?_
  refine C_getR C (by decide) ly24 rfl inB0 (by decide) wf_RX0_11 rfl (by simp [sS, va_up, sc_X2_init_11, sc_X2_init_4, sc_X3_init, sc_X4_init, sc_X7_init]) dX0_init_22 ?_
  refine C_iload_n C dX0_init_25 rfl 0 rfl ?_
  refine C_new (n2 := 72) (kc2 := 47) (ks2 := 282) C ly71 rfl inB4 tyX4 tyX4_ok wx_RX0_9 wq_4 wi_RX4 df71 (by decide) (by decide) dX0_init_26 rfl rfl rfl ?_
  refine C_dup C dX0_init_29 rfl ?_
  refine C_aload_n C dX0_init_30 rfl 2 rfl ?_
  refine C_callIN (na := 1) (kc2 := 51) (ks2 := 302) C rfl wm_X4_init wl_RX0_17 (cc_X4_init _ _ _ _ _ 71 rP_71 _ _) (by decide) (by decide) (by decide) (by decide) wc_X4_init wi_RX4 (by decide +kernel) rfl rfl (Nat.le_of_ble_eq_true rfl) dX0_init_31 rfl rfl ?_
  refine C_astq (j := 9) C (by decide) ly25 (fun _ => rfl) (by decide) ly71 rfl (by decide) (by decide) (by decide) rfl dX0_init_34 ?_
  refine C_iinc (k := 0) (v := (10 : Int32)) (L' := [(2, .int (10 : Int32)), (0, .ref (b + 24)), (1, .ref (b + 11))]) C dX0_init_35 rfl (by decide) (by decide) rfl ?_
  refine C_goto (tgt := 15) C dX0_init_38 (by decide) ?_
  refine C_iload_n C dX0_init_15 rfl 0 rfl ?_
  refine C_bipush (v := (12 : Int32)) C dX0_init_16 (by decide) ?_
  refine C_ge_f (tgt := 41) C dX0_init_18 (by decide) (by decide) ?_
  refine C_aload_n C dX0_init_21 rfl 1 rfl ?_
  refine C_getR C (by decide) ly24 rfl inB0 (by decide) wf_RX0_11 rfl (by simp [sS, va_up, sc_X2_init_11, sc_X2_init_4, sc_X3_init, sc_X4_init, sc_X7_init]) dX0_init_22 ?_
  refine C_iload_n C dX0_init_25 rfl 0 rfl ?_
  refine C_new (n2 := 77) (kc2 := 52) (ks2 := 311) C ly76 rfl inB4 tyX4 tyX4_ok wx_RX0_9 wq_4 wi_RX4 df76 (by decide) (by decide) dX0_init_26 rfl rfl rfl ?_
  refine C_dup C dX0_init_29 rfl ?_
  refine C_aload_n C dX0_init_30 rfl 2 rfl ?_
  refine C_callIN (na := 1) (kc2 := 56) (ks2 := 331) C rfl wm_X4_init wl_RX0_17 (cc_X4_init _ _ _ _ _ 76 rP_76 _ _) (by decide) (by decide) (by decide) (by decide) wc_X4_init wi_RX4 (by decide +kernel) rfl rfl (Nat.le_of_ble_eq_true rfl) dX0_init_31 rfl rfl ?_
  refine C_astq (j := 10) C (by decide) ly25 (fun _ => rfl) (by decide) ly76 rfl (by decide) (by decide) (by decide) rfl dX0_init_34 ?_
  refine C_iinc (k := 0) (v := (11 : Int32)) (L' := [(2, .int (11 : Int32)), (0, .ref (b + 24)), (1, .ref (b + 11))]) C dX0_init_35 rfl (by decide) (by decide) rfl ?_
  refine C_goto (tgt := 15) C dX0_init_38 (by decide) ?_
  refine C_iload_n C dX0_init_15 rfl 0 rfl ?_
  refine C_bipush (v := (12 : Int32)) C dX0_init_16 (by decide) ?_
  refine C_ge_f (tgt := 41) C dX0_init_18 (by decide) (by decide) ?_
  refine C_aload_n C dX0_init_21 rfl 1 rfl ?_
  refine C_getR C (by decide) ly24 rfl inB0 (by decide) wf_RX0_11 rfl (by simp [sS, va_up, sc_X2_init_11, sc_X2_init_4, sc_X3_init, sc_X4_init, sc_X7_init]) dX0_init_22 ?_
  refine C_iload_n C dX0_init_25 rfl 0 rfl ?_
  refine C_new (n2 := 82) (kc2 := 57) (ks2 := 340) C ly81 rfl inB4 tyX4 tyX4_ok wx_RX0_9 wq_4 wi_RX4 df81 (by decide) (by decide) dX0_init_26 rfl rfl rfl ?_
  refine C_dup C dX0_init_29 rfl ?_
  refine C_aload_n C dX0_init_30 rfl 2 rfl ?_
  refine C_callIN (na := 1) (kc2 := 61) (ks2 := 360) C rfl wm_X4_init wl_RX0_17 (cc_X4_init _ _ _ _ _ 81 rP_81 _ _) (by decide) (by decide) (by decide) (by decide) wc_X4_init wi_RX4 (by decide +kernel) rfl rfl (Nat.le_of_ble_eq_true rfl) dX0_init_31 rfl rfl ?_
  refine C_astq (j := 11) C (by decide) ly25 (fun _ => rfl) (by decide) ly81 rfl (by decide) (by decide) (by decide) rfl dX0_init_34 ?_
  refine C_iinc (k := 0) (v := (12 : Int32)) (L' := [(2, .int (12 : Int32)), (0, .ref (b + 24)), (1, .ref (b + 11))]) C dX0_init_35 rfl (by decide) (by decide) rfl ?_
  refine C_goto (tgt := 15) C dX0_init_38 (by decide) ?_
  refine C_iload_n C dX0_init_15 rfl 0 rfl ?_
  refine C_bipush (v := (12 : Int32)) C dX0_init_16 (by decide) ?_
  refine C_ge_t (tgt := 41) C dX0_init_18 (by decide) (by decide) ?_
  exact C_vret C D dX0_init_41) trivial
set_option maxRecDepth 8000 in
theorem cc_X5_init (l : Launch) (dC : Nat → ClassId) (dI : Nat → Nat → Nat) (cA : Nat → ClassId) (b : Nat) (st : St) (σ : Hp) : CC l dC dI cA b yX5_init cX5_init 3 2 [.ref (b + 86), .ref (b + 11)] 87 st σ 115 (sc_X5_init st) σ 28 158 := CC_of [(0, .ref (b + 86)), (1, .ref (b + 11))] (by decide +kernel) rfl rfl (Nat.le_of_ble_eq_true rfl) rfl (fun E _ C D CN => by
  have CI := CN rfl
  refine C_aload_n C dX5_init_0 rfl 0 rfl ?_
  refine C_obj C (by decide) wl_RX5_3 (Nat.le_of_ble_eq_true rfl) dX5_init_1 ?_
  refine C_aload_n C dX5_init_4 rfl 0 rfl ?_
  refine C_iconst (v := (5 : Int32)) C dX5_init_5 (by decide) ?_
  refine C_newq (t := 3) (N := 5) (Cn := "SleepByRation$Roll") (n2 := 88) (kc2 := 1) (ks2 := 5) C (fun _ => rfl) (fun _ _ _ _ h => h.2.1) ly87 wx_RX5_9 (by decide) (by decide) (by decide) (by decide) (by decide) dX5_init_6 rfl rfl rfl ?_
  refine C_putR C CI (by decide) ly86 rfl inB5 (by decide) wf_RX5_11 tyX5 tyX5_ok nmX5 rfl rfl (ty := tyX5 1) (by decide +kernel) rfl rfl rfl dX5_init_9 ?_
  refine C_aload_n C dX5_init_12 rfl 0 rfl ?_
  refine C_iconst (v := (4 : Int32)) C dX5_init_13 (by decide) ?_
  refine C_newa (atype := .int) (ty := .int) (t := 0) (N := 4) (n2 := 89) (kc2 := 2) (ks2 := 9) C rfl rfl (fun _ => rfl) (fun _ _ h => h) ly88 wy_int (by decide) (by decide) (by decide) (by decide) (by decide) dX5_init_14 rfl rfl rfl ?_
  refine C_putR C CI (by decide) ly86 rfl inB5 (by decide) wf_RX5_17 tyX5 tyX5_ok nmX5 rfl rfl (ty := tyX5 2) (by decide +kernel) rfl rfl rfl dX5_init_16 ?_
  refine C_aload_n C dX5_init_19 rfl 0 rfl ?_
  refine C_iconst (v := (4 : Int32)) C dX5_init_20 (by decide) ?_
  refine C_newa (atype := .int) (ty := .int) (t := 0) (N := 4) (n2 := 90) (kc2 := 3) (ks2 := 13) C rfl rfl (fun _ => rfl) (fun _ _ h => h) ly89 wy_int (by decide) (by decide) (by decide) (by decide) (by decide) dX5_init_21 rfl rfl rfl ?_
  refine C_putR C CI (by decide) ly86 rfl inB5 (by decide) wf_RX5_21 tyX5 tyX5_ok nmX5 rfl rfl (ty := tyX5 3) (by decide +kernel) rfl rfl rfl dX5_init_23 ?_
  refine C_aload_n C dX5_init_26 rfl 0 rfl ?_
  refine C_aload_n C dX5_init_27 rfl 1 rfl ?_
  refine C_putR C CI (by decide) ly86 rfl inB5 (by decide) wf_RX5_24 tyX5 tyX5_ok nmX5 rfl rfl (ty := tyX5 0) (by decide +kernel) rfl rfl rfl dX5_init_28 ?_
  refine C_iconst (v := (0 : Int32)) C dX5_init_31 (by decide) ?_
  refine C_istore_n (L' := [(2, .int (0 : Int32)), (0, .ref (b + 86)), (1, .ref (b + 11))]) C dX5_init_32 rfl (by decide) rfl ?_
  refine C_iload_n C dX5_init_33 rfl 0 rfl ?_
  refine C_iconst (v := (4 : Int32)) C dX5_init_34 (by decide) ?_
  refine C_gt_f (tgt := 58) C dX5_init_35 (by decide) (by decide) ?_
  refine C_aload_n C dX5_init_38 rfl 1 rfl ?_
  refine C_getR C (by decide) ly86 rfl inB5 (by decide) wf_RX5_11 rfl (by simp [sS, va_up, sc_X0_init, sc_X2_init_11, sc_X2_init_4, sc_X3_init, sc_X4_init, sc_X7_init]) dX5_init_39 ?_
  refine C_iload_n C dX5_init_42 rfl 0 rfl ?_
  refine C_new (n2 := 91) (kc2 := 4) (ks2 := 22) C ly90 rfl inB4 tyX4 tyX4_ok wx_RX5_9 wq_4 wi_RX4 df90 (by decide) (by decide) dX5_init_43 rfl rfl rfl ?_
  refine C_dup C dX5_init_46 rfl ?_
  refine C_aload_n C dX5_init_47 rfl 2 rfl ?_
  refine C_callIN (na := 1) (kc2 := 8) (ks2 := 42) C rfl wm_X4_init wl_RX5_28 (cc_X4_init _ _ _ _ _ 90 rP_90 _ _) (by decide) (by decide) (by decide) (by decide) wc_X4_init wi_RX4 (by decide +kernel) rfl rfl (Nat.le_of_ble_eq_true rfl) dX5_init_48 rfl rfl ?_
  refine C_astq (j := 0) C (by decide) ly87 (fun _ => rfl) (by decide) ly90 rfl (by decide) (by decide) (by decide) rfl dX5_init_51 ?_
  refine C_iinc (k := 0) (v := (1 : Int32)) (L' := [(2, .int (1 : Int32)), (0, .ref (b + 86)), (1, .ref (b + 11))]) C dX5_init_52 rfl (by decide) (by decide) rfl ?_
  refine C_goto (tgt := 33) C dX5_init_55 (by decide) ?_
  refine C_iload_n C dX5_init_33 rfl 0 rfl ?_
  refine C_iconst (v := (4 : Int32)) C dX5_init_34 (by decide) ?_
  refine C_gt_f (tgt := 58) C dX5_init_35 (by decide) (by decide) ?_
  refine C_aload_n C dX5_init_38 rfl 1 rfl ?_
  refine C_getR C (by decide) ly86 rfl inB5 (by decide) wf_RX5_11 rfl (by simp [sS, va_up, sc_X0_init, sc_X2_init_11, sc_X2_init_4, sc_X3_init, sc_X4_init, sc_X7_init]) dX5_init_39 ?_
  refine C_iload_n C dX5_init_42 rfl 0 rfl ?_
  refine C_new (n2 := 96) (kc2 := 9) (ks2 := 51) C ly95 rfl inB4 tyX4 tyX4_ok wx_RX5_9 wq_4 wi_RX4 df95 (by decide) (by decide) dX5_init_43 rfl rfl rfl ?_
  refine C_dup C dX5_init_46 rfl ?_
  refine C_aload_n C dX5_init_47 rfl 2 rfl ?_
  refine C_callIN (na := 1) (kc2 := 13) (ks2 := 71) C rfl wm_X4_init wl_RX5_28 (cc_X4_init _ _ _ _ _ 95 rP_95 _ _) (by decide) (by decide) (by decide) (by decide) wc_X4_init wi_RX4 (by decide +kernel) rfl rfl (Nat.le_of_ble_eq_true rfl) dX5_init_48 rfl rfl ?_
  refine C_astq (j := 1) C (by decide) ly87 (fun _ => rfl) (by decide) ly95 rfl (by decide) (by decide) (by decide) rfl dX5_init_51 ?_
  refine C_iinc (k := 0) (v := (2 : Int32)) (L' := [(2, .int (2 : Int32)), (0, .ref (b + 86)), (1, .ref (b + 11))]) C dX5_init_52 rfl (by decide) (by decide) rfl ?_
  refine C_goto (tgt := 33) C dX5_init_55 (by decide) ?_
  refine C_iload_n C dX5_init_33 rfl 0 rfl ?_
  refine C_iconst (v := (4 : Int32)) C dX5_init_34 (by decide) ?_
  refine C_gt_f (tgt := 58) C dX5_init_35 (by decide) (by decide) ?_
  refine C_aload_n C dX5_init_38 rfl 1 rfl ?_
  refine C_getR C (by decide) ly86 rfl inB5 (by decide) wf_RX5_11 rfl (by simp [sS, va_up, sc_X0_init, sc_X2_init_11, sc_X2_init_4, sc_X3_init, sc_X4_init, sc_X7_init]) dX5_init_39 ?_
  refine C_iload_n C dX5_init_42 rfl 0 rfl ?_
  refine C_new (n2 := 101) (kc2 := 14) (ks2 := 80) C ly100 rfl inB4 tyX4 tyX4_ok wx_RX5_9 wq_4 wi_RX4 df100 (by decide) (by decide) dX5_init_43 rfl rfl rfl ?_
  refine C_dup C dX5_init_46 rfl ?_
  refine C_aload_n C dX5_init_47 rfl 2 rfl ?_
  refine C_callIN (na := 1) (kc2 := 18) (ks2 := 100) C rfl wm_X4_init wl_RX5_28 (cc_X4_init _ _ _ _ _ 100 rP_100 _ _) (by decide) (by decide) (by decide) (by decide) wc_X4_init wi_RX4 (by decide +kernel) rfl rfl (Nat.le_of_ble_eq_true rfl) dX5_init_48 rfl rfl ?_
  refine C_astq (j := 2) C (by decide) ly87 (fun _ => rfl) (by decide) ly100 rfl (by decide) (by decide) (by decide) rfl dX5_init_51 ?_
  refine C_iinc (k := 0) (v := (3 : Int32)) (L' := [(2, .int (3 : Int32)), (0, .ref (b + 86)), (1, .ref (b + 11))]) C dX5_init_52 rfl (by decide) (by decide) rfl ?_
  refine C_goto (tgt := 33) C dX5_init_55 (by decide) ?_
  refine C_iload_n C dX5_init_33 rfl 0 rfl ?_
  refine C_iconst (v := (4 : Int32)) C dX5_init_34 (by decide) ?_
  refine C_gt_f (tgt := 58) C dX5_init_35 (by decide) (by decide) ?_
  refine C_aload_n C dX5_init_38 rfl 1 rfl ?_
  refine C_getR C (by decide) ly86 rfl inB5 (by decide) wf_RX5_11 rfl (by simp [sS, va_up, sc_X0_init, sc_X2_init_11, sc_X2_init_4, sc_X3_init, sc_X4_init, sc_X7_init]) dX5_init_39 ?_
  refine C_iload_n C dX5_init_42 rfl 0 rfl ?_
  refine C_new (n2 := 106) (kc2 := 19) (ks2 := 109) C ly105 rfl inB4 tyX4 tyX4_ok wx_RX5_9 wq_4 wi_RX4 df105 (by decide) (by decide) dX5_init_43 rfl rfl rfl ?_
  refine C_dup C dX5_init_46 rfl ?_
  refine C_aload_n C dX5_init_47 rfl 2 rfl ?_
  refine C_callIN (na := 1) (kc2 := 23) (ks2 := 129) C rfl wm_X4_init wl_RX5_28 (cc_X4_init _ _ _ _ _ 105 rP_105 _ _) (by decide) (by decide) (by decide) (by decide) wc_X4_init wi_RX4 (by decide +kernel) rfl rfl (Nat.le_of_ble_eq_true rfl) dX5_init_48 rfl rfl ?_
  refine C_astq (j := 3) C (by decide) ly87 (fun _ => rfl) (by decide) ly105 rfl (by decide) (by decide) (by decide) rfl dX5_init_51 ?_
  refine C_iinc (k := 0) (v := (4 : Int32)) (L' := [(2, .int (4 : Int32)), (0, .ref (b + 86)), (1, .ref (b + 11))]) C dX5_init_52 rfl (by decide) (by decide) rfl ?_
  refine C_goto (tgt := 33) C dX5_init_55 (by decide) ?_
  refine C_iload_n C dX5_init_33 rfl 0 rfl ?_
  refine C_iconst (v := (4 : Int32)) C dX5_init_34 (by decide) ?_
  refine C_gt_f (tgt := 58) C dX5_init_35 (by decide) (by decide) ?_
  refine C_aload_n C dX5_init_38 rfl 1 rfl ?_
  refine C_getR C (by decide) ly86 rfl inB5 (by decide) wf_RX5_11 rfl (by simp [sS, va_up, sc_X0_init, sc_X2_init_11, sc_X2_init_4, sc_X3_init, sc_X4_init, sc_X7_init]) dX5_init_39 ?_
  refine C_iload_n C dX5_init_42 rfl 0 rfl ?_
  refine C_new (n2 := 111) (kc2 := 24) (ks2 := 138) C ly110 rfl inB4 tyX4 tyX4_ok wx_RX5_9 wq_4 wi_RX4 df110 (by decide) (by decide) dX5_init_43 rfl rfl rfl ?_
  refine C_dup C dX5_init_46 rfl ?_
  refine C_aload_n C dX5_init_47 rfl 2 rfl ?_
  refine C_callIN (na := 1) (kc2 := 28) (ks2 := 158) C rfl wm_X4_init wl_RX5_28 (cc_X4_init _ _ _ _ _ 110 rP_110 _ _) (by decide) (by decide) (by decide) (by decide) wc_X4_init wi_RX4 (by decide +kernel) rfl rfl (Nat.le_of_ble_eq_true rfl) dX5_init_48 rfl rfl ?_
  refine C_astq (j := 4) C (by decide) ly87 (fun _ => rfl) (by decide) ly110 rfl (by decide) (by decide) (by decide) rfl dX5_init_51 ?_
  refine C_iinc (k := 0) (v := (5 : Int32)) (L' := [(2, .int (5 : Int32)), (0, .ref (b + 86)), (1, .ref (b + 11))]) C dX5_init_52 rfl (by decide) (by decide) rfl ?_
  refine C_goto (tgt := 33) C dX5_init_55 (by decide) ?_
  refine C_iload_n C dX5_init_33 rfl 0 rfl ?_
  refine C_iconst (v := (4 : Int32)) C dX5_init_34 (by decide) ?_
  refine C_gt_t (tgt := 58) C dX5_init_35 (by decide) (by decide) ?_
  exact C_vret C D dX5_init_58) trivial
set_option maxRecDepth 8000 in
theorem cc_X1_init (l : Launch) (dC : Nat → ClassId) (dI : Nat → Nat → Nat) (cA : Nat → ClassId) (b : Nat) (st : St) (σ : Hp) : CC l dC dI cA b yX1_init cX1_init 1 1 [.ref (b + 115)] 116 st σ 119 (sc_X1_init st) σ 3 36 := CC_of [(0, .ref (b + 115))] (by decide +kernel) rfl rfl (Nat.le_of_ble_eq_true rfl) rfl (fun E _ C D CN => by
  have CI := CN rfl
  refine C_aload_n C dX1_init_0 rfl 0 rfl ?_
  refine C_obj C (by decide) wl_RX1_3 (Nat.le_of_ble_eq_true rfl) dX1_init_1 ?_
  refine C_aload_n C dX1_init_4 rfl 0 rfl ?_
  refine C_bipush (v := (12 : Int32)) C dX1_init_5 (by decide) ?_
  refine C_newa (atype := .int) (ty := .int) (t := 0) (N := 12) (n2 := 117) (kc2 := 1) (ks2 := 12) C rfl rfl (fun _ => rfl) (fun _ _ h => h) ly116 wy_int (by decide) (by decide) (by decide) (by decide) (by decide) dX1_init_7 rfl rfl rfl ?_
  refine C_putR C CI (by decide) ly115 rfl inB1 (by decide) wf_RX1_9 tyX1 tyX1_ok nmX1 rfl rfl (ty := tyX1 0) (by decide +kernel) rfl rfl rfl dX1_init_9 ?_
  refine C_aload_n C dX1_init_12 rfl 0 rfl ?_
  refine C_bipush (v := (12 : Int32)) C dX1_init_13 (by decide) ?_
  refine C_newa (atype := .int) (ty := .int) (t := 0) (N := 12) (n2 := 118) (kc2 := 2) (ks2 := 24) C rfl rfl (fun _ => rfl) (fun _ _ h => h) ly117 wy_int (by decide) (by decide) (by decide) (by decide) (by decide) dX1_init_15 rfl rfl rfl ?_
  refine C_putR C CI (by decide) ly115 rfl inB1 (by decide) wf_RX1_15 tyX1 tyX1_ok nmX1 rfl rfl (ty := tyX1 1) (by decide +kernel) rfl rfl rfl dX1_init_17 ?_
  refine C_aload_n C dX1_init_20 rfl 0 rfl ?_
  refine C_bipush (v := (12 : Int32)) C dX1_init_21 (by decide) ?_
  refine C_newa (atype := .int) (ty := .int) (t := 0) (N := 12) (n2 := 119) (kc2 := 3) (ks2 := 36) C rfl rfl (fun _ => rfl) (fun _ _ h => h) ly118 wy_int (by decide) (by decide) (by decide) (by decide) (by decide) dX1_init_23 rfl rfl rfl ?_
  refine C_putR C CI (by decide) ly115 rfl inB1 (by decide) wf_RX1_18 tyX1 tyX1_ok nmX1 rfl rfl (ty := tyX1 2) (by decide +kernel) rfl rfl rfl dX1_init_25 ?_
  exact C_vret C D dX1_init_28) trivial
set_option maxRecDepth 8000 in
theorem cc_X6_init_120 (l : Launch) (dC : Nat → ClassId) (dI : Nat → Nat → Nat) (cA : Nat → ClassId) (b : Nat) (st : St) (σ : Hp) : CC l dC dI cA b yX6_init cX6_init 2 2 [.ref (b + 120), .ref (b + 11)] 121 st σ 127 (sc_X6_init_120 st) σ 6 33 := CC_of [(0, .ref (b + 120)), (1, .ref (b + 11))] (by decide +kernel) rfl rfl (Nat.le_of_ble_eq_true rfl) rfl (fun E _ C D CN => by
  have CI := CN rfl
  refine C_aload_n C dX6_init_0 rfl 0 rfl ?_
  refine C_obj C (by decide) wl_RX6_3 (Nat.le_of_ble_eq_true rfl) dX6_init_1 ?_
  refine C_aload_n C dX6_init_4 rfl 0 rfl ?_
  refine C_iconst (v := (4 : Int32)) C dX6_init_5 (by decide) ?_
  refine C_newa (atype := .int) (ty := .int) (t := 0) (N := 4) (n2 := 122) (kc2 := 1) (ks2 := 4) C rfl rfl (fun _ => rfl) (fun _ _ h => h) ly121 wy_int (by decide) (by decide) (by decide) (by decide) (by decide) dX6_init_6 rfl rfl rfl ?_
  refine C_putR C CI (by decide) ly120 rfl inB6 (by decide) wf_RX6_9 tyX6 tyX6_ok nmX6 rfl rfl (ty := tyX6 1) (by decide +kernel) rfl rfl rfl dX6_init_8 ?_
  refine C_aload_n C dX6_init_11 rfl 0 rfl ?_
  refine C_new (n2 := 123) (kc2 := 2) (ks2 := 13) C ly122 rfl inB4 tyX4 tyX4_ok wx_RX6_15 wq_4 wi_RX4 df122 (by decide) (by decide) dX6_init_12 rfl rfl rfl ?_
  refine C_dup C dX6_init_15 rfl ?_
  refine C_aload_n C dX6_init_16 rfl 1 rfl ?_
  refine C_callIN (na := 1) (kc2 := 6) (ks2 := 33) C rfl wm_X4_init wl_RX6_17 (cc_X4_init _ _ _ _ _ 122 rP_122 _ _) (by decide) (by decide) (by decide) (by decide) wc_X4_init wi_RX4 (by decide +kernel) rfl rfl (Nat.le_of_ble_eq_true rfl) dX6_init_17 rfl rfl ?_
  refine C_putR C CI (by decide) ly120 rfl inB6 (by decide) wf_RX6_20 tyX6 tyX6_ok nmX6 rfl rfl (ty := tyX6 0) (by decide +kernel) rfl rfl rfl dX6_init_20 ?_
  exact C_vret C D dX6_init_23) trivial
set_option maxRecDepth 8000 in
theorem cc_X6_init_127 (l : Launch) (dC : Nat → ClassId) (dI : Nat → Nat → Nat) (cA : Nat → ClassId) (b : Nat) (st : St) (σ : Hp) : CC l dC dI cA b yX6_init cX6_init 2 2 [.ref (b + 127), .ref (b + 11)] 128 st σ 134 (sc_X6_init_127 st) σ 6 33 := CC_of [(0, .ref (b + 127)), (1, .ref (b + 11))] (by decide +kernel) rfl rfl (Nat.le_of_ble_eq_true rfl) rfl (fun E _ C D CN => by
  have CI := CN rfl
  refine C_aload_n C dX6_init_0 rfl 0 rfl ?_
  refine C_obj C (by decide) wl_RX6_3 (Nat.le_of_ble_eq_true rfl) dX6_init_1 ?_
  refine C_aload_n C dX6_init_4 rfl 0 rfl ?_
  refine C_iconst (v := (4 : Int32)) C dX6_init_5 (by decide) ?_
  refine C_newa (atype := .int) (ty := .int) (t := 0) (N := 4) (n2 := 129) (kc2 := 1) (ks2 := 4) C rfl rfl (fun _ => rfl) (fun _ _ h => h) ly128 wy_int (by decide) (by decide) (by decide) (by decide) (by decide) dX6_init_6 rfl rfl rfl ?_
  refine C_putR C CI (by decide) ly127 rfl inB6 (by decide) wf_RX6_9 tyX6 tyX6_ok nmX6 rfl rfl (ty := tyX6 1) (by decide +kernel) rfl rfl rfl dX6_init_8 ?_
  refine C_aload_n C dX6_init_11 rfl 0 rfl ?_
  refine C_new (n2 := 130) (kc2 := 2) (ks2 := 13) C ly129 rfl inB4 tyX4 tyX4_ok wx_RX6_15 wq_4 wi_RX4 df129 (by decide) (by decide) dX6_init_12 rfl rfl rfl ?_
  refine C_dup C dX6_init_15 rfl ?_
  refine C_aload_n C dX6_init_16 rfl 1 rfl ?_
  refine C_callIN (na := 1) (kc2 := 6) (ks2 := 33) C rfl wm_X4_init wl_RX6_17 (cc_X4_init _ _ _ _ _ 129 rP_129 _ _) (by decide) (by decide) (by decide) (by decide) wc_X4_init wi_RX4 (by decide +kernel) rfl rfl (Nat.le_of_ble_eq_true rfl) dX6_init_17 rfl rfl ?_
  refine C_putR C CI (by decide) ly127 rfl inB6 (by decide) wf_RX6_20 tyX6 tyX6_ok nmX6 rfl rfl (ty := tyX6 0) (by decide +kernel) rfl rfl rfl dX6_init_20 ?_
  exact C_vret C D dX6_init_23) trivial
set_option maxRecDepth 8000 in
theorem cc_X8_init (l : Launch) (dC : Nat → ClassId) (dI : Nat → Nat → Nat) (cA : Nat → ClassId) (b : Nat) (st : St) (σ : Hp) : CC l dC dI cA b yX8_init cX8_init 2 5 [.ref (b + 0)] 1 st σ 134 (sc_X8_init st) (sg_X8_init σ) 133 806 := CC_of [(0, .ref (b + 0))] (by decide +kernel) rfl rfl (Nat.le_of_ble_eq_true rfl) rfl (fun E _ C D CN => by
  have CI := CN rfl
  refine C_aload_n C dX8_init_0 rfl 0 rfl ?_
  refine C_obj C (by decide) wl_RX8_1 (Nat.le_of_ble_eq_true rfl) dX8_init_1 ?_
  refine C_aload_n C dX8_init_4 rfl 0 rfl ?_
  refine C_new (n2 := 2) (kc2 := 1) (ks2 := 2) C ly1 rfl inB7 tyX7 tyX7_ok wx_RX8_7 wq_7 wi_RX7 df1 (by decide) (by decide) dX8_init_5 rfl rfl rfl ?_
  refine C_dup C dX8_init_8 rfl ?_
  refine C_callIN (na := 0) (kc2 := 2) (ks2 := 50) C rfl wm_X7_init wl_RX8_9 (cc_X7_init _ _ _ _ _ _ _) (by decide) (by decide) (by decide) (by decide) wc_X7_init wi_RX7 (by decide +kernel) rfl rfl (Nat.le_of_ble_eq_true rfl) dX8_init_9 rfl rfl ?_
  refine C_putR C CI (by decide) ly0 rfl inB8 (by decide) wf_RX8_10 tyX8 tyX8_ok nmX8 rfl rfl (ty := tyX8 0) (by decide +kernel) rfl rfl rfl dX8_init_12 ?_
  refine C_aload_n C dX8_init_15 rfl 0 rfl ?_
  refine C_new (n2 := 4) (kc2 := 3) (ks2 := 55) C ly3 rfl inB3 tyX3 tyX3_ok wx_RX8_16 wq_3 wi_RX3 df3 (by decide) (by decide) dX8_init_16 rfl rfl rfl ?_
  refine C_dup C dX8_init_19 rfl ?_
  refine C_aload_n C dX8_init_20 rfl 0 rfl ?_
  refine C_getR C (by decide) ly0 rfl inB8 (by decide) wf_RX8_10 rfl (by simp [sS, va_up, sc_X7_init]) dX8_init_21 ?_
  refine C_callIN (na := 1) (kc2 := 10) (ks2 := 93) C rfl wm_X3_init wl_RX8_18 (cc_X3_init _ _ _ _ _ _ _) (by decide) (by decide) (by decide) (by decide) wc_X3_init wi_RX3 (by decide +kernel) rfl rfl (Nat.le_of_ble_eq_true rfl) dX8_init_24 rfl rfl ?_
  refine C_putR C CI (by decide) ly0 rfl inB8 (by decide) wf_RX8_21 tyX8 tyX8_ok nmX8 rfl rfl (ty := tyX8 1) (by decide +kernel) rfl rfl rfl dX8_init_27 ?_
  refine C_aload_n C dX8_init_30 rfl 0 rfl ?_
  refine C_new (n2 := 12) (kc2 := 11) (ks2 := 97) C ly11 rfl inB2 tyX2 tyX2_ok wx_RX8_25 wq_2 wi_RX2 df11 (by decide) (by decide) dX8_init_31 rfl rfl rfl ?_
  refine C_dup C dX8_init_34 rfl ?_
  refine C_callIN (na := 0) (kc2 := 12) (ks2 := 102) C rfl wm_X2_init wl_RX8_27 (cc_X2_init_11 _ _ _ _ _ _ _) (by decide) (by decide) (by decide) (by decide) wc_X2_init wi_RX2 (by decide +kernel) rfl rfl (Nat.le_of_ble_eq_true rfl) dX8_init_35 rfl rfl ?_
  refine C_putR C CI (by decide) ly0 rfl inB8 (by decide) wf_RX8_28 tyX8 tyX8_ok nmX8 rfl rfl (ty := tyX8 2) (by decide +kernel) rfl rfl rfl dX8_init_38 ?_
  refine C_aload_n C dX8_init_41 rfl 0 rfl ?_
  refine C_new (n2 := 14) (kc2 := 13) (ks2 := 111) C ly13 rfl inB4 tyX4 tyX4_ok wx_RX8_32 wq_4 wi_RX4 df13 (by decide) (by decide) dX8_init_42 rfl rfl rfl ?_
  refine C_dup C dX8_init_45 rfl ?_
  refine C_aload_n C dX8_init_46 rfl 0 rfl ?_
  refine C_getR C (by decide) ly0 rfl inB8 (by decide) wf_RX8_28 rfl (by simp [sS, va_up, sc_X2_init_11, sc_X2_init_4, sc_X3_init, sc_X4_init, sc_X7_init]) dX8_init_47 ?_
  refine C_callIN (na := 1) (kc2 := 17) (ks2 := 131) C rfl wm_X4_init wl_RX8_34 (cc_X4_init _ _ _ _ _ 13 rP_13 _ _) (by decide) (by decide) (by decide) (by decide) wc_X4_init wi_RX4 (by decide +kernel) rfl rfl (Nat.le_of_ble_eq_true rfl) dX8_init_50 rfl rfl ?_
  refine C_putR C CI (by decide) ly0 rfl inB8 (by decide) wf_RX8_37 tyX8 tyX8_ok nmX8 rfl rfl (ty := tyX8 3) (by decide +kernel) rfl rfl rfl dX8_init_53 ?_
  refine C_aload_n C dX8_init_56 rfl 0 rfl ?_
  refine C_new (n2 := 19) (kc2 := 18) (ks2 := 140) C ly18 rfl inB4 tyX4 tyX4_ok wx_RX8_32 wq_4 wi_RX4 df18 (by decide) (by decide) dX8_init_57 rfl rfl rfl ?_
  refine C_dup C dX8_init_60 rfl ?_
  refine C_aload_n C dX8_init_61 rfl 0 rfl ?_
  refine C_getR C (by decide) ly0 rfl inB8 (by decide) wf_RX8_28 rfl (by simp [sS, va_up, sc_X2_init_11, sc_X2_init_4, sc_X3_init, sc_X4_init, sc_X7_init]) dX8_init_62 ?_
  refine C_callIN (na := 1) (kc2 := 22) (ks2 := 160) C rfl wm_X4_init wl_RX8_34 (cc_X4_init _ _ _ _ _ 18 rP_18 _ _) (by decide) (by decide) (by decide) (by decide) wc_X4_init wi_RX4 (by decide +kernel) rfl rfl (Nat.le_of_ble_eq_true rfl) dX8_init_65 rfl rfl ?_
  refine C_putR C CI (by decide) ly0 rfl inB8 (by decide) wf_RX8_41 tyX8 tyX8_ok nmX8 rfl rfl (ty := tyX8 4) (by decide +kernel) rfl rfl rfl dX8_init_68 ?_
  refine C_aload_n C dX8_init_71 rfl 0 rfl ?_
  refine C_iconst (v := (4 : Int32)) C dX8_init_72 (by decide) ?_
  refine C_newa (atype := .int) (ty := .int) (t := 0) (N := 4) (n2 := 24) (kc2 := 23) (ks2 := 164) C rfl rfl (fun _ => rfl) (fun _ _ h => h) ly23 wy_int (by decide) (by decide) (by decide) (by decide) (by decide) dX8_init_73 rfl rfl rfl ?_
  refine C_putR C CI (by decide) ly0 rfl inB8 (by decide) wf_RX8_44 tyX8 tyX8_ok nmX8 rfl rfl (ty := tyX8 5) (by decide +kernel) rfl rfl rfl dX8_init_75 ?_
  refine C_aload_n C dX8_init_78 rfl 0 rfl ?_
  refine C_new (n2 := 25) (kc2 := 24) (ks2 := 167) C ly24 rfl inB0 tyX0 tyX0_ok wx_RX8_48 wq_0 wi_RX0 df24 (by decide) (by decide) dX8_init_79 rfl rfl rfl ?_
  refine C_dup C dX8_init_82 rfl ?_
  refine C_aload_n C dX8_init_83 rfl 0 rfl ?_
  refine C_getR C (by decide) ly0 rfl inB8 (by decide) wf_RX8_28 rfl (by simp [sS, va_up, sc_X2_init_11, sc_X2_init_4, sc_X3_init, sc_X4_init, sc_X7_init]) dX8_init_84 ?_
  refine C_callIN (na := 1) (kc2 := 85) (ks2 := 527) C rfl wm_X0_init wl_RX8_50 (cc_X0_init _ _ _ _ _ _ _) (by decide) (by decide) (by decide) (by decide) wc_X0_init wi_RX0 (by decide +kernel) rfl rfl (Nat.le_of_ble_eq_true rfl) dX8_init_87 rfl rfl ?_
  refine C_putR C CI (by decide) ly0 rfl inB8 (by decide) wf_RX8_51 tyX8 tyX8_ok nmX8 rfl rfl (ty := tyX8 6) (by decide +kernel) rfl rfl rfl dX8_init_90 ?_
  refine C_aload_n C dX8_init_93 rfl 0 rfl ?_
  refine C_new (n2 := 87) (kc2 := 86) (ks2 := 534) C ly86 rfl inB5 tyX5 tyX5_ok wx_RX8_55 wq_5 wi_RX5 df86 (by decide) (by decide) dX8_init_94 rfl rfl rfl ?_
  refine C_dup C dX8_init_97 rfl ?_
  refine C_aload_n C dX8_init_98 rfl 0 rfl ?_
  refine C_getR C (by decide) ly0 rfl inB8 (by decide) wf_RX8_28 rfl (by simp [sS, va_up, sc_X0_init, sc_X2_init_11, sc_X2_init_4, sc_X3_init, sc_X4_init, sc_X7_init]) dX8_init_99 ?_
  refine C_callIN (na := 1) (kc2 := 114) (ks2 := 692) C rfl wm_X5_init wl_RX8_57 (cc_X5_init _ _ _ _ _ _ _) (by decide) (by decide) (by decide) (by decide) wc_X5_init wi_RX5 (by decide +kernel) rfl rfl (Nat.le_of_ble_eq_true rfl) dX8_init_102 rfl rfl ?_
  refine C_putR C CI (by decide) ly0 rfl inB8 (by decide) wf_RX8_58 tyX8 tyX8_ok nmX8 rfl rfl (ty := tyX8 7) (by decide +kernel) rfl rfl rfl dX8_init_105 ?_
  refine C_aload_n C dX8_init_108 rfl 0 rfl ?_
  refine C_new (n2 := 116) (kc2 := 115) (ks2 := 696) C ly115 rfl inB1 tyX1 tyX1_ok wx_RX8_62 wq_1 wi_RX1 df115 (by decide) (by decide) dX8_init_109 rfl rfl rfl ?_
  refine C_dup C dX8_init_112 rfl ?_
  refine C_callIN (na := 0) (kc2 := 118) (ks2 := 732) C rfl wm_X1_init wl_RX8_64 (cc_X1_init _ _ _ _ _ _ _) (by decide) (by decide) (by decide) (by decide) wc_X1_init wi_RX1 (by decide +kernel) rfl rfl (Nat.le_of_ble_eq_true rfl) dX8_init_113 rfl rfl ?_
  refine C_putR C CI (by decide) ly0 rfl inB8 (by decide) wf_RX8_65 tyX8 tyX8_ok nmX8 rfl rfl (ty := tyX8 8) (by decide +kernel) rfl rfl rfl dX8_init_116 ?_
  refine C_aload_n C dX8_init_119 rfl 0 rfl ?_
  refine C_iconst (v := (2 : Int32)) C dX8_init_120 (by decide) ?_
  refine C_newq (t := 4) (N := 2) (Cn := "SleepByRation$Slot") (n2 := 120) (kc2 := 119) (ks2 := 734) C (fun _ => rfl) (fun _ _ _ _ h => h.2.2) ly119 wx_RX8_69 (by decide) (by decide) (by decide) (by decide) (by decide) dX8_init_121 rfl rfl rfl ?_
  refine C_putR C CI (by decide) ly0 rfl inB8 (by decide) wf_RX8_71 tyX8 tyX8_ok nmX8 rfl rfl (ty := tyX8 9) (by decide +kernel) rfl rfl rfl dX8_init_124 ?_
  refine C_iconst (v := (0 : Int32)) C dX8_init_127 (by decide) ?_
  refine C_istore_n (L' := [(1, .int (0 : Int32)), (0, .ref (b + 0))]) C dX8_init_128 rfl (by decide) rfl ?_
  refine C_iload_n C dX8_init_129 rfl 0 rfl ?_
  refine C_iconst (v := (2 : Int32)) C dX8_init_130 (by decide) ?_
  refine C_ge_f (tgt := 157) C dX8_init_131 (by decide) (by decide) ?_
  refine C_aload_n C dX8_init_134 rfl 1 rfl ?_
  refine C_getR C (by decide) ly0 rfl inB8 (by decide) wf_RX8_71 rfl (by simp [sS, va_up, sc_X0_init, sc_X1_init, sc_X2_init_11, sc_X2_init_4, sc_X3_init, sc_X4_init, sc_X5_init, sc_X7_init]) dX8_init_135 ?_
  refine C_iload_n C dX8_init_138 rfl 0 rfl ?_
  refine C_new (n2 := 121) (kc2 := 120) (ks2 := 737) C ly120 rfl inB6 tyX6 tyX6_ok wx_RX8_69 wq_6 wi_RX6 df120 (by decide) (by decide) dX8_init_139 rfl rfl rfl ?_
  refine C_dup C dX8_init_142 rfl ?_
  refine C_aload_n C dX8_init_143 rfl 1 rfl ?_
  refine C_getR C (by decide) ly0 rfl inB8 (by decide) wf_RX8_28 rfl (by simp [sS, va_up, sc_X0_init, sc_X1_init, sc_X2_init_11, sc_X2_init_4, sc_X3_init, sc_X4_init, sc_X5_init, sc_X7_init]) dX8_init_144 ?_
  refine C_callIN (na := 1) (kc2 := 126) (ks2 := 770) C rfl wm_X6_init wl_RX8_75 (cc_X6_init_120 _ _ _ _ _ _ _) (by decide) (by decide) (by decide) (by decide) wc_X6_init wi_RX6 (by decide +kernel) rfl rfl (Nat.le_of_ble_eq_true rfl) dX8_init_147 rfl rfl ?_
  refine C_astq (j := 0) C (by decide) ly119 (fun _ => rfl) (by decide) ly120 rfl (by decide) (by decide) (by decide) rfl dX8_init_150 ?_
  refine C_iinc (k := 0) (v := (1 : Int32)) (L' := [(1, .int (1 : Int32)), (0, .ref (b + 0))]) C dX8_init_151 rfl (by decide) (by decide) rfl ?_
  refine C_goto (tgt := 129) C dX8_init_154 (by decide) ?_
  refine C_iload_n C dX8_init_129 rfl 0 rfl ?_
  refine C_iconst (v := (2 : Int32)) C dX8_init_130 (by decide) ?_
  refine C_ge_f (tgt := 157) C dX8_init_131 (by decide) (by decide) ?_
  refine C_aload_n C dX8_init_134 rfl 1 rfl ?_
  refine C_getR C (by decide) ly0 rfl inB8 (by decide) wf_RX8_71 rfl (by simp [sS, va_up, sc_X0_init, sc_X1_init, sc_X2_init_11, sc_X2_init_4, sc_X3_init, sc_X4_init, sc_X5_init, sc_X6_init_120, sc_X7_init]) dX8_init_135 ?_
  refine C_iload_n C dX8_init_138 rfl 0 rfl ?_
  refine C_new (n2 := 128) (kc2 := 127) (ks2 := 773) C ly127 rfl inB6 tyX6 tyX6_ok wx_RX8_69 wq_6 wi_RX6 df127 (by decide) (by decide) dX8_init_139 rfl rfl rfl ?_
  refine C_dup C dX8_init_142 rfl ?_
  refine C_aload_n C dX8_init_143 rfl 1 rfl ?_
  refine C_getR C (by decide) ly0 rfl inB8 (by decide) wf_RX8_28 rfl (by simp [sS, va_up, sc_X0_init, sc_X1_init, sc_X2_init_11, sc_X2_init_4, sc_X3_init, sc_X4_init, sc_X5_init, sc_X6_init_120, sc_X7_init]) dX8_init_144 ?_
  refine C_callIN (na := 1) (kc2 := 133) (ks2 := 806) C rfl wm_X6_init wl_RX8_75 (cc_X6_init_127 _ _ _ _ _ _ _) (by decide) (by decide) (by decide) (by decide) wc_X6_init wi_RX6 (by decide +kernel) rfl rfl (Nat.le_of_ble_eq_true rfl) dX8_init_147 rfl rfl ?_
  refine C_astq (j := 1) C (by decide) ly119 (fun _ => rfl) (by decide) ly127 rfl (by decide) (by decide) (by decide) rfl dX8_init_150 ?_
  refine C_iinc (k := 0) (v := (2 : Int32)) (L' := [(1, .int (2 : Int32)), (0, .ref (b + 0))]) C dX8_init_151 rfl (by decide) (by decide) rfl ?_
  refine C_goto (tgt := 129) C dX8_init_154 (by decide) ?_
  refine C_iload_n C dX8_init_129 rfl 0 rfl ?_
  refine C_iconst (v := (2 : Int32)) C dX8_init_130 (by decide) ?_
  refine C_ge_t (tgt := 157) C dX8_init_131 (by decide) (by decide) ?_
  exact C_vret C D dX8_init_157) trivial
set_option maxRecDepth 8000 in
theorem cc_X9_init (l : Launch) (dC : Nat → ClassId) (dI : Nat → Nat → Nat) (cA : Nat → ClassId) (b : Nat) (st : St) (σ : Hp) : CC l dC dI cA b yX9_init cX9_init 2 1 [.ref (b + 134)] 135 st σ 159 (sc_X9_init st) (sg_X9_init σ) 24 577 := CC_of [(0, .ref (b + 134))] (by decide +kernel) rfl rfl (Nat.le_of_ble_eq_true rfl) rfl (fun E _ C D CN => by
  have CI := CN rfl
  refine C_aload_n C dX9_init_0 rfl 0 rfl ?_
  refine C_obj C (by decide) wl_RX9_1 (Nat.le_of_ble_eq_true rfl) dX9_init_1 ?_
  refine C_aload_n C dX9_init_4 rfl 0 rfl ?_
  refine C_bipush (v := (48 : Int32)) C dX9_init_5 (by decide) ?_
  refine C_newa (atype := .int) (ty := .int) (t := 0) (N := 48) (n2 := 136) (kc2 := 1) (ks2 := 48) C rfl rfl (fun _ => rfl) (fun _ _ h => h) ly135 wy_int (by decide) (by decide) (by decide) (by decide) (by decide) dX9_init_7 rfl rfl rfl ?_
  refine C_putR C CI (by decide) ly134 rfl inB9 (by decide) wf_RX9_7 tyX9 tyX9_ok nmX9 rfl rfl (ty := tyX9 1) (by decide +kernel) rfl rfl rfl dX9_init_9 ?_
  refine C_aload_n C dX9_init_12 rfl 0 rfl ?_
  refine C_iconst (v := (1 : Int32)) C dX9_init_13 (by decide) ?_
  refine C_putI C (by decide) ly134 rfl inB9 (by decide) wf_RX9_13 tyX9 tyX9_ok nmX9 rfl (by decide +kernel) rfl dX9_init_14 ?_
  refine C_aload_n C dX9_init_17 rfl 0 rfl ?_
  refine C_iconst (v := (5 : Int32)) C dX9_init_18 (by decide) ?_
  refine C_newa (atype := .int) (ty := .int) (t := 0) (N := 5) (n2 := 137) (kc2 := 2) (ks2 := 53) C rfl rfl (fun _ => rfl) (fun _ _ h => h) ly136 wy_int (by decide) (by decide) (by decide) (by decide) (by decide) dX9_init_19 rfl rfl rfl ?_
  refine C_putR C CI (by decide) ly134 rfl inB9 (by decide) wf_RX9_17 tyX9 tyX9_ok nmX9 rfl rfl (ty := tyX9 7) (by decide +kernel) rfl rfl rfl dX9_init_21 ?_
  refine C_aload_n C dX9_init_24 rfl 0 rfl ?_
  refine C_iconst (v := (5 : Int32)) C dX9_init_25 (by decide) ?_
  refine C_newa (atype := .int) (ty := .int) (t := 0) (N := 5) (n2 := 138) (kc2 := 3) (ks2 := 58) C rfl rfl (fun _ => rfl) (fun _ _ h => h) ly137 wy_int (by decide) (by decide) (by decide) (by decide) (by decide) dX9_init_26 rfl rfl rfl ?_
  refine C_putR C CI (by decide) ly134 rfl inB9 (by decide) wf_RX9_20 tyX9 tyX9_ok nmX9 rfl rfl (ty := tyX9 8) (by decide +kernel) rfl rfl rfl dX9_init_28 ?_
  refine C_aload_n C dX9_init_31 rfl 0 rfl ?_
  refine C_iconst (v := (5 : Int32)) C dX9_init_32 (by decide) ?_
  refine C_newa (atype := .int) (ty := .int) (t := 0) (N := 5) (n2 := 139) (kc2 := 4) (ks2 := 63) C rfl rfl (fun _ => rfl) (fun _ _ h => h) ly138 wy_int (by decide) (by decide) (by decide) (by decide) (by decide) dX9_init_33 rfl rfl rfl ?_
  refine C_putR C CI (by decide) ly134 rfl inB9 (by decide) wf_RX9_23 tyX9 tyX9_ok nmX9 rfl rfl (ty := tyX9 9) (by decide +kernel) rfl rfl rfl dX9_init_35 ?_
  refine C_aload_n C dX9_init_38 rfl 0 rfl ?_
  refine C_iconst (v := (5 : Int32)) C dX9_init_39 (by decide) ?_
  refine C_newa (atype := .boolean) (ty := .boolean) (t := 2) (N := 5) (n2 := 140) (kc2 := 5) (ks2 := 68) C rfl rfl (fun _ => rfl) (fun _ _ h => h) ly139 wy_boolean (by decide) (by decide) (by decide) (by decide) (by decide) dX9_init_40 rfl rfl rfl ?_
  refine C_putR C CI (by decide) ly134 rfl inB9 (by decide) wf_RX9_26 tyX9 tyX9_ok nmX9 rfl rfl (ty := tyX9 10) (by decide +kernel) rfl rfl rfl dX9_init_42 ?_
  refine C_aload_n C dX9_init_45 rfl 0 rfl ?_
  refine C_iconst (v := (5 : Int32)) C dX9_init_46 (by decide) ?_
  refine C_newa (atype := .boolean) (ty := .boolean) (t := 2) (N := 5) (n2 := 141) (kc2 := 6) (ks2 := 73) C rfl rfl (fun _ => rfl) (fun _ _ h => h) ly140 wy_boolean (by decide) (by decide) (by decide) (by decide) (by decide) dX9_init_47 rfl rfl rfl ?_
  refine C_putR C CI (by decide) ly134 rfl inB9 (by decide) wf_RX9_30 tyX9 tyX9_ok nmX9 rfl rfl (ty := tyX9 11) (by decide +kernel) rfl rfl rfl dX9_init_49 ?_
  refine C_aload_n C dX9_init_52 rfl 0 rfl ?_
  refine C_iconst (v := (5 : Int32)) C dX9_init_53 (by decide) ?_
  refine C_newa (atype := .int) (ty := .int) (t := 0) (N := 5) (n2 := 142) (kc2 := 7) (ks2 := 78) C rfl rfl (fun _ => rfl) (fun _ _ h => h) ly141 wy_int (by decide) (by decide) (by decide) (by decide) (by decide) dX9_init_54 rfl rfl rfl ?_
  refine C_putR C CI (by decide) ly134 rfl inB9 (by decide) wf_RX9_33 tyX9 tyX9_ok nmX9 rfl rfl (ty := tyX9 12) (by decide +kernel) rfl rfl rfl dX9_init_56 ?_
  refine C_aload_n C dX9_init_59 rfl 0 rfl ?_
  refine C_iconst (v := (5 : Int32)) C dX9_init_60 (by decide) ?_
  refine C_newa (atype := .int) (ty := .int) (t := 0) (N := 5) (n2 := 143) (kc2 := 8) (ks2 := 83) C rfl rfl (fun _ => rfl) (fun _ _ h => h) ly142 wy_int (by decide) (by decide) (by decide) (by decide) (by decide) dX9_init_61 rfl rfl rfl ?_
  refine C_putR C CI (by decide) ly134 rfl inB9 (by decide) wf_RX9_36 tyX9 tyX9_ok nmX9 rfl rfl (ty := tyX9 13) (by decide +kernel) rfl rfl rfl dX9_init_63 ?_
  refine C_aload_n C dX9_init_66 rfl 0 rfl ?_
  refine C_iconst (v := (4 : Int32)) C dX9_init_67 (by decide) ?_
  refine C_newa (atype := .int) (ty := .int) (t := 0) (N := 4) (n2 := 144) (kc2 := 9) (ks2 := 87) C rfl rfl (fun _ => rfl) (fun _ _ h => h) ly143 wy_int (by decide) (by decide) (by decide) (by decide) (by decide) dX9_init_68 rfl rfl rfl ?_
  refine C_putR C CI (by decide) ly134 rfl inB9 (by decide) wf_RX9_39 tyX9 tyX9_ok nmX9 rfl rfl (ty := tyX9 16) (by decide +kernel) rfl rfl rfl dX9_init_70 ?_
  refine C_aload_n C dX9_init_73 rfl 0 rfl ?_
  refine C_iconst (v := (5 : Int32)) C dX9_init_74 (by decide) ?_
  refine C_newa (atype := .int) (ty := .int) (t := 0) (N := 5) (n2 := 145) (kc2 := 10) (ks2 := 92) C rfl rfl (fun _ => rfl) (fun _ _ h => h) ly144 wy_int (by decide) (by decide) (by decide) (by decide) (by decide) dX9_init_75 rfl rfl rfl ?_
  refine C_putR C CI (by decide) ly134 rfl inB9 (by decide) wf_RX9_42 tyX9 tyX9_ok nmX9 rfl rfl (ty := tyX9 20) (by decide +kernel) rfl rfl rfl dX9_init_77 ?_
  refine C_aload_n C dX9_init_80 rfl 0 rfl ?_
  refine C_iconst (v := (5 : Int32)) C dX9_init_81 (by decide) ?_
  refine C_newa (atype := .int) (ty := .int) (t := 0) (N := 5) (n2 := 146) (kc2 := 11) (ks2 := 97) C rfl rfl (fun _ => rfl) (fun _ _ h => h) ly145 wy_int (by decide) (by decide) (by decide) (by decide) (by decide) dX9_init_82 rfl rfl rfl ?_
  refine C_putR C CI (by decide) ly134 rfl inB9 (by decide) wf_RX9_45 tyX9 tyX9_ok nmX9 rfl rfl (ty := tyX9 21) (by decide +kernel) rfl rfl rfl dX9_init_84 ?_
  refine C_aload_n C dX9_init_87 rfl 0 rfl ?_
  refine C_iconst (v := (5 : Int32)) C dX9_init_88 (by decide) ?_
  refine C_newa (atype := .int) (ty := .int) (t := 0) (N := 5) (n2 := 147) (kc2 := 12) (ks2 := 102) C rfl rfl (fun _ => rfl) (fun _ _ h => h) ly146 wy_int (by decide) (by decide) (by decide) (by decide) (by decide) dX9_init_89 rfl rfl rfl ?_
  refine C_putR C CI (by decide) ly134 rfl inB9 (by decide) wf_RX9_48 tyX9 tyX9_ok nmX9 rfl rfl (ty := tyX9 22) (by decide +kernel) rfl rfl rfl dX9_init_91 ?_
  refine C_aload_n C dX9_init_94 rfl 0 rfl ?_
  refine C_iconst (v := (5 : Int32)) C dX9_init_95 (by decide) ?_
  refine C_newa (atype := .int) (ty := .int) (t := 0) (N := 5) (n2 := 148) (kc2 := 13) (ks2 := 107) C rfl rfl (fun _ => rfl) (fun _ _ h => h) ly147 wy_int (by decide) (by decide) (by decide) (by decide) (by decide) dX9_init_96 rfl rfl rfl ?_
  refine C_putR C CI (by decide) ly134 rfl inB9 (by decide) wf_RX9_51 tyX9 tyX9_ok nmX9 rfl rfl (ty := tyX9 23) (by decide +kernel) rfl rfl rfl dX9_init_98 ?_
  refine C_aload_n C dX9_init_101 rfl 0 rfl ?_
  refine C_sipush (v := (324 : Int32)) C dX9_init_102 (by decide) ?_
  refine C_newa (atype := .int) (ty := .int) (t := 0) (N := 324) (n2 := 149) (kc2 := 14) (ks2 := 431) C rfl rfl (fun _ => rfl) (fun _ _ h => h) ly148 wy_int (by decide) (by decide) (by decide) (by decide) (by decide) dX9_init_105 rfl rfl rfl ?_
  refine C_putR C CI (by decide) ly134 rfl inB9 (by decide) wf_RX9_54 tyX9 tyX9_ok nmX9 rfl rfl (ty := tyX9 24) (by decide +kernel) rfl rfl rfl dX9_init_107 ?_
  refine C_aload_n C dX9_init_110 rfl 0 rfl ?_
  refine C_bipush (v := (84 : Int32)) C dX9_init_111 (by decide) ?_
  refine C_newa (atype := .int) (ty := .int) (t := 0) (N := 84) (n2 := 150) (kc2 := 15) (ks2 := 515) C rfl rfl (fun _ => rfl) (fun _ _ h => h) ly149 wy_int (by decide) (by decide) (by decide) (by decide) (by decide) dX9_init_113 rfl rfl rfl ?_
  refine C_putR C CI (by decide) ly134 rfl inB9 (by decide) wf_RX9_57 tyX9 tyX9_ok nmX9 rfl rfl (ty := tyX9 26) (by decide +kernel) rfl rfl rfl dX9_init_115 ?_
  refine C_aload_n C dX9_init_118 rfl 0 rfl ?_
  refine C_iconst (v := (2 : Int32)) C dX9_init_119 (by decide) ?_
  refine C_newa (atype := .boolean) (ty := .boolean) (t := 2) (N := 2) (n2 := 151) (kc2 := 16) (ks2 := 517) C rfl rfl (fun _ => rfl) (fun _ _ h => h) ly150 wy_boolean (by decide) (by decide) (by decide) (by decide) (by decide) dX9_init_120 rfl rfl rfl ?_
  refine C_putR C CI (by decide) ly134 rfl inB9 (by decide) wf_RX9_60 tyX9 tyX9_ok nmX9 rfl rfl (ty := tyX9 27) (by decide +kernel) rfl rfl rfl dX9_init_122 ?_
  refine C_aload_n C dX9_init_125 rfl 0 rfl ?_
  refine C_bipush (v := (12 : Int32)) C dX9_init_126 (by decide) ?_
  refine C_newa (atype := .int) (ty := .int) (t := 0) (N := 12) (n2 := 152) (kc2 := 17) (ks2 := 529) C rfl rfl (fun _ => rfl) (fun _ _ h => h) ly151 wy_int (by decide) (by decide) (by decide) (by decide) (by decide) dX9_init_128 rfl rfl rfl ?_
  refine C_putR C CI (by decide) ly134 rfl inB9 (by decide) wf_RX9_63 tyX9 tyX9_ok nmX9 rfl rfl (ty := tyX9 29) (by decide +kernel) rfl rfl rfl dX9_init_130 ?_
  refine C_aload_n C dX9_init_133 rfl 0 rfl ?_
  refine C_bipush (v := (12 : Int32)) C dX9_init_134 (by decide) ?_
  refine C_newa (atype := .int) (ty := .int) (t := 0) (N := 12) (n2 := 153) (kc2 := 18) (ks2 := 541) C rfl rfl (fun _ => rfl) (fun _ _ h => h) ly152 wy_int (by decide) (by decide) (by decide) (by decide) (by decide) dX9_init_136 rfl rfl rfl ?_
  refine C_putR C CI (by decide) ly134 rfl inB9 (by decide) wf_RX9_66 tyX9 tyX9_ok nmX9 rfl rfl (ty := tyX9 30) (by decide +kernel) rfl rfl rfl dX9_init_138 ?_
  refine C_aload_n C dX9_init_141 rfl 0 rfl ?_
  refine C_bipush (v := (12 : Int32)) C dX9_init_142 (by decide) ?_
  refine C_newa (atype := .int) (ty := .int) (t := 0) (N := 12) (n2 := 154) (kc2 := 19) (ks2 := 553) C rfl rfl (fun _ => rfl) (fun _ _ h => h) ly153 wy_int (by decide) (by decide) (by decide) (by decide) (by decide) dX9_init_144 rfl rfl rfl ?_
  refine C_putR C CI (by decide) ly134 rfl inB9 (by decide) wf_RX9_69 tyX9 tyX9_ok nmX9 rfl rfl (ty := tyX9 31) (by decide +kernel) rfl rfl rfl dX9_init_146 ?_
  refine C_aload_n C dX9_init_149 rfl 0 rfl ?_
  refine C_iconst (v := (5 : Int32)) C dX9_init_150 (by decide) ?_
  refine C_newa (atype := .int) (ty := .int) (t := 0) (N := 5) (n2 := 155) (kc2 := 20) (ks2 := 558) C rfl rfl (fun _ => rfl) (fun _ _ h => h) ly154 wy_int (by decide) (by decide) (by decide) (by decide) (by decide) dX9_init_151 rfl rfl rfl ?_
  refine C_putR C CI (by decide) ly134 rfl inB9 (by decide) wf_RX9_72 tyX9 tyX9_ok nmX9 rfl rfl (ty := tyX9 32) (by decide +kernel) rfl rfl rfl dX9_init_153 ?_
  refine C_aload_n C dX9_init_156 rfl 0 rfl ?_
  refine C_iconst (v := (5 : Int32)) C dX9_init_157 (by decide) ?_
  refine C_newa (atype := .int) (ty := .int) (t := 0) (N := 5) (n2 := 156) (kc2 := 21) (ks2 := 563) C rfl rfl (fun _ => rfl) (fun _ _ h => h) ly155 wy_int (by decide) (by decide) (by decide) (by decide) (by decide) dX9_init_158 rfl rfl rfl ?_
  refine C_putR C CI (by decide) ly134 rfl inB9 (by decide) wf_RX9_75 tyX9 tyX9_ok nmX9 rfl rfl (ty := tyX9 33) (by decide +kernel) rfl rfl rfl dX9_init_160 ?_
  refine C_aload_n C dX9_init_163 rfl 0 rfl ?_
  refine C_iconst (v := (5 : Int32)) C dX9_init_164 (by decide) ?_
  refine C_newa (atype := .int) (ty := .int) (t := 0) (N := 5) (n2 := 157) (kc2 := 22) (ks2 := 568) C rfl rfl (fun _ => rfl) (fun _ _ h => h) ly156 wy_int (by decide) (by decide) (by decide) (by decide) (by decide) dX9_init_165 rfl rfl rfl ?_
  refine C_putR C CI (by decide) ly134 rfl inB9 (by decide) wf_RX9_78 tyX9 tyX9_ok nmX9 rfl rfl (ty := tyX9 34) (by decide +kernel) rfl rfl rfl dX9_init_167 ?_
  refine C_aload_n C dX9_init_170 rfl 0 rfl ?_
  refine C_iconst (v := (5 : Int32)) C dX9_init_171 (by decide) ?_
  refine C_newa (atype := .boolean) (ty := .boolean) (t := 2) (N := 5) (n2 := 158) (kc2 := 23) (ks2 := 573) C rfl rfl (fun _ => rfl) (fun _ _ h => h) ly157 wy_boolean (by decide) (by decide) (by decide) (by decide) (by decide) dX9_init_172 rfl rfl rfl ?_
  refine C_putR C CI (by decide) ly134 rfl inB9 (by decide) wf_RX9_81 tyX9 tyX9_ok nmX9 rfl rfl (ty := tyX9 35) (by decide +kernel) rfl rfl rfl dX9_init_174 ?_
  refine C_aload_n C dX9_init_177 rfl 0 rfl ?_
  refine C_iconst (v := (4 : Int32)) C dX9_init_178 (by decide) ?_
  refine C_newa (atype := .int) (ty := .int) (t := 0) (N := 4) (n2 := 159) (kc2 := 24) (ks2 := 577) C rfl rfl (fun _ => rfl) (fun _ _ h => h) ly158 wy_int (by decide) (by decide) (by decide) (by decide) (by decide) dX9_init_179 rfl rfl rfl ?_
  refine C_putR C CI (by decide) ly134 rfl inB9 (by decide) wf_RX9_84 tyX9 tyX9_ok nmX9 rfl rfl (ty := tyX9 36) (by decide +kernel) rfl rfl rfl dX9_init_181 ?_
  refine C_iconst (v := (0 : Int32)) C dX9_init_184 (by decide) ?_
  refine C_istore_n (L' := [(1, .int (0 : Int32)), (0, .ref (b + 134))]) C dX9_init_185 rfl (by decide) rfl ?_
  refine C_iload_n C dX9_init_186 rfl 0 rfl ?_
  refine C_iconst (v := (5 : Int32)) C dX9_init_187 (by decide) ?_
  refine C_ge_f (tgt := 205) C dX9_init_188 (by decide) (by decide) ?_
  refine C_aload_n C dX9_init_191 rfl 1 rfl ?_
  refine C_getR C (by decide) ly134 rfl inB9 (by decide) wf_RX9_33 rfl (by simp [sS, va_up, sc_X0_init, sc_X1_init, sc_X2_init_11, sc_X2_init_4, sc_X3_init, sc_X4_init, sc_X5_init, sc_X6_init_120, sc_X6_init_127, sc_X7_init]) dX9_init_192 ?_
  refine C_iload_n C dX9_init_195 rfl 0 rfl ?_
  refine C_bipush (v := (-9 : Int32)) C dX9_init_196 (by decide) ?_
  refine C_iast (j := 0) C (by decide) ly141 (by decide) (by decide) (by decide) dX9_init_198 ?_
  refine C_iinc (k := 0) (v := (1 : Int32)) (L' := [(1, .int (1 : Int32)), (0, .ref (b + 134))]) C dX9_init_199 rfl (by decide) (by decide) rfl ?_
  refine C_goto (tgt := 186) C dX9_init_202 (by decide) ?_
  refine C_iload_n C dX9_init_186 rfl 0 rfl ?_
  refine C_iconst (v := (5 : Int32)) C dX9_init_187 (by decide) ?_
  refine C_ge_f (tgt := 205) C dX9_init_188 (by decide) (by decide) ?_
  refine C_aload_n C dX9_init_191 rfl 1 rfl ?_
  refine C_getR C (by decide) ly134 rfl inB9 (by decide) wf_RX9_33 rfl (by simp [sS, va_up, sc_X0_init, sc_X1_init, sc_X2_init_11, sc_X2_init_4, sc_X3_init, sc_X4_init, sc_X5_init, sc_X6_init_120, sc_X6_init_127, sc_X7_init]) dX9_init_192 ?_
  refine C_iload_n C dX9_init_195 rfl 0 rfl ?_
  refine C_bipush (v := (-9 : Int32)) C dX9_init_196 (by decide) ?_
  refine C_iast (j := 1) C (by decide) ly141 (by decide) (by decide) (by decide) dX9_init_198 ?_
  refine C_iinc (k := 0) (v := (2 : Int32)) (L' := [(1, .int (2 : Int32)), (0, .ref (b + 134))]) C dX9_init_199 rfl (by decide) (by decide) rfl ?_
  refine C_goto (tgt := 186) C dX9_init_202 (by decide) ?_
  refine C_iload_n C dX9_init_186 rfl 0 rfl ?_
  refine C_iconst (v := (5 : Int32)) C dX9_init_187 (by decide) ?_
  refine C_ge_f (tgt := 205) C dX9_init_188 (by decide) (by decide) ?_
  refine C_aload_n C dX9_init_191 rfl 1 rfl ?_
  refine C_getR C (by decide) ly134 rfl inB9 (by decide) wf_RX9_33 rfl (by simp [sS, va_up, sc_X0_init, sc_X1_init, sc_X2_init_11, sc_X2_init_4, sc_X3_init, sc_X4_init, sc_X5_init, sc_X6_init_120, sc_X6_init_127, sc_X7_init]) dX9_init_192 ?_
  refine C_iload_n C dX9_init_195 rfl 0 rfl ?_
  refine C_bipush (v := (-9 : Int32)) C dX9_init_196 (by decide) ?_
  refine C_iast (j := 2) C (by decide) ly141 (by decide) (by decide) (by decide) dX9_init_198 ?_
  refine C_iinc (k := 0) (v := (3 : Int32)) (L' := [(1, .int (3 : Int32)), (0, .ref (b + 134))]) C dX9_init_199 rfl (by decide) (by decide) rfl ?_
  refine C_goto (tgt := 186) C dX9_init_202 (by decide) ?_
  refine C_iload_n C dX9_init_186 rfl 0 rfl ?_
  refine C_iconst (v := (5 : Int32)) C dX9_init_187 (by decide) ?_
  refine C_ge_f (tgt := 205) C dX9_init_188 (by decide) (by decide) ?_
  refine C_aload_n C dX9_init_191 rfl 1 rfl ?_
  refine C_getR C (by decide) ly134 rfl inB9 (by decide) wf_RX9_33 rfl (by simp [sS, va_up, sc_X0_init, sc_X1_init, sc_X2_init_11, sc_X2_init_4, sc_X3_init, sc_X4_init, sc_X5_init, sc_X6_init_120, sc_X6_init_127, sc_X7_init]) dX9_init_192 ?_
  refine C_iload_n C dX9_init_195 rfl 0 rfl ?_
  refine C_bipush (v := (-9 : Int32)) C dX9_init_196 (by decide) ?_
  refine C_iast (j := 3) C (by decide) ly141 (by decide) (by decide) (by decide) dX9_init_198 ?_
  refine C_iinc (k := 0) (v := (4 : Int32)) (L' := [(1, .int (4 : Int32)), (0, .ref (b + 134))]) C dX9_init_199 rfl (by decide) (by decide) rfl ?_
  refine C_goto (tgt := 186) C dX9_init_202 (by decide) ?_
  refine C_iload_n C dX9_init_186 rfl 0 rfl ?_
  refine C_iconst (v := (5 : Int32)) C dX9_init_187 (by decide) ?_
  refine C_ge_f (tgt := 205) C dX9_init_188 (by decide) (by decide) ?_
  refine C_aload_n C dX9_init_191 rfl 1 rfl ?_
  refine C_getR C (by decide) ly134 rfl inB9 (by decide) wf_RX9_33 rfl (by simp [sS, va_up, sc_X0_init, sc_X1_init, sc_X2_init_11, sc_X2_init_4, sc_X3_init, sc_X4_init, sc_X5_init, sc_X6_init_120, sc_X6_init_127, sc_X7_init]) dX9_init_192 ?_
  refine C_iload_n C dX9_init_195 rfl 0 rfl ?_
  refine C_bipush (v := (-9 : Int32)) C dX9_init_196 (by decide) ?_
  refine C_iast (j := 4) C (by decide) ly141 (by decide) (by decide) (by decide) dX9_init_198 ?_
  refine C_iinc (k := 0) (v := (5 : Int32)) (L' := [(1, .int (5 : Int32)), (0, .ref (b + 134))]) C dX9_init_199 rfl (by decide) (by decide) rfl ?_
  refine C_goto (tgt := 186) C dX9_init_202 (by decide) ?_
  refine C_iload_n C dX9_init_186 rfl 0 rfl ?_
  refine C_iconst (v := (5 : Int32)) C dX9_init_187 (by decide) ?_
  refine C_ge_t (tgt := 205) C dX9_init_188 (by decide) (by decide) ?_
  exact C_vret C D dX9_init_205) trivial
