theorem dX3_left_4 : decode cX3_left 4 = .ok (.iload_n 2, 1) := by decide +kernel
theorem dX3_left_5 : decode cX3_left 5 = .ok (.aload_n 0, 1) := by decide +kernel
theorem dX3_left_6 : decode cX3_left 6 = .ok (.getfield 15, 3) := by decide +kernel
theorem dX3_left_9 : decode cX3_left 9 = .ok (.if_icmp .ge 27, 3) := by decide +kernel
theorem dX3_left_12 : decode cX3_left 12 = .ok (.iload_n 1, 1) := by decide +kernel
theorem dX3_left_13 : decode cX3_left 13 = .ok (.aload_n 0, 1) := by decide +kernel
theorem dX3_left_14 : decode cX3_left 14 = .ok (.getfield 9, 3) := by decide +kernel
theorem dX3_left_17 : decode cX3_left 17 = .ok (.iload_n 2, 1) := by decide +kernel
theorem dX3_left_18 : decode cX3_left 18 = .ok (.iaload, 1) := by decide +kernel
theorem dX3_left_19 : decode cX3_left 19 = .ok (.iconst (-1), 1) := by decide +kernel
theorem dX3_left_20 : decode cX3_left 20 = .ok (.if_icmp .eq 7, 3) := by decide +kernel
theorem dX3_left_23 : decode cX3_left 23 = .ok (.iconst 1, 1) := by decide +kernel
theorem dX3_left_24 : decode cX3_left 24 = .ok (.goto 4, 3) := by decide +kernel
theorem dX3_left_27 : decode cX3_left 27 = .ok (.iconst 0, 1) := by decide +kernel
theorem dX3_left_28 : decode cX3_left 28 = .ok (.iadd, 1) := by decide +kernel
theorem dX3_left_29 : decode cX3_left 29 = .ok (.istore_n 1, 1) := by decide +kernel
theorem dX3_left_30 : decode cX3_left 30 = .ok (.iinc 2 1, 3) := by decide +kernel
theorem dX3_left_33 : decode cX3_left 33 = .ok (.goto (-29), 3) := by decide +kernel
theorem dX3_left_36 : decode cX3_left 36 = .ok (.iload_n 1, 1) := by decide +kernel
theorem dX3_left_37 : decode cX3_left 37 = .ok (.ireturn, 1) := by decide +kernel
theorem dX3_first_0 : decode cX3_first 0 = .ok (.iconst 0, 1) := by decide +kernel
theorem dX3_first_1 : decode cX3_first 1 = .ok (.istore_n 1, 1) := by decide +kernel
theorem dX3_first_2 : decode cX3_first 2 = .ok (.iload_n 1, 1) := by decide +kernel
theorem dX3_first_3 : decode cX3_first 3 = .ok (.aload_n 0, 1) := by decide +kernel
theorem dX3_first_4 : decode cX3_first 4 = .ok (.getfield 15, 3) := by decide +kernel
theorem dX3_first_7 : decode cX3_first 7 = .ok (.if_icmp .ge 21, 3) := by decide +kernel
theorem dX3_first_10 : decode cX3_first 10 = .ok (.aload_n 0, 1) := by decide +kernel
theorem dX3_first_11 : decode cX3_first 11 = .ok (.getfield 9, 3) := by decide +kernel
theorem dX3_first_14 : decode cX3_first 14 = .ok (.iload_n 1, 1) := by decide +kernel
theorem dX3_first_15 : decode cX3_first 15 = .ok (.iaload, 1) := by decide +kernel
theorem dX3_first_16 : decode cX3_first 16 = .ok (.iconst (-1), 1) := by decide +kernel
theorem dX3_first_17 : decode cX3_first 17 = .ok (.if_icmp .eq 5, 3) := by decide +kernel
theorem dX3_first_20 : decode cX3_first 20 = .ok (.iload_n 1, 1) := by decide +kernel
theorem dX3_first_21 : decode cX3_first 21 = .ok (.ireturn, 1) := by decide +kernel
theorem dX3_first_22 : decode cX3_first 22 = .ok (.iinc 1 1, 3) := by decide +kernel
theorem dX3_first_25 : decode cX3_first 25 = .ok (.goto (-23), 3) := by decide +kernel
theorem dX3_first_28 : decode cX3_first 28 = .ok (.iconst (-1), 1) := by decide +kernel
theorem dX3_first_29 : decode cX3_first 29 = .ok (.ireturn, 1) := by decide +kernel
set_option maxRecDepth 20000 in
theorem ggX3_tellingLamp_X3_left : GoodIn wsX3_tellingLamp wsX3_left := goodIn_r _ [9, 10, 11, 20, 21] (by decide +kernel) (by decide +kernel)
set_option maxRecDepth 20000 in
theorem gX3_tellingLamp_X3_left : GoodIn wsX3_tellingLamp (wsV RX3 42 RX3 yX3_left wsX3_left) := goodIn_app (goodIn_of _ (by decide +kernel)) ggX3_tellingLamp_X3_left
set_option maxRecDepth 20000 in
theorem ggX3_tellingLamp_X3_endLit : GoodIn wsX3_tellingLamp wsX3_endLit := goodIn_r _ [15, 10, 11, 16, 17, 18, 19, 20, 21] (by decide +kernel) (by decide +kernel)
set_option maxRecDepth 20000 in
theorem gX3_tellingLamp_X3_endLit : GoodIn wsX3_tellingLamp (wsV RX3 46 RX3 yX3_endLit wsX3_endLit) := goodIn_app (goodIn_of _ (by decide +kernel)) ggX3_tellingLamp_X3_endLit
theorem dX3_tellingLamp_0 : decode cX3_tellingLamp 0 = .ok (.aload_n 0, 1) := by decide +kernel
theorem dX3_tellingLamp_1 : decode cX3_tellingLamp 1 = .ok (.invokevirtual 42, 3) := by decide +kernel
theorem dX3_tellingLamp_4 : decode cX3_tellingLamp 4 = .ok (.istore_n 2, 1) := by decide +kernel
theorem dX3_tellingLamp_5 : decode cX3_tellingLamp 5 = .ok (.iconst (-1), 1) := by decide +kernel
theorem dX3_tellingLamp_6 : decode cX3_tellingLamp 6 = .ok (.istore_n 3, 1) := by decide +kernel
theorem dX3_tellingLamp_7 : decode cX3_tellingLamp 7 = .ok (.iload_n 2, 1) := by decide +kernel
theorem dX3_tellingLamp_8 : decode cX3_tellingLamp 8 = .ok (.iconst 1, 1) := by decide +kernel
theorem dX3_tellingLamp_9 : decode cX3_tellingLamp 9 = .ok (.iadd, 1) := by decide +kernel
theorem dX3_tellingLamp_10 : decode cX3_tellingLamp 10 = .ok (.istore 4, 2) := by decide +kernel
theorem dX3_tellingLamp_12 : decode cX3_tellingLamp 12 = .ok (.iconst 0, 1) := by decide +kernel
theorem dX3_tellingLamp_13 : decode cX3_tellingLamp 13 = .ok (.istore 5, 2) := by decide +kernel
theorem dX3_tellingLamp_15 : decode cX3_tellingLamp 15 = .ok (.iload 5, 2) := by decide +kernel
theorem dX3_tellingLamp_17 : decode cX3_tellingLamp 17 = .ok (.iload_n 1, 1) := by decide +kernel
theorem dX3_tellingLamp_18 : decode cX3_tellingLamp 18 = .ok (.if_icmp .ge 46, 3) := by decide +kernel
theorem dX3_tellingLamp_21 : decode cX3_tellingLamp 21 = .ok (.iload_n 2, 1) := by decide +kernel
theorem dX3_tellingLamp_22 : decode cX3_tellingLamp 22 = .ok (.ifCond .le 42, 3) := by decide +kernel
theorem dX3_tellingLamp_25 : decode cX3_tellingLamp 25 = .ok (.aload_n 0, 1) := by decide +kernel
theorem dX3_tellingLamp_26 : decode cX3_tellingLamp 26 = .ok (.iload 5, 2) := by decide +kernel
theorem dX3_tellingLamp_28 : decode cX3_tellingLamp 28 = .ok (.invokevirtual 46, 3) := by decide +kernel
theorem dX3_tellingLamp_31 : decode cX3_tellingLamp 31 = .ok (.istore 6, 2) := by decide +kernel
theorem dX3_tellingLamp_33 : decode cX3_tellingLamp 33 = .ok (.iload 6, 2) := by decide +kernel
theorem dX3_tellingLamp_35 : decode cX3_tellingLamp 35 = .ok (.iload_n 2, 1) := by decide +kernel
theorem dX3_tellingLamp_36 : decode cX3_tellingLamp 36 = .ok (.iload 6, 2) := by decide +kernel
theorem dX3_tellingLamp_38 : decode cX3_tellingLamp 38 = .ok (.isub, 1) := by decide +kernel
theorem dX3_tellingLamp_39 : decode cX3_tellingLamp 39 = .ok (.invokestatic 49, 3) := by decide +kernel
theorem dX3_tellingLamp_42 : decode cX3_tellingLamp 42 = .ok (.istore 7, 2) := by decide +kernel
theorem dX3_tellingLamp_44 : decode cX3_tellingLamp 44 = .ok (.iload 7, 2) := by decide +kernel
theorem dX3_tellingLamp_46 : decode cX3_tellingLamp 46 = .ok (.iload 4, 2) := by decide +kernel
theorem dX3_tellingLamp_48 : decode cX3_tellingLamp 48 = .ok (.if_icmp .ge 10, 3) := by decide +kernel
theorem dX3_tellingLamp_51 : decode cX3_tellingLamp 51 = .ok (.iload 7, 2) := by decide +kernel
theorem dX3_tellingLamp_53 : decode cX3_tellingLamp 53 = .ok (.istore 4, 2) := by decide +kernel
theorem dX3_tellingLamp_55 : decode cX3_tellingLamp 55 = .ok (.iload 5, 2) := by decide +kernel
theorem dX3_tellingLamp_57 : decode cX3_tellingLamp 57 = .ok (.istore_n 3, 1) := by decide +kernel
theorem dX3_tellingLamp_58 : decode cX3_tellingLamp 58 = .ok (.iinc 5 1, 3) := by decide +kernel
theorem dX3_tellingLamp_61 : decode cX3_tellingLamp 61 = .ok (.goto (-46), 3) := by decide +kernel
theorem dX3_tellingLamp_64 : decode cX3_tellingLamp 64 = .ok (.iload_n 3, 1) := by decide +kernel
theorem dX3_tellingLamp_65 : decode cX3_tellingLamp 65 = .ok (.ireturn, 1) := by decide +kernel
set_option maxRecDepth 20000 in
theorem ggX3_endLit_X1_left : GoodIn wsX3_endLit wsX1_left := goodIn_r _ [6] (by decide +kernel) (by decide +kernel)
set_option maxRecDepth 20000 in
theorem gX3_endLit_X1_left : GoodIn wsX3_endLit (va_wsS RX3 54 yX1_left wsX1_left) := goodIn_app (goodIn_of _ (by decide +kernel)) ggX3_endLit_X1_left
theorem dX3_endLit_0 : decode cX3_endLit 0 = .ok (.iconst 0, 1) := by decide +kernel
theorem dX3_endLit_1 : decode cX3_endLit 1 = .ok (.istore_n 2, 1) := by decide +kernel
theorem dX3_endLit_2 : decode cX3_endLit 2 = .ok (.iconst 0, 1) := by decide +kernel
theorem dX3_endLit_3 : decode cX3_endLit 3 = .ok (.istore_n 3, 1) := by decide +kernel
theorem dX3_endLit_4 : decode cX3_endLit 4 = .ok (.iload_n 3, 1) := by decide +kernel
theorem dX3_endLit_5 : decode cX3_endLit 5 = .ok (.aload_n 0, 1) := by decide +kernel
theorem dX3_endLit_6 : decode cX3_endLit 6 = .ok (.getfield 15, 3) := by decide +kernel
theorem dX3_endLit_9 : decode cX3_endLit 9 = .ok (.if_icmp .ge 40, 3) := by decide +kernel
theorem dX3_endLit_12 : decode cX3_endLit 12 = .ok (.iload_n 2, 1) := by decide +kernel
theorem dX3_endLit_13 : decode cX3_endLit 13 = .ok (.aload_n 0, 1) := by decide +kernel
theorem dX3_endLit_14 : decode cX3_endLit 14 = .ok (.getfield 9, 3) := by decide +kernel
theorem dX3_endLit_17 : decode cX3_endLit 17 = .ok (.iload_n 3, 1) := by decide +kernel
theorem dX3_endLit_18 : decode cX3_endLit 18 = .ok (.iaload, 1) := by decide +kernel
theorem dX3_endLit_19 : decode cX3_endLit 19 = .ok (.iconst (-1), 1) := by decide +kernel
theorem dX3_endLit_20 : decode cX3_endLit 20 = .ok (.if_icmp .eq 20, 3) := by decide +kernel
theorem dX3_endLit_23 : decode cX3_endLit 23 = .ok (.aload_n 0, 1) := by decide +kernel
theorem dX3_endLit_24 : decode cX3_endLit 24 = .ok (.getfield 9, 3) := by decide +kernel
theorem dX3_endLit_27 : decode cX3_endLit 27 = .ok (.iload_n 3, 1) := by decide +kernel
theorem dX3_endLit_28 : decode cX3_endLit 28 = .ok (.iaload, 1) := by decide +kernel
theorem dX3_endLit_29 : decode cX3_endLit 29 = .ok (.iload_n 1, 1) := by decide +kernel
theorem dX3_endLit_30 : decode cX3_endLit 30 = .ok (.invokestatic 54, 3) := by decide +kernel
theorem dX3_endLit_33 : decode cX3_endLit 33 = .ok (.ifCond .le 7, 3) := by decide +kernel
theorem dX3_endLit_36 : decode cX3_endLit 36 = .ok (.iconst 1, 1) := by decide +kernel
theorem dX3_endLit_37 : decode cX3_endLit 37 = .ok (.goto 4, 3) := by decide +kernel
theorem dX3_endLit_40 : decode cX3_endLit 40 = .ok (.iconst 0, 1) := by decide +kernel
theorem dX3_endLit_41 : decode cX3_endLit 41 = .ok (.iadd, 1) := by decide +kernel
theorem dX3_endLit_42 : decode cX3_endLit 42 = .ok (.istore_n 2, 1) := by decide +kernel
theorem dX3_endLit_43 : decode cX3_endLit 43 = .ok (.iinc 3 1, 3) := by decide +kernel
theorem dX3_endLit_46 : decode cX3_endLit 46 = .ok (.goto (-42), 3) := by decide +kernel
theorem dX3_endLit_49 : decode cX3_endLit 49 = .ok (.iload_n 2, 1) := by decide +kernel
theorem dX3_endLit_50 : decode cX3_endLit 50 = .ok (.ireturn, 1) := by decide +kernel
set_option maxRecDepth 20000 in
theorem ggX4_init_X2_init : GoodIn wsX4_init wsX2_init := goodIn_r _ [25, 26, 2, 3, 21, 27, 46, 47] (by decide +kernel) (by decide +kernel)
set_option maxRecDepth 20000 in
theorem gX4_init_X2_init_n9 : GoodIn wsX4_init (wsX2_init) := ggX4_init_X2_init
set_option maxRecDepth 20000 in
theorem ggX4_init_X1_init : GoodIn wsX4_init wsX1_init := goodIn_r _ [29, 30, 2, 3, 21, 31, 32, 33, 58, 59, 60, 61] (by decide +kernel) (by decide +kernel)
set_option maxRecDepth 20000 in
theorem gX4_init_X1_init_n18 : GoodIn wsX4_init (wsX1_init) := ggX4_init_X1_init
set_option maxRecDepth 20000 in
theorem ggX4_init_X0_init : GoodIn wsX4_init wsX0_init := goodIn_r _ [35, 36, 2, 3, 21, 37, 38, 39, 40, 41, 62, 63, 64, 65, 66, 67, 68, 69, 70] (by decide +kernel) (by decide +kernel)
set_option maxRecDepth 20000 in
theorem gX4_init_X0_init_n25 : GoodIn wsX4_init (wsX0_init) := ggX4_init_X0_init
set_option maxRecDepth 20000 in
theorem ggX4_init_X3_init : GoodIn wsX4_init wsX3_init := goodIn_r _ [43, 44, 2, 3, 21, 45, 71, 72] (by decide +kernel) (by decide +kernel)
set_option maxRecDepth 20000 in
theorem gX4_init_X3_init_n35 : GoodIn wsX4_init (wsX3_init) := ggX4_init_X3_init
theorem dX4_init_0 : decode cX4_init 0 = .ok (.aload_n 0, 1) := by decide +kernel
theorem dX4_init_1 : decode cX4_init 1 = .ok (.invokespecial 1, 3) := by decide +kernel
theorem dX4_init_4 : decode cX4_init 4 = .ok (.aload_n 0, 1) := by decide +kernel
theorem dX4_init_5 : decode cX4_init 5 = .ok (.new 7, 3) := by decide +kernel
theorem dX4_init_8 : decode cX4_init 8 = .ok (.dup, 1) := by decide +kernel
theorem dX4_init_9 : decode cX4_init 9 = .ok (.invokespecial 9, 3) := by decide +kernel
theorem dX4_init_12 : decode cX4_init 12 = .ok (.putfield 10, 3) := by decide +kernel
theorem dX4_init_15 : decode cX4_init 15 = .ok (.aload_n 0, 1) := by decide +kernel
theorem dX4_init_16 : decode cX4_init 16 = .ok (.new 16, 3) := by decide +kernel
theorem dX4_init_19 : decode cX4_init 19 = .ok (.dup, 1) := by decide +kernel
theorem dX4_init_20 : decode cX4_init 20 = .ok (.invokespecial 18, 3) := by decide +kernel
theorem dX4_init_23 : decode cX4_init 23 = .ok (.putfield 19, 3) := by decide +kernel
theorem dX4_init_26 : decode cX4_init 26 = .ok (.aload_n 0, 1) := by decide +kernel
theorem dX4_init_27 : decode cX4_init 27 = .ok (.new 23, 3) := by decide +kernel
theorem dX4_init_30 : decode cX4_init 30 = .ok (.dup, 1) := by decide +kernel
theorem dX4_init_31 : decode cX4_init 31 = .ok (.invokespecial 25, 3) := by decide +kernel
theorem dX4_init_34 : decode cX4_init 34 = .ok (.putfield 26, 3) := by decide +kernel
theorem dX4_init_37 : decode cX4_init 37 = .ok (.aload_n 0, 1) := by decide +kernel
theorem dX4_init_38 : decode cX4_init 38 = .ok (.new 23, 3) := by decide +kernel
theorem dX4_init_41 : decode cX4_init 41 = .ok (.dup, 1) := by decide +kernel
theorem dX4_init_42 : decode cX4_init 42 = .ok (.invokespecial 25, 3) := by decide +kernel
theorem dX4_init_45 : decode cX4_init 45 = .ok (.putfield 30, 3) := by decide +kernel
theorem dX4_init_48 : decode cX4_init 48 = .ok (.aload_n 0, 1) := by decide +kernel
theorem dX4_init_49 : decode cX4_init 49 = .ok (.new 33, 3) := by decide +kernel
theorem dX4_init_52 : decode cX4_init 52 = .ok (.dup, 1) := by decide +kernel
theorem dX4_init_53 : decode cX4_init 53 = .ok (.invokespecial 35, 3) := by decide +kernel
theorem dX4_init_56 : decode cX4_init 56 = .ok (.putfield 36, 3) := by decide +kernel
theorem dX4_init_59 : decode cX4_init 59 = .ok (.aload_n 0, 1) := by decide +kernel
theorem dX4_init_60 : decode cX4_init 60 = .ok (.iconst 3, 1) := by decide +kernel
theorem dX4_init_61 : decode cX4_init 61 = .ok (.newarray .int, 2) := by decide +kernel
theorem dX4_init_63 : decode cX4_init 63 = .ok (.putfield 40, 3) := by decide +kernel
theorem dX4_init_66 : decode cX4_init 66 = .ok (.aload_n 0, 1) := by decide +kernel
theorem dX4_init_67 : decode cX4_init 67 = .ok (.bipush 7, 2) := by decide +kernel
theorem dX4_init_69 : decode cX4_init 69 = .ok (.newarray .int, 2) := by decide +kernel
theorem dX4_init_71 : decode cX4_init 71 = .ok (.putfield 44, 3) := by decide +kernel
theorem dX4_init_74 : decode cX4_init 74 = .ok (.return_, 1) := by decide +kernel
set_option maxRecDepth 20000 in
theorem ggX4_letter_X2_put : GoodIn wsX4_letter wsX2_put := goodIn_r _ [6, 7, 8, 19, 20] (by decide +kernel) (by decide +kernel)
set_option maxRecDepth 20000 in
theorem gX4_letter_X2_put : GoodIn wsX4_letter (wsV RX4 47 RX2 yX2_put wsX2_put) := goodIn_app (goodIn_of _ (by decide +kernel)) ggX4_letter_X2_put
theorem dX4_letter_0 : decode cX4_letter 0 = .ok (.iload_n 1, 1) := by decide +kernel
theorem dX4_letter_1 : decode cX4_letter 1 = .ok (.iconst 1, 1) := by decide +kernel
theorem dX4_letter_2 : decode cX4_letter 2 = .ok (.if_icmp .lt 9, 3) := by decide +kernel
theorem dX4_letter_5 : decode cX4_letter 5 = .ok (.iload_n 1, 1) := by decide +kernel
theorem dX4_letter_6 : decode cX4_letter 6 = .ok (.bipush 126, 2) := by decide +kernel
theorem dX4_letter_8 : decode cX4_letter 8 = .ok (.if_icmp .le 6, 3) := by decide +kernel
theorem dX4_letter_11 : decode cX4_letter 11 = .ok (.bipush (-102), 2) := by decide +kernel
theorem dX4_letter_13 : decode cX4_letter 13 = .ok (.ireturn, 1) := by decide +kernel
theorem dX4_letter_14 : decode cX4_letter 14 = .ok (.aload_n 0, 1) := by decide +kernel
theorem dX4_letter_15 : decode cX4_letter 15 = .ok (.getfield 10, 3) := by decide +kernel
theorem dX4_letter_18 : decode cX4_letter 18 = .ok (.iload_n 1, 1) := by decide +kernel
theorem dX4_letter_19 : decode cX4_letter 19 = .ok (.invokevirtual 47, 3) := by decide +kernel
theorem dX4_letter_22 : decode cX4_letter 22 = .ok (.ireturn, 1) := by decide +kernel
theorem dX4_blank_0 : decode cX4_blank 0 = .ok (.aload_n 0, 1) := by decide +kernel
theorem dX4_blank_1 : decode cX4_blank 1 = .ok (.getfield 10, 3) := by decide +kernel
theorem dX4_blank_4 : decode cX4_blank 4 = .ok (.getfield 51, 3) := by decide +kernel
theorem dX4_blank_7 : decode cX4_blank 7 = .ok (.istore_n 1, 1) := by decide +kernel
theorem dX4_blank_8 : decode cX4_blank 8 = .ok (.aload_n 0, 1) := by decide +kernel
theorem dX4_blank_9 : decode cX4_blank 9 = .ok (.getfield 10, 3) := by decide +kernel
theorem dX4_blank_12 : decode cX4_blank 12 = .ok (.iconst 0, 1) := by decide +kernel
theorem dX4_blank_13 : decode cX4_blank 13 = .ok (.putfield 51, 3) := by decide +kernel
theorem dX4_blank_16 : decode cX4_blank 16 = .ok (.iload_n 1, 1) := by decide +kernel
theorem dX4_blank_17 : decode cX4_blank 17 = .ok (.ireturn, 1) := by decide +kernel
set_option maxRecDepth 20000 in
theorem ggX4_fault_X2_firstFault : GoodIn wsX4_fault wsX2_firstFault := goodIn_r _ [6, 7, 8, 9, 10, 5, 11, 12, 13, 14, 15, 16, 17, 18, 19, 20, 21, 22, 23, 24, 25, 26, 27, 28, 29, 30, 31, 32, 33, 34, 35, 36, 37, 38, 39, 40, 41, 42, 43, 44, 45, 46, 47, 48, 49, 50, 51, 52, 53, 54, 55, 56, 57, 58, 59, 60, 61, 62, 63, 64, 65, 66, 67, 68, 69, 70, 71, 72, 73, 74, 75, 76, 77, 78, 79, 80, 81, 82, 83, 84, 85, 86, 87, 88, 89, 90, 91, 92, 93, 94, 95, 96, 97, 98, 99, 100, 111, 112] (by decide +kernel) (by decide +kernel)
set_option maxRecDepth 20000 in
theorem gX4_fault_X2_firstFault : GoodIn wsX4_fault (wsV RX4 55 RX2 yX2_firstFault wsX2_firstFault) := goodIn_app (goodIn_of _ (by decide +kernel)) ggX4_fault_X2_firstFault
theorem dX4_fault_0 : decode cX4_fault 0 = .ok (.aload_n 0, 1) := by decide +kernel
theorem dX4_fault_1 : decode cX4_fault 1 = .ok (.getfield 10, 3) := by decide +kernel
theorem dX4_fault_4 : decode cX4_fault 4 = .ok (.invokevirtual 55, 3) := by decide +kernel
theorem dX4_fault_7 : decode cX4_fault 7 = .ok (.ireturn, 1) := by decide +kernel
set_option maxRecDepth 20000 in
theorem ggX4_office_X2_isOffice : GoodIn wsX4_office wsX2_isOffice := goodIn_r _ [12, 13, 14, 15, 16, 11, 17, 18, 19, 20, 21, 22, 23, 24, 25, 26, 27, 28, 29, 30, 31, 32, 33, 34, 35, 36, 37, 38, 39, 40, 41, 42, 43, 44, 45, 46, 47, 48, 49, 50, 51, 52, 53, 54, 55, 56, 57, 58, 59, 60, 61, 62, 63, 64, 65, 66, 67, 68, 69, 70, 71, 72, 73, 74, 75, 76, 77, 78, 79, 80, 81, 82, 83, 84, 85, 86, 87, 88, 89, 90, 91, 92, 93, 94, 95, 96, 97, 98, 99, 100, 101, 102, 103, 104, 105, 106, 107, 108, 109, 110, 156, 157] (by decide +kernel) (by decide +kernel)
set_option maxRecDepth 20000 in
theorem gX4_office_X2_isOffice : GoodIn wsX4_office (wsV RX4 59 RX2 yX2_isOffice wsX2_isOffice) := goodIn_app (goodIn_of _ (by decide +kernel)) ggX4_office_X2_isOffice
set_option maxRecDepth 20000 in
theorem ggX4_office_X1_read : GoodIn wsX4_office wsX1_read := goodIn_r _ [115, 116, 117, 55, 52, 56, 118, 119, 120, 121, 122, 123, 23, 24, 25, 26, 27, 28, 29, 30, 31, 32, 33, 34, 35, 36, 37, 38, 39, 40, 41, 42, 43, 44, 45, 46, 47, 48, 49, 50, 51, 53, 54, 57, 58, 59, 60, 61, 62, 63, 64, 65, 66, 67, 68, 69, 70, 71, 72, 73, 74, 75, 76, 77, 78, 79, 80, 81, 82, 83, 84, 85, 86, 87, 88, 89, 90, 91, 92, 93, 94, 95, 96, 97, 98, 99, 100, 101, 102, 103, 104, 105, 106, 107, 108, 109, 110, 124, 125, 114, 126, 127, 128, 129, 130, 156, 157, 158, 159, 160, 161] (by decide +kernel) (by decide +kernel)
set_option maxRecDepth 20000 in
theorem gX4_office_X1_read : GoodIn wsX4_office (wsV RX4 63 RX1 yX1_read wsX1_read) := goodIn_app (goodIn_of _ (by decide +kernel)) ggX4_office_X1_read
set_option maxRecDepth 20000 in
theorem ggX4_office_X0_begin : GoodIn wsX4_office wsX0_begin := goodIn_r _ [135, 136, 137, 138, 139, 140, 141, 134, 142, 143, 144, 145, 162, 163, 164, 165, 166, 167, 168, 169, 170] (by decide +kernel) (by decide +kernel)
set_option maxRecDepth 20000 in
theorem gX4_office_X0_begin : GoodIn wsX4_office (wsV RX4 67 RX0 yX0_begin wsX0_begin) := goodIn_app (goodIn_of _ (by decide +kernel)) ggX4_office_X0_begin
theorem dX4_office_0 : decode cX4_office 0 = .ok (.aload_n 0, 1) := by decide +kernel
theorem dX4_office_1 : decode cX4_office 1 = .ok (.getfield 10, 3) := by decide +kernel
theorem dX4_office_4 : decode cX4_office 4 = .ok (.invokevirtual 59, 3) := by decide +kernel
theorem dX4_office_7 : decode cX4_office 7 = .ok (.ifCond .ne 6, 3) := by decide +kernel
theorem dX4_office_10 : decode cX4_office 10 = .ok (.bipush (-103), 2) := by decide +kernel
theorem dX4_office_12 : decode cX4_office 12 = .ok (.ireturn, 1) := by decide +kernel
theorem dX4_office_13 : decode cX4_office 13 = .ok (.aload_n 0, 1) := by decide +kernel
theorem dX4_office_14 : decode cX4_office 14 = .ok (.getfield 19, 3) := by decide +kernel
theorem dX4_office_17 : decode cX4_office 17 = .ok (.aload_n 0, 1) := by decide +kernel
theorem dX4_office_18 : decode cX4_office 18 = .ok (.getfield 10, 3) := by decide +kernel
theorem dX4_office_21 : decode cX4_office 21 = .ok (.invokevirtual 63, 3) := by decide +kernel
theorem dX4_office_24 : decode cX4_office 24 = .ok (.aload_n 0, 1) := by decide +kernel
theorem dX4_office_25 : decode cX4_office 25 = .ok (.getfield 10, 3) := by decide +kernel
theorem dX4_office_28 : decode cX4_office 28 = .ok (.iconst 0, 1) := by decide +kernel
theorem dX4_office_29 : decode cX4_office 29 = .ok (.putfield 51, 3) := by decide +kernel
theorem dX4_office_32 : decode cX4_office 32 = .ok (.aload_n 0, 1) := by decide +kernel
theorem dX4_office_33 : decode cX4_office 33 = .ok (.getfield 26, 3) := by decide +kernel
theorem dX4_office_36 : decode cX4_office 36 = .ok (.invokevirtual 67, 3) := by decide +kernel
theorem dX4_office_39 : decode cX4_office 39 = .ok (.aload_n 0, 1) := by decide +kernel
theorem dX4_office_40 : decode cX4_office 40 = .ok (.iconst 0, 1) := by decide +kernel
theorem dX4_office_41 : decode cX4_office 41 = .ok (.putfield 70, 3) := by decide +kernel
theorem dX4_office_44 : decode cX4_office 44 = .ok (.aload_n 0, 1) := by decide +kernel
theorem dX4_office_45 : decode cX4_office 45 = .ok (.dup, 1) := by decide +kernel
theorem dX4_office_46 : decode cX4_office 46 = .ok (.getfield 74, 3) := by decide +kernel
theorem dX4_office_49 : decode cX4_office 49 = .ok (.iconst 1, 1) := by decide +kernel
theorem dX4_office_50 : decode cX4_office 50 = .ok (.iadd, 1) := by decide +kernel
theorem dX4_office_51 : decode cX4_office 51 = .ok (.putfield 74, 3) := by decide +kernel
theorem dX4_office_54 : decode cX4_office 54 = .ok (.aload_n 0, 1) := by decide +kernel
theorem dX4_office_55 : decode cX4_office 55 = .ok (.getfield 19, 3) := by decide +kernel
theorem dX4_office_58 : decode cX4_office 58 = .ok (.getfield 77, 3) := by decide +kernel
theorem dX4_office_61 : decode cX4_office 61 = .ok (.ireturn, 1) := by decide +kernel
set_option maxRecDepth 20000 in
theorem ggX4_lamp_X4_isLamp : GoodIn wsX4_lamp wsX4_isLamp := goodIn_r _ [11, 1, 12, 30, 31, 32, 33, 34, 35, 36, 37, 38, 39, 40, 41, 42, 43] (by decide +kernel) (by decide +kernel)
set_option maxRecDepth 20000 in
theorem gX4_lamp_X4_isLamp : GoodIn wsX4_lamp (wsV RX4 80 RX4 yX4_isLamp wsX4_isLamp) := goodIn_app (goodIn_of _ (by decide +kernel)) ggX4_lamp_X4_isLamp
set_option maxRecDepth 20000 in
theorem ggX4_lamp_X1_left : GoodIn wsX4_lamp wsX1_left := goodIn_r _ [16] (by decide +kernel) (by decide +kernel)
set_option maxRecDepth 20000 in
theorem gX4_lamp_X1_left : GoodIn wsX4_lamp (va_wsS RX4 93 yX1_left wsX1_left) := goodIn_app (goodIn_of _ (by decide +kernel)) ggX4_lamp_X1_left
set_option maxRecDepth 20000 in
theorem ggX4_lamp_X0_peopleIn : GoodIn wsX4_lamp wsX0_peopleIn := goodIn_r _ [21, 22, 23, 44, 45, 46, 47, 48, 49, 50, 51, 52] (by decide +kernel) (by decide +kernel)
set_option maxRecDepth 20000 in
theorem gX4_lamp_X0_peopleIn : GoodIn wsX4_lamp (wsV RX4 100 RX0 yX0_peopleIn wsX0_peopleIn) := goodIn_app (goodIn_of _ (by decide +kernel)) ggX4_lamp_X0_peopleIn
set_option maxRecDepth 20000 in
theorem ggX4_lamp_X1_seeing : GoodIn wsX4_lamp wsX1_seeing := goodIn_r _ [27, 28, 29, 40, 41, 42, 43] (by decide +kernel) (by decide +kernel)
set_option maxRecDepth 20000 in
theorem gX4_lamp_X1_seeing : GoodIn wsX4_lamp (wsV RX4 103 RX1 yX1_seeing wsX1_seeing) := goodIn_app (goodIn_of _ (by decide +kernel)) ggX4_lamp_X1_seeing
theorem dX4_lamp_0 : decode cX4_lamp 0 = .ok (.aload_n 0, 1) := by decide +kernel
theorem dX4_lamp_1 : decode cX4_lamp 1 = .ok (.iload_n 1, 1) := by decide +kernel
theorem dX4_lamp_2 : decode cX4_lamp 2 = .ok (.invokevirtual 80, 3) := by decide +kernel
theorem dX4_lamp_5 : decode cX4_lamp 5 = .ok (.ifCond .ne 6, 3) := by decide +kernel
theorem dX4_lamp_8 : decode cX4_lamp 8 = .ok (.bipush (-101), 2) := by decide +kernel
theorem dX4_lamp_10 : decode cX4_lamp 10 = .ok (.ireturn, 1) := by decide +kernel
theorem dX4_lamp_11 : decode cX4_lamp 11 = .ok (.iload_n 2, 1) := by decide +kernel
theorem dX4_lamp_12 : decode cX4_lamp 12 = .ok (.tableswitch 100 0 5 #[40, 50, 60, 72, 82, 91], 40) := by decide +kernel
theorem dX4_lamp_52 : decode cX4_lamp 52 = .ok (.aload_n 0, 1) := by decide +kernel
theorem dX4_lamp_53 : decode cX4_lamp 53 = .ok (.getfield 19, 3) := by decide +kernel
theorem dX4_lamp_56 : decode cX4_lamp 56 = .ok (.getfield 84, 3) := by decide +kernel
theorem dX4_lamp_59 : decode cX4_lamp 59 = .ok (.iload_n 1, 1) := by decide +kernel
theorem dX4_lamp_60 : decode cX4_lamp 60 = .ok (.iaload, 1) := by decide +kernel
theorem dX4_lamp_61 : decode cX4_lamp 61 = .ok (.ireturn, 1) := by decide +kernel
theorem dX4_lamp_62 : decode cX4_lamp 62 = .ok (.aload_n 0, 1) := by decide +kernel
theorem dX4_lamp_63 : decode cX4_lamp 63 = .ok (.getfield 19, 3) := by decide +kernel
theorem dX4_lamp_66 : decode cX4_lamp 66 = .ok (.getfield 87, 3) := by decide +kernel
theorem dX4_lamp_69 : decode cX4_lamp 69 = .ok (.iload_n 1, 1) := by decide +kernel
theorem dX4_lamp_70 : decode cX4_lamp 70 = .ok (.iaload, 1) := by decide +kernel
theorem dX4_lamp_71 : decode cX4_lamp 71 = .ok (.ireturn, 1) := by decide +kernel
theorem dX4_lamp_72 : decode cX4_lamp 72 = .ok (.aload_n 0, 1) := by decide +kernel
theorem dX4_lamp_73 : decode cX4_lamp 73 = .ok (.getfield 26, 3) := by decide +kernel
theorem dX4_lamp_76 : decode cX4_lamp 76 = .ok (.getfield 90, 3) := by decide +kernel
theorem dX4_lamp_79 : decode cX4_lamp 79 = .ok (.iload_n 1, 1) := by decide +kernel
theorem dX4_lamp_80 : decode cX4_lamp 80 = .ok (.invokestatic 93, 3) := by decide +kernel
theorem dX4_lamp_83 : decode cX4_lamp 83 = .ok (.ireturn, 1) := by decide +kernel
theorem dX4_lamp_84 : decode cX4_lamp 84 = .ok (.aload_n 0, 1) := by decide +kernel
theorem dX4_lamp_85 : decode cX4_lamp 85 = .ok (.getfield 19, 3) := by decide +kernel
theorem dX4_lamp_88 : decode cX4_lamp 88 = .ok (.getfield 97, 3) := by decide +kernel
theorem dX4_lamp_91 : decode cX4_lamp 91 = .ok (.iload_n 1, 1) := by decide +kernel
theorem dX4_lamp_92 : decode cX4_lamp 92 = .ok (.iaload, 1) := by decide +kernel
theorem dX4_lamp_93 : decode cX4_lamp 93 = .ok (.ireturn, 1) := by decide +kernel
theorem dX4_lamp_94 : decode cX4_lamp 94 = .ok (.aload_n 0, 1) := by decide +kernel
theorem dX4_lamp_95 : decode cX4_lamp 95 = .ok (.getfield 26, 3) := by decide +kernel
theorem dX4_lamp_98 : decode cX4_lamp 98 = .ok (.iload_n 1, 1) := by decide +kernel
theorem dX4_lamp_99 : decode cX4_lamp 99 = .ok (.invokevirtual 100, 3) := by decide +kernel
theorem dX4_lamp_102 : decode cX4_lamp 102 = .ok (.ireturn, 1) := by decide +kernel
theorem dX4_lamp_103 : decode cX4_lamp 103 = .ok (.aload_n 0, 1) := by decide +kernel
theorem dX4_lamp_104 : decode cX4_lamp 104 = .ok (.getfield 19, 3) := by decide +kernel
theorem dX4_lamp_107 : decode cX4_lamp 107 = .ok (.iload_n 1, 1) := by decide +kernel
theorem dX4_lamp_108 : decode cX4_lamp 108 = .ok (.invokevirtual 103, 3) := by decide +kernel
theorem dX4_lamp_111 : decode cX4_lamp 111 = .ok (.ireturn, 1) := by decide +kernel
theorem dX4_lamp_112 : decode cX4_lamp 112 = .ok (.bipush (-102), 2) := by decide +kernel
theorem dX4_lamp_114 : decode cX4_lamp 114 = .ok (.ireturn, 1) := by decide +kernel
set_option maxRecDepth 20000 in
theorem ggX4_as_X4_isLamp : GoodIn wsX4_as wsX4_isLamp := goodIn_r _ [6, 1, 7, 14, 15, 16, 17, 18, 19, 20, 21, 22, 23, 24, 25, 26, 27] (by decide +kernel) (by decide +kernel)
set_option maxRecDepth 20000 in
theorem gX4_as_X4_isLamp : GoodIn wsX4_as (wsV RX4 80 RX4 yX4_isLamp wsX4_isLamp) := goodIn_app (goodIn_of _ (by decide +kernel)) ggX4_as_X4_isLamp
set_option maxRecDepth 20000 in
theorem ggX4_as_X1_isOf : GoodIn wsX4_as wsX1_isOf := goodIn_r _ [12, 13, 24, 25, 26, 27] (by decide +kernel) (by decide +kernel)
set_option maxRecDepth 20000 in
theorem gX4_as_X1_isOf : GoodIn wsX4_as (wsV RX4 106 RX1 yX1_isOf wsX1_isOf) := goodIn_app (goodIn_of _ (by decide +kernel)) ggX4_as_X1_isOf
theorem dX4_as_0 : decode cX4_as 0 = .ok (.aload_n 0, 1) := by decide +kernel
theorem dX4_as_1 : decode cX4_as 1 = .ok (.iload_n 1, 1) := by decide +kernel
theorem dX4_as_2 : decode cX4_as 2 = .ok (.invokevirtual 80, 3) := by decide +kernel
theorem dX4_as_5 : decode cX4_as 5 = .ok (.ifCond .ne 6, 3) := by decide +kernel
theorem dX4_as_8 : decode cX4_as 8 = .ok (.bipush (-101), 2) := by decide +kernel
theorem dX4_as_10 : decode cX4_as 10 = .ok (.ireturn, 1) := by decide +kernel
theorem dX4_as_11 : decode cX4_as 11 = .ok (.iload_n 2, 1) := by decide +kernel
theorem dX4_as_12 : decode cX4_as 12 = .ok (.ifCond .lt 8, 3) := by decide +kernel
theorem dX4_as_15 : decode cX4_as 15 = .ok (.iload_n 2, 1) := by decide +kernel
theorem dX4_as_16 : decode cX4_as 16 = .ok (.iconst 5, 1) := by decide +kernel
theorem dX4_as_17 : decode cX4_as 17 = .ok (.if_icmp .lt 6, 3) := by decide +kernel
theorem dX4_as_20 : decode cX4_as 20 = .ok (.bipush (-102), 2) := by decide +kernel
theorem dX4_as_22 : decode cX4_as 22 = .ok (.ireturn, 1) := by decide +kernel
theorem dX4_as_23 : decode cX4_as 23 = .ok (.aload_n 0, 1) := by decide +kernel
theorem dX4_as_24 : decode cX4_as 24 = .ok (.getfield 19, 3) := by decide +kernel
theorem dX4_as_27 : decode cX4_as 27 = .ok (.iload_n 1, 1) := by decide +kernel
theorem dX4_as_28 : decode cX4_as 28 = .ok (.iload_n 2, 1) := by decide +kernel
theorem dX4_as_29 : decode cX4_as 29 = .ok (.invokevirtual 106, 3) := by decide +kernel
theorem dX4_as_32 : decode cX4_as 32 = .ok (.ifCond .eq 7, 3) := by decide +kernel
theorem dX4_as_35 : decode cX4_as 35 = .ok (.iload_n 1, 1) := by decide +kernel
theorem dX4_as_36 : decode cX4_as 36 = .ok (.goto 4, 3) := by decide +kernel
theorem dX4_as_39 : decode cX4_as 39 = .ok (.iconst (-1), 1) := by decide +kernel
theorem dX4_as_40 : decode cX4_as 40 = .ok (.ireturn, 1) := by decide +kernel
set_option maxRecDepth 20000 in
theorem ggX4_person_X4_isLamp : GoodIn wsX4_person wsX4_isLamp := goodIn_r _ [6, 7, 8, 18, 19, 20, 21, 22, 23, 24, 25, 26, 27, 28, 29, 30, 31] (by decide +kernel) (by decide +kernel)
set_option maxRecDepth 20000 in
theorem gX4_person_X4_isLamp : GoodIn wsX4_person (wsV RX4 80 RX4 yX4_isLamp wsX4_isLamp) := goodIn_app (goodIn_of _ (by decide +kernel)) ggX4_person_X4_isLamp
set_option maxRecDepth 20000 in
theorem ggX4_person_X0_seat : GoodIn wsX4_person wsX0_seat := goodIn_r _ [13, 14, 15, 16, 17, 32, 33, 34, 35, 36, 37, 38, 39, 40] (by decide +kernel) (by decide +kernel)
set_option maxRecDepth 20000 in
theorem gX4_person_X0_seat : GoodIn wsX4_person (wsV RX4 110 RX0 yX0_seat wsX0_seat) := goodIn_app (goodIn_of _ (by decide +kernel)) ggX4_person_X0_seat
theorem dX4_person_0 : decode cX4_person 0 = .ok (.aload_n 0, 1) := by decide +kernel
theorem dX4_person_1 : decode cX4_person 1 = .ok (.iload_n 1, 1) := by decide +kernel
theorem dX4_person_2 : decode cX4_person 2 = .ok (.invokevirtual 80, 3) := by decide +kernel
theorem dX4_person_5 : decode cX4_person 5 = .ok (.ifCond .ne 6, 3) := by decide +kernel
theorem dX4_person_8 : decode cX4_person 8 = .ok (.bipush (-101), 2) := by decide +kernel
theorem dX4_person_10 : decode cX4_person 10 = .ok (.ireturn, 1) := by decide +kernel
theorem dX4_person_11 : decode cX4_person 11 = .ok (.aload_n 0, 1) := by decide +kernel
theorem dX4_person_12 : decode cX4_person 12 = .ok (.getfield 26, 3) := by decide +kernel
theorem dX4_person_15 : decode cX4_person 15 = .ok (.iload_n 1, 1) := by decide +kernel
theorem dX4_person_16 : decode cX4_person 16 = .ok (.invokevirtual 110, 3) := by decide +kernel
theorem dX4_person_19 : decode cX4_person 19 = .ok (.ireturn, 1) := by decide +kernel
set_option maxRecDepth 20000 in
theorem ggX4_about_X4_isPerson : GoodIn wsX4_about wsX4_isPerson := goodIn_r _ [10, 1, 11, 16, 17, 18, 19, 20, 21, 22, 23, 24, 25, 26, 27, 28, 29, 30, 31, 32, 33, 34] (by decide +kernel) (by decide +kernel)
set_option maxRecDepth 20000 in
theorem gX4_about_X4_isPerson : GoodIn wsX4_about (wsV RX4 113 RX4 yX4_isPerson wsX4_isPerson) := goodIn_app (goodIn_of _ (by decide +kernel)) ggX4_about_X4_isPerson
set_option maxRecDepth 20000 in
theorem ggX4_about_X1_left : GoodIn wsX4_about wsX1_left := goodIn_r _ [15] (by decide +kernel) (by decide +kernel)
set_option maxRecDepth 20000 in
theorem gX4_about_X1_left : GoodIn wsX4_about (va_wsS RX4 93 yX1_left wsX1_left) := goodIn_app (goodIn_of _ (by decide +kernel)) ggX4_about_X1_left
theorem dX4_about_0 : decode cX4_about 0 = .ok (.aload_n 0, 1) := by decide +kernel
theorem dX4_about_1 : decode cX4_about 1 = .ok (.iload_n 1, 1) := by decide +kernel
theorem dX4_about_2 : decode cX4_about 2 = .ok (.invokevirtual 113, 3) := by decide +kernel
theorem dX4_about_5 : decode cX4_about 5 = .ok (.ifCond .ne 6, 3) := by decide +kernel
theorem dX4_about_8 : decode cX4_about 8 = .ok (.bipush (-101), 2) := by decide +kernel
theorem dX4_about_10 : decode cX4_about 10 = .ok (.ireturn, 1) := by decide +kernel
theorem dX4_about_11 : decode cX4_about 11 = .ok (.iload_n 2, 1) := by decide +kernel
theorem dX4_about_12 : decode cX4_about 12 = .ok (.tableswitch 90 0 3 #[32, 42, 70, 80], 32) := by decide +kernel
theorem dX4_about_44 : decode cX4_about 44 = .ok (.aload_n 0, 1) := by decide +kernel
theorem dX4_about_45 : decode cX4_about 45 = .ok (.getfield 26, 3) := by decide +kernel
theorem dX4_about_48 : decode cX4_about 48 = .ok (.getfield 116, 3) := by decide +kernel
theorem dX4_about_51 : decode cX4_about 51 = .ok (.iload_n 1, 1) := by decide +kernel
theorem dX4_about_52 : decode cX4_about 52 = .ok (.iaload, 1) := by decide +kernel
theorem dX4_about_53 : decode cX4_about 53 = .ok (.ireturn, 1) := by decide +kernel
theorem dX4_about_54 : decode cX4_about 54 = .ok (.aload_n 0, 1) := by decide +kernel
theorem dX4_about_55 : decode cX4_about 55 = .ok (.getfield 26, 3) := by decide +kernel
theorem dX4_about_58 : decode cX4_about 58 = .ok (.getfield 90, 3) := by decide +kernel
theorem dX4_about_61 : decode cX4_about 61 = .ok (.aload_n 0, 1) := by decide +kernel
theorem dX4_about_62 : decode cX4_about 62 = .ok (.getfield 26, 3) := by decide +kernel
theorem dX4_about_65 : decode cX4_about 65 = .ok (.getfield 116, 3) := by decide +kernel
theorem dX4_about_68 : decode cX4_about 68 = .ok (.iload_n 1, 1) := by decide +kernel
theorem dX4_about_69 : decode cX4_about 69 = .ok (.iaload, 1) := by decide +kernel
theorem dX4_about_70 : decode cX4_about 70 = .ok (.invokestatic 93, 3) := by decide +kernel
theorem dX4_about_73 : decode cX4_about 73 = .ok (.ifCond .le 7, 3) := by decide +kernel
theorem dX4_about_76 : decode cX4_about 76 = .ok (.iconst 1, 1) := by decide +kernel
theorem dX4_about_77 : decode cX4_about 77 = .ok (.goto 4, 3) := by decide +kernel
theorem dX4_about_80 : decode cX4_about 80 = .ok (.iconst 0, 1) := by decide +kernel
theorem dX4_about_81 : decode cX4_about 81 = .ok (.ireturn, 1) := by decide +kernel
theorem dX4_about_82 : decode cX4_about 82 = .ok (.aload_n 0, 1) := by decide +kernel
theorem dX4_about_83 : decode cX4_about 83 = .ok (.getfield 26, 3) := by decide +kernel
theorem dX4_about_86 : decode cX4_about 86 = .ok (.getfield 119, 3) := by decide +kernel
theorem dX4_about_89 : decode cX4_about 89 = .ok (.iload_n 1, 1) := by decide +kernel
theorem dX4_about_90 : decode cX4_about 90 = .ok (.iaload, 1) := by decide +kernel
theorem dX4_about_91 : decode cX4_about 91 = .ok (.ireturn, 1) := by decide +kernel
theorem dX4_about_92 : decode cX4_about 92 = .ok (.aload_n 0, 1) := by decide +kernel
theorem dX4_about_93 : decode cX4_about 93 = .ok (.getfield 26, 3) := by decide +kernel
theorem dX4_about_96 : decode cX4_about 96 = .ok (.getfield 122, 3) := by decide +kernel
theorem dX4_about_99 : decode cX4_about 99 = .ok (.iload_n 1, 1) := by decide +kernel
theorem dX4_about_100 : decode cX4_about 100 = .ok (.iaload, 1) := by decide +kernel
theorem dX4_about_101 : decode cX4_about 101 = .ok (.ireturn, 1) := by decide +kernel
theorem dX4_about_102 : decode cX4_about 102 = .ok (.bipush (-102), 2) := by decide +kernel
theorem dX4_about_104 : decode cX4_about 104 = .ok (.ireturn, 1) := by decide +kernel
set_option maxRecDepth 20000 in
theorem ggX4_move_X4_isPerson : GoodIn wsX4_move wsX4_isPerson := goodIn_r _ [7, 1, 8, 15, 16, 17, 18, 19, 20, 21, 22, 23, 24, 25, 26, 27, 28, 29, 30, 31, 32, 33] (by decide +kernel) (by decide +kernel)
set_option maxRecDepth 20000 in
theorem gX4_move_X4_isPerson : GoodIn wsX4_move (wsV RX4 113 RX4 yX4_isPerson wsX4_isPerson) := goodIn_app (goodIn_of _ (by decide +kernel)) ggX4_move_X4_isPerson
set_option maxRecDepth 20000 in
theorem ggX4_move_X4_isLamp : GoodIn wsX4_move wsX4_isLamp := goodIn_r _ [12, 13, 14, 15, 16, 17, 18, 19, 20, 21, 22, 23, 24, 34, 35, 36, 37] (by decide +kernel) (by decide +kernel)
set_option maxRecDepth 20000 in
theorem gX4_move_X4_isLamp : GoodIn wsX4_move (wsV RX4 80 RX4 yX4_isLamp wsX4_isLamp) := goodIn_app (goodIn_of _ (by decide +kernel)) ggX4_move_X4_isLamp
theorem dX4_move_0 : decode cX4_move 0 = .ok (.aload_n 0, 1) := by decide +kernel
theorem dX4_move_1 : decode cX4_move 1 = .ok (.iload_n 1, 1) := by decide +kernel
theorem dX4_move_2 : decode cX4_move 2 = .ok (.invokevirtual 113, 3) := by decide +kernel
theorem dX4_move_5 : decode cX4_move 5 = .ok (.ifCond .eq 11, 3) := by decide +kernel
theorem dX4_move_8 : decode cX4_move 8 = .ok (.aload_n 0, 1) := by decide +kernel
theorem dX4_move_9 : decode cX4_move 9 = .ok (.iload_n 2, 1) := by decide +kernel
theorem dX4_move_10 : decode cX4_move 10 = .ok (.invokevirtual 80, 3) := by decide +kernel
theorem dX4_move_13 : decode cX4_move 13 = .ok (.ifCond .ne 6, 3) := by decide +kernel
theorem dX4_move_16 : decode cX4_move 16 = .ok (.bipush (-101), 2) := by decide +kernel
theorem dX4_move_18 : decode cX4_move 18 = .ok (.ireturn, 1) := by decide +kernel
theorem dX4_move_19 : decode cX4_move 19 = .ok (.aload_n 0, 1) := by decide +kernel
theorem dX4_move_20 : decode cX4_move 20 = .ok (.getfield 26, 3) := by decide +kernel
theorem dX4_move_23 : decode cX4_move 23 = .ok (.getfield 116, 3) := by decide +kernel
theorem dX4_move_26 : decode cX4_move 26 = .ok (.iload_n 1, 1) := by decide +kernel
theorem dX4_move_27 : decode cX4_move 27 = .ok (.iaload, 1) := by decide +kernel
theorem dX4_move_28 : decode cX4_move 28 = .ok (.istore_n 3, 1) := by decide +kernel
theorem dX4_move_29 : decode cX4_move 29 = .ok (.aload_n 0, 1) := by decide +kernel
theorem dX4_move_30 : decode cX4_move 30 = .ok (.getfield 26, 3) := by decide +kernel
theorem dX4_move_33 : decode cX4_move 33 = .ok (.getfield 116, 3) := by decide +kernel
theorem dX4_move_36 : decode cX4_move 36 = .ok (.iload_n 1, 1) := by decide +kernel
theorem dX4_move_37 : decode cX4_move 37 = .ok (.iload_n 2, 1) := by decide +kernel
theorem dX4_move_38 : decode cX4_move 38 = .ok (.iastore, 1) := by decide +kernel
theorem dX4_move_39 : decode cX4_move 39 = .ok (.iload_n 3, 1) := by decide +kernel
theorem dX4_move_40 : decode cX4_move 40 = .ok (.ireturn, 1) := by decide +kernel
set_option maxRecDepth 20000 in
theorem ggX4_minute_X4_hasOffice : GoodIn wsX4_minute wsX4_hasOffice := goodIn_r _ [10, 3, 11, 48, 49, 50, 51, 52, 53, 54, 55, 56, 57, 67, 68, 69, 70] (by decide +kernel) (by decide +kernel)
set_option maxRecDepth 20000 in
theorem gX4_minute_X4_hasOffice : GoodIn wsX4_minute (wsV RX4 128 RX4 yX4_hasOffice wsX4_hasOffice) := goodIn_app (goodIn_of _ (by decide +kernel)) ggX4_minute_X4_hasOffice
set_option maxRecDepth 20000 in
theorem ggX4_minute_X0_stirred : GoodIn wsX4_minute wsX0_stirred := goodIn_r _ [16, 17, 18, 58, 59, 60, 61, 62, 63, 64, 65, 66] (by decide +kernel) (by decide +kernel)
set_option maxRecDepth 20000 in
theorem gX4_minute_X0_stirred : GoodIn wsX4_minute (wsV RX4 131 RX0 yX0_stirred wsX0_stirred) := goodIn_app (goodIn_of _ (by decide +kernel)) ggX4_minute_X0_stirred
set_option maxRecDepth 20000 in
theorem ggX4_minute_X1_after : GoodIn wsX4_minute wsX1_after := goodIn_r _ [23, 24, 25, 26, 27, 28, 29, 30, 31, 32, 22, 33, 67, 68, 69, 70] (by decide +kernel) (by decide +kernel)
set_option maxRecDepth 20000 in
theorem gX4_minute_X1_after : GoodIn wsX4_minute (wsV RX4 134 RX1 yX1_after wsX1_after) := goodIn_app (goodIn_of _ (by decide +kernel)) ggX4_minute_X1_after
set_option maxRecDepth 20000 in
theorem ggX4_minute_X1_litOnes : GoodIn wsX4_minute wsX1_litOnes := goodIn_r _ [37, 24, 31, 32, 22, 33, 67, 68, 69, 70] (by decide +kernel) (by decide +kernel)
set_option maxRecDepth 20000 in
theorem gX4_minute_X1_litOnes : GoodIn wsX4_minute (wsV RX4 140 RX1 yX1_litOnes wsX1_litOnes) := goodIn_app (goodIn_of _ (by decide +kernel)) ggX4_minute_X1_litOnes
set_option maxRecDepth 20000 in
theorem ggX4_minute_X0_write : GoodIn wsX4_minute wsX0_write := goodIn_r _ [41, 17, 42, 43, 18, 58, 59, 60, 61, 62, 63, 64, 65, 66] (by decide +kernel) (by decide +kernel)
set_option maxRecDepth 20000 in
theorem gX4_minute_X0_write : GoodIn wsX4_minute (wsV RX4 143 RX0 yX0_write wsX0_write) := goodIn_app (goodIn_of _ (by decide +kernel)) ggX4_minute_X0_write
set_option maxRecDepth 20000 in
theorem ggX4_minute_X0_inDark : GoodIn wsX4_minute wsX0_inDark := goodIn_r _ [47, 17, 18, 58, 59, 60, 61, 62, 63, 64, 65, 66] (by decide +kernel) (by decide +kernel)
set_option maxRecDepth 20000 in
theorem gX4_minute_X0_inDark : GoodIn wsX4_minute (wsV RX4 147 RX0 yX0_inDark wsX0_inDark) := goodIn_app (goodIn_of _ (by decide +kernel)) ggX4_minute_X0_inDark
theorem dX4_minute_0 : decode cX4_minute 0 = .ok (.iload_n 1, 1) := by decide +kernel
theorem dX4_minute_1 : decode cX4_minute 1 = .ok (.aload_n 0, 1) := by decide +kernel
theorem dX4_minute_2 : decode cX4_minute 2 = .ok (.getfield 26, 3) := by decide +kernel
theorem dX4_minute_5 : decode cX4_minute 5 = .ok (.getfield 125, 3) := by decide +kernel
theorem dX4_minute_8 : decode cX4_minute 8 = .ok (.ishr, 1) := by decide +kernel
theorem dX4_minute_9 : decode cX4_minute 9 = .ok (.ifCond .eq 6, 3) := by decide +kernel
theorem dX4_minute_12 : decode cX4_minute 12 = .ok (.bipush (-102), 2) := by decide +kernel
theorem dX4_minute_14 : decode cX4_minute 14 = .ok (.ireturn, 1) := by decide +kernel
theorem dX4_minute_15 : decode cX4_minute 15 = .ok (.aload_n 0, 1) := by decide +kernel
theorem dX4_minute_16 : decode cX4_minute 16 = .ok (.invokevirtual 128, 3) := by decide +kernel
theorem dX4_minute_19 : decode cX4_minute 19 = .ok (.ifCond .ne 6, 3) := by decide +kernel
theorem dX4_minute_22 : decode cX4_minute 22 = .ok (.bipush (-103), 2) := by decide +kernel
theorem dX4_minute_24 : decode cX4_minute 24 = .ok (.ireturn, 1) := by decide +kernel
theorem dX4_minute_25 : decode cX4_minute 25 = .ok (.aload_n 0, 1) := by decide +kernel
theorem dX4_minute_26 : decode cX4_minute 26 = .ok (.getfield 26, 3) := by decide +kernel
theorem dX4_minute_29 : decode cX4_minute 29 = .ok (.aload_n 0, 1) := by decide +kernel
theorem dX4_minute_30 : decode cX4_minute 30 = .ok (.getfield 19, 3) := by decide +kernel
theorem dX4_minute_33 : decode cX4_minute 33 = .ok (.aload_n 0, 1) := by decide +kernel
theorem dX4_minute_34 : decode cX4_minute 34 = .ok (.getfield 26, 3) := by decide +kernel
theorem dX4_minute_37 : decode cX4_minute 37 = .ok (.getfield 90, 3) := by decide +kernel
theorem dX4_minute_40 : decode cX4_minute 40 = .ok (.aload_n 0, 1) := by decide +kernel
theorem dX4_minute_41 : decode cX4_minute 41 = .ok (.getfield 26, 3) := by decide +kernel
theorem dX4_minute_44 : decode cX4_minute 44 = .ok (.iload_n 1, 1) := by decide +kernel
theorem dX4_minute_45 : decode cX4_minute 45 = .ok (.invokevirtual 131, 3) := by decide +kernel
theorem dX4_minute_48 : decode cX4_minute 48 = .ok (.invokevirtual 134, 3) := by decide +kernel
theorem dX4_minute_51 : decode cX4_minute 51 = .ok (.putfield 90, 3) := by decide +kernel
theorem dX4_minute_54 : decode cX4_minute 54 = .ok (.aload_n 0, 1) := by decide +kernel
theorem dX4_minute_55 : decode cX4_minute 55 = .ok (.getfield 26, 3) := by decide +kernel
theorem dX4_minute_58 : decode cX4_minute 58 = .ok (.dup, 1) := by decide +kernel
theorem dX4_minute_59 : decode cX4_minute 59 = .ok (.getfield 137, 3) := by decide +kernel
theorem dX4_minute_62 : decode cX4_minute 62 = .ok (.iconst 1, 1) := by decide +kernel
theorem dX4_minute_63 : decode cX4_minute 63 = .ok (.iadd, 1) := by decide +kernel
theorem dX4_minute_64 : decode cX4_minute 64 = .ok (.putfield 137, 3) := by decide +kernel
theorem dX4_minute_67 : decode cX4_minute 67 = .ok (.aload_n 0, 1) := by decide +kernel
theorem dX4_minute_68 : decode cX4_minute 68 = .ok (.getfield 26, 3) := by decide +kernel
theorem dX4_minute_71 : decode cX4_minute 71 = .ok (.iload_n 1, 1) := by decide +kernel
theorem dX4_minute_72 : decode cX4_minute 72 = .ok (.aload_n 0, 1) := by decide +kernel
theorem dX4_minute_73 : decode cX4_minute 73 = .ok (.getfield 19, 3) := by decide +kernel
theorem dX4_minute_76 : decode cX4_minute 76 = .ok (.aload_n 0, 1) := by decide +kernel
theorem dX4_minute_77 : decode cX4_minute 77 = .ok (.getfield 26, 3) := by decide +kernel
theorem dX4_minute_80 : decode cX4_minute 80 = .ok (.getfield 90, 3) := by decide +kernel
theorem dX4_minute_83 : decode cX4_minute 83 = .ok (.invokevirtual 140, 3) := by decide +kernel
theorem dX4_minute_86 : decode cX4_minute 86 = .ok (.invokevirtual 143, 3) := by decide +kernel
theorem dX4_minute_89 : decode cX4_minute 89 = .ok (.aload_n 0, 1) := by decide +kernel
theorem dX4_minute_90 : decode cX4_minute 90 = .ok (.getfield 26, 3) := by decide +kernel
theorem dX4_minute_93 : decode cX4_minute 93 = .ok (.aload_n 0, 1) := by decide +kernel
theorem dX4_minute_94 : decode cX4_minute 94 = .ok (.getfield 19, 3) := by decide +kernel
theorem dX4_minute_97 : decode cX4_minute 97 = .ok (.aload_n 0, 1) := by decide +kernel
theorem dX4_minute_98 : decode cX4_minute 98 = .ok (.getfield 26, 3) := by decide +kernel
theorem dX4_minute_101 : decode cX4_minute 101 = .ok (.getfield 90, 3) := by decide +kernel
theorem dX4_minute_104 : decode cX4_minute 104 = .ok (.invokevirtual 140, 3) := by decide +kernel
theorem dX4_minute_107 : decode cX4_minute 107 = .ok (.invokevirtual 147, 3) := by decide +kernel
theorem dX4_minute_110 : decode cX4_minute 110 = .ok (.ireturn, 1) := by decide +kernel
set_option maxRecDepth 20000 in
theorem ggX4_least_X4_asksMinute : GoodIn wsX4_least wsX4_asksMinute := goodIn_r _ [5] (by decide +kernel) (by decide +kernel)
set_option maxRecDepth 20000 in
theorem gX4_least_X4_asksMinute : GoodIn wsX4_least (va_wsS RX4 150 yX4_asksMinute wsX4_asksMinute) := goodIn_app (goodIn_of _ (by decide +kernel)) ggX4_least_X4_asksMinute
set_option maxRecDepth 20000 in
theorem ggX4_least_X4_hasOffice : GoodIn wsX4_least wsX4_hasOffice := goodIn_r _ [9, 10, 11, 62, 63, 64, 65, 66, 67, 68, 69, 70, 71, 72, 73, 74, 75] (by decide +kernel) (by decide +kernel)
set_option maxRecDepth 20000 in
theorem gX4_least_X4_hasOffice : GoodIn wsX4_least (wsV RX4 128 RX4 yX4_hasOffice wsX4_hasOffice) := goodIn_app (goodIn_of _ (by decide +kernel)) ggX4_least_X4_hasOffice
set_option maxRecDepth 20000 in
theorem ggX4_least_X4_planWaving : GoodIn wsX4_least wsX4_planWaving := goodIn_r _ [15, 16, 17, 10, 1, 18, 19, 20, 4, 21, 22, 23, 24, 25, 26, 27, 28, 29, 30, 31, 32, 33, 34, 35, 36, 37, 38, 39, 40, 41, 42, 43, 44, 45, 46, 47, 48, 49, 50, 51, 52, 53, 54, 55, 56, 57, 58, 62, 63, 64, 65, 66, 67, 68, 69, 70, 71, 76, 77, 78, 79, 80, 81, 82, 83, 84, 72, 73, 74, 75] (by decide +kernel) (by decide +kernel)
set_option maxRecDepth 20000 in
theorem gX4_least_X4_planWaving : GoodIn wsX4_least (wsV RX4 153 RX4 yX4_planWaving wsX4_planWaving) := goodIn_app (goodIn_of _ (by decide +kernel)) ggX4_least_X4_planWaving
set_option maxRecDepth 20000 in
theorem ggX4_least_X4_ofMinute : GoodIn wsX4_least wsX4_ofMinute := goodIn_r _ [61] (by decide +kernel) (by decide +kernel)
set_option maxRecDepth 20000 in
theorem gX4_least_X4_ofMinute : GoodIn wsX4_least (va_wsS RX4 156 yX4_ofMinute wsX4_ofMinute) := goodIn_app (goodIn_of _ (by decide +kernel)) ggX4_least_X4_ofMinute
theorem dX4_least_0 : decode cX4_least 0 = .ok (.iload_n 1, 1) := by decide +kernel
theorem dX4_least_1 : decode cX4_least 1 = .ok (.iconst 1, 1) := by decide +kernel
theorem dX4_least_2 : decode cX4_least 2 = .ok (.if_icmp .lt 8, 3) := by decide +kernel
theorem dX4_least_5 : decode cX4_least 5 = .ok (.iload_n 1, 1) := by decide +kernel
theorem dX4_least_6 : decode cX4_least 6 = .ok (.iconst 3, 1) := by decide +kernel
theorem dX4_least_7 : decode cX4_least 7 = .ok (.if_icmp .le 6, 3) := by decide +kernel
theorem dX4_least_10 : decode cX4_least 10 = .ok (.bipush (-102), 2) := by decide +kernel
theorem dX4_least_12 : decode cX4_least 12 = .ok (.ireturn, 1) := by decide +kernel
theorem dX4_least_13 : decode cX4_least 13 = .ok (.iload_n 2, 1) := by decide +kernel
theorem dX4_least_14 : decode cX4_least 14 = .ok (.ifCond .eq 14, 3) := by decide +kernel
theorem dX4_least_17 : decode cX4_least 17 = .ok (.iload_n 2, 1) := by decide +kernel
theorem dX4_least_18 : decode cX4_least 18 = .ok (.iconst 3, 1) := by decide +kernel
theorem dX4_least_19 : decode cX4_least 19 = .ok (.invokestatic 150, 3) := by decide +kernel
theorem dX4_least_22 : decode cX4_least 22 = .ok (.ifCond .ne 6, 3) := by decide +kernel
theorem dX4_least_25 : decode cX4_least 25 = .ok (.bipush (-102), 2) := by decide +kernel
theorem dX4_least_27 : decode cX4_least 27 = .ok (.ireturn, 1) := by decide +kernel
theorem dX4_least_28 : decode cX4_least 28 = .ok (.aload_n 0, 1) := by decide +kernel
theorem dX4_least_29 : decode cX4_least 29 = .ok (.invokevirtual 128, 3) := by decide +kernel
theorem dX4_least_32 : decode cX4_least 32 = .ok (.ifCond .ne 6, 3) := by decide +kernel
theorem dX4_least_35 : decode cX4_least 35 = .ok (.bipush (-103), 2) := by decide +kernel
theorem dX4_least_37 : decode cX4_least 37 = .ok (.ireturn, 1) := by decide +kernel
theorem dX4_least_38 : decode cX4_least 38 = .ok (.aload_n 0, 1) := by decide +kernel
theorem dX4_least_39 : decode cX4_least 39 = .ok (.iload_n 1, 1) := by decide +kernel
theorem dX4_least_40 : decode cX4_least 40 = .ok (.invokevirtual 153, 3) := by decide +kernel
theorem dX4_least_43 : decode cX4_least 43 = .ok (.istore_n 3, 1) := by decide +kernel
theorem dX4_least_44 : decode cX4_least 44 = .ok (.iload_n 2, 1) := by decide +kernel
theorem dX4_least_45 : decode cX4_least 45 = .ok (.ifCond .ne 7, 3) := by decide +kernel
theorem dX4_least_48 : decode cX4_least 48 = .ok (.iload_n 3, 1) := by decide +kernel
theorem dX4_least_49 : decode cX4_least 49 = .ok (.goto 12, 3) := by decide +kernel
theorem dX4_least_52 : decode cX4_least 52 = .ok (.aload_n 0, 1) := by decide +kernel
theorem dX4_least_53 : decode cX4_least 53 = .ok (.getfield 40, 3) := by decide +kernel
theorem dX4_least_56 : decode cX4_least 56 = .ok (.iload_n 1, 1) := by decide +kernel
theorem dX4_least_57 : decode cX4_least 57 = .ok (.iload_n 2, 1) := by decide +kernel
theorem dX4_least_58 : decode cX4_least 58 = .ok (.invokestatic 156, 3) := by decide +kernel
theorem dX4_least_61 : decode cX4_least 61 = .ok (.ireturn, 1) := by decide +kernel
set_option maxRecDepth 20000 in
theorem ggX4_round_X4_isLamp : GoodIn wsX4_round wsX4_isLamp := goodIn_r _ [7, 8, 9, 48, 49, 50, 51, 52, 53, 54, 55, 56, 57, 58, 59, 60, 61] (by decide +kernel) (by decide +kernel)
set_option maxRecDepth 20000 in
theorem gX4_round_X4_isLamp : GoodIn wsX4_round (wsV RX4 80 RX4 yX4_isLamp wsX4_isLamp) := goodIn_app (goodIn_of _ (by decide +kernel)) ggX4_round_X4_isLamp
set_option maxRecDepth 20000 in
theorem ggX4_round_X4_asksMinute : GoodIn wsX4_round wsX4_asksMinute := goodIn_r _ [12] (by decide +kernel) (by decide +kernel)
set_option maxRecDepth 20000 in
theorem gX4_round_X4_asksMinute : GoodIn wsX4_round (va_wsS RX4 150 yX4_asksMinute wsX4_asksMinute) := goodIn_app (goodIn_of _ (by decide +kernel)) ggX4_round_X4_asksMinute
set_option maxRecDepth 20000 in
theorem ggX4_round_X4_planRound : GoodIn wsX4_round wsX4_planRound := goodIn_r _ [16, 8, 2, 17, 18, 19, 20, 6, 21, 9, 22, 23, 24, 25, 26, 27, 28, 29, 30, 31, 32, 33, 34, 35, 36, 37, 38, 39, 40, 41, 42, 43, 44, 48, 49, 50, 51, 52, 53, 54, 55, 56, 57, 62, 63, 64, 65, 66, 67, 68, 69, 70, 58, 59, 60, 61] (by decide +kernel) (by decide +kernel)
set_option maxRecDepth 20000 in
theorem gX4_round_X4_planRound : GoodIn wsX4_round (wsV RX4 163 RX4 yX4_planRound wsX4_planRound) := goodIn_app (goodIn_of _ (by decide +kernel)) ggX4_round_X4_planRound
set_option maxRecDepth 20000 in
theorem ggX4_round_X4_ofMinute : GoodIn wsX4_round wsX4_ofMinute := goodIn_r _ [47] (by decide +kernel) (by decide +kernel)
set_option maxRecDepth 20000 in
theorem gX4_round_X4_ofMinute : GoodIn wsX4_round (va_wsS RX4 156 yX4_ofMinute wsX4_ofMinute) := goodIn_app (goodIn_of _ (by decide +kernel)) ggX4_round_X4_ofMinute
theorem dX4_round_0 : decode cX4_round 0 = .ok (.aload_n 0, 1) := by decide +kernel
theorem dX4_round_1 : decode cX4_round 1 = .ok (.iload_n 1, 1) := by decide +kernel
theorem dX4_round_2 : decode cX4_round 2 = .ok (.invokevirtual 80, 3) := by decide +kernel
theorem dX4_round_5 : decode cX4_round 5 = .ok (.ifCond .ne 6, 3) := by decide +kernel
theorem dX4_round_8 : decode cX4_round 8 = .ok (.bipush (-101), 2) := by decide +kernel
theorem dX4_round_10 : decode cX4_round 10 = .ok (.ireturn, 1) := by decide +kernel
theorem dX4_round_11 : decode cX4_round 11 = .ok (.iload_n 2, 1) := by decide +kernel
theorem dX4_round_12 : decode cX4_round 12 = .ok (.ifCond .eq 15, 3) := by decide +kernel
theorem dX4_round_15 : decode cX4_round 15 = .ok (.iload_n 2, 1) := by decide +kernel
theorem dX4_round_16 : decode cX4_round 16 = .ok (.bipush 7, 2) := by decide +kernel
theorem dX4_round_18 : decode cX4_round 18 = .ok (.invokestatic 150, 3) := by decide +kernel
theorem dX4_round_21 : decode cX4_round 21 = .ok (.ifCond .ne 6, 3) := by decide +kernel
theorem dX4_round_24 : decode cX4_round 24 = .ok (.bipush (-102), 2) := by decide +kernel
theorem dX4_round_26 : decode cX4_round 26 = .ok (.ireturn, 1) := by decide +kernel
theorem dX4_round_27 : decode cX4_round 27 = .ok (.aload_n 0, 1) := by decide +kernel
theorem dX4_round_28 : decode cX4_round 28 = .ok (.getfield 160, 3) := by decide +kernel
theorem dX4_round_31 : decode cX4_round 31 = .ok (.bipush 20, 2) := by decide +kernel
theorem dX4_round_33 : decode cX4_round 33 = .ok (.if_icmp .lt 6, 3) := by decide +kernel
theorem dX4_round_36 : decode cX4_round 36 = .ok (.bipush (-103), 2) := by decide +kernel
theorem dX4_round_38 : decode cX4_round 38 = .ok (.ireturn, 1) := by decide +kernel
theorem dX4_round_39 : decode cX4_round 39 = .ok (.aload_n 0, 1) := by decide +kernel
theorem dX4_round_40 : decode cX4_round 40 = .ok (.dup, 1) := by decide +kernel
theorem dX4_round_41 : decode cX4_round 41 = .ok (.getfield 160, 3) := by decide +kernel
theorem dX4_round_44 : decode cX4_round 44 = .ok (.iconst 1, 1) := by decide +kernel
theorem dX4_round_45 : decode cX4_round 45 = .ok (.iadd, 1) := by decide +kernel
theorem dX4_round_46 : decode cX4_round 46 = .ok (.putfield 160, 3) := by decide +kernel
theorem dX4_round_49 : decode cX4_round 49 = .ok (.aload_n 0, 1) := by decide +kernel
theorem dX4_round_50 : decode cX4_round 50 = .ok (.iload_n 1, 1) := by decide +kernel
theorem dX4_round_51 : decode cX4_round 51 = .ok (.invokevirtual 163, 3) := by decide +kernel
theorem dX4_round_54 : decode cX4_round 54 = .ok (.istore_n 3, 1) := by decide +kernel
theorem dX4_round_55 : decode cX4_round 55 = .ok (.iload_n 2, 1) := by decide +kernel
theorem dX4_round_56 : decode cX4_round 56 = .ok (.ifCond .ne 7, 3) := by decide +kernel
theorem dX4_round_59 : decode cX4_round 59 = .ok (.iload_n 3, 1) := by decide +kernel
theorem dX4_round_60 : decode cX4_round 60 = .ok (.goto 12, 3) := by decide +kernel
theorem dX4_round_63 : decode cX4_round 63 = .ok (.aload_n 0, 1) := by decide +kernel
theorem dX4_round_64 : decode cX4_round 64 = .ok (.getfield 44, 3) := by decide +kernel
theorem dX4_round_67 : decode cX4_round 67 = .ok (.iload_n 3, 1) := by decide +kernel
theorem dX4_round_68 : decode cX4_round 68 = .ok (.iload_n 2, 1) := by decide +kernel
theorem dX4_round_69 : decode cX4_round 69 = .ok (.invokestatic 156, 3) := by decide +kernel
theorem dX4_round_72 : decode cX4_round 72 = .ok (.ireturn, 1) := by decide +kernel
set_option maxRecDepth 20000 in
theorem ggX4_together_X4_hasOffice : GoodIn wsX4_together wsX4_hasOffice := goodIn_r _ [6, 1, 7, 20, 21, 22, 23, 24, 25, 26, 27, 28, 29, 30, 31, 32, 33] (by decide +kernel) (by decide +kernel)
set_option maxRecDepth 20000 in
theorem gX4_together_X4_hasOffice : GoodIn wsX4_together (wsV RX4 128 RX4 yX4_hasOffice wsX4_hasOffice) := goodIn_app (goodIn_of _ (by decide +kernel)) ggX4_together_X4_hasOffice
set_option maxRecDepth 20000 in
theorem ggX4_together_X1_mostSeen : GoodIn wsX4_together wsX1_mostSeen := goodIn_r _ [12, 13, 14, 15, 16, 11, 17, 18, 30, 31, 32, 33] (by decide +kernel) (by decide +kernel)
set_option maxRecDepth 20000 in
theorem gX4_together_X1_mostSeen : GoodIn wsX4_together (wsV RX4 166 RX1 yX1_mostSeen wsX1_mostSeen) := goodIn_app (goodIn_of _ (by decide +kernel)) ggX4_together_X1_mostSeen
set_option maxRecDepth 20000 in
theorem ggX4_together_X1_seeing : GoodIn wsX4_together wsX1_seeing := goodIn_r _ [17, 13, 18, 30, 31, 32, 33] (by decide +kernel) (by decide +kernel)
set_option maxRecDepth 20000 in
theorem gX4_together_X1_seeing : GoodIn wsX4_together (wsV RX4 103 RX1 yX1_seeing wsX1_seeing) := goodIn_app (goodIn_of _ (by decide +kernel)) ggX4_together_X1_seeing
theorem dX4_together_0 : decode cX4_together 0 = .ok (.iload_n 1, 1) := by decide +kernel
theorem dX4_together_1 : decode cX4_together 1 = .ok (.ifCond .lt 8, 3) := by decide +kernel
theorem dX4_together_4 : decode cX4_together 4 = .ok (.iload_n 1, 1) := by decide +kernel
theorem dX4_together_5 : decode cX4_together 5 = .ok (.iconst 1, 1) := by decide +kernel
theorem dX4_together_6 : decode cX4_together 6 = .ok (.if_icmp .le 6, 3) := by decide +kernel
theorem dX4_together_9 : decode cX4_together 9 = .ok (.bipush (-102), 2) := by decide +kernel
theorem dX4_together_11 : decode cX4_together 11 = .ok (.ireturn, 1) := by decide +kernel
theorem dX4_together_12 : decode cX4_together 12 = .ok (.aload_n 0, 1) := by decide +kernel
theorem dX4_together_13 : decode cX4_together 13 = .ok (.invokevirtual 128, 3) := by decide +kernel
theorem dX4_together_16 : decode cX4_together 16 = .ok (.ifCond .ne 6, 3) := by decide +kernel
theorem dX4_together_19 : decode cX4_together 19 = .ok (.bipush (-103), 2) := by decide +kernel
theorem dX4_together_21 : decode cX4_together 21 = .ok (.ireturn, 1) := by decide +kernel
theorem dX4_together_22 : decode cX4_together 22 = .ok (.aload_n 0, 1) := by decide +kernel
theorem dX4_together_23 : decode cX4_together 23 = .ok (.getfield 19, 3) := by decide +kernel
theorem dX4_together_26 : decode cX4_together 26 = .ok (.invokevirtual 166, 3) := by decide +kernel
theorem dX4_together_29 : decode cX4_together 29 = .ok (.istore_n 2, 1) := by decide +kernel
theorem dX4_together_30 : decode cX4_together 30 = .ok (.iload_n 1, 1) := by decide +kernel
theorem dX4_together_31 : decode cX4_together 31 = .ok (.ifCond .ne 7, 3) := by decide +kernel
theorem dX4_together_34 : decode cX4_together 34 = .ok (.iload_n 2, 1) := by decide +kernel
theorem dX4_together_35 : decode cX4_together 35 = .ok (.goto 11, 3) := by decide +kernel
theorem dX4_together_38 : decode cX4_together 38 = .ok (.aload_n 0, 1) := by decide +kernel
theorem dX4_together_39 : decode cX4_together 39 = .ok (.getfield 19, 3) := by decide +kernel
theorem dX4_together_42 : decode cX4_together 42 = .ok (.iload_n 2, 1) := by decide +kernel
theorem dX4_together_43 : decode cX4_together 43 = .ok (.invokevirtual 103, 3) := by decide +kernel
theorem dX4_together_46 : decode cX4_together 46 = .ok (.ireturn, 1) := by decide +kernel
set_option maxRecDepth 20000 in
theorem ggX4_book_X4_isLamp : GoodIn wsX4_book wsX4_isLamp := goodIn_r _ [6, 7, 8, 17, 18, 19, 20, 21, 22, 23, 24, 25, 26, 27, 28, 29, 30] (by decide +kernel) (by decide +kernel)
set_option maxRecDepth 20000 in
theorem gX4_book_X4_isLamp : GoodIn wsX4_book (wsV RX4 80 RX4 yX4_isLamp wsX4_isLamp) := goodIn_app (goodIn_of _ (by decide +kernel)) ggX4_book_X4_isLamp
set_option maxRecDepth 20000 in
theorem ggX4_book_X0_tell : GoodIn wsX4_book wsX0_tell := goodIn_r _ [13, 14, 15, 16, 31, 32, 33, 34, 35, 36, 37, 38, 39] (by decide +kernel) (by decide +kernel)
set_option maxRecDepth 20000 in
theorem gX4_book_X0_tell : GoodIn wsX4_book (wsV RX4 169 RX0 yX0_tell wsX0_tell) := goodIn_app (goodIn_of _ (by decide +kernel)) ggX4_book_X0_tell
theorem dX4_book_0 : decode cX4_book 0 = .ok (.iload_n 1, 1) := by decide +kernel
theorem dX4_book_1 : decode cX4_book 1 = .ok (.ifCond .lt 9, 3) := by decide +kernel
theorem dX4_book_4 : decode cX4_book 4 = .ok (.iload_n 1, 1) := by decide +kernel
theorem dX4_book_5 : decode cX4_book 5 = .ok (.bipush 6, 2) := by decide +kernel
theorem dX4_book_7 : decode cX4_book 7 = .ok (.if_icmp .le 6, 3) := by decide +kernel
theorem dX4_book_10 : decode cX4_book 10 = .ok (.bipush (-102), 2) := by decide +kernel
theorem dX4_book_12 : decode cX4_book 12 = .ok (.ireturn, 1) := by decide +kernel
theorem dX4_book_13 : decode cX4_book 13 = .ok (.aload_n 0, 1) := by decide +kernel
theorem dX4_book_14 : decode cX4_book 14 = .ok (.iload_n 2, 1) := by decide +kernel
theorem dX4_book_15 : decode cX4_book 15 = .ok (.invokevirtual 80, 3) := by decide +kernel
theorem dX4_book_18 : decode cX4_book 18 = .ok (.ifCond .ne 6, 3) := by decide +kernel
theorem dX4_book_21 : decode cX4_book 21 = .ok (.bipush (-101), 2) := by decide +kernel
theorem dX4_book_23 : decode cX4_book 23 = .ok (.ireturn, 1) := by decide +kernel
theorem dX4_book_24 : decode cX4_book 24 = .ok (.aload_n 0, 1) := by decide +kernel
theorem dX4_book_25 : decode cX4_book 25 = .ok (.getfield 26, 3) := by decide +kernel
theorem dX4_book_28 : decode cX4_book 28 = .ok (.iload_n 1, 1) := by decide +kernel
theorem dX4_book_29 : decode cX4_book 29 = .ok (.iload_n 2, 1) := by decide +kernel
theorem dX4_book_30 : decode cX4_book 30 = .ok (.iload_n 3, 1) := by decide +kernel
theorem dX4_book_31 : decode cX4_book 31 = .ok (.invokevirtual 169, 3) := by decide +kernel
theorem dX4_book_34 : decode cX4_book 34 = .ok (.ireturn, 1) := by decide +kernel
set_option maxRecDepth 20000 in
theorem ggX4_forget_X0_emptyBook : GoodIn wsX4_forget wsX0_emptyBook := goodIn_r _ [7, 8, 9, 10, 21, 22, 23, 24, 25, 26, 27, 28, 29] (by decide +kernel) (by decide +kernel)
set_option maxRecDepth 20000 in
theorem gX4_forget_X0_emptyBook : GoodIn wsX4_forget (wsV RX4 176 RX0 yX0_emptyBook wsX0_emptyBook) := goodIn_app (goodIn_of _ (by decide +kernel)) ggX4_forget_X0_emptyBook
theorem dX4_forget_0 : decode cX4_forget 0 = .ok (.aload_n 0, 1) := by decide +kernel
theorem dX4_forget_1 : decode cX4_forget 1 = .ok (.getfield 26, 3) := by decide +kernel
theorem dX4_forget_4 : decode cX4_forget 4 = .ok (.getfield 173, 3) := by decide +kernel
theorem dX4_forget_7 : decode cX4_forget 7 = .ok (.istore_n 1, 1) := by decide +kernel
theorem dX4_forget_8 : decode cX4_forget 8 = .ok (.aload_n 0, 1) := by decide +kernel
theorem dX4_forget_9 : decode cX4_forget 9 = .ok (.getfield 26, 3) := by decide +kernel
theorem dX4_forget_12 : decode cX4_forget 12 = .ok (.invokevirtual 176, 3) := by decide +kernel
theorem dX4_forget_15 : decode cX4_forget 15 = .ok (.iload_n 1, 1) := by decide +kernel
theorem dX4_forget_16 : decode cX4_forget 16 = .ok (.ireturn, 1) := by decide +kernel
set_option maxRecDepth 20000 in
theorem ggX4_waved_X4_isPerson : GoodIn wsX4_waved wsX4_isPerson := goodIn_r _ [9, 3, 10, 56, 57, 58, 59, 60, 61, 62, 63, 64, 65, 66, 67, 68, 69, 70, 71, 72, 73, 74] (by decide +kernel) (by decide +kernel)
set_option maxRecDepth 20000 in
theorem gX4_waved_X4_isPerson : GoodIn wsX4_waved (wsV RX4 113 RX4 yX4_isPerson wsX4_isPerson) := goodIn_app (goodIn_of _ (by decide +kernel)) ggX4_waved_X4_isPerson
set_option maxRecDepth 20000 in
theorem ggX4_waved_X3_follow : GoodIn wsX4_waved wsX3_follow := goodIn_r _ [15, 16, 17, 18, 19, 20, 21, 22, 23, 24, 25, 26, 27, 28, 29, 30, 31, 32, 33, 34, 35, 36, 14, 37, 38, 39, 40, 41, 42, 43, 44, 45, 46, 47, 75, 76, 66, 67, 68, 69, 70, 71, 72, 73, 74, 77, 78, 79, 80] (by decide +kernel) (by decide +kernel)
set_option maxRecDepth 20000 in
theorem gX4_waved_X3_follow : GoodIn wsX4_waved (wsV RX4 179 RX3 yX3_follow wsX3_follow) := goodIn_app (goodIn_of _ (by decide +kernel)) ggX4_waved_X3_follow
set_option maxRecDepth 20000 in
theorem ggX4_waved_X3_left : GoodIn wsX4_waved wsX3_left := goodIn_r _ [51, 16, 17, 75, 76] (by decide +kernel) (by decide +kernel)
set_option maxRecDepth 20000 in
theorem gX4_waved_X3_left : GoodIn wsX4_waved (wsV RX4 183 RX3 yX3_left wsX3_left) := goodIn_app (goodIn_of _ (by decide +kernel)) ggX4_waved_X3_left
set_option maxRecDepth 20000 in
theorem ggX4_waved_X3_first : GoodIn wsX4_waved wsX3_first := goodIn_r _ [55, 16, 17, 75, 76] (by decide +kernel) (by decide +kernel)
set_option maxRecDepth 20000 in
theorem gX4_waved_X3_first : GoodIn wsX4_waved (wsV RX4 185 RX3 yX3_first wsX3_first) := goodIn_app (goodIn_of _ (by decide +kernel)) ggX4_waved_X3_first
theorem dX4_waved_0 : decode cX4_waved 0 = .ok (.aload_n 0, 1) := by decide +kernel
theorem dX4_waved_1 : decode cX4_waved 1 = .ok (.iload_n 1, 1) := by decide +kernel
theorem dX4_waved_2 : decode cX4_waved 2 = .ok (.invokevirtual 113, 3) := by decide +kernel
theorem dX4_waved_5 : decode cX4_waved 5 = .ok (.ifCond .ne 6, 3) := by decide +kernel
theorem dX4_waved_8 : decode cX4_waved 8 = .ok (.bipush (-101), 2) := by decide +kernel
theorem dX4_waved_10 : decode cX4_waved 10 = .ok (.ireturn, 1) := by decide +kernel
theorem dX4_waved_11 : decode cX4_waved 11 = .ok (.iload_n 2, 1) := by decide +kernel
theorem dX4_waved_12 : decode cX4_waved 12 = .ok (.iconst 1, 1) := by decide +kernel
theorem dX4_waved_13 : decode cX4_waved 13 = .ok (.if_icmp .lt 18, 3) := by decide +kernel
theorem dX4_waved_16 : decode cX4_waved 16 = .ok (.iload_n 2, 1) := by decide +kernel
theorem dX4_waved_17 : decode cX4_waved 17 = .ok (.bipush 6, 2) := by decide +kernel
theorem dX4_waved_19 : decode cX4_waved 19 = .ok (.if_icmp .gt 12, 3) := by decide +kernel
theorem dX4_waved_22 : decode cX4_waved 22 = .ok (.iload_n 3, 1) := by decide +kernel
theorem dX4_waved_23 : decode cX4_waved 23 = .ok (.ifCond .lt 8, 3) := by decide +kernel
theorem dX4_waved_26 : decode cX4_waved 26 = .ok (.iload_n 3, 1) := by decide +kernel
theorem dX4_waved_27 : decode cX4_waved 27 = .ok (.iconst 1, 1) := by decide +kernel
theorem dX4_waved_28 : decode cX4_waved 28 = .ok (.if_icmp .le 6, 3) := by decide +kernel
theorem dX4_waved_31 : decode cX4_waved 31 = .ok (.bipush (-102), 2) := by decide +kernel
theorem dX4_waved_33 : decode cX4_waved 33 = .ok (.ireturn, 1) := by decide +kernel
theorem dX4_waved_34 : decode cX4_waved 34 = .ok (.aload_n 0, 1) := by decide +kernel
theorem dX4_waved_35 : decode cX4_waved 35 = .ok (.getfield 36, 3) := by decide +kernel
theorem dX4_waved_38 : decode cX4_waved 38 = .ok (.aload_n 0, 1) := by decide +kernel
theorem dX4_waved_39 : decode cX4_waved 39 = .ok (.getfield 19, 3) := by decide +kernel
theorem dX4_waved_42 : decode cX4_waved 42 = .ok (.aload_n 0, 1) := by decide +kernel
theorem dX4_waved_43 : decode cX4_waved 43 = .ok (.getfield 26, 3) := by decide +kernel
theorem dX4_waved_46 : decode cX4_waved 46 = .ok (.aload_n 0, 1) := by decide +kernel
theorem dX4_waved_47 : decode cX4_waved 47 = .ok (.getfield 26, 3) := by decide +kernel
theorem dX4_waved_50 : decode cX4_waved 50 = .ok (.getfield 116, 3) := by decide +kernel
theorem dX4_waved_53 : decode cX4_waved 53 = .ok (.iload_n 1, 1) := by decide +kernel
theorem dX4_waved_54 : decode cX4_waved 54 = .ok (.iaload, 1) := by decide +kernel
theorem dX4_waved_55 : decode cX4_waved 55 = .ok (.iload_n 2, 1) := by decide +kernel
theorem dX4_waved_56 : decode cX4_waved 56 = .ok (.invokevirtual 179, 3) := by decide +kernel
theorem dX4_waved_59 : decode cX4_waved 59 = .ok (.iload_n 3, 1) := by decide +kernel
theorem dX4_waved_60 : decode cX4_waved 60 = .ok (.ifCond .ne 13, 3) := by decide +kernel
theorem dX4_waved_63 : decode cX4_waved 63 = .ok (.aload_n 0, 1) := by decide +kernel
theorem dX4_waved_64 : decode cX4_waved 64 = .ok (.getfield 36, 3) := by decide +kernel
theorem dX4_waved_67 : decode cX4_waved 67 = .ok (.invokevirtual 183, 3) := by decide +kernel
theorem dX4_waved_70 : decode cX4_waved 70 = .ok (.goto 10, 3) := by decide +kernel
theorem dX4_waved_73 : decode cX4_waved 73 = .ok (.aload_n 0, 1) := by decide +kernel
theorem dX4_waved_74 : decode cX4_waved 74 = .ok (.getfield 36, 3) := by decide +kernel
theorem dX4_waved_77 : decode cX4_waved 77 = .ok (.invokevirtual 185, 3) := by decide +kernel
theorem dX4_waved_80 : decode cX4_waved 80 = .ok (.ireturn, 1) := by decide +kernel
set_option maxRecDepth 20000 in
theorem ggX4_look_X4_isPerson : GoodIn wsX4_look wsX4_isPerson := goodIn_r _ [10, 3, 11, 63, 64, 65, 66, 67, 68, 69, 70, 71, 72, 73, 74, 75, 76, 77, 78, 79, 80, 81] (by decide +kernel) (by decide +kernel)
set_option maxRecDepth 20000 in
theorem gX4_look_X4_isPerson : GoodIn wsX4_look (wsV RX4 113 RX4 yX4_isPerson wsX4_isPerson) := goodIn_app (goodIn_of _ (by decide +kernel)) ggX4_look_X4_isPerson
set_option maxRecDepth 20000 in
theorem ggX4_look_X3_follow : GoodIn wsX4_look wsX3_follow := goodIn_r _ [16, 17, 18, 19, 20, 21, 22, 23, 24, 25, 26, 27, 28, 29, 30, 31, 32, 33, 34, 35, 36, 37, 15, 38, 39, 40, 41, 42, 43, 44, 45, 46, 47, 48, 86, 87, 73, 74, 75, 76, 77, 78, 79, 80, 81, 82, 83, 84, 85] (by decide +kernel) (by decide +kernel)
set_option maxRecDepth 20000 in
theorem gX4_look_X3_follow : GoodIn wsX4_look (wsV RX4 179 RX3 yX3_follow wsX3_follow) := goodIn_app (goodIn_of _ (by decide +kernel)) ggX4_look_X3_follow
set_option maxRecDepth 20000 in
theorem ggX4_look_X3_tellingLamp : GoodIn wsX4_look wsX3_tellingLamp := goodIn_r _ [52, 53, 46, 47, 48, 54, 55, 56, 15, 57, 17, 18, 58, 59, 60, 61, 62, 27, 23, 28, 86, 87] (by decide +kernel) (by decide +kernel)
set_option maxRecDepth 20000 in
theorem gX4_look_X3_tellingLamp : GoodIn wsX4_look (wsV RX4 188 RX3 yX3_tellingLamp wsX3_tellingLamp) := goodIn_app (goodIn_of _ (by decide +kernel)) ggX4_look_X3_tellingLamp
theorem dX4_look_0 : decode cX4_look 0 = .ok (.aload_n 0, 1) := by decide +kernel
theorem dX4_look_1 : decode cX4_look 1 = .ok (.iload_n 1, 1) := by decide +kernel
theorem dX4_look_2 : decode cX4_look 2 = .ok (.invokevirtual 113, 3) := by decide +kernel
theorem dX4_look_5 : decode cX4_look 5 = .ok (.ifCond .ne 6, 3) := by decide +kernel
theorem dX4_look_8 : decode cX4_look 8 = .ok (.bipush (-101), 2) := by decide +kernel
theorem dX4_look_10 : decode cX4_look 10 = .ok (.ireturn, 1) := by decide +kernel
theorem dX4_look_11 : decode cX4_look 11 = .ok (.iload_n 2, 1) := by decide +kernel
theorem dX4_look_12 : decode cX4_look 12 = .ok (.iconst 1, 1) := by decide +kernel
theorem dX4_look_13 : decode cX4_look 13 = .ok (.if_icmp .lt 9, 3) := by decide +kernel
theorem dX4_look_16 : decode cX4_look 16 = .ok (.iload_n 2, 1) := by decide +kernel
theorem dX4_look_17 : decode cX4_look 17 = .ok (.bipush 6, 2) := by decide +kernel
theorem dX4_look_19 : decode cX4_look 19 = .ok (.if_icmp .le 6, 3) := by decide +kernel
theorem dX4_look_22 : decode cX4_look 22 = .ok (.bipush (-102), 2) := by decide +kernel
theorem dX4_look_24 : decode cX4_look 24 = .ok (.ireturn, 1) := by decide +kernel
theorem dX4_look_25 : decode cX4_look 25 = .ok (.aload_n 0, 1) := by decide +kernel
theorem dX4_look_26 : decode cX4_look 26 = .ok (.getfield 36, 3) := by decide +kernel
theorem dX4_look_29 : decode cX4_look 29 = .ok (.aload_n 0, 1) := by decide +kernel
theorem dX4_look_30 : decode cX4_look 30 = .ok (.getfield 19, 3) := by decide +kernel
theorem dX4_look_33 : decode cX4_look 33 = .ok (.aload_n 0, 1) := by decide +kernel
theorem dX4_look_34 : decode cX4_look 34 = .ok (.getfield 26, 3) := by decide +kernel
theorem dX4_look_37 : decode cX4_look 37 = .ok (.aload_n 0, 1) := by decide +kernel
theorem dX4_look_38 : decode cX4_look 38 = .ok (.getfield 26, 3) := by decide +kernel
theorem dX4_look_41 : decode cX4_look 41 = .ok (.getfield 116, 3) := by decide +kernel
theorem dX4_look_44 : decode cX4_look 44 = .ok (.iload_n 1, 1) := by decide +kernel
theorem dX4_look_45 : decode cX4_look 45 = .ok (.iaload, 1) := by decide +kernel
theorem dX4_look_46 : decode cX4_look 46 = .ok (.iload_n 2, 1) := by decide +kernel
theorem dX4_look_47 : decode cX4_look 47 = .ok (.invokevirtual 179, 3) := by decide +kernel
theorem dX4_look_50 : decode cX4_look 50 = .ok (.aload_n 0, 1) := by decide +kernel
theorem dX4_look_51 : decode cX4_look 51 = .ok (.getfield 36, 3) := by decide +kernel
theorem dX4_look_54 : decode cX4_look 54 = .ok (.aload_n 0, 1) := by decide +kernel
theorem dX4_look_55 : decode cX4_look 55 = .ok (.getfield 19, 3) := by decide +kernel
theorem dX4_look_58 : decode cX4_look 58 = .ok (.getfield 77, 3) := by decide +kernel
theorem dX4_look_61 : decode cX4_look 61 = .ok (.invokevirtual 188, 3) := by decide +kernel
theorem dX4_look_64 : decode cX4_look 64 = .ok (.ireturn, 1) := by decide +kernel
set_option maxRecDepth 20000 in
theorem ggX4_nights_X4_hasOffice : GoodIn wsX4_nights wsX4_hasOffice := goodIn_r _ [9, 4, 10, 57, 58, 59, 60, 61, 62, 63, 64, 65, 66, 76, 77, 78, 79] (by decide +kernel) (by decide +kernel)
set_option maxRecDepth 20000 in
theorem gX4_nights_X4_hasOffice : GoodIn wsX4_nights (wsV RX4 128 RX4 yX4_hasOffice wsX4_hasOffice) := goodIn_app (goodIn_of _ (by decide +kernel)) ggX4_nights_X4_hasOffice
set_option maxRecDepth 20000 in
theorem ggX4_nights_X4_nextSeed : GoodIn wsX4_nights wsX4_nextSeed := goodIn_r _ [13, 14, 15] (by decide +kernel) (by decide +kernel)
set_option maxRecDepth 20000 in
theorem gX4_nights_X4_nextSeed : GoodIn wsX4_nights (va_wsS RX4 191 yX4_nextSeed wsX4_nextSeed) := goodIn_app (goodIn_of _ (by decide +kernel)) ggX4_nights_X4_nextSeed
set_option maxRecDepth 20000 in
theorem ggX4_nights_X4_draw : GoodIn wsX4_nights wsX4_draw := goodIn_r _ [18, 19] (by decide +kernel) (by decide +kernel)
set_option maxRecDepth 20000 in
theorem gX4_nights_X4_draw : GoodIn wsX4_nights (va_wsS RX4 194 yX4_draw wsX4_draw) := goodIn_app (goodIn_of _ (by decide +kernel)) ggX4_nights_X4_draw
set_option maxRecDepth 20000 in
theorem ggX4_nights_X0_stirred : GoodIn wsX4_nights wsX0_stirred := goodIn_r _ [24, 25, 26, 67, 68, 69, 70, 71, 72, 73, 74, 75] (by decide +kernel) (by decide +kernel)
set_option maxRecDepth 20000 in
theorem gX4_nights_X0_stirred : GoodIn wsX4_nights (wsV RX4 131 RX0 yX0_stirred wsX0_stirred) := goodIn_app (goodIn_of _ (by decide +kernel)) ggX4_nights_X0_stirred
set_option maxRecDepth 20000 in
theorem ggX4_nights_X1_after : GoodIn wsX4_nights wsX1_after := goodIn_r _ [31, 32, 33, 34, 35, 36, 37, 38, 39, 40, 30, 41, 76, 77, 78, 79] (by decide +kernel) (by decide +kernel)
set_option maxRecDepth 20000 in
theorem gX4_nights_X1_after : GoodIn wsX4_nights (wsV RX4 134 RX1 yX1_after wsX1_after) := goodIn_app (goodIn_of _ (by decide +kernel)) ggX4_nights_X1_after
set_option maxRecDepth 20000 in
theorem ggX4_nights_X1_litOnes : GoodIn wsX4_nights wsX1_litOnes := goodIn_r _ [45, 32, 39, 40, 30, 41, 76, 77, 78, 79] (by decide +kernel) (by decide +kernel)
set_option maxRecDepth 20000 in
theorem gX4_nights_X1_litOnes : GoodIn wsX4_nights (wsV RX4 140 RX1 yX1_litOnes wsX1_litOnes) := goodIn_app (goodIn_of _ (by decide +kernel)) ggX4_nights_X1_litOnes
set_option maxRecDepth 20000 in
theorem ggX4_nights_X0_inDark : GoodIn wsX4_nights wsX0_inDark := goodIn_r _ [49, 25, 26, 67, 68, 69, 70, 71, 72, 73, 74, 75] (by decide +kernel) (by decide +kernel)
set_option maxRecDepth 20000 in
theorem gX4_nights_X0_inDark : GoodIn wsX4_nights (wsV RX4 147 RX0 yX0_inDark wsX0_inDark) := goodIn_app (goodIn_of _ (by decide +kernel)) ggX4_nights_X0_inDark
set_option maxRecDepth 20000 in
theorem ggX4_nights_J6_bitCount_0f7a4 : GoodIn wsX4_nights wsJ6_bitCount_0f7a4 := goodIn_r _ [53, 54, 55, 56] (by decide +kernel) (by decide +kernel)
set_option maxRecDepth 20000 in
theorem gX4_nights_J6_bitCount_0f7a4 : GoodIn wsX4_nights (va_wsS RX4 197 yJ6_bitCount_0f7a4 wsJ6_bitCount_0f7a4) := goodIn_app (goodIn_of _ (by decide +kernel)) ggX4_nights_J6_bitCount_0f7a4
theorem dX4_nights_0 : decode cX4_nights 0 = .ok (.iload_n 1, 1) := by decide +kernel
theorem dX4_nights_1 : decode cX4_nights 1 = .ok (.iconst 1, 1) := by decide +kernel
theorem dX4_nights_2 : decode cX4_nights 2 = .ok (.if_icmp .lt 22, 3) := by decide +kernel
theorem dX4_nights_5 : decode cX4_nights 5 = .ok (.iload_n 1, 1) := by decide +kernel
theorem dX4_nights_6 : decode cX4_nights 6 = .ok (.bipush 60, 2) := by decide +kernel
theorem dX4_nights_8 : decode cX4_nights 8 = .ok (.if_icmp .gt 16, 3) := by decide +kernel
theorem dX4_nights_11 : decode cX4_nights 11 = .ok (.iload_n 2, 1) := by decide +kernel
theorem dX4_nights_12 : decode cX4_nights 12 = .ok (.ifCond .lt 12, 3) := by decide +kernel
theorem dX4_nights_15 : decode cX4_nights 15 = .ok (.iload_n 3, 1) := by decide +kernel
theorem dX4_nights_16 : decode cX4_nights 16 = .ok (.ifCond .lt 8, 3) := by decide +kernel
theorem dX4_nights_19 : decode cX4_nights 19 = .ok (.iload_n 3, 1) := by decide +kernel
theorem dX4_nights_20 : decode cX4_nights 20 = .ok (.iconst 2, 1) := by decide +kernel
theorem dX4_nights_21 : decode cX4_nights 21 = .ok (.if_icmp .le 6, 3) := by decide +kernel
theorem dX4_nights_24 : decode cX4_nights 24 = .ok (.bipush (-102), 2) := by decide +kernel
theorem dX4_nights_26 : decode cX4_nights 26 = .ok (.ireturn, 1) := by decide +kernel
theorem dX4_nights_27 : decode cX4_nights 27 = .ok (.aload_n 0, 1) := by decide +kernel
theorem dX4_nights_28 : decode cX4_nights 28 = .ok (.invokevirtual 128, 3) := by decide +kernel
theorem dX4_nights_31 : decode cX4_nights 31 = .ok (.ifCond .ne 6, 3) := by decide +kernel
theorem dX4_nights_34 : decode cX4_nights 34 = .ok (.bipush (-103), 2) := by decide +kernel
theorem dX4_nights_36 : decode cX4_nights 36 = .ok (.ireturn, 1) := by decide +kernel
theorem dX4_nights_37 : decode cX4_nights 37 = .ok (.aload_n 0, 1) := by decide +kernel
theorem dX4_nights_38 : decode cX4_nights 38 = .ok (.getfield 26, 3) := by decide +kernel
theorem dX4_nights_41 : decode cX4_nights 41 = .ok (.getfield 90, 3) := by decide +kernel
theorem dX4_nights_44 : decode cX4_nights 44 = .ok (.istore 4, 2) := by decide +kernel
theorem dX4_nights_46 : decode cX4_nights 46 = .ok (.iconst 0, 1) := by decide +kernel
theorem dX4_nights_47 : decode cX4_nights 47 = .ok (.istore 5, 2) := by decide +kernel
theorem dX4_nights_49 : decode cX4_nights 49 = .ok (.iload_n 2, 1) := by decide +kernel
theorem dX4_nights_50 : decode cX4_nights 50 = .ok (.istore 6, 2) := by decide +kernel
theorem dX4_nights_52 : decode cX4_nights 52 = .ok (.iconst 0, 1) := by decide +kernel
theorem dX4_nights_53 : decode cX4_nights 53 = .ok (.istore 7, 2) := by decide +kernel
theorem dX4_nights_55 : decode cX4_nights 55 = .ok (.iload 7, 2) := by decide +kernel
theorem dX4_nights_57 : decode cX4_nights 57 = .ok (.iload_n 1, 1) := by decide +kernel
theorem dX4_nights_58 : decode cX4_nights 58 = .ok (.if_icmp .ge 102, 3) := by decide +kernel
theorem dX4_nights_61 : decode cX4_nights 61 = .ok (.iconst 0, 1) := by decide +kernel
theorem dX4_nights_62 : decode cX4_nights 62 = .ok (.istore 8, 2) := by decide +kernel
theorem dX4_nights_64 : decode cX4_nights 64 = .ok (.iconst 0, 1) := by decide +kernel
theorem dX4_nights_65 : decode cX4_nights 65 = .ok (.istore 9, 2) := by decide +kernel
theorem dX4_nights_67 : decode cX4_nights 67 = .ok (.iload 9, 2) := by decide +kernel
theorem dX4_nights_69 : decode cX4_nights 69 = .ok (.aload_n 0, 1) := by decide +kernel
theorem dX4_nights_70 : decode cX4_nights 70 = .ok (.getfield 26, 3) := by decide +kernel
theorem dX4_nights_73 : decode cX4_nights 73 = .ok (.getfield 125, 3) := by decide +kernel
theorem dX4_nights_76 : decode cX4_nights 76 = .ok (.if_icmp .ge 37, 3) := by decide +kernel
theorem dX4_nights_79 : decode cX4_nights 79 = .ok (.iload 6, 2) := by decide +kernel
theorem dX4_nights_81 : decode cX4_nights 81 = .ok (.invokestatic 191, 3) := by decide +kernel
theorem dX4_nights_84 : decode cX4_nights 84 = .ok (.istore 6, 2) := by decide +kernel
theorem dX4_nights_86 : decode cX4_nights 86 = .ok (.iload 8, 2) := by decide +kernel
theorem dX4_nights_88 : decode cX4_nights 88 = .ok (.iload 6, 2) := by decide +kernel
theorem dX4_nights_90 : decode cX4_nights 90 = .ok (.invokestatic 194, 3) := by decide +kernel
theorem dX4_nights_93 : decode cX4_nights 93 = .ok (.ifCond .ne 10, 3) := by decide +kernel
theorem dX4_nights_96 : decode cX4_nights 96 = .ok (.iconst 1, 1) := by decide +kernel
theorem dX4_nights_97 : decode cX4_nights 97 = .ok (.iload 9, 2) := by decide +kernel
theorem dX4_nights_99 : decode cX4_nights 99 = .ok (.ishl, 1) := by decide +kernel
theorem dX4_nights_100 : decode cX4_nights 100 = .ok (.goto 4, 3) := by decide +kernel
theorem dX4_nights_103 : decode cX4_nights 103 = .ok (.iconst 0, 1) := by decide +kernel
theorem dX4_nights_104 : decode cX4_nights 104 = .ok (.ior, 1) := by decide +kernel
theorem dX4_nights_105 : decode cX4_nights 105 = .ok (.istore 8, 2) := by decide +kernel
theorem dX4_nights_107 : decode cX4_nights 107 = .ok (.iinc 9 1, 3) := by decide +kernel
theorem dX4_nights_110 : decode cX4_nights 110 = .ok (.goto (-43), 3) := by decide +kernel
theorem dX4_nights_113 : decode cX4_nights 113 = .ok (.aload_n 0, 1) := by decide +kernel
theorem dX4_nights_114 : decode cX4_nights 114 = .ok (.getfield 19, 3) := by decide +kernel
theorem dX4_nights_117 : decode cX4_nights 117 = .ok (.iload 4, 2) := by decide +kernel
theorem dX4_nights_119 : decode cX4_nights 119 = .ok (.aload_n 0, 1) := by decide +kernel
theorem dX4_nights_120 : decode cX4_nights 120 = .ok (.getfield 26, 3) := by decide +kernel
theorem dX4_nights_123 : decode cX4_nights 123 = .ok (.iload 8, 2) := by decide +kernel
theorem dX4_nights_125 : decode cX4_nights 125 = .ok (.invokevirtual 131, 3) := by decide +kernel
theorem dX4_nights_128 : decode cX4_nights 128 = .ok (.invokevirtual 134, 3) := by decide +kernel
theorem dX4_nights_131 : decode cX4_nights 131 = .ok (.istore 4, 2) := by decide +kernel
theorem dX4_nights_133 : decode cX4_nights 133 = .ok (.iload 5, 2) := by decide +kernel
theorem dX4_nights_135 : decode cX4_nights 135 = .ok (.aload_n 0, 1) := by decide +kernel
theorem dX4_nights_136 : decode cX4_nights 136 = .ok (.getfield 26, 3) := by decide +kernel
theorem dX4_nights_139 : decode cX4_nights 139 = .ok (.aload_n 0, 1) := by decide +kernel
theorem dX4_nights_140 : decode cX4_nights 140 = .ok (.getfield 19, 3) := by decide +kernel
theorem dX4_nights_143 : decode cX4_nights 143 = .ok (.iload 4, 2) := by decide +kernel
theorem dX4_nights_145 : decode cX4_nights 145 = .ok (.invokevirtual 140, 3) := by decide +kernel
theorem dX4_nights_148 : decode cX4_nights 148 = .ok (.invokevirtual 147, 3) := by decide +kernel
theorem dX4_nights_151 : decode cX4_nights 151 = .ok (.iadd, 1) := by decide +kernel
theorem dX4_nights_152 : decode cX4_nights 152 = .ok (.istore 5, 2) := by decide +kernel
theorem dX4_nights_154 : decode cX4_nights 154 = .ok (.iinc 7 1, 3) := by decide +kernel
theorem dX4_nights_157 : decode cX4_nights 157 = .ok (.goto (-102), 3) := by decide +kernel
theorem dX4_nights_160 : decode cX4_nights 160 = .ok (.iload_n 3, 1) := by decide +kernel
theorem dX4_nights_161 : decode cX4_nights 161 = .ok (.ifCond .ne 6, 3) := by decide +kernel
theorem dX4_nights_164 : decode cX4_nights 164 = .ok (.iload 5, 2) := by decide +kernel
theorem dX4_nights_166 : decode cX4_nights 166 = .ok (.ireturn, 1) := by decide +kernel
theorem dX4_nights_167 : decode cX4_nights 167 = .ok (.iload_n 3, 1) := by decide +kernel
theorem dX4_nights_168 : decode cX4_nights 168 = .ok (.iconst 1, 1) := by decide +kernel
theorem dX4_nights_169 : decode cX4_nights 169 = .ok (.if_icmp .ne 18, 3) := by decide +kernel
theorem dX4_nights_172 : decode cX4_nights 172 = .ok (.aload_n 0, 1) := by decide +kernel
theorem dX4_nights_173 : decode cX4_nights 173 = .ok (.getfield 19, 3) := by decide +kernel
theorem dX4_nights_176 : decode cX4_nights 176 = .ok (.iload 4, 2) := by decide +kernel
theorem dX4_nights_178 : decode cX4_nights 178 = .ok (.invokevirtual 140, 3) := by decide +kernel
theorem dX4_nights_181 : decode cX4_nights 181 = .ok (.invokestatic 197, 3) := by decide +kernel
theorem dX4_nights_184 : decode cX4_nights 184 = .ok (.goto 5, 3) := by decide +kernel
theorem dX4_nights_187 : decode cX4_nights 187 = .ok (.iload 6, 2) := by decide +kernel
theorem dX4_nights_189 : decode cX4_nights 189 = .ok (.ireturn, 1) := by decide +kernel
set_option maxRecDepth 20000 in
theorem ggX4_image_X4_hasOffice : GoodIn wsX4_image wsX4_hasOffice := goodIn_r _ [9, 10, 11, 26, 27, 28, 29, 30, 31, 32, 33, 34, 35, 45, 46, 47, 48] (by decide +kernel) (by decide +kernel)
set_option maxRecDepth 20000 in
theorem gX4_image_X4_hasOffice : GoodIn wsX4_image (wsV RX4 128 RX4 yX4_hasOffice wsX4_hasOffice) := goodIn_app (goodIn_of _ (by decide +kernel)) ggX4_image_X4_hasOffice
set_option maxRecDepth 20000 in
theorem ggX4_image_X0_copy : GoodIn wsX4_image wsX0_copy := goodIn_r _ [16, 17, 18, 19, 20, 21, 22, 23, 24, 25, 36, 37, 38, 39, 40, 41, 42, 43, 44] (by decide +kernel) (by decide +kernel)
set_option maxRecDepth 20000 in
theorem gX4_image_X0_copy : GoodIn wsX4_image (wsV RX4 202 RX0 yX0_copy wsX0_copy) := goodIn_app (goodIn_of _ (by decide +kernel)) ggX4_image_X0_copy
theorem dX4_image_0 : decode cX4_image 0 = .ok (.aload_n 0, 1) := by decide +kernel
theorem dX4_image_1 : decode cX4_image 1 = .ok (.invokevirtual 128, 3) := by decide +kernel
theorem dX4_image_4 : decode cX4_image 4 = .ok (.ifCond .ne 6, 3) := by decide +kernel
theorem dX4_image_7 : decode cX4_image 7 = .ok (.bipush (-103), 2) := by decide +kernel
theorem dX4_image_9 : decode cX4_image 9 = .ok (.ireturn, 1) := by decide +kernel
theorem dX4_image_10 : decode cX4_image 10 = .ok (.aload_n 0, 1) := by decide +kernel
theorem dX4_image_11 : decode cX4_image 11 = .ok (.getfield 30, 3) := by decide +kernel
theorem dX4_image_14 : decode cX4_image 14 = .ok (.aload_n 0, 1) := by decide +kernel
theorem dX4_image_15 : decode cX4_image 15 = .ok (.getfield 26, 3) := by decide +kernel
theorem dX4_image_18 : decode cX4_image 18 = .ok (.invokevirtual 202, 3) := by decide +kernel
theorem dX4_image_21 : decode cX4_image 21 = .ok (.aload_n 0, 1) := by decide +kernel
theorem dX4_image_22 : decode cX4_image 22 = .ok (.iconst 1, 1) := by decide +kernel
theorem dX4_image_23 : decode cX4_image 23 = .ok (.putfield 70, 3) := by decide +kernel
theorem dX4_image_26 : decode cX4_image 26 = .ok (.aload_n 0, 1) := by decide +kernel
theorem dX4_image_27 : decode cX4_image 27 = .ok (.getfield 26, 3) := by decide +kernel
theorem dX4_image_30 : decode cX4_image 30 = .ok (.getfield 137, 3) := by decide +kernel
theorem dX4_image_33 : decode cX4_image 33 = .ok (.ireturn, 1) := by decide +kernel
set_option maxRecDepth 20000 in
theorem ggX4_restore_X0_copy : GoodIn wsX4_restore wsX0_copy := goodIn_r _ [9, 10, 11, 12, 13, 14, 15, 16, 17, 18, 29, 30, 31, 32, 33, 34, 35, 36, 37] (by decide +kernel) (by decide +kernel)
set_option maxRecDepth 20000 in
theorem gX4_restore_X0_copy : GoodIn wsX4_restore (wsV RX4 202 RX0 yX0_copy wsX0_copy) := goodIn_app (goodIn_of _ (by decide +kernel)) ggX4_restore_X0_copy
theorem dX4_restore_0 : decode cX4_restore 0 = .ok (.aload_n 0, 1) := by decide +kernel
theorem dX4_restore_1 : decode cX4_restore 1 = .ok (.getfield 70, 3) := by decide +kernel
theorem dX4_restore_4 : decode cX4_restore 4 = .ok (.ifCond .ne 6, 3) := by decide +kernel
theorem dX4_restore_7 : decode cX4_restore 7 = .ok (.bipush (-103), 2) := by decide +kernel
theorem dX4_restore_9 : decode cX4_restore 9 = .ok (.ireturn, 1) := by decide +kernel
theorem dX4_restore_10 : decode cX4_restore 10 = .ok (.aload_n 0, 1) := by decide +kernel
theorem dX4_restore_11 : decode cX4_restore 11 = .ok (.getfield 26, 3) := by decide +kernel
theorem dX4_restore_14 : decode cX4_restore 14 = .ok (.aload_n 0, 1) := by decide +kernel
theorem dX4_restore_15 : decode cX4_restore 15 = .ok (.getfield 30, 3) := by decide +kernel
theorem dX4_restore_18 : decode cX4_restore 18 = .ok (.invokevirtual 202, 3) := by decide +kernel
theorem dX4_restore_21 : decode cX4_restore 21 = .ok (.aload_n 0, 1) := by decide +kernel
theorem dX4_restore_22 : decode cX4_restore 22 = .ok (.getfield 26, 3) := by decide +kernel
theorem dX4_restore_25 : decode cX4_restore 25 = .ok (.getfield 137, 3) := by decide +kernel
theorem dX4_restore_28 : decode cX4_restore 28 = .ok (.ireturn, 1) := by decide +kernel
set_option maxRecDepth 20000 in
theorem ggX4_count_X1_litOnes : GoodIn wsX4_count wsX1_litOnes := goodIn_r _ [18, 19, 20, 21, 17, 22, 51, 52, 53, 54] (by decide +kernel) (by decide +kernel)
set_option maxRecDepth 20000 in
theorem gX4_count_X1_litOnes : GoodIn wsX4_count (wsV RX4 140 RX1 yX1_litOnes wsX1_litOnes) := goodIn_app (goodIn_of _ (by decide +kernel)) ggX4_count_X1_litOnes
set_option maxRecDepth 20000 in
theorem ggX4_count_J6_bitCount_0f7a4 : GoodIn wsX4_count wsJ6_bitCount_0f7a4 := goodIn_r _ [26, 27, 28, 29] (by decide +kernel) (by decide +kernel)
