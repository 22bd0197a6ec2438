theorem dX0_init_0 : decode cX0_init 0 = .ok (.aload_n 0, 1) := by decide +kernel
theorem dX0_init_1 : decode cX0_init 1 = .ok (.invokespecial 3, 3) := by decide +kernel
theorem dX0_init_4 : decode cX0_init 4 = .ok (.aload_n 0, 1) := by decide +kernel
theorem dX0_init_5 : decode cX0_init 5 = .ok (.iconst 4, 1) := by decide +kernel
theorem dX0_init_6 : decode cX0_init 6 = .ok (.newarray .int, 2) := by decide +kernel
theorem dX0_init_8 : decode cX0_init 8 = .ok (.putfield 9, 3) := by decide +kernel
theorem dX0_init_11 : decode cX0_init 11 = .ok (.aload_n 0, 1) := by decide +kernel
theorem dX0_init_12 : decode cX0_init 12 = .ok (.iconst 4, 1) := by decide +kernel
theorem dX0_init_13 : decode cX0_init 13 = .ok (.newarray .int, 2) := by decide +kernel
theorem dX0_init_15 : decode cX0_init 15 = .ok (.putfield 15, 3) := by decide +kernel
theorem dX0_init_18 : decode cX0_init 18 = .ok (.aload_n 0, 1) := by decide +kernel
theorem dX0_init_19 : decode cX0_init 19 = .ok (.iconst 4, 1) := by decide +kernel
theorem dX0_init_20 : decode cX0_init 20 = .ok (.newarray .int, 2) := by decide +kernel
theorem dX0_init_22 : decode cX0_init 22 = .ok (.putfield 18, 3) := by decide +kernel
theorem dX0_init_25 : decode cX0_init 25 = .ok (.aload_n 0, 1) := by decide +kernel
theorem dX0_init_26 : decode cX0_init 26 = .ok (.bipush 7, 2) := by decide +kernel
theorem dX0_init_28 : decode cX0_init 28 = .ok (.newarray .int, 2) := by decide +kernel
theorem dX0_init_30 : decode cX0_init 30 = .ok (.putfield 21, 3) := by decide +kernel
theorem dX0_init_33 : decode cX0_init 33 = .ok (.aload_n 0, 1) := by decide +kernel
theorem dX0_init_34 : decode cX0_init 34 = .ok (.bipush 7, 2) := by decide +kernel
theorem dX0_init_36 : decode cX0_init 36 = .ok (.newarray .int, 2) := by decide +kernel
theorem dX0_init_38 : decode cX0_init 38 = .ok (.putfield 24, 3) := by decide +kernel
theorem dX0_init_41 : decode cX0_init 41 = .ok (.return_, 1) := by decide +kernel
set_option maxRecDepth 20000 in
theorem ggX0_begin_X0_emptyBook : GoodIn wsX0_begin wsX0_emptyBook := goodIn_r _ [8, 9, 10, 11, 12, 13, 14, 15, 16, 17, 18, 19, 20] (by decide +kernel) (by decide +kernel)
set_option maxRecDepth 20000 in
theorem gX0_begin_X0_emptyBook : GoodIn wsX0_begin (wsV RX0 37 RX0 yX0_emptyBook wsX0_emptyBook) := goodIn_app (goodIn_of _ (by decide +kernel)) ggX0_begin_X0_emptyBook
theorem dX0_begin_0 : decode cX0_begin 0 = .ok (.aload_n 0, 1) := by decide +kernel
theorem dX0_begin_1 : decode cX0_begin 1 = .ok (.iconst 0, 1) := by decide +kernel
theorem dX0_begin_2 : decode cX0_begin 2 = .ok (.putfield 27, 3) := by decide +kernel
theorem dX0_begin_5 : decode cX0_begin 5 = .ok (.aload_n 0, 1) := by decide +kernel
theorem dX0_begin_6 : decode cX0_begin 6 = .ok (.iconst 0, 1) := by decide +kernel
theorem dX0_begin_7 : decode cX0_begin 7 = .ok (.putfield 31, 3) := by decide +kernel
theorem dX0_begin_10 : decode cX0_begin 10 = .ok (.aload_n 0, 1) := by decide +kernel
theorem dX0_begin_11 : decode cX0_begin 11 = .ok (.iconst 0, 1) := by decide +kernel
theorem dX0_begin_12 : decode cX0_begin 12 = .ok (.putfield 34, 3) := by decide +kernel
theorem dX0_begin_15 : decode cX0_begin 15 = .ok (.aload_n 0, 1) := by decide +kernel
theorem dX0_begin_16 : decode cX0_begin 16 = .ok (.invokevirtual 37, 3) := by decide +kernel
theorem dX0_begin_19 : decode cX0_begin 19 = .ok (.return_, 1) := by decide +kernel
theorem dX0_copy_0 : decode cX0_copy 0 = .ok (.aload_n 0, 1) := by decide +kernel
theorem dX0_copy_1 : decode cX0_copy 1 = .ok (.aload_n 1, 1) := by decide +kernel
theorem dX0_copy_2 : decode cX0_copy 2 = .ok (.getfield 27, 3) := by decide +kernel
theorem dX0_copy_5 : decode cX0_copy 5 = .ok (.putfield 27, 3) := by decide +kernel
theorem dX0_copy_8 : decode cX0_copy 8 = .ok (.aload_n 0, 1) := by decide +kernel
theorem dX0_copy_9 : decode cX0_copy 9 = .ok (.aload_n 1, 1) := by decide +kernel
theorem dX0_copy_10 : decode cX0_copy 10 = .ok (.getfield 31, 3) := by decide +kernel
theorem dX0_copy_13 : decode cX0_copy 13 = .ok (.putfield 31, 3) := by decide +kernel
theorem dX0_copy_16 : decode cX0_copy 16 = .ok (.aload_n 0, 1) := by decide +kernel
theorem dX0_copy_17 : decode cX0_copy 17 = .ok (.aload_n 1, 1) := by decide +kernel
theorem dX0_copy_18 : decode cX0_copy 18 = .ok (.getfield 34, 3) := by decide +kernel
theorem dX0_copy_21 : decode cX0_copy 21 = .ok (.putfield 34, 3) := by decide +kernel
theorem dX0_copy_24 : decode cX0_copy 24 = .ok (.aload_n 0, 1) := by decide +kernel
theorem dX0_copy_25 : decode cX0_copy 25 = .ok (.aload_n 1, 1) := by decide +kernel
theorem dX0_copy_26 : decode cX0_copy 26 = .ok (.getfield 40, 3) := by decide +kernel
theorem dX0_copy_29 : decode cX0_copy 29 = .ok (.putfield 40, 3) := by decide +kernel
theorem dX0_copy_32 : decode cX0_copy 32 = .ok (.iconst 0, 1) := by decide +kernel
theorem dX0_copy_33 : decode cX0_copy 33 = .ok (.istore_n 2, 1) := by decide +kernel
theorem dX0_copy_34 : decode cX0_copy 34 = .ok (.iload_n 2, 1) := by decide +kernel
theorem dX0_copy_35 : decode cX0_copy 35 = .ok (.iconst 4, 1) := by decide +kernel
theorem dX0_copy_36 : decode cX0_copy 36 = .ok (.if_icmp .ge 45, 3) := by decide +kernel
theorem dX0_copy_39 : decode cX0_copy 39 = .ok (.aload_n 0, 1) := by decide +kernel
theorem dX0_copy_40 : decode cX0_copy 40 = .ok (.getfield 9, 3) := by decide +kernel
theorem dX0_copy_43 : decode cX0_copy 43 = .ok (.iload_n 2, 1) := by decide +kernel
theorem dX0_copy_44 : decode cX0_copy 44 = .ok (.aload_n 1, 1) := by decide +kernel
theorem dX0_copy_45 : decode cX0_copy 45 = .ok (.getfield 9, 3) := by decide +kernel
theorem dX0_copy_48 : decode cX0_copy 48 = .ok (.iload_n 2, 1) := by decide +kernel
theorem dX0_copy_49 : decode cX0_copy 49 = .ok (.iaload, 1) := by decide +kernel
theorem dX0_copy_50 : decode cX0_copy 50 = .ok (.iastore, 1) := by decide +kernel
theorem dX0_copy_51 : decode cX0_copy 51 = .ok (.aload_n 0, 1) := by decide +kernel
theorem dX0_copy_52 : decode cX0_copy 52 = .ok (.getfield 15, 3) := by decide +kernel
theorem dX0_copy_55 : decode cX0_copy 55 = .ok (.iload_n 2, 1) := by decide +kernel
theorem dX0_copy_56 : decode cX0_copy 56 = .ok (.aload_n 1, 1) := by decide +kernel
theorem dX0_copy_57 : decode cX0_copy 57 = .ok (.getfield 15, 3) := by decide +kernel
theorem dX0_copy_60 : decode cX0_copy 60 = .ok (.iload_n 2, 1) := by decide +kernel
theorem dX0_copy_61 : decode cX0_copy 61 = .ok (.iaload, 1) := by decide +kernel
theorem dX0_copy_62 : decode cX0_copy 62 = .ok (.iastore, 1) := by decide +kernel
theorem dX0_copy_63 : decode cX0_copy 63 = .ok (.aload_n 0, 1) := by decide +kernel
theorem dX0_copy_64 : decode cX0_copy 64 = .ok (.getfield 18, 3) := by decide +kernel
theorem dX0_copy_67 : decode cX0_copy 67 = .ok (.iload_n 2, 1) := by decide +kernel
theorem dX0_copy_68 : decode cX0_copy 68 = .ok (.aload_n 1, 1) := by decide +kernel
theorem dX0_copy_69 : decode cX0_copy 69 = .ok (.getfield 18, 3) := by decide +kernel
theorem dX0_copy_72 : decode cX0_copy 72 = .ok (.iload_n 2, 1) := by decide +kernel
theorem dX0_copy_73 : decode cX0_copy 73 = .ok (.iaload, 1) := by decide +kernel
theorem dX0_copy_74 : decode cX0_copy 74 = .ok (.iastore, 1) := by decide +kernel
theorem dX0_copy_75 : decode cX0_copy 75 = .ok (.iinc 2 1, 3) := by decide +kernel
theorem dX0_copy_78 : decode cX0_copy 78 = .ok (.goto (-44), 3) := by decide +kernel
theorem dX0_copy_81 : decode cX0_copy 81 = .ok (.iconst 0, 1) := by decide +kernel
theorem dX0_copy_82 : decode cX0_copy 82 = .ok (.istore_n 2, 1) := by decide +kernel
theorem dX0_copy_83 : decode cX0_copy 83 = .ok (.iload_n 2, 1) := by decide +kernel
theorem dX0_copy_84 : decode cX0_copy 84 = .ok (.bipush 6, 2) := by decide +kernel
theorem dX0_copy_86 : decode cX0_copy 86 = .ok (.if_icmp .gt 33, 3) := by decide +kernel
theorem dX0_copy_89 : decode cX0_copy 89 = .ok (.aload_n 0, 1) := by decide +kernel
theorem dX0_copy_90 : decode cX0_copy 90 = .ok (.getfield 21, 3) := by decide +kernel
theorem dX0_copy_93 : decode cX0_copy 93 = .ok (.iload_n 2, 1) := by decide +kernel
theorem dX0_copy_94 : decode cX0_copy 94 = .ok (.aload_n 1, 1) := by decide +kernel
theorem dX0_copy_95 : decode cX0_copy 95 = .ok (.getfield 21, 3) := by decide +kernel
theorem dX0_copy_98 : decode cX0_copy 98 = .ok (.iload_n 2, 1) := by decide +kernel
theorem dX0_copy_99 : decode cX0_copy 99 = .ok (.iaload, 1) := by decide +kernel
theorem dX0_copy_100 : decode cX0_copy 100 = .ok (.iastore, 1) := by decide +kernel
theorem dX0_copy_101 : decode cX0_copy 101 = .ok (.aload_n 0, 1) := by decide +kernel
theorem dX0_copy_102 : decode cX0_copy 102 = .ok (.getfield 24, 3) := by decide +kernel
theorem dX0_copy_105 : decode cX0_copy 105 = .ok (.iload_n 2, 1) := by decide +kernel
theorem dX0_copy_106 : decode cX0_copy 106 = .ok (.aload_n 1, 1) := by decide +kernel
theorem dX0_copy_107 : decode cX0_copy 107 = .ok (.getfield 24, 3) := by decide +kernel
theorem dX0_copy_110 : decode cX0_copy 110 = .ok (.iload_n 2, 1) := by decide +kernel
theorem dX0_copy_111 : decode cX0_copy 111 = .ok (.iaload, 1) := by decide +kernel
theorem dX0_copy_112 : decode cX0_copy 112 = .ok (.iastore, 1) := by decide +kernel
theorem dX0_copy_113 : decode cX0_copy 113 = .ok (.iinc 2 1, 3) := by decide +kernel
theorem dX0_copy_116 : decode cX0_copy 116 = .ok (.goto (-33), 3) := by decide +kernel
theorem dX0_copy_119 : decode cX0_copy 119 = .ok (.return_, 1) := by decide +kernel
theorem dX0_seat_0 : decode cX0_seat 0 = .ok (.aload_n 0, 1) := by decide +kernel
theorem dX0_seat_1 : decode cX0_seat 1 = .ok (.getfield 34, 3) := by decide +kernel
theorem dX0_seat_4 : decode cX0_seat 4 = .ok (.iconst 4, 1) := by decide +kernel
theorem dX0_seat_5 : decode cX0_seat 5 = .ok (.if_icmp .lt 6, 3) := by decide +kernel
theorem dX0_seat_8 : decode cX0_seat 8 = .ok (.bipush (-104), 2) := by decide +kernel
theorem dX0_seat_10 : decode cX0_seat 10 = .ok (.ireturn, 1) := by decide +kernel
theorem dX0_seat_11 : decode cX0_seat 11 = .ok (.aload_n 0, 1) := by decide +kernel
theorem dX0_seat_12 : decode cX0_seat 12 = .ok (.getfield 34, 3) := by decide +kernel
theorem dX0_seat_15 : decode cX0_seat 15 = .ok (.istore_n 2, 1) := by decide +kernel
theorem dX0_seat_16 : decode cX0_seat 16 = .ok (.aload_n 0, 1) := by decide +kernel
theorem dX0_seat_17 : decode cX0_seat 17 = .ok (.getfield 9, 3) := by decide +kernel
theorem dX0_seat_20 : decode cX0_seat 20 = .ok (.iload_n 2, 1) := by decide +kernel
theorem dX0_seat_21 : decode cX0_seat 21 = .ok (.iload_n 1, 1) := by decide +kernel
theorem dX0_seat_22 : decode cX0_seat 22 = .ok (.iastore, 1) := by decide +kernel
theorem dX0_seat_23 : decode cX0_seat 23 = .ok (.aload_n 0, 1) := by decide +kernel
theorem dX0_seat_24 : decode cX0_seat 24 = .ok (.getfield 15, 3) := by decide +kernel
theorem dX0_seat_27 : decode cX0_seat 27 = .ok (.iload_n 2, 1) := by decide +kernel
theorem dX0_seat_28 : decode cX0_seat 28 = .ok (.iconst 0, 1) := by decide +kernel
theorem dX0_seat_29 : decode cX0_seat 29 = .ok (.iastore, 1) := by decide +kernel
theorem dX0_seat_30 : decode cX0_seat 30 = .ok (.aload_n 0, 1) := by decide +kernel
theorem dX0_seat_31 : decode cX0_seat 31 = .ok (.getfield 18, 3) := by decide +kernel
theorem dX0_seat_34 : decode cX0_seat 34 = .ok (.iload_n 2, 1) := by decide +kernel
theorem dX0_seat_35 : decode cX0_seat 35 = .ok (.iconst 0, 1) := by decide +kernel
theorem dX0_seat_36 : decode cX0_seat 36 = .ok (.iastore, 1) := by decide +kernel
theorem dX0_seat_37 : decode cX0_seat 37 = .ok (.aload_n 0, 1) := by decide +kernel
theorem dX0_seat_38 : decode cX0_seat 38 = .ok (.dup, 1) := by decide +kernel
theorem dX0_seat_39 : decode cX0_seat 39 = .ok (.getfield 34, 3) := by decide +kernel
theorem dX0_seat_42 : decode cX0_seat 42 = .ok (.iconst 1, 1) := by decide +kernel
theorem dX0_seat_43 : decode cX0_seat 43 = .ok (.iadd, 1) := by decide +kernel
theorem dX0_seat_44 : decode cX0_seat 44 = .ok (.putfield 34, 3) := by decide +kernel
theorem dX0_seat_47 : decode cX0_seat 47 = .ok (.iload_n 2, 1) := by decide +kernel
theorem dX0_seat_48 : decode cX0_seat 48 = .ok (.ireturn, 1) := by decide +kernel
theorem dX0_peopleIn_0 : decode cX0_peopleIn 0 = .ok (.iconst 0, 1) := by decide +kernel
theorem dX0_peopleIn_1 : decode cX0_peopleIn 1 = .ok (.istore_n 2, 1) := by decide +kernel
theorem dX0_peopleIn_2 : decode cX0_peopleIn 2 = .ok (.iconst 0, 1) := by decide +kernel
theorem dX0_peopleIn_3 : decode cX0_peopleIn 3 = .ok (.istore_n 3, 1) := by decide +kernel
theorem dX0_peopleIn_4 : decode cX0_peopleIn 4 = .ok (.iload_n 3, 1) := by decide +kernel
theorem dX0_peopleIn_5 : decode cX0_peopleIn 5 = .ok (.aload_n 0, 1) := by decide +kernel
theorem dX0_peopleIn_6 : decode cX0_peopleIn 6 = .ok (.getfield 34, 3) := by decide +kernel
theorem dX0_peopleIn_9 : decode cX0_peopleIn 9 = .ok (.if_icmp .ge 29, 3) := by decide +kernel
theorem dX0_peopleIn_12 : decode cX0_peopleIn 12 = .ok (.iload_n 2, 1) := by decide +kernel
theorem dX0_peopleIn_13 : decode cX0_peopleIn 13 = .ok (.aload_n 0, 1) := by decide +kernel
theorem dX0_peopleIn_14 : decode cX0_peopleIn 14 = .ok (.getfield 9, 3) := by decide +kernel
theorem dX0_peopleIn_17 : decode cX0_peopleIn 17 = .ok (.iload_n 3, 1) := by decide +kernel
theorem dX0_peopleIn_18 : decode cX0_peopleIn 18 = .ok (.iaload, 1) := by decide +kernel
theorem dX0_peopleIn_19 : decode cX0_peopleIn 19 = .ok (.iload_n 1, 1) := by decide +kernel
theorem dX0_peopleIn_20 : decode cX0_peopleIn 20 = .ok (.if_icmp .ne 9, 3) := by decide +kernel
theorem dX0_peopleIn_23 : decode cX0_peopleIn 23 = .ok (.iconst 1, 1) := by decide +kernel
theorem dX0_peopleIn_24 : decode cX0_peopleIn 24 = .ok (.iload_n 3, 1) := by decide +kernel
theorem dX0_peopleIn_25 : decode cX0_peopleIn 25 = .ok (.ishl, 1) := by decide +kernel
theorem dX0_peopleIn_26 : decode cX0_peopleIn 26 = .ok (.goto 4, 3) := by decide +kernel
theorem dX0_peopleIn_29 : decode cX0_peopleIn 29 = .ok (.iconst 0, 1) := by decide +kernel
theorem dX0_peopleIn_30 : decode cX0_peopleIn 30 = .ok (.ior, 1) := by decide +kernel
theorem dX0_peopleIn_31 : decode cX0_peopleIn 31 = .ok (.istore_n 2, 1) := by decide +kernel
theorem dX0_peopleIn_32 : decode cX0_peopleIn 32 = .ok (.iinc 3 1, 3) := by decide +kernel
theorem dX0_peopleIn_35 : decode cX0_peopleIn 35 = .ok (.goto (-31), 3) := by decide +kernel
theorem dX0_peopleIn_38 : decode cX0_peopleIn 38 = .ok (.iload_n 2, 1) := by decide +kernel
theorem dX0_peopleIn_39 : decode cX0_peopleIn 39 = .ok (.ireturn, 1) := by decide +kernel
theorem dX0_stirred_0 : decode cX0_stirred 0 = .ok (.iconst 0, 1) := by decide +kernel
theorem dX0_stirred_1 : decode cX0_stirred 1 = .ok (.istore_n 2, 1) := by decide +kernel
theorem dX0_stirred_2 : decode cX0_stirred 2 = .ok (.iconst 0, 1) := by decide +kernel
theorem dX0_stirred_3 : decode cX0_stirred 3 = .ok (.istore_n 3, 1) := by decide +kernel
theorem dX0_stirred_4 : decode cX0_stirred 4 = .ok (.iload_n 3, 1) := by decide +kernel
theorem dX0_stirred_5 : decode cX0_stirred 5 = .ok (.aload_n 0, 1) := by decide +kernel
theorem dX0_stirred_6 : decode cX0_stirred 6 = .ok (.getfield 34, 3) := by decide +kernel
theorem dX0_stirred_9 : decode cX0_stirred 9 = .ok (.if_icmp .ge 24, 3) := by decide +kernel
theorem dX0_stirred_12 : decode cX0_stirred 12 = .ok (.iload_n 2, 1) := by decide +kernel
theorem dX0_stirred_13 : decode cX0_stirred 13 = .ok (.iload_n 1, 1) := by decide +kernel
theorem dX0_stirred_14 : decode cX0_stirred 14 = .ok (.iload_n 3, 1) := by decide +kernel
theorem dX0_stirred_15 : decode cX0_stirred 15 = .ok (.ishr, 1) := by decide +kernel
theorem dX0_stirred_16 : decode cX0_stirred 16 = .ok (.iconst 1, 1) := by decide +kernel
theorem dX0_stirred_17 : decode cX0_stirred 17 = .ok (.iand, 1) := by decide +kernel
theorem dX0_stirred_18 : decode cX0_stirred 18 = .ok (.aload_n 0, 1) := by decide +kernel
theorem dX0_stirred_19 : decode cX0_stirred 19 = .ok (.getfield 9, 3) := by decide +kernel
theorem dX0_stirred_22 : decode cX0_stirred 22 = .ok (.iload_n 3, 1) := by decide +kernel
theorem dX0_stirred_23 : decode cX0_stirred 23 = .ok (.iaload, 1) := by decide +kernel
theorem dX0_stirred_24 : decode cX0_stirred 24 = .ok (.ishl, 1) := by decide +kernel
theorem dX0_stirred_25 : decode cX0_stirred 25 = .ok (.ior, 1) := by decide +kernel
theorem dX0_stirred_26 : decode cX0_stirred 26 = .ok (.istore_n 2, 1) := by decide +kernel
theorem dX0_stirred_27 : decode cX0_stirred 27 = .ok (.iinc 3 1, 3) := by decide +kernel
theorem dX0_stirred_30 : decode cX0_stirred 30 = .ok (.goto (-26), 3) := by decide +kernel
theorem dX0_stirred_33 : decode cX0_stirred 33 = .ok (.iload_n 2, 1) := by decide +kernel
theorem dX0_stirred_34 : decode cX0_stirred 34 = .ok (.ireturn, 1) := by decide +kernel
theorem dX0_inDark_0 : decode cX0_inDark 0 = .ok (.iconst 0, 1) := by decide +kernel
theorem dX0_inDark_1 : decode cX0_inDark 1 = .ok (.istore_n 2, 1) := by decide +kernel
theorem dX0_inDark_2 : decode cX0_inDark 2 = .ok (.iconst 0, 1) := by decide +kernel
theorem dX0_inDark_3 : decode cX0_inDark 3 = .ok (.istore_n 3, 1) := by decide +kernel
theorem dX0_inDark_4 : decode cX0_inDark 4 = .ok (.iload_n 3, 1) := by decide +kernel
theorem dX0_inDark_5 : decode cX0_inDark 5 = .ok (.aload_n 0, 1) := by decide +kernel
theorem dX0_inDark_6 : decode cX0_inDark 6 = .ok (.getfield 34, 3) := by decide +kernel
theorem dX0_inDark_9 : decode cX0_inDark 9 = .ok (.if_icmp .ge 24, 3) := by decide +kernel
theorem dX0_inDark_12 : decode cX0_inDark 12 = .ok (.iload_n 2, 1) := by decide +kernel
theorem dX0_inDark_13 : decode cX0_inDark 13 = .ok (.iconst 1, 1) := by decide +kernel
theorem dX0_inDark_14 : decode cX0_inDark 14 = .ok (.iload_n 1, 1) := by decide +kernel
theorem dX0_inDark_15 : decode cX0_inDark 15 = .ok (.aload_n 0, 1) := by decide +kernel
theorem dX0_inDark_16 : decode cX0_inDark 16 = .ok (.getfield 9, 3) := by decide +kernel
theorem dX0_inDark_19 : decode cX0_inDark 19 = .ok (.iload_n 3, 1) := by decide +kernel
theorem dX0_inDark_20 : decode cX0_inDark 20 = .ok (.iaload, 1) := by decide +kernel
theorem dX0_inDark_21 : decode cX0_inDark 21 = .ok (.ishr, 1) := by decide +kernel
theorem dX0_inDark_22 : decode cX0_inDark 22 = .ok (.iconst 1, 1) := by decide +kernel
theorem dX0_inDark_23 : decode cX0_inDark 23 = .ok (.iand, 1) := by decide +kernel
theorem dX0_inDark_24 : decode cX0_inDark 24 = .ok (.isub, 1) := by decide +kernel
theorem dX0_inDark_25 : decode cX0_inDark 25 = .ok (.iadd, 1) := by decide +kernel
theorem dX0_inDark_26 : decode cX0_inDark 26 = .ok (.istore_n 2, 1) := by decide +kernel
theorem dX0_inDark_27 : decode cX0_inDark 27 = .ok (.iinc 3 1, 3) := by decide +kernel
theorem dX0_inDark_30 : decode cX0_inDark 30 = .ok (.goto (-26), 3) := by decide +kernel
theorem dX0_inDark_33 : decode cX0_inDark 33 = .ok (.iload_n 2, 1) := by decide +kernel
theorem dX0_inDark_34 : decode cX0_inDark 34 = .ok (.ireturn, 1) := by decide +kernel
theorem dX0_write_0 : decode cX0_write 0 = .ok (.iconst 0, 1) := by decide +kernel
theorem dX0_write_1 : decode cX0_write 1 = .ok (.istore_n 3, 1) := by decide +kernel
theorem dX0_write_2 : decode cX0_write 2 = .ok (.iload_n 3, 1) := by decide +kernel
theorem dX0_write_3 : decode cX0_write 3 = .ok (.aload_n 0, 1) := by decide +kernel
theorem dX0_write_4 : decode cX0_write 4 = .ok (.getfield 34, 3) := by decide +kernel
theorem dX0_write_7 : decode cX0_write 7 = .ok (.if_icmp .ge 44, 3) := by decide +kernel
theorem dX0_write_10 : decode cX0_write 10 = .ok (.aload_n 0, 1) := by decide +kernel
theorem dX0_write_11 : decode cX0_write 11 = .ok (.getfield 15, 3) := by decide +kernel
theorem dX0_write_14 : decode cX0_write 14 = .ok (.iload_n 3, 1) := by decide +kernel
theorem dX0_write_15 : decode cX0_write 15 = .ok (.dup2, 1) := by decide +kernel
theorem dX0_write_16 : decode cX0_write 16 = .ok (.iaload, 1) := by decide +kernel
theorem dX0_write_17 : decode cX0_write 17 = .ok (.iload_n 1, 1) := by decide +kernel
theorem dX0_write_18 : decode cX0_write 18 = .ok (.iload_n 3, 1) := by decide +kernel
theorem dX0_write_19 : decode cX0_write 19 = .ok (.ishr, 1) := by decide +kernel
theorem dX0_write_20 : decode cX0_write 20 = .ok (.iconst 1, 1) := by decide +kernel
theorem dX0_write_21 : decode cX0_write 21 = .ok (.iand, 1) := by decide +kernel
theorem dX0_write_22 : decode cX0_write 22 = .ok (.iadd, 1) := by decide +kernel
theorem dX0_write_23 : decode cX0_write 23 = .ok (.iastore, 1) := by decide +kernel
theorem dX0_write_24 : decode cX0_write 24 = .ok (.aload_n 0, 1) := by decide +kernel
theorem dX0_write_25 : decode cX0_write 25 = .ok (.getfield 18, 3) := by decide +kernel
theorem dX0_write_28 : decode cX0_write 28 = .ok (.iload_n 3, 1) := by decide +kernel
theorem dX0_write_29 : decode cX0_write 29 = .ok (.dup2, 1) := by decide +kernel
theorem dX0_write_30 : decode cX0_write 30 = .ok (.iaload, 1) := by decide +kernel
theorem dX0_write_31 : decode cX0_write 31 = .ok (.iconst 1, 1) := by decide +kernel
theorem dX0_write_32 : decode cX0_write 32 = .ok (.iload_n 2, 1) := by decide +kernel
theorem dX0_write_33 : decode cX0_write 33 = .ok (.aload_n 0, 1) := by decide +kernel
theorem dX0_write_34 : decode cX0_write 34 = .ok (.getfield 9, 3) := by decide +kernel
theorem dX0_write_37 : decode cX0_write 37 = .ok (.iload_n 3, 1) := by decide +kernel
theorem dX0_write_38 : decode cX0_write 38 = .ok (.iaload, 1) := by decide +kernel
theorem dX0_write_39 : decode cX0_write 39 = .ok (.ishr, 1) := by decide +kernel
theorem dX0_write_40 : decode cX0_write 40 = .ok (.iconst 1, 1) := by decide +kernel
theorem dX0_write_41 : decode cX0_write 41 = .ok (.iand, 1) := by decide +kernel
theorem dX0_write_42 : decode cX0_write 42 = .ok (.isub, 1) := by decide +kernel
theorem dX0_write_43 : decode cX0_write 43 = .ok (.iadd, 1) := by decide +kernel
theorem dX0_write_44 : decode cX0_write 44 = .ok (.iastore, 1) := by decide +kernel
theorem dX0_write_45 : decode cX0_write 45 = .ok (.iinc 3 1, 3) := by decide +kernel
theorem dX0_write_48 : decode cX0_write 48 = .ok (.goto (-46), 3) := by decide +kernel
theorem dX0_write_51 : decode cX0_write 51 = .ok (.return_, 1) := by decide +kernel
theorem dX0_ofAll_0 : decode cX0_ofAll 0 = .ok (.iconst 0, 1) := by decide +kernel
theorem dX0_ofAll_1 : decode cX0_ofAll 1 = .ok (.istore_n 2, 1) := by decide +kernel
theorem dX0_ofAll_2 : decode cX0_ofAll 2 = .ok (.iconst 0, 1) := by decide +kernel
theorem dX0_ofAll_3 : decode cX0_ofAll 3 = .ok (.istore_n 3, 1) := by decide +kernel
theorem dX0_ofAll_4 : decode cX0_ofAll 4 = .ok (.iload_n 3, 1) := by decide +kernel
theorem dX0_ofAll_5 : decode cX0_ofAll 5 = .ok (.aload_n 0, 1) := by decide +kernel
theorem dX0_ofAll_6 : decode cX0_ofAll 6 = .ok (.getfield 34, 3) := by decide +kernel
theorem dX0_ofAll_9 : decode cX0_ofAll 9 = .ok (.if_icmp .ge 21, 3) := by decide +kernel
theorem dX0_ofAll_12 : decode cX0_ofAll 12 = .ok (.iload_n 3, 1) := by decide +kernel
theorem dX0_ofAll_13 : decode cX0_ofAll 13 = .ok (.aload_n 1, 1) := by decide +kernel
theorem dX0_ofAll_14 : decode cX0_ofAll 14 = .ok (.arraylength, 1) := by decide +kernel
theorem dX0_ofAll_15 : decode cX0_ofAll 15 = .ok (.if_icmp .ge 15, 3) := by decide +kernel
theorem dX0_ofAll_18 : decode cX0_ofAll 18 = .ok (.iload_n 2, 1) := by decide +kernel
theorem dX0_ofAll_19 : decode cX0_ofAll 19 = .ok (.aload_n 1, 1) := by decide +kernel
theorem dX0_ofAll_20 : decode cX0_ofAll 20 = .ok (.iload_n 3, 1) := by decide +kernel
theorem dX0_ofAll_21 : decode cX0_ofAll 21 = .ok (.iaload, 1) := by decide +kernel
theorem dX0_ofAll_22 : decode cX0_ofAll 22 = .ok (.iadd, 1) := by decide +kernel
theorem dX0_ofAll_23 : decode cX0_ofAll 23 = .ok (.istore_n 2, 1) := by decide +kernel
theorem dX0_ofAll_24 : decode cX0_ofAll 24 = .ok (.iinc 3 1, 3) := by decide +kernel
theorem dX0_ofAll_27 : decode cX0_ofAll 27 = .ok (.goto (-23), 3) := by decide +kernel
theorem dX0_ofAll_30 : decode cX0_ofAll 30 = .ok (.iload_n 2, 1) := by decide +kernel
theorem dX0_ofAll_31 : decode cX0_ofAll 31 = .ok (.ireturn, 1) := by decide +kernel
theorem dX0_tell_0 : decode cX0_tell 0 = .ok (.aload_n 0, 1) := by decide +kernel
theorem dX0_tell_1 : decode cX0_tell 1 = .ok (.getfield 40, 3) := by decide +kernel
theorem dX0_tell_4 : decode cX0_tell 4 = .ok (.bipush 8, 2) := by decide +kernel
theorem dX0_tell_6 : decode cX0_tell 6 = .ok (.if_icmp .lt 6, 3) := by decide +kernel
theorem dX0_tell_9 : decode cX0_tell 9 = .ok (.bipush (-104), 2) := by decide +kernel
theorem dX0_tell_11 : decode cX0_tell 11 = .ok (.ireturn, 1) := by decide +kernel
theorem dX0_tell_12 : decode cX0_tell 12 = .ok (.iload_n 3, 1) := by decide +kernel
theorem dX0_tell_13 : decode cX0_tell 13 = .ok (.ifCond .eq 18, 3) := by decide +kernel
theorem dX0_tell_16 : decode cX0_tell 16 = .ok (.aload_n 0, 1) := by decide +kernel
theorem dX0_tell_17 : decode cX0_tell 17 = .ok (.getfield 21, 3) := by decide +kernel
theorem dX0_tell_20 : decode cX0_tell 20 = .ok (.iload_n 1, 1) := by decide +kernel
theorem dX0_tell_21 : decode cX0_tell 21 = .ok (.dup2, 1) := by decide +kernel
theorem dX0_tell_22 : decode cX0_tell 22 = .ok (.iaload, 1) := by decide +kernel
theorem dX0_tell_23 : decode cX0_tell 23 = .ok (.iconst 1, 1) := by decide +kernel
theorem dX0_tell_24 : decode cX0_tell 24 = .ok (.iload_n 2, 1) := by decide +kernel
theorem dX0_tell_25 : decode cX0_tell 25 = .ok (.ishl, 1) := by decide +kernel
theorem dX0_tell_26 : decode cX0_tell 26 = .ok (.ior, 1) := by decide +kernel
theorem dX0_tell_27 : decode cX0_tell 27 = .ok (.iastore, 1) := by decide +kernel
theorem dX0_tell_28 : decode cX0_tell 28 = .ok (.goto 15, 3) := by decide +kernel
theorem dX0_tell_31 : decode cX0_tell 31 = .ok (.aload_n 0, 1) := by decide +kernel
theorem dX0_tell_32 : decode cX0_tell 32 = .ok (.getfield 24, 3) := by decide +kernel
theorem dX0_tell_35 : decode cX0_tell 35 = .ok (.iload_n 1, 1) := by decide +kernel
theorem dX0_tell_36 : decode cX0_tell 36 = .ok (.dup2, 1) := by decide +kernel
theorem dX0_tell_37 : decode cX0_tell 37 = .ok (.iaload, 1) := by decide +kernel
theorem dX0_tell_38 : decode cX0_tell 38 = .ok (.iconst 1, 1) := by decide +kernel
theorem dX0_tell_39 : decode cX0_tell 39 = .ok (.iload_n 2, 1) := by decide +kernel
theorem dX0_tell_40 : decode cX0_tell 40 = .ok (.ishl, 1) := by decide +kernel
theorem dX0_tell_41 : decode cX0_tell 41 = .ok (.ior, 1) := by decide +kernel
theorem dX0_tell_42 : decode cX0_tell 42 = .ok (.iastore, 1) := by decide +kernel
theorem dX0_tell_43 : decode cX0_tell 43 = .ok (.aload_n 0, 1) := by decide +kernel
theorem dX0_tell_44 : decode cX0_tell 44 = .ok (.dup, 1) := by decide +kernel
theorem dX0_tell_45 : decode cX0_tell 45 = .ok (.getfield 40, 3) := by decide +kernel
theorem dX0_tell_48 : decode cX0_tell 48 = .ok (.iconst 1, 1) := by decide +kernel
theorem dX0_tell_49 : decode cX0_tell 49 = .ok (.iadd, 1) := by decide +kernel
theorem dX0_tell_50 : decode cX0_tell 50 = .ok (.putfield 40, 3) := by decide +kernel
theorem dX0_tell_53 : decode cX0_tell 53 = .ok (.aload_n 0, 1) := by decide +kernel
theorem dX0_tell_54 : decode cX0_tell 54 = .ok (.getfield 40, 3) := by decide +kernel
theorem dX0_tell_57 : decode cX0_tell 57 = .ok (.ireturn, 1) := by decide +kernel
theorem dX0_emptyBook_0 : decode cX0_emptyBook 0 = .ok (.aload_n 0, 1) := by decide +kernel
theorem dX0_emptyBook_1 : decode cX0_emptyBook 1 = .ok (.iconst 0, 1) := by decide +kernel
theorem dX0_emptyBook_2 : decode cX0_emptyBook 2 = .ok (.putfield 40, 3) := by decide +kernel
theorem dX0_emptyBook_5 : decode cX0_emptyBook 5 = .ok (.iconst 0, 1) := by decide +kernel
theorem dX0_emptyBook_6 : decode cX0_emptyBook 6 = .ok (.istore_n 1, 1) := by decide +kernel
theorem dX0_emptyBook_7 : decode cX0_emptyBook 7 = .ok (.iload_n 1, 1) := by decide +kernel
theorem dX0_emptyBook_8 : decode cX0_emptyBook 8 = .ok (.bipush 6, 2) := by decide +kernel
theorem dX0_emptyBook_10 : decode cX0_emptyBook 10 = .ok (.if_icmp .gt 23, 3) := by decide +kernel
theorem dX0_emptyBook_13 : decode cX0_emptyBook 13 = .ok (.aload_n 0, 1) := by decide +kernel
theorem dX0_emptyBook_14 : decode cX0_emptyBook 14 = .ok (.getfield 21, 3) := by decide +kernel
theorem dX0_emptyBook_17 : decode cX0_emptyBook 17 = .ok (.iload_n 1, 1) := by decide +kernel
theorem dX0_emptyBook_18 : decode cX0_emptyBook 18 = .ok (.iconst 0, 1) := by decide +kernel
theorem dX0_emptyBook_19 : decode cX0_emptyBook 19 = .ok (.iastore, 1) := by decide +kernel
theorem dX0_emptyBook_20 : decode cX0_emptyBook 20 = .ok (.aload_n 0, 1) := by decide +kernel
theorem dX0_emptyBook_21 : decode cX0_emptyBook 21 = .ok (.getfield 24, 3) := by decide +kernel
theorem dX0_emptyBook_24 : decode cX0_emptyBook 24 = .ok (.iload_n 1, 1) := by decide +kernel
theorem dX0_emptyBook_25 : decode cX0_emptyBook 25 = .ok (.iconst 0, 1) := by decide +kernel
theorem dX0_emptyBook_26 : decode cX0_emptyBook 26 = .ok (.iastore, 1) := by decide +kernel
theorem dX0_emptyBook_27 : decode cX0_emptyBook 27 = .ok (.iinc 1 1, 3) := by decide +kernel
theorem dX0_emptyBook_30 : decode cX0_emptyBook 30 = .ok (.goto (-23), 3) := by decide +kernel
theorem dX0_emptyBook_33 : decode cX0_emptyBook 33 = .ok (.return_, 1) := by decide +kernel
theorem dX0_bookAgrees_0 : decode cX0_bookAgrees 0 = .ok (.iload_n 1, 1) := by decide +kernel
theorem dX0_bookAgrees_1 : decode cX0_bookAgrees 1 = .ok (.ifCond .lt 9, 3) := by decide +kernel
theorem dX0_bookAgrees_4 : decode cX0_bookAgrees 4 = .ok (.iload_n 1, 1) := by decide +kernel
theorem dX0_bookAgrees_5 : decode cX0_bookAgrees 5 = .ok (.bipush 6, 2) := by decide +kernel
theorem dX0_bookAgrees_7 : decode cX0_bookAgrees 7 = .ok (.if_icmp .le 5, 3) := by decide +kernel
theorem dX0_bookAgrees_10 : decode cX0_bookAgrees 10 = .ok (.iconst 1, 1) := by decide +kernel
theorem dX0_bookAgrees_11 : decode cX0_bookAgrees 11 = .ok (.ireturn, 1) := by decide +kernel
theorem dX0_bookAgrees_12 : decode cX0_bookAgrees 12 = .ok (.aload_n 0, 1) := by decide +kernel
theorem dX0_bookAgrees_13 : decode cX0_bookAgrees 13 = .ok (.getfield 21, 3) := by decide +kernel
theorem dX0_bookAgrees_16 : decode cX0_bookAgrees 16 = .ok (.iload_n 1, 1) := by decide +kernel
theorem dX0_bookAgrees_17 : decode cX0_bookAgrees 17 = .ok (.iaload, 1) := by decide +kernel
theorem dX0_bookAgrees_18 : decode cX0_bookAgrees 18 = .ok (.iload_n 2, 1) := by decide +kernel
theorem dX0_bookAgrees_19 : decode cX0_bookAgrees 19 = .ok (.iconst (-1), 1) := by decide +kernel
theorem dX0_bookAgrees_20 : decode cX0_bookAgrees 20 = .ok (.ixor, 1) := by decide +kernel
theorem dX0_bookAgrees_21 : decode cX0_bookAgrees 21 = .ok (.iand, 1) := by decide +kernel
theorem dX0_bookAgrees_22 : decode cX0_bookAgrees 22 = .ok (.ifCond .ne 18, 3) := by decide +kernel
theorem dX0_bookAgrees_25 : decode cX0_bookAgrees 25 = .ok (.aload_n 0, 1) := by decide +kernel
theorem dX0_bookAgrees_26 : decode cX0_bookAgrees 26 = .ok (.getfield 24, 3) := by decide +kernel
theorem dX0_bookAgrees_29 : decode cX0_bookAgrees 29 = .ok (.iload_n 1, 1) := by decide +kernel
theorem dX0_bookAgrees_30 : decode cX0_bookAgrees 30 = .ok (.iaload, 1) := by decide +kernel
theorem dX0_bookAgrees_31 : decode cX0_bookAgrees 31 = .ok (.iload_n 2, 1) := by decide +kernel
theorem dX0_bookAgrees_32 : decode cX0_bookAgrees 32 = .ok (.iand, 1) := by decide +kernel
theorem dX0_bookAgrees_33 : decode cX0_bookAgrees 33 = .ok (.ifCond .ne 7, 3) := by decide +kernel
theorem dX0_bookAgrees_36 : decode cX0_bookAgrees 36 = .ok (.iconst 1, 1) := by decide +kernel
theorem dX0_bookAgrees_37 : decode cX0_bookAgrees 37 = .ok (.goto 4, 3) := by decide +kernel
theorem dX0_bookAgrees_40 : decode cX0_bookAgrees 40 = .ok (.iconst 0, 1) := by decide +kernel
theorem dX0_bookAgrees_41 : decode cX0_bookAgrees 41 = .ok (.ireturn, 1) := by decide +kernel
theorem dX1_init_0 : decode cX1_init 0 = .ok (.aload_n 0, 1) := by decide +kernel
theorem dX1_init_1 : decode cX1_init 1 = .ok (.invokespecial 3, 3) := by decide +kernel
theorem dX1_init_4 : decode cX1_init 4 = .ok (.aload_n 0, 1) := by decide +kernel
theorem dX1_init_5 : decode cX1_init 5 = .ok (.bipush 6, 2) := by decide +kernel
theorem dX1_init_7 : decode cX1_init 7 = .ok (.newarray .int, 2) := by decide +kernel
theorem dX1_init_9 : decode cX1_init 9 = .ok (.putfield 9, 3) := by decide +kernel
theorem dX1_init_12 : decode cX1_init 12 = .ok (.aload_n 0, 1) := by decide +kernel
theorem dX1_init_13 : decode cX1_init 13 = .ok (.bipush 6, 2) := by decide +kernel
theorem dX1_init_15 : decode cX1_init 15 = .ok (.newarray .int, 2) := by decide +kernel
theorem dX1_init_17 : decode cX1_init 17 = .ok (.putfield 15, 3) := by decide +kernel
theorem dX1_init_20 : decode cX1_init 20 = .ok (.aload_n 0, 1) := by decide +kernel
theorem dX1_init_21 : decode cX1_init 21 = .ok (.bipush 6, 2) := by decide +kernel
theorem dX1_init_23 : decode cX1_init 23 = .ok (.newarray .int, 2) := by decide +kernel
theorem dX1_init_25 : decode cX1_init 25 = .ok (.putfield 18, 3) := by decide +kernel
theorem dX1_init_28 : decode cX1_init 28 = .ok (.return_, 1) := by decide +kernel
set_option maxRecDepth 20000 in
theorem ggX1_read_J0_indexOf_0f7a4 : GoodIn wsX1_read wsJ0_indexOf_0f7a4 := goodIn_r _ [15, 16, 17, 18, 14, 19, 20, 21, 22, 23, 24, 25, 26, 27, 28, 29, 30, 31, 32, 33, 34, 35, 36, 37, 38, 39, 40, 4, 41, 42, 3, 5, 43, 44, 45, 46, 47, 48, 49, 50, 51, 52, 53, 54, 55, 56, 57, 58, 59, 60, 61, 62, 63, 64, 65, 66, 67, 68, 69, 70, 71, 72, 73, 74, 75, 76, 77, 78, 79, 80, 81, 82, 83, 84, 85, 86, 87, 88, 89, 90, 91, 92, 93, 94, 95, 96] (by decide +kernel) (by decide +kernel)
set_option maxRecDepth 20000 in
theorem gX1_read_J0_indexOf_0f7a4 : GoodIn wsX1_read (wsV RX1 41 RJ0 yJ0_indexOf_0f7a4 wsJ0_indexOf_0f7a4) := goodIn_app (goodIn_of _ (by decide +kernel)) ggX1_read_J0_indexOf_0f7a4
set_option maxRecDepth 20000 in
theorem ggX1_read_X1_seenBy : GoodIn wsX1_read wsX1_seenBy := goodIn_r _ [100] (by decide +kernel) (by decide +kernel)
set_option maxRecDepth 20000 in
theorem gX1_read_X1_seenBy : GoodIn wsX1_read (va_wsS RX1 47 yX1_seenBy wsX1_seenBy) := goodIn_app (goodIn_of _ (by decide +kernel)) ggX1_read_X1_seenBy
set_option maxRecDepth 20000 in
theorem ggX1_read_X1_allOnes : GoodIn wsX1_read wsX1_allOnes := goodIn_r _ [104, 6, 107, 108, 109, 110] (by decide +kernel) (by decide +kernel)
set_option maxRecDepth 20000 in
theorem gX1_read_X1_allOnes : GoodIn wsX1_read (wsV RX1 50 RX1 yX1_allOnes wsX1_allOnes) := goodIn_app (goodIn_of _ (by decide +kernel)) ggX1_read_X1_allOnes
theorem dX1_read_0 : decode cX1_read 0 = .ok (.aload_n 0, 1) := by decide +kernel
theorem dX1_read_1 : decode cX1_read 1 = .ok (.bipush 6, 2) := by decide +kernel
theorem dX1_read_3 : decode cX1_read 3 = .ok (.aload_n 1, 1) := by decide +kernel
theorem dX1_read_4 : decode cX1_read 4 = .ok (.getfield 21, 3) := by decide +kernel
theorem dX1_read_7 : decode cX1_read 7 = .ok (.iconst 1, 1) := by decide +kernel
theorem dX1_read_8 : decode cX1_read 8 = .ok (.iadd, 1) := by decide +kernel
theorem dX1_read_9 : decode cX1_read 9 = .ok (.iconst 3, 1) := by decide +kernel
theorem dX1_read_10 : decode cX1_read 10 = .ok (.idiv, 1) := by decide +kernel
theorem dX1_read_11 : decode cX1_read 11 = .ok (.invokestatic 27, 3) := by decide +kernel
theorem dX1_read_14 : decode cX1_read 14 = .ok (.putfield 33, 3) := by decide +kernel
theorem dX1_read_17 : decode cX1_read 17 = .ok (.iconst 0, 1) := by decide +kernel
theorem dX1_read_18 : decode cX1_read 18 = .ok (.istore_n 2, 1) := by decide +kernel
theorem dX1_read_19 : decode cX1_read 19 = .ok (.iload_n 2, 1) := by decide +kernel
theorem dX1_read_20 : decode cX1_read 20 = .ok (.aload_n 0, 1) := by decide +kernel
theorem dX1_read_21 : decode cX1_read 21 = .ok (.getfield 33, 3) := by decide +kernel
theorem dX1_read_24 : decode cX1_read 24 = .ok (.if_icmp .ge 94, 3) := by decide +kernel
theorem dX1_read_27 : decode cX1_read 27 = .ok (.iload_n 2, 1) := by decide +kernel
theorem dX1_read_28 : decode cX1_read 28 = .ok (.iconst 3, 1) := by decide +kernel
theorem dX1_read_29 : decode cX1_read 29 = .ok (.imul, 1) := by decide +kernel
theorem dX1_read_30 : decode cX1_read 30 = .ok (.istore_n 3, 1) := by decide +kernel
theorem dX1_read_31 : decode cX1_read 31 = .ok (.aload_n 1, 1) := by decide +kernel
theorem dX1_read_32 : decode cX1_read 32 = .ok (.getfield 36, 3) := by decide +kernel
theorem dX1_read_35 : decode cX1_read 35 = .ok (.iload_n 3, 1) := by decide +kernel
theorem dX1_read_36 : decode cX1_read 36 = .ok (.iconst 1, 1) := by decide +kernel
theorem dX1_read_37 : decode cX1_read 37 = .ok (.iadd, 1) := by decide +kernel
theorem dX1_read_38 : decode cX1_read 38 = .ok (.iaload, 1) := by decide +kernel
theorem dX1_read_39 : decode cX1_read 39 = .ok (.bipush 48, 2) := by decide +kernel
theorem dX1_read_41 : decode cX1_read 41 = .ok (.isub, 1) := by decide +kernel
theorem dX1_read_42 : decode cX1_read 42 = .ok (.istore 4, 2) := by decide +kernel
theorem dX1_read_44 : decode cX1_read 44 = .ok (.aload_n 0, 1) := by decide +kernel
theorem dX1_read_45 : decode cX1_read 45 = .ok (.getfield 9, 3) := by decide +kernel
theorem dX1_read_48 : decode cX1_read 48 = .ok (.iload_n 2, 1) := by decide +kernel
theorem dX1_read_49 : decode cX1_read 49 = .ok (.ldc 39, 2) := by decide +kernel
theorem dX1_read_51 : decode cX1_read 51 = .ok (.aload_n 1, 1) := by decide +kernel
theorem dX1_read_52 : decode cX1_read 52 = .ok (.getfield 36, 3) := by decide +kernel
theorem dX1_read_55 : decode cX1_read 55 = .ok (.iload_n 3, 1) := by decide +kernel
theorem dX1_read_56 : decode cX1_read 56 = .ok (.iaload, 1) := by decide +kernel
theorem dX1_read_57 : decode cX1_read 57 = .ok (.i2c, 1) := by decide +kernel
theorem dX1_read_58 : decode cX1_read 58 = .ok (.invokevirtual 41, 3) := by decide +kernel
theorem dX1_read_61 : decode cX1_read 61 = .ok (.iastore, 1) := by decide +kernel
theorem dX1_read_62 : decode cX1_read 62 = .ok (.aload_n 0, 1) := by decide +kernel
theorem dX1_read_63 : decode cX1_read 63 = .ok (.getfield 15, 3) := by decide +kernel
theorem dX1_read_66 : decode cX1_read 66 = .ok (.iload_n 2, 1) := by decide +kernel
theorem dX1_read_67 : decode cX1_read 67 = .ok (.aload_n 0, 1) := by decide +kernel
theorem dX1_read_68 : decode cX1_read 68 = .ok (.getfield 9, 3) := by decide +kernel
theorem dX1_read_71 : decode cX1_read 71 = .ok (.iload_n 2, 1) := by decide +kernel
theorem dX1_read_72 : decode cX1_read 72 = .ok (.iaload, 1) := by decide +kernel
theorem dX1_read_73 : decode cX1_read 73 = .ok (.iconst 3, 1) := by decide +kernel
theorem dX1_read_74 : decode cX1_read 74 = .ok (.if_icmp .ne 12, 3) := by decide +kernel
theorem dX1_read_77 : decode cX1_read 77 = .ok (.iload 4, 2) := by decide +kernel
theorem dX1_read_79 : decode cX1_read 79 = .ok (.iconst 1, 1) := by decide +kernel
theorem dX1_read_80 : decode cX1_read 80 = .ok (.iadd, 1) := by decide +kernel
theorem dX1_read_81 : decode cX1_read 81 = .ok (.iconst 2, 1) := by decide +kernel
theorem dX1_read_82 : decode cX1_read 82 = .ok (.idiv, 1) := by decide +kernel
theorem dX1_read_83 : decode cX1_read 83 = .ok (.goto 5, 3) := by decide +kernel
theorem dX1_read_86 : decode cX1_read 86 = .ok (.iload 4, 2) := by decide +kernel
theorem dX1_read_88 : decode cX1_read 88 = .ok (.iastore, 1) := by decide +kernel
theorem dX1_read_89 : decode cX1_read 89 = .ok (.aload_n 0, 1) := by decide +kernel
theorem dX1_read_90 : decode cX1_read 90 = .ok (.getfield 18, 3) := by decide +kernel
theorem dX1_read_93 : decode cX1_read 93 = .ok (.iload_n 2, 1) := by decide +kernel
theorem dX1_read_94 : decode cX1_read 94 = .ok (.aload_n 0, 1) := by decide +kernel
theorem dX1_read_95 : decode cX1_read 95 = .ok (.getfield 9, 3) := by decide +kernel
theorem dX1_read_98 : decode cX1_read 98 = .ok (.iload_n 2, 1) := by decide +kernel
theorem dX1_read_99 : decode cX1_read 99 = .ok (.iaload, 1) := by decide +kernel
theorem dX1_read_100 : decode cX1_read 100 = .ok (.iconst 1, 1) := by decide +kernel
theorem dX1_read_101 : decode cX1_read 101 = .ok (.iload_n 2, 1) := by decide +kernel
theorem dX1_read_102 : decode cX1_read 102 = .ok (.ishl, 1) := by decide +kernel
theorem dX1_read_103 : decode cX1_read 103 = .ok (.invokestatic 47, 3) := by decide +kernel
theorem dX1_read_106 : decode cX1_read 106 = .ok (.aload_n 0, 1) := by decide +kernel
theorem dX1_read_107 : decode cX1_read 107 = .ok (.invokevirtual 50, 3) := by decide +kernel
theorem dX1_read_110 : decode cX1_read 110 = .ok (.iand, 1) := by decide +kernel
theorem dX1_read_111 : decode cX1_read 111 = .ok (.iastore, 1) := by decide +kernel
theorem dX1_read_112 : decode cX1_read 112 = .ok (.iinc 2 1, 3) := by decide +kernel
theorem dX1_read_115 : decode cX1_read 115 = .ok (.goto (-96), 3) := by decide +kernel
theorem dX1_read_118 : decode cX1_read 118 = .ok (.return_, 1) := by decide +kernel
theorem dX1_seenBy_0 : decode cX1_seenBy 0 = .ok (.iload_n 0, 1) := by decide +kernel
theorem dX1_seenBy_1 : decode cX1_seenBy 1 = .ok (.tableswitch 49 1 4 #[31, 41, 49, 47], 31) := by decide +kernel
theorem dX1_seenBy_32 : decode cX1_seenBy 32 = .ok (.iload_n 1, 1) := by decide +kernel
theorem dX1_seenBy_33 : decode cX1_seenBy 33 = .ok (.iconst 1, 1) := by decide +kernel
theorem dX1_seenBy_34 : decode cX1_seenBy 34 = .ok (.ishr, 1) := by decide +kernel
theorem dX1_seenBy_35 : decode cX1_seenBy 35 = .ok (.iload_n 1, 1) := by decide +kernel
theorem dX1_seenBy_36 : decode cX1_seenBy 36 = .ok (.ior, 1) := by decide +kernel
theorem dX1_seenBy_37 : decode cX1_seenBy 37 = .ok (.iload_n 1, 1) := by decide +kernel
theorem dX1_seenBy_38 : decode cX1_seenBy 38 = .ok (.iconst 1, 1) := by decide +kernel
theorem dX1_seenBy_39 : decode cX1_seenBy 39 = .ok (.ishl, 1) := by decide +kernel
theorem dX1_seenBy_40 : decode cX1_seenBy 40 = .ok (.ior, 1) := by decide +kernel
theorem dX1_seenBy_41 : decode cX1_seenBy 41 = .ok (.ireturn, 1) := by decide +kernel
theorem dX1_seenBy_42 : decode cX1_seenBy 42 = .ok (.iload_n 1, 1) := by decide +kernel
theorem dX1_seenBy_43 : decode cX1_seenBy 43 = .ok (.iload_n 1, 1) := by decide +kernel
theorem dX1_seenBy_44 : decode cX1_seenBy 44 = .ok (.iconst 1, 1) := by decide +kernel
theorem dX1_seenBy_45 : decode cX1_seenBy 45 = .ok (.ishl, 1) := by decide +kernel
theorem dX1_seenBy_46 : decode cX1_seenBy 46 = .ok (.ior, 1) := by decide +kernel
theorem dX1_seenBy_47 : decode cX1_seenBy 47 = .ok (.ireturn, 1) := by decide +kernel
theorem dX1_seenBy_48 : decode cX1_seenBy 48 = .ok (.iconst (-1), 1) := by decide +kernel
theorem dX1_seenBy_49 : decode cX1_seenBy 49 = .ok (.ireturn, 1) := by decide +kernel
theorem dX1_seenBy_50 : decode cX1_seenBy 50 = .ok (.iload_n 1, 1) := by decide +kernel
theorem dX1_seenBy_51 : decode cX1_seenBy 51 = .ok (.ireturn, 1) := by decide +kernel
theorem dX1_isOf_0 : decode cX1_isOf 0 = .ok (.iload_n 2, 1) := by decide +kernel
theorem dX1_isOf_1 : decode cX1_isOf 1 = .ok (.ifCond .eq 28, 3) := by decide +kernel
theorem dX1_isOf_4 : decode cX1_isOf 4 = .ok (.iload_n 2, 1) := by decide +kernel
theorem dX1_isOf_5 : decode cX1_isOf 5 = .ok (.aload_n 0, 1) := by decide +kernel
theorem dX1_isOf_6 : decode cX1_isOf 6 = .ok (.getfield 9, 3) := by decide +kernel
theorem dX1_isOf_9 : decode cX1_isOf 9 = .ok (.iload_n 1, 1) := by decide +kernel
theorem dX1_isOf_10 : decode cX1_isOf 10 = .ok (.iaload, 1) := by decide +kernel
theorem dX1_isOf_11 : decode cX1_isOf 11 = .ok (.if_icmp .eq 18, 3) := by decide +kernel
theorem dX1_isOf_14 : decode cX1_isOf 14 = .ok (.iload_n 2, 1) := by decide +kernel
theorem dX1_isOf_15 : decode cX1_isOf 15 = .ok (.iconst 1, 1) := by decide +kernel
theorem dX1_isOf_16 : decode cX1_isOf 16 = .ok (.if_icmp .ne 17, 3) := by decide +kernel
theorem dX1_isOf_19 : decode cX1_isOf 19 = .ok (.aload_n 0, 1) := by decide +kernel
theorem dX1_isOf_20 : decode cX1_isOf 20 = .ok (.getfield 9, 3) := by decide +kernel
theorem dX1_isOf_23 : decode cX1_isOf 23 = .ok (.iload_n 1, 1) := by decide +kernel
theorem dX1_isOf_24 : decode cX1_isOf 24 = .ok (.iaload, 1) := by decide +kernel
theorem dX1_isOf_25 : decode cX1_isOf 25 = .ok (.iconst 4, 1) := by decide +kernel
theorem dX1_isOf_26 : decode cX1_isOf 26 = .ok (.if_icmp .ne 7, 3) := by decide +kernel
theorem dX1_isOf_29 : decode cX1_isOf 29 = .ok (.iconst 1, 1) := by decide +kernel
theorem dX1_isOf_30 : decode cX1_isOf 30 = .ok (.goto 4, 3) := by decide +kernel
theorem dX1_isOf_33 : decode cX1_isOf 33 = .ok (.iconst 0, 1) := by decide +kernel
theorem dX1_isOf_34 : decode cX1_isOf 34 = .ok (.ireturn, 1) := by decide +kernel
theorem dX1_allOnes_0 : decode cX1_allOnes 0 = .ok (.iconst 1, 1) := by decide +kernel
theorem dX1_allOnes_1 : decode cX1_allOnes 1 = .ok (.aload_n 0, 1) := by decide +kernel
theorem dX1_allOnes_2 : decode cX1_allOnes 2 = .ok (.getfield 33, 3) := by decide +kernel
theorem dX1_allOnes_5 : decode cX1_allOnes 5 = .ok (.ishl, 1) := by decide +kernel
theorem dX1_allOnes_6 : decode cX1_allOnes 6 = .ok (.iconst 1, 1) := by decide +kernel
theorem dX1_allOnes_7 : decode cX1_allOnes 7 = .ok (.isub, 1) := by decide +kernel
theorem dX1_allOnes_8 : decode cX1_allOnes 8 = .ok (.ireturn, 1) := by decide +kernel
theorem dX1_left_0 : decode cX1_left 0 = .ok (.iload_n 0, 1) := by decide +kernel
theorem dX1_left_1 : decode cX1_left 1 = .ok (.iconst 4, 1) := by decide +kernel
theorem dX1_left_2 : decode cX1_left 2 = .ok (.iload_n 1, 1) := by decide +kernel
theorem dX1_left_3 : decode cX1_left 3 = .ok (.imul, 1) := by decide +kernel
theorem dX1_left_4 : decode cX1_left 4 = .ok (.ishr, 1) := by decide +kernel
theorem dX1_left_5 : decode cX1_left 5 = .ok (.bipush 15, 2) := by decide +kernel
theorem dX1_left_7 : decode cX1_left 7 = .ok (.iand, 1) := by decide +kernel
theorem dX1_left_8 : decode cX1_left 8 = .ok (.ireturn, 1) := by decide +kernel
set_option maxRecDepth 20000 in
theorem ggX1_litOnes_X1_left : GoodIn wsX1_litOnes wsX1_left := goodIn_r _ [5] (by decide +kernel) (by decide +kernel)
set_option maxRecDepth 20000 in
theorem gX1_litOnes_X1_left : GoodIn wsX1_litOnes (va_wsS RX1 54 yX1_left wsX1_left) := goodIn_app (goodIn_of _ (by decide +kernel)) ggX1_litOnes_X1_left
theorem dX1_litOnes_0 : decode cX1_litOnes 0 = .ok (.iconst 0, 1) := by decide +kernel
theorem dX1_litOnes_1 : decode cX1_litOnes 1 = .ok (.istore_n 2, 1) := by decide +kernel
theorem dX1_litOnes_2 : decode cX1_litOnes 2 = .ok (.iconst 0, 1) := by decide +kernel
theorem dX1_litOnes_3 : decode cX1_litOnes 3 = .ok (.istore_n 3, 1) := by decide +kernel
theorem dX1_litOnes_4 : decode cX1_litOnes 4 = .ok (.iload_n 3, 1) := by decide +kernel
theorem dX1_litOnes_5 : decode cX1_litOnes 5 = .ok (.aload_n 0, 1) := by decide +kernel
theorem dX1_litOnes_6 : decode cX1_litOnes 6 = .ok (.getfield 33, 3) := by decide +kernel
theorem dX1_litOnes_9 : decode cX1_litOnes 9 = .ok (.if_icmp .ge 27, 3) := by decide +kernel
theorem dX1_litOnes_12 : decode cX1_litOnes 12 = .ok (.iload_n 2, 1) := by decide +kernel
theorem dX1_litOnes_13 : decode cX1_litOnes 13 = .ok (.iload_n 1, 1) := by decide +kernel
theorem dX1_litOnes_14 : decode cX1_litOnes 14 = .ok (.iload_n 3, 1) := by decide +kernel
theorem dX1_litOnes_15 : decode cX1_litOnes 15 = .ok (.invokestatic 54, 3) := by decide +kernel
theorem dX1_litOnes_18 : decode cX1_litOnes 18 = .ok (.ifCond .le 9, 3) := by decide +kernel
theorem dX1_litOnes_21 : decode cX1_litOnes 21 = .ok (.iconst 1, 1) := by decide +kernel
theorem dX1_litOnes_22 : decode cX1_litOnes 22 = .ok (.iload_n 3, 1) := by decide +kernel
theorem dX1_litOnes_23 : decode cX1_litOnes 23 = .ok (.ishl, 1) := by decide +kernel
theorem dX1_litOnes_24 : decode cX1_litOnes 24 = .ok (.goto 4, 3) := by decide +kernel
theorem dX1_litOnes_27 : decode cX1_litOnes 27 = .ok (.iconst 0, 1) := by decide +kernel
theorem dX1_litOnes_28 : decode cX1_litOnes 28 = .ok (.ior, 1) := by decide +kernel
theorem dX1_litOnes_29 : decode cX1_litOnes 29 = .ok (.istore_n 2, 1) := by decide +kernel
theorem dX1_litOnes_30 : decode cX1_litOnes 30 = .ok (.iinc 3 1, 3) := by decide +kernel
theorem dX1_litOnes_33 : decode cX1_litOnes 33 = .ok (.goto (-29), 3) := by decide +kernel
theorem dX1_litOnes_36 : decode cX1_litOnes 36 = .ok (.iload_n 2, 1) := by decide +kernel
theorem dX1_litOnes_37 : decode cX1_litOnes 37 = .ok (.ireturn, 1) := by decide +kernel
set_option maxRecDepth 20000 in
theorem ggX1_after_X1_left : GoodIn wsX1_after wsX1_left := goodIn_r _ [11] (by decide +kernel) (by decide +kernel)
set_option maxRecDepth 20000 in
theorem gX1_after_X1_left : GoodIn wsX1_after (va_wsS RX1 54 yX1_left wsX1_left) := goodIn_app (goodIn_of _ (by decide +kernel)) ggX1_after_X1_left
theorem dX1_after_0 : decode cX1_after 0 = .ok (.iconst 0, 1) := by decide +kernel
theorem dX1_after_1 : decode cX1_after 1 = .ok (.istore_n 3, 1) := by decide +kernel
theorem dX1_after_2 : decode cX1_after 2 = .ok (.iconst 0, 1) := by decide +kernel
theorem dX1_after_3 : decode cX1_after 3 = .ok (.istore 4, 2) := by decide +kernel
theorem dX1_after_5 : decode cX1_after 5 = .ok (.iload 4, 2) := by decide +kernel
theorem dX1_after_7 : decode cX1_after 7 = .ok (.aload_n 0, 1) := by decide +kernel
theorem dX1_after_8 : decode cX1_after 8 = .ok (.getfield 33, 3) := by decide +kernel
theorem dX1_after_11 : decode cX1_after 11 = .ok (.if_icmp .ge 55, 3) := by decide +kernel
theorem dX1_after_14 : decode cX1_after 14 = .ok (.aload_n 0, 1) := by decide +kernel
theorem dX1_after_15 : decode cX1_after 15 = .ok (.getfield 18, 3) := by decide +kernel
theorem dX1_after_18 : decode cX1_after 18 = .ok (.iload 4, 2) := by decide +kernel
theorem dX1_after_20 : decode cX1_after 20 = .ok (.iaload, 1) := by decide +kernel
theorem dX1_after_21 : decode cX1_after 21 = .ok (.iload_n 2, 1) := by decide +kernel
theorem dX1_after_22 : decode cX1_after 22 = .ok (.iand, 1) := by decide +kernel
theorem dX1_after_23 : decode cX1_after 23 = .ok (.ifCond .eq 13, 3) := by decide +kernel
theorem dX1_after_26 : decode cX1_after 26 = .ok (.aload_n 0, 1) := by decide +kernel
theorem dX1_after_27 : decode cX1_after 27 = .ok (.getfield 15, 3) := by decide +kernel
theorem dX1_after_30 : decode cX1_after 30 = .ok (.iload 4, 2) := by decide +kernel
theorem dX1_after_32 : decode cX1_after 32 = .ok (.iaload, 1) := by decide +kernel
theorem dX1_after_33 : decode cX1_after 33 = .ok (.goto 15, 3) := by decide +kernel
theorem dX1_after_36 : decode cX1_after 36 = .ok (.iconst 0, 1) := by decide +kernel
theorem dX1_after_37 : decode cX1_after 37 = .ok (.iload_n 1, 1) := by decide +kernel
theorem dX1_after_38 : decode cX1_after 38 = .ok (.iload 4, 2) := by decide +kernel
theorem dX1_after_40 : decode cX1_after 40 = .ok (.invokestatic 54, 3) := by decide +kernel
theorem dX1_after_43 : decode cX1_after 43 = .ok (.iconst 1, 1) := by decide +kernel
theorem dX1_after_44 : decode cX1_after 44 = .ok (.isub, 1) := by decide +kernel
theorem dX1_after_45 : decode cX1_after 45 = .ok (.invokestatic 57, 3) := by decide +kernel
theorem dX1_after_48 : decode cX1_after 48 = .ok (.istore 5, 2) := by decide +kernel
theorem dX1_after_50 : decode cX1_after 50 = .ok (.iload_n 3, 1) := by decide +kernel
theorem dX1_after_51 : decode cX1_after 51 = .ok (.iload 5, 2) := by decide +kernel
theorem dX1_after_53 : decode cX1_after 53 = .ok (.iconst 4, 1) := by decide +kernel
theorem dX1_after_54 : decode cX1_after 54 = .ok (.iload 4, 2) := by decide +kernel
theorem dX1_after_56 : decode cX1_after 56 = .ok (.imul, 1) := by decide +kernel
theorem dX1_after_57 : decode cX1_after 57 = .ok (.ishl, 1) := by decide +kernel
theorem dX1_after_58 : decode cX1_after 58 = .ok (.ior, 1) := by decide +kernel
theorem dX1_after_59 : decode cX1_after 59 = .ok (.istore_n 3, 1) := by decide +kernel
theorem dX1_after_60 : decode cX1_after 60 = .ok (.iinc 4 1, 3) := by decide +kernel
theorem dX1_after_63 : decode cX1_after 63 = .ok (.goto (-58), 3) := by decide +kernel
theorem dX1_after_66 : decode cX1_after 66 = .ok (.iload_n 3, 1) := by decide +kernel
theorem dX1_after_67 : decode cX1_after 67 = .ok (.ireturn, 1) := by decide +kernel
theorem dX1_seeing_0 : decode cX1_seeing 0 = .ok (.iconst 0, 1) := by decide +kernel
theorem dX1_seeing_1 : decode cX1_seeing 1 = .ok (.istore_n 2, 1) := by decide +kernel
theorem dX1_seeing_2 : decode cX1_seeing 2 = .ok (.iconst 0, 1) := by decide +kernel
theorem dX1_seeing_3 : decode cX1_seeing 3 = .ok (.istore_n 3, 1) := by decide +kernel
theorem dX1_seeing_4 : decode cX1_seeing 4 = .ok (.iload_n 3, 1) := by decide +kernel
theorem dX1_seeing_5 : decode cX1_seeing 5 = .ok (.aload_n 0, 1) := by decide +kernel
theorem dX1_seeing_6 : decode cX1_seeing 6 = .ok (.getfield 33, 3) := by decide +kernel
theorem dX1_seeing_9 : decode cX1_seeing 9 = .ok (.if_icmp .ge 22, 3) := by decide +kernel
theorem dX1_seeing_12 : decode cX1_seeing 12 = .ok (.iload_n 2, 1) := by decide +kernel
theorem dX1_seeing_13 : decode cX1_seeing 13 = .ok (.aload_n 0, 1) := by decide +kernel
theorem dX1_seeing_14 : decode cX1_seeing 14 = .ok (.getfield 18, 3) := by decide +kernel
theorem dX1_seeing_17 : decode cX1_seeing 17 = .ok (.iload_n 3, 1) := by decide +kernel
theorem dX1_seeing_18 : decode cX1_seeing 18 = .ok (.iaload, 1) := by decide +kernel
theorem dX1_seeing_19 : decode cX1_seeing 19 = .ok (.iload_n 1, 1) := by decide +kernel
theorem dX1_seeing_20 : decode cX1_seeing 20 = .ok (.ishr, 1) := by decide +kernel
theorem dX1_seeing_21 : decode cX1_seeing 21 = .ok (.iconst 1, 1) := by decide +kernel
theorem dX1_seeing_22 : decode cX1_seeing 22 = .ok (.iand, 1) := by decide +kernel
theorem dX1_seeing_23 : decode cX1_seeing 23 = .ok (.iadd, 1) := by decide +kernel
theorem dX1_seeing_24 : decode cX1_seeing 24 = .ok (.istore_n 2, 1) := by decide +kernel
theorem dX1_seeing_25 : decode cX1_seeing 25 = .ok (.iinc 3 1, 3) := by decide +kernel
theorem dX1_seeing_28 : decode cX1_seeing 28 = .ok (.goto (-24), 3) := by decide +kernel
theorem dX1_seeing_31 : decode cX1_seeing 31 = .ok (.iload_n 2, 1) := by decide +kernel
theorem dX1_seeing_32 : decode cX1_seeing 32 = .ok (.ireturn, 1) := by decide +kernel
set_option maxRecDepth 20000 in
theorem ggX1_mostSeen_X1_seeing : GoodIn wsX1_mostSeen wsX1_seeing := goodIn_r _ [6, 1, 7, 8, 9, 10, 11] (by decide +kernel) (by decide +kernel)
set_option maxRecDepth 20000 in
theorem gX1_mostSeen_X1_seeing : GoodIn wsX1_mostSeen (wsV RX1 60 RX1 yX1_seeing wsX1_seeing) := goodIn_app (goodIn_of _ (by decide +kernel)) ggX1_mostSeen_X1_seeing
theorem dX1_mostSeen_0 : decode cX1_mostSeen 0 = .ok (.iconst 0, 1) := by decide +kernel
theorem dX1_mostSeen_1 : decode cX1_mostSeen 1 = .ok (.istore_n 1, 1) := by decide +kernel
theorem dX1_mostSeen_2 : decode cX1_mostSeen 2 = .ok (.iconst 1, 1) := by decide +kernel
theorem dX1_mostSeen_3 : decode cX1_mostSeen 3 = .ok (.istore_n 2, 1) := by decide +kernel
theorem dX1_mostSeen_4 : decode cX1_mostSeen 4 = .ok (.iload_n 2, 1) := by decide +kernel
theorem dX1_mostSeen_5 : decode cX1_mostSeen 5 = .ok (.aload_n 0, 1) := by decide +kernel
theorem dX1_mostSeen_6 : decode cX1_mostSeen 6 = .ok (.getfield 33, 3) := by decide +kernel
theorem dX1_mostSeen_9 : decode cX1_mostSeen 9 = .ok (.if_icmp .ge 24, 3) := by decide +kernel
theorem dX1_mostSeen_12 : decode cX1_mostSeen 12 = .ok (.aload_n 0, 1) := by decide +kernel
theorem dX1_mostSeen_13 : decode cX1_mostSeen 13 = .ok (.iload_n 2, 1) := by decide +kernel
theorem dX1_mostSeen_14 : decode cX1_mostSeen 14 = .ok (.invokevirtual 60, 3) := by decide +kernel
theorem dX1_mostSeen_17 : decode cX1_mostSeen 17 = .ok (.aload_n 0, 1) := by decide +kernel
theorem dX1_mostSeen_18 : decode cX1_mostSeen 18 = .ok (.iload_n 1, 1) := by decide +kernel
theorem dX1_mostSeen_19 : decode cX1_mostSeen 19 = .ok (.invokevirtual 60, 3) := by decide +kernel
theorem dX1_mostSeen_22 : decode cX1_mostSeen 22 = .ok (.if_icmp .le 5, 3) := by decide +kernel
theorem dX1_mostSeen_25 : decode cX1_mostSeen 25 = .ok (.iload_n 2, 1) := by decide +kernel
theorem dX1_mostSeen_26 : decode cX1_mostSeen 26 = .ok (.istore_n 1, 1) := by decide +kernel
theorem dX1_mostSeen_27 : decode cX1_mostSeen 27 = .ok (.iinc 2 1, 3) := by decide +kernel
theorem dX1_mostSeen_30 : decode cX1_mostSeen 30 = .ok (.goto (-26), 3) := by decide +kernel
theorem dX1_mostSeen_33 : decode cX1_mostSeen 33 = .ok (.iload_n 1, 1) := by decide +kernel
theorem dX1_mostSeen_34 : decode cX1_mostSeen 34 = .ok (.ireturn, 1) := by decide +kernel
theorem dX2_init_0 : decode cX2_init 0 = .ok (.aload_n 0, 1) := by decide +kernel
theorem dX2_init_1 : decode cX2_init 1 = .ok (.invokespecial 3, 3) := by decide +kernel
theorem dX2_init_4 : decode cX2_init 4 = .ok (.aload_n 0, 1) := by decide +kernel
theorem dX2_init_5 : decode cX2_init 5 = .ok (.bipush 20, 2) := by decide +kernel
theorem dX2_init_7 : decode cX2_init 7 = .ok (.newarray .int, 2) := by decide +kernel
theorem dX2_init_9 : decode cX2_init 9 = .ok (.putfield 9, 3) := by decide +kernel
theorem dX2_init_12 : decode cX2_init 12 = .ok (.return_, 1) := by decide +kernel
theorem dX2_put_0 : decode cX2_put 0 = .ok (.aload_n 0, 1) := by decide +kernel
theorem dX2_put_1 : decode cX2_put 1 = .ok (.getfield 15, 3) := by decide +kernel
theorem dX2_put_4 : decode cX2_put 4 = .ok (.bipush 20, 2) := by decide +kernel
theorem dX2_put_6 : decode cX2_put 6 = .ok (.if_icmp .lt 6, 3) := by decide +kernel
theorem dX2_put_9 : decode cX2_put 9 = .ok (.bipush (-104), 2) := by decide +kernel
theorem dX2_put_11 : decode cX2_put 11 = .ok (.ireturn, 1) := by decide +kernel
theorem dX2_put_12 : decode cX2_put 12 = .ok (.aload_n 0, 1) := by decide +kernel
theorem dX2_put_13 : decode cX2_put 13 = .ok (.getfield 9, 3) := by decide +kernel
theorem dX2_put_16 : decode cX2_put 16 = .ok (.aload_n 0, 1) := by decide +kernel
theorem dX2_put_17 : decode cX2_put 17 = .ok (.getfield 15, 3) := by decide +kernel
theorem dX2_put_20 : decode cX2_put 20 = .ok (.iload_n 1, 1) := by decide +kernel
theorem dX2_put_21 : decode cX2_put 21 = .ok (.iastore, 1) := by decide +kernel
theorem dX2_put_22 : decode cX2_put 22 = .ok (.aload_n 0, 1) := by decide +kernel
theorem dX2_put_23 : decode cX2_put 23 = .ok (.dup, 1) := by decide +kernel
theorem dX2_put_24 : decode cX2_put 24 = .ok (.getfield 15, 3) := by decide +kernel
theorem dX2_put_27 : decode cX2_put 27 = .ok (.iconst 1, 1) := by decide +kernel
theorem dX2_put_28 : decode cX2_put 28 = .ok (.iadd, 1) := by decide +kernel
theorem dX2_put_29 : decode cX2_put 29 = .ok (.putfield 15, 3) := by decide +kernel
theorem dX2_put_32 : decode cX2_put 32 = .ok (.aload_n 0, 1) := by decide +kernel
theorem dX2_put_33 : decode cX2_put 33 = .ok (.getfield 15, 3) := by decide +kernel
theorem dX2_put_36 : decode cX2_put 36 = .ok (.ireturn, 1) := by decide +kernel
set_option maxRecDepth 20000 in
theorem ggX2_firstFault_X2_fits : GoodIn wsX2_firstFault wsX2_fits := goodIn_r _ [6, 7, 8, 9, 10, 11, 12, 13, 14, 15, 16, 17, 18, 19, 20, 21, 22, 23, 24, 25, 26, 27, 28, 29, 30, 31, 32, 33, 34, 35, 36, 37, 38, 39, 40, 41, 42, 43, 44, 45, 46, 47, 48, 49, 50, 51, 52, 53, 54, 55, 56, 57, 58, 59, 60, 61, 62, 63, 64, 65, 66, 67, 68, 69, 70, 71, 72, 73, 74, 75, 76, 77, 78, 79, 80, 81, 82, 83, 84, 85, 86, 87, 88, 89, 90, 91, 92, 93, 94, 95] (by decide +kernel) (by decide +kernel)
set_option maxRecDepth 20000 in
theorem gX2_firstFault_X2_fits : GoodIn wsX2_firstFault (va_wsS RX2 19 yX2_fits wsX2_fits) := goodIn_app (goodIn_of _ (by decide +kernel)) ggX2_firstFault_X2_fits
theorem dX2_firstFault_0 : decode cX2_firstFault 0 = .ok (.iconst 0, 1) := by decide +kernel
theorem dX2_firstFault_1 : decode cX2_firstFault 1 = .ok (.istore_n 1, 1) := by decide +kernel
theorem dX2_firstFault_2 : decode cX2_firstFault 2 = .ok (.iload_n 1, 1) := by decide +kernel
theorem dX2_firstFault_3 : decode cX2_firstFault 3 = .ok (.aload_n 0, 1) := by decide +kernel
theorem dX2_firstFault_4 : decode cX2_firstFault 4 = .ok (.getfield 15, 3) := by decide +kernel
theorem dX2_firstFault_7 : decode cX2_firstFault 7 = .ok (.if_icmp .ge 22, 3) := by decide +kernel
theorem dX2_firstFault_10 : decode cX2_firstFault 10 = .ok (.aload_n 0, 1) := by decide +kernel
theorem dX2_firstFault_11 : decode cX2_firstFault 11 = .ok (.getfield 9, 3) := by decide +kernel
theorem dX2_firstFault_14 : decode cX2_firstFault 14 = .ok (.iload_n 1, 1) := by decide +kernel
theorem dX2_firstFault_15 : decode cX2_firstFault 15 = .ok (.iaload, 1) := by decide +kernel
theorem dX2_firstFault_16 : decode cX2_firstFault 16 = .ok (.iload_n 1, 1) := by decide +kernel
theorem dX2_firstFault_17 : decode cX2_firstFault 17 = .ok (.invokestatic 19, 3) := by decide +kernel
theorem dX2_firstFault_20 : decode cX2_firstFault 20 = .ok (.ifCond .eq 9, 3) := by decide +kernel
theorem dX2_firstFault_23 : decode cX2_firstFault 23 = .ok (.iinc 1 1, 3) := by decide +kernel
theorem dX2_firstFault_26 : decode cX2_firstFault 26 = .ok (.goto (-24), 3) := by decide +kernel
theorem dX2_firstFault_29 : decode cX2_firstFault 29 = .ok (.iload_n 1, 1) := by decide +kernel
theorem dX2_firstFault_30 : decode cX2_firstFault 30 = .ok (.ireturn, 1) := by decide +kernel
set_option maxRecDepth 20000 in
theorem ggX2_isOffice_X2_firstFault : GoodIn wsX2_isOffice wsX2_firstFault := goodIn_r _ [6, 1, 7, 8, 9, 5, 10, 11, 12, 13, 14, 15, 16, 17, 18, 19, 20, 21, 22, 23, 24, 25, 26, 27, 28, 29, 30, 31, 32, 33, 34, 35, 36, 37, 38, 39, 40, 41, 42, 43, 44, 45, 46, 47, 48, 49, 50, 51, 52, 53, 54, 55, 56, 57, 58, 59, 60, 61, 62, 63, 64, 65, 66, 67, 68, 69, 70, 71, 72, 73, 74, 75, 76, 77, 78, 79, 80, 81, 82, 83, 84, 85, 86, 87, 88, 89, 90, 91, 92, 93, 94, 95, 96, 97, 98, 99, 100, 101] (by decide +kernel) (by decide +kernel)
set_option maxRecDepth 20000 in
theorem gX2_isOffice_X2_firstFault : GoodIn wsX2_isOffice (wsV RX2 23 RX2 yX2_firstFault wsX2_firstFault) := goodIn_app (goodIn_of _ (by decide +kernel)) ggX2_isOffice_X2_firstFault
theorem dX2_isOffice_0 : decode cX2_isOffice 0 = .ok (.aload_n 0, 1) := by decide +kernel
theorem dX2_isOffice_1 : decode cX2_isOffice 1 = .ok (.getfield 15, 3) := by decide +kernel
theorem dX2_isOffice_4 : decode cX2_isOffice 4 = .ok (.iconst 5, 1) := by decide +kernel
theorem dX2_isOffice_5 : decode cX2_isOffice 5 = .ok (.if_icmp .lt 28, 3) := by decide +kernel
theorem dX2_isOffice_8 : decode cX2_isOffice 8 = .ok (.aload_n 0, 1) := by decide +kernel
theorem dX2_isOffice_9 : decode cX2_isOffice 9 = .ok (.getfield 15, 3) := by decide +kernel
theorem dX2_isOffice_12 : decode cX2_isOffice 12 = .ok (.iconst 3, 1) := by decide +kernel
theorem dX2_isOffice_13 : decode cX2_isOffice 13 = .ok (.irem, 1) := by decide +kernel
theorem dX2_isOffice_14 : decode cX2_isOffice 14 = .ok (.iconst 2, 1) := by decide +kernel
theorem dX2_isOffice_15 : decode cX2_isOffice 15 = .ok (.if_icmp .ne 18, 3) := by decide +kernel
theorem dX2_isOffice_18 : decode cX2_isOffice 18 = .ok (.aload_n 0, 1) := by decide +kernel
theorem dX2_isOffice_19 : decode cX2_isOffice 19 = .ok (.invokevirtual 23, 3) := by decide +kernel
theorem dX2_isOffice_22 : decode cX2_isOffice 22 = .ok (.aload_n 0, 1) := by decide +kernel
theorem dX2_isOffice_23 : decode cX2_isOffice 23 = .ok (.getfield 15, 3) := by decide +kernel
theorem dX2_isOffice_26 : decode cX2_isOffice 26 = .ok (.if_icmp .ne 7, 3) := by decide +kernel
theorem dX2_isOffice_29 : decode cX2_isOffice 29 = .ok (.iconst 1, 1) := by decide +kernel
theorem dX2_isOffice_30 : decode cX2_isOffice 30 = .ok (.goto 4, 3) := by decide +kernel
theorem dX2_isOffice_33 : decode cX2_isOffice 33 = .ok (.iconst 0, 1) := by decide +kernel
theorem dX2_isOffice_34 : decode cX2_isOffice 34 = .ok (.ireturn, 1) := by decide +kernel
set_option maxRecDepth 20000 in
theorem ggX2_fits_J0_indexOf_0f7a4 : GoodIn wsX2_fits wsJ0_indexOf_0f7a4 := goodIn_r _ [5, 6, 7, 8, 4, 9, 10, 11, 12, 13, 14, 15, 16, 17, 18, 19, 20, 21, 22, 23, 24, 25, 26, 27, 28, 29, 30, 31, 32, 33, 34, 35, 36, 37, 38, 39, 40, 41, 42, 43, 44, 45, 46, 47, 48, 49, 50, 51, 52, 53, 54, 55, 56, 57, 58, 59, 60, 61, 62, 63, 64, 65, 66, 67, 68, 69, 70, 71, 72, 73, 74, 75, 76, 77, 78, 79, 80, 81, 82, 83, 84, 85, 86, 87, 88, 89] (by decide +kernel) (by decide +kernel)
set_option maxRecDepth 20000 in
theorem gX2_fits_J0_indexOf_0f7a4 : GoodIn wsX2_fits (wsV RX2 29 RJ0 yJ0_indexOf_0f7a4 wsJ0_indexOf_0f7a4) := goodIn_app (goodIn_of _ (by decide +kernel)) ggX2_fits_J0_indexOf_0f7a4
theorem dX2_fits_0 : decode cX2_fits 0 = .ok (.iload_n 1, 1) := by decide +kernel
theorem dX2_fits_1 : decode cX2_fits 1 = .ok (.bipush 17, 2) := by decide +kernel
theorem dX2_fits_3 : decode cX2_fits 3 = .ok (.if_icmp .lt 5, 3) := by decide +kernel
theorem dX2_fits_6 : decode cX2_fits 6 = .ok (.iconst 0, 1) := by decide +kernel
theorem dX2_fits_7 : decode cX2_fits 7 = .ok (.ireturn, 1) := by decide +kernel
theorem dX2_fits_8 : decode cX2_fits 8 = .ok (.iload_n 1, 1) := by decide +kernel
theorem dX2_fits_9 : decode cX2_fits 9 = .ok (.iconst 3, 1) := by decide +kernel
theorem dX2_fits_10 : decode cX2_fits 10 = .ok (.irem, 1) := by decide +kernel
theorem dX2_fits_11 : decode cX2_fits 11 = .ok (.lookupswitch 59 #[(0, 25), (1, 41)], 25) := by decide +kernel
theorem dX2_fits_36 : decode cX2_fits 36 = .ok (.ldc 27, 2) := by decide +kernel
theorem dX2_fits_38 : decode cX2_fits 38 = .ok (.iload_n 0, 1) := by decide +kernel
theorem dX2_fits_39 : decode cX2_fits 39 = .ok (.i2c, 1) := by decide +kernel
theorem dX2_fits_40 : decode cX2_fits 40 = .ok (.invokevirtual 29, 3) := by decide +kernel
theorem dX2_fits_43 : decode cX2_fits 43 = .ok (.ifCond .lt 7, 3) := by decide +kernel
theorem dX2_fits_46 : decode cX2_fits 46 = .ok (.iconst 1, 1) := by decide +kernel
theorem dX2_fits_47 : decode cX2_fits 47 = .ok (.goto 4, 3) := by decide +kernel
theorem dX2_fits_50 : decode cX2_fits 50 = .ok (.iconst 0, 1) := by decide +kernel
theorem dX2_fits_51 : decode cX2_fits 51 = .ok (.ireturn, 1) := by decide +kernel
theorem dX2_fits_52 : decode cX2_fits 52 = .ok (.iload_n 0, 1) := by decide +kernel
theorem dX2_fits_53 : decode cX2_fits 53 = .ok (.bipush 49, 2) := by decide +kernel
theorem dX2_fits_55 : decode cX2_fits 55 = .ok (.if_icmp .lt 13, 3) := by decide +kernel
theorem dX2_fits_58 : decode cX2_fits 58 = .ok (.iload_n 0, 1) := by decide +kernel
theorem dX2_fits_59 : decode cX2_fits 59 = .ok (.bipush 57, 2) := by decide +kernel
theorem dX2_fits_61 : decode cX2_fits 61 = .ok (.if_icmp .gt 7, 3) := by decide +kernel
theorem dX2_fits_64 : decode cX2_fits 64 = .ok (.iconst 1, 1) := by decide +kernel
theorem dX2_fits_65 : decode cX2_fits 65 = .ok (.goto 4, 3) := by decide +kernel
theorem dX2_fits_68 : decode cX2_fits 68 = .ok (.iconst 0, 1) := by decide +kernel
theorem dX2_fits_69 : decode cX2_fits 69 = .ok (.ireturn, 1) := by decide +kernel
theorem dX2_fits_70 : decode cX2_fits 70 = .ok (.iload_n 0, 1) := by decide +kernel
theorem dX2_fits_71 : decode cX2_fits 71 = .ok (.bipush 44, 2) := by decide +kernel
theorem dX2_fits_73 : decode cX2_fits 73 = .ok (.if_icmp .ne 7, 3) := by decide +kernel
theorem dX2_fits_76 : decode cX2_fits 76 = .ok (.iconst 1, 1) := by decide +kernel
theorem dX2_fits_77 : decode cX2_fits 77 = .ok (.goto 4, 3) := by decide +kernel
theorem dX2_fits_80 : decode cX2_fits 80 = .ok (.iconst 0, 1) := by decide +kernel
theorem dX2_fits_81 : decode cX2_fits 81 = .ok (.ireturn, 1) := by decide +kernel
theorem dX3_init_0 : decode cX3_init 0 = .ok (.aload_n 0, 1) := by decide +kernel
theorem dX3_init_1 : decode cX3_init 1 = .ok (.invokespecial 3, 3) := by decide +kernel
theorem dX3_init_4 : decode cX3_init 4 = .ok (.aload_n 0, 1) := by decide +kernel
theorem dX3_init_5 : decode cX3_init 5 = .ok (.bipush 64, 2) := by decide +kernel
theorem dX3_init_7 : decode cX3_init 7 = .ok (.newarray .int, 2) := by decide +kernel
theorem dX3_init_9 : decode cX3_init 9 = .ok (.putfield 9, 3) := by decide +kernel
theorem dX3_init_12 : decode cX3_init 12 = .ok (.return_, 1) := by decide +kernel
set_option maxRecDepth 20000 in
theorem ggX3_follow_X1_litOnes : GoodIn wsX3_follow wsX1_litOnes := goodIn_r _ [8, 9, 10, 11, 7, 12, 45, 46, 47, 48] (by decide +kernel) (by decide +kernel)
set_option maxRecDepth 20000 in
theorem gX3_follow_X1_litOnes : GoodIn wsX3_follow (wsV RX3 24 RX1 yX1_litOnes wsX1_litOnes) := goodIn_app (goodIn_of _ (by decide +kernel)) ggX3_follow_X1_litOnes
set_option maxRecDepth 20000 in
theorem ggX3_follow_X0_bookAgrees : GoodIn wsX3_follow wsX0_bookAgrees := goodIn_r _ [17, 18, 19, 36, 37, 38, 39, 40, 41, 42, 43, 44] (by decide +kernel) (by decide +kernel)
set_option maxRecDepth 20000 in
theorem gX3_follow_X0_bookAgrees : GoodIn wsX3_follow (wsV RX3 30 RX0 yX0_bookAgrees wsX0_bookAgrees) := goodIn_app (goodIn_of _ (by decide +kernel)) ggX3_follow_X0_bookAgrees
set_option maxRecDepth 20000 in
theorem ggX3_follow_X3_further : GoodIn wsX3_follow wsX3_further := goodIn_r _ [23, 24, 25, 26, 7, 27, 9, 28, 29, 30, 31, 32, 33, 10, 11, 12, 4, 5, 6, 8, 13, 14, 15, 16, 17, 18, 19, 45, 46, 47, 48, 36, 37, 38, 39, 40, 41, 42, 43, 44] (by decide +kernel) (by decide +kernel)
set_option maxRecDepth 20000 in
theorem gX3_follow_X3_further : GoodIn wsX3_follow (va_wsS RX3 34 yX3_further wsX3_further) := goodIn_app (goodIn_of _ (by decide +kernel)) ggX3_follow_X3_further
theorem dX3_follow_0 : decode cX3_follow 0 = .ok (.aload_n 0, 1) := by decide +kernel
theorem dX3_follow_1 : decode cX3_follow 1 = .ok (.iconst 1, 1) := by decide +kernel
theorem dX3_follow_2 : decode cX3_follow 2 = .ok (.putfield 15, 3) := by decide +kernel
theorem dX3_follow_5 : decode cX3_follow 5 = .ok (.aload_n 0, 1) := by decide +kernel
theorem dX3_follow_6 : decode cX3_follow 6 = .ok (.getfield 9, 3) := by decide +kernel
theorem dX3_follow_9 : decode cX3_follow 9 = .ok (.iconst 0, 1) := by decide +kernel
theorem dX3_follow_10 : decode cX3_follow 10 = .ok (.aload_n 2, 1) := by decide +kernel
theorem dX3_follow_11 : decode cX3_follow 11 = .ok (.iconst 0, 1) := by decide +kernel
theorem dX3_follow_12 : decode cX3_follow 12 = .ok (.aload_n 1, 1) := by decide +kernel
theorem dX3_follow_13 : decode cX3_follow 13 = .ok (.aload_n 2, 1) := by decide +kernel
theorem dX3_follow_14 : decode cX3_follow 14 = .ok (.getfield 19, 3) := by decide +kernel
theorem dX3_follow_17 : decode cX3_follow 17 = .ok (.invokevirtual 24, 3) := by decide +kernel
theorem dX3_follow_20 : decode cX3_follow 20 = .ok (.invokevirtual 30, 3) := by decide +kernel
theorem dX3_follow_23 : decode cX3_follow 23 = .ok (.ifCond .eq 10, 3) := by decide +kernel
theorem dX3_follow_26 : decode cX3_follow 26 = .ok (.aload_n 2, 1) := by decide +kernel
theorem dX3_follow_27 : decode cX3_follow 27 = .ok (.getfield 19, 3) := by decide +kernel
theorem dX3_follow_30 : decode cX3_follow 30 = .ok (.goto 4, 3) := by decide +kernel
theorem dX3_follow_33 : decode cX3_follow 33 = .ok (.iconst (-1), 1) := by decide +kernel
theorem dX3_follow_34 : decode cX3_follow 34 = .ok (.iastore, 1) := by decide +kernel
theorem dX3_follow_35 : decode cX3_follow 35 = .ok (.iconst 1, 1) := by decide +kernel
theorem dX3_follow_36 : decode cX3_follow 36 = .ok (.istore 5, 2) := by decide +kernel
theorem dX3_follow_38 : decode cX3_follow 38 = .ok (.iload 5, 2) := by decide +kernel
theorem dX3_follow_40 : decode cX3_follow 40 = .ok (.iload 4, 2) := by decide +kernel
theorem dX3_follow_42 : decode cX3_follow 42 = .ok (.if_icmp .gt 95, 3) := by decide +kernel
theorem dX3_follow_45 : decode cX3_follow 45 = .ok (.iload 5, 2) := by decide +kernel
theorem dX3_follow_47 : decode cX3_follow 47 = .ok (.bipush 6, 2) := by decide +kernel
theorem dX3_follow_49 : decode cX3_follow 49 = .ok (.if_icmp .gt 88, 3) := by decide +kernel
theorem dX3_follow_52 : decode cX3_follow 52 = .ok (.iconst 0, 1) := by decide +kernel
theorem dX3_follow_53 : decode cX3_follow 53 = .ok (.istore 6, 2) := by decide +kernel
theorem dX3_follow_55 : decode cX3_follow 55 = .ok (.iload 6, 2) := by decide +kernel
theorem dX3_follow_57 : decode cX3_follow 57 = .ok (.aload_n 0, 1) := by decide +kernel
theorem dX3_follow_58 : decode cX3_follow 58 = .ok (.getfield 15, 3) := by decide +kernel
theorem dX3_follow_61 : decode cX3_follow 61 = .ok (.if_icmp .ge 60, 3) := by decide +kernel
theorem dX3_follow_64 : decode cX3_follow 64 = .ok (.aload_n 0, 1) := by decide +kernel
theorem dX3_follow_65 : decode cX3_follow 65 = .ok (.getfield 9, 3) := by decide +kernel
theorem dX3_follow_68 : decode cX3_follow 68 = .ok (.aload_n 0, 1) := by decide +kernel
theorem dX3_follow_69 : decode cX3_follow 69 = .ok (.getfield 15, 3) := by decide +kernel
theorem dX3_follow_72 : decode cX3_follow 72 = .ok (.iload 6, 2) := by decide +kernel
theorem dX3_follow_74 : decode cX3_follow 74 = .ok (.iadd, 1) := by decide +kernel
theorem dX3_follow_75 : decode cX3_follow 75 = .ok (.aload_n 1, 1) := by decide +kernel
theorem dX3_follow_76 : decode cX3_follow 76 = .ok (.aload_n 2, 1) := by decide +kernel
theorem dX3_follow_77 : decode cX3_follow 77 = .ok (.aload_n 0, 1) := by decide +kernel
theorem dX3_follow_78 : decode cX3_follow 78 = .ok (.getfield 9, 3) := by decide +kernel
theorem dX3_follow_81 : decode cX3_follow 81 = .ok (.iload 6, 2) := by decide +kernel
theorem dX3_follow_83 : decode cX3_follow 83 = .ok (.iaload, 1) := by decide +kernel
theorem dX3_follow_84 : decode cX3_follow 84 = .ok (.iconst 1, 1) := by decide +kernel
theorem dX3_follow_85 : decode cX3_follow 85 = .ok (.iload_n 3, 1) := by decide +kernel
theorem dX3_follow_86 : decode cX3_follow 86 = .ok (.ishl, 1) := by decide +kernel
theorem dX3_follow_87 : decode cX3_follow 87 = .ok (.iload 5, 2) := by decide +kernel
theorem dX3_follow_89 : decode cX3_follow 89 = .ok (.invokestatic 34, 3) := by decide +kernel
theorem dX3_follow_92 : decode cX3_follow 92 = .ok (.iastore, 1) := by decide +kernel
theorem dX3_follow_93 : decode cX3_follow 93 = .ok (.aload_n 0, 1) := by decide +kernel
theorem dX3_follow_94 : decode cX3_follow 94 = .ok (.getfield 9, 3) := by decide +kernel
theorem dX3_follow_97 : decode cX3_follow 97 = .ok (.iload 6, 2) := by decide +kernel
theorem dX3_follow_99 : decode cX3_follow 99 = .ok (.aload_n 1, 1) := by decide +kernel
theorem dX3_follow_100 : decode cX3_follow 100 = .ok (.aload_n 2, 1) := by decide +kernel
theorem dX3_follow_101 : decode cX3_follow 101 = .ok (.aload_n 0, 1) := by decide +kernel
theorem dX3_follow_102 : decode cX3_follow 102 = .ok (.getfield 9, 3) := by decide +kernel
theorem dX3_follow_105 : decode cX3_follow 105 = .ok (.iload 6, 2) := by decide +kernel
theorem dX3_follow_107 : decode cX3_follow 107 = .ok (.iaload, 1) := by decide +kernel
theorem dX3_follow_108 : decode cX3_follow 108 = .ok (.iconst 0, 1) := by decide +kernel
theorem dX3_follow_109 : decode cX3_follow 109 = .ok (.iload 5, 2) := by decide +kernel
theorem dX3_follow_111 : decode cX3_follow 111 = .ok (.invokestatic 34, 3) := by decide +kernel
theorem dX3_follow_114 : decode cX3_follow 114 = .ok (.iastore, 1) := by decide +kernel
theorem dX3_follow_115 : decode cX3_follow 115 = .ok (.iinc 6 1, 3) := by decide +kernel
theorem dX3_follow_118 : decode cX3_follow 118 = .ok (.goto (-63), 3) := by decide +kernel
theorem dX3_follow_121 : decode cX3_follow 121 = .ok (.aload_n 0, 1) := by decide +kernel
theorem dX3_follow_122 : decode cX3_follow 122 = .ok (.dup, 1) := by decide +kernel
theorem dX3_follow_123 : decode cX3_follow 123 = .ok (.getfield 15, 3) := by decide +kernel
theorem dX3_follow_126 : decode cX3_follow 126 = .ok (.iconst 2, 1) := by decide +kernel
theorem dX3_follow_127 : decode cX3_follow 127 = .ok (.imul, 1) := by decide +kernel
theorem dX3_follow_128 : decode cX3_follow 128 = .ok (.putfield 15, 3) := by decide +kernel
theorem dX3_follow_131 : decode cX3_follow 131 = .ok (.iinc 5 1, 3) := by decide +kernel
theorem dX3_follow_134 : decode cX3_follow 134 = .ok (.goto (-96), 3) := by decide +kernel
theorem dX3_follow_137 : decode cX3_follow 137 = .ok (.return_, 1) := by decide +kernel
set_option maxRecDepth 20000 in
theorem ggX3_further_X1_after : GoodIn wsX3_further wsX1_after := goodIn_r _ [5, 6, 7, 8, 9, 10, 11, 12, 13, 14, 4, 15, 27, 28, 29, 30] (by decide +kernel) (by decide +kernel)
set_option maxRecDepth 20000 in
theorem gX3_further_X1_after : GoodIn wsX3_further (wsV RX3 38 RX1 yX1_after wsX1_after) := goodIn_app (goodIn_of _ (by decide +kernel)) ggX3_further_X1_after
set_option maxRecDepth 20000 in
theorem ggX3_further_X1_litOnes : GoodIn wsX3_further wsX1_litOnes := goodIn_r _ [19, 6, 13, 14, 4, 15, 27, 28, 29, 30] (by decide +kernel) (by decide +kernel)
set_option maxRecDepth 20000 in
theorem gX3_further_X1_litOnes : GoodIn wsX3_further (wsV RX3 24 RX1 yX1_litOnes wsX1_litOnes) := goodIn_app (goodIn_of _ (by decide +kernel)) ggX3_further_X1_litOnes
set_option maxRecDepth 20000 in
theorem ggX3_further_X0_bookAgrees : GoodIn wsX3_further wsX0_bookAgrees := goodIn_r _ [24, 25, 26, 31, 32, 33, 34, 35, 36, 37, 38, 39] (by decide +kernel) (by decide +kernel)
set_option maxRecDepth 20000 in
theorem gX3_further_X0_bookAgrees : GoodIn wsX3_further (wsV RX3 30 RX0 yX0_bookAgrees wsX0_bookAgrees) := goodIn_app (goodIn_of _ (by decide +kernel)) ggX3_further_X0_bookAgrees
theorem dX3_further_0 : decode cX3_further 0 = .ok (.iload_n 2, 1) := by decide +kernel
theorem dX3_further_1 : decode cX3_further 1 = .ok (.iconst (-1), 1) := by decide +kernel
theorem dX3_further_2 : decode cX3_further 2 = .ok (.if_icmp .ne 5, 3) := by decide +kernel
theorem dX3_further_5 : decode cX3_further 5 = .ok (.iconst (-1), 1) := by decide +kernel
theorem dX3_further_6 : decode cX3_further 6 = .ok (.ireturn, 1) := by decide +kernel
theorem dX3_further_7 : decode cX3_further 7 = .ok (.aload_n 0, 1) := by decide +kernel
theorem dX3_further_8 : decode cX3_further 8 = .ok (.iload_n 2, 1) := by decide +kernel
theorem dX3_further_9 : decode cX3_further 9 = .ok (.iload_n 3, 1) := by decide +kernel
theorem dX3_further_10 : decode cX3_further 10 = .ok (.invokevirtual 38, 3) := by decide +kernel
theorem dX3_further_13 : decode cX3_further 13 = .ok (.istore 5, 2) := by decide +kernel
theorem dX3_further_15 : decode cX3_further 15 = .ok (.aload_n 1, 1) := by decide +kernel
theorem dX3_further_16 : decode cX3_further 16 = .ok (.iload 4, 2) := by decide +kernel
theorem dX3_further_18 : decode cX3_further 18 = .ok (.aload_n 0, 1) := by decide +kernel
theorem dX3_further_19 : decode cX3_further 19 = .ok (.iload 5, 2) := by decide +kernel
theorem dX3_further_21 : decode cX3_further 21 = .ok (.invokevirtual 24, 3) := by decide +kernel
theorem dX3_further_24 : decode cX3_further 24 = .ok (.invokevirtual 30, 3) := by decide +kernel
theorem dX3_further_27 : decode cX3_further 27 = .ok (.ifCond .eq 8, 3) := by decide +kernel
theorem dX3_further_30 : decode cX3_further 30 = .ok (.iload 5, 2) := by decide +kernel
theorem dX3_further_32 : decode cX3_further 32 = .ok (.goto 4, 3) := by decide +kernel
theorem dX3_further_35 : decode cX3_further 35 = .ok (.iconst (-1), 1) := by decide +kernel
theorem dX3_further_36 : decode cX3_further 36 = .ok (.ireturn, 1) := by decide +kernel
theorem dX3_left_0 : decode cX3_left 0 = .ok (.iconst 0, 1) := by decide +kernel
theorem dX3_left_1 : decode cX3_left 1 = .ok (.istore_n 1, 1) := by decide +kernel
theorem dX3_left_2 : decode cX3_left 2 = .ok (.iconst 0, 1) := by decide +kernel
theorem dX3_left_3 : decode cX3_left 3 = .ok (.istore_n 2, 1) := by decide +kernel
