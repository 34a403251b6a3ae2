theorem dX0_init_0 : decode cX0_init 0 = .ok (.aload_n 0, 1) := by decide +kernel
theorem dX0_init_1 : decode cX0_init 1 = .ok (.invokespecial 3, 3) := by decide +kernel
theorem dX0_init_4 : decode cX0_init 4 = .ok (.aload_n 0, 1) := by decide +kernel
theorem dX0_init_5 : decode cX0_init 5 = .ok (.bipush 40, 2) := by decide +kernel
theorem dX0_init_7 : decode cX0_init 7 = .ok (.newarray .int, 2) := by decide +kernel
theorem dX0_init_9 : decode cX0_init 9 = .ok (.putfield 9, 3) := by decide +kernel
theorem dX0_init_12 : decode cX0_init 12 = .ok (.aload_n 0, 1) := by decide +kernel
theorem dX0_init_13 : decode cX0_init 13 = .ok (.bipush 40, 2) := by decide +kernel
theorem dX0_init_15 : decode cX0_init 15 = .ok (.newarray .int, 2) := by decide +kernel
theorem dX0_init_17 : decode cX0_init 17 = .ok (.putfield 15, 3) := by decide +kernel
theorem dX0_init_20 : decode cX0_init 20 = .ok (.aload_n 0, 1) := by decide +kernel
theorem dX0_init_21 : decode cX0_init 21 = .ok (.bipush 40, 2) := by decide +kernel
theorem dX0_init_23 : decode cX0_init 23 = .ok (.newarray .int, 2) := by decide +kernel
theorem dX0_init_25 : decode cX0_init 25 = .ok (.putfield 18, 3) := by decide +kernel
theorem dX0_init_28 : decode cX0_init 28 = .ok (.return_, 1) := by decide +kernel
theorem dX0_has_0 : decode cX0_has 0 = .ok (.iload_n 1, 1) := by decide +kernel
theorem dX0_has_1 : decode cX0_has 1 = .ok (.ifCond .lt 15, 3) := by decide +kernel
theorem dX0_has_4 : decode cX0_has 4 = .ok (.iload_n 1, 1) := by decide +kernel
theorem dX0_has_5 : decode cX0_has 5 = .ok (.aload_n 0, 1) := by decide +kernel
theorem dX0_has_6 : decode cX0_has 6 = .ok (.getfield 21, 3) := by decide +kernel
theorem dX0_has_9 : decode cX0_has 9 = .ok (.if_icmp .ge 7, 3) := by decide +kernel
theorem dX0_has_12 : decode cX0_has 12 = .ok (.iconst 1, 1) := by decide +kernel
theorem dX0_has_13 : decode cX0_has 13 = .ok (.goto 4, 3) := by decide +kernel
theorem dX0_has_16 : decode cX0_has 16 = .ok (.iconst 0, 1) := by decide +kernel
theorem dX0_has_17 : decode cX0_has 17 = .ok (.ireturn, 1) := by decide +kernel
theorem dX0_make_0 : decode cX0_make 0 = .ok (.aload_n 0, 1) := by decide +kernel
theorem dX0_make_1 : decode cX0_make 1 = .ok (.getfield 9, 3) := by decide +kernel
theorem dX0_make_4 : decode cX0_make 4 = .ok (.aload_n 0, 1) := by decide +kernel
theorem dX0_make_5 : decode cX0_make 5 = .ok (.getfield 21, 3) := by decide +kernel
theorem dX0_make_8 : decode cX0_make 8 = .ok (.iload_n 1, 1) := by decide +kernel
theorem dX0_make_9 : decode cX0_make 9 = .ok (.iastore, 1) := by decide +kernel
theorem dX0_make_10 : decode cX0_make 10 = .ok (.aload_n 0, 1) := by decide +kernel
theorem dX0_make_11 : decode cX0_make 11 = .ok (.getfield 15, 3) := by decide +kernel
theorem dX0_make_14 : decode cX0_make 14 = .ok (.aload_n 0, 1) := by decide +kernel
theorem dX0_make_15 : decode cX0_make 15 = .ok (.getfield 21, 3) := by decide +kernel
theorem dX0_make_18 : decode cX0_make 18 = .ok (.iload_n 2, 1) := by decide +kernel
theorem dX0_make_19 : decode cX0_make 19 = .ok (.iastore, 1) := by decide +kernel
theorem dX0_make_20 : decode cX0_make 20 = .ok (.aload_n 0, 1) := by decide +kernel
theorem dX0_make_21 : decode cX0_make 21 = .ok (.getfield 18, 3) := by decide +kernel
theorem dX0_make_24 : decode cX0_make 24 = .ok (.aload_n 0, 1) := by decide +kernel
theorem dX0_make_25 : decode cX0_make 25 = .ok (.getfield 21, 3) := by decide +kernel
theorem dX0_make_28 : decode cX0_make 28 = .ok (.bipush (-9), 2) := by decide +kernel
theorem dX0_make_30 : decode cX0_make 30 = .ok (.iastore, 1) := by decide +kernel
theorem dX0_make_31 : decode cX0_make 31 = .ok (.aload_n 0, 1) := by decide +kernel
theorem dX0_make_32 : decode cX0_make 32 = .ok (.dup, 1) := by decide +kernel
theorem dX0_make_33 : decode cX0_make 33 = .ok (.getfield 21, 3) := by decide +kernel
theorem dX0_make_36 : decode cX0_make 36 = .ok (.dup_x1, 1) := by decide +kernel
theorem dX0_make_37 : decode cX0_make 37 = .ok (.iconst 1, 1) := by decide +kernel
theorem dX0_make_38 : decode cX0_make 38 = .ok (.iadd, 1) := by decide +kernel
theorem dX0_make_39 : decode cX0_make 39 = .ok (.putfield 21, 3) := by decide +kernel
theorem dX0_make_42 : decode cX0_make 42 = .ok (.ireturn, 1) := by decide +kernel
theorem dX0_houseOf_0 : decode cX0_houseOf 0 = .ok (.aload_n 0, 1) := by decide +kernel
theorem dX0_houseOf_1 : decode cX0_houseOf 1 = .ok (.getfield 9, 3) := by decide +kernel
theorem dX0_houseOf_4 : decode cX0_houseOf 4 = .ok (.iload_n 1, 1) := by decide +kernel
theorem dX0_houseOf_5 : decode cX0_houseOf 5 = .ok (.iaload, 1) := by decide +kernel
theorem dX0_houseOf_6 : decode cX0_houseOf 6 = .ok (.ireturn, 1) := by decide +kernel
theorem dX0_madeOn_0 : decode cX0_madeOn 0 = .ok (.aload_n 0, 1) := by decide +kernel
theorem dX0_madeOn_1 : decode cX0_madeOn 1 = .ok (.getfield 15, 3) := by decide +kernel
theorem dX0_madeOn_4 : decode cX0_madeOn 4 = .ok (.iload_n 1, 1) := by decide +kernel
theorem dX0_madeOn_5 : decode cX0_madeOn 5 = .ok (.iaload, 1) := by decide +kernel
theorem dX0_madeOn_6 : decode cX0_madeOn 6 = .ok (.ireturn, 1) := by decide +kernel
theorem dX0_isEnded_0 : decode cX0_isEnded 0 = .ok (.aload_n 0, 1) := by decide +kernel
theorem dX0_isEnded_1 : decode cX0_isEnded 1 = .ok (.getfield 18, 3) := by decide +kernel
theorem dX0_isEnded_4 : decode cX0_isEnded 4 = .ok (.iload_n 1, 1) := by decide +kernel
theorem dX0_isEnded_5 : decode cX0_isEnded 5 = .ok (.iaload, 1) := by decide +kernel
theorem dX0_isEnded_6 : decode cX0_isEnded 6 = .ok (.bipush (-9), 2) := by decide +kernel
theorem dX0_isEnded_8 : decode cX0_isEnded 8 = .ok (.if_icmp .eq 7, 3) := by decide +kernel
theorem dX0_isEnded_11 : decode cX0_isEnded 11 = .ok (.iconst 1, 1) := by decide +kernel
theorem dX0_isEnded_12 : decode cX0_isEnded 12 = .ok (.goto 4, 3) := by decide +kernel
theorem dX0_isEnded_15 : decode cX0_isEnded 15 = .ok (.iconst 0, 1) := by decide +kernel
theorem dX0_isEnded_16 : decode cX0_isEnded 16 = .ok (.ireturn, 1) := by decide +kernel
theorem dX0_close_0 : decode cX0_close 0 = .ok (.aload_n 0, 1) := by decide +kernel
theorem dX0_close_1 : decode cX0_close 1 = .ok (.getfield 18, 3) := by decide +kernel
theorem dX0_close_4 : decode cX0_close 4 = .ok (.iload_n 1, 1) := by decide +kernel
theorem dX0_close_5 : decode cX0_close 5 = .ok (.iload_n 2, 1) := by decide +kernel
theorem dX0_close_6 : decode cX0_close 6 = .ok (.iastore, 1) := by decide +kernel
theorem dX0_close_7 : decode cX0_close 7 = .ok (.return_, 1) := by decide +kernel
theorem dX0_isGoodOn_0 : decode cX0_isGoodOn 0 = .ok (.iload_n 2, 1) := by decide +kernel
theorem dX0_isGoodOn_1 : decode cX0_isGoodOn 1 = .ok (.aload_n 0, 1) := by decide +kernel
theorem dX0_isGoodOn_2 : decode cX0_isGoodOn 2 = .ok (.getfield 15, 3) := by decide +kernel
theorem dX0_isGoodOn_5 : decode cX0_isGoodOn 5 = .ok (.iload_n 1, 1) := by decide +kernel
theorem dX0_isGoodOn_6 : decode cX0_isGoodOn 6 = .ok (.iaload, 1) := by decide +kernel
theorem dX0_isGoodOn_7 : decode cX0_isGoodOn 7 = .ok (.if_icmp .lt 28, 3) := by decide +kernel
theorem dX0_isGoodOn_10 : decode cX0_isGoodOn 10 = .ok (.aload_n 0, 1) := by decide +kernel
theorem dX0_isGoodOn_11 : decode cX0_isGoodOn 11 = .ok (.getfield 18, 3) := by decide +kernel
theorem dX0_isGoodOn_14 : decode cX0_isGoodOn 14 = .ok (.iload_n 1, 1) := by decide +kernel
theorem dX0_isGoodOn_15 : decode cX0_isGoodOn 15 = .ok (.iaload, 1) := by decide +kernel
theorem dX0_isGoodOn_16 : decode cX0_isGoodOn 16 = .ok (.bipush (-9), 2) := by decide +kernel
theorem dX0_isGoodOn_18 : decode cX0_isGoodOn 18 = .ok (.if_icmp .eq 13, 3) := by decide +kernel
theorem dX0_isGoodOn_21 : decode cX0_isGoodOn 21 = .ok (.iload_n 2, 1) := by decide +kernel
theorem dX0_isGoodOn_22 : decode cX0_isGoodOn 22 = .ok (.aload_n 0, 1) := by decide +kernel
theorem dX0_isGoodOn_23 : decode cX0_isGoodOn 23 = .ok (.getfield 18, 3) := by decide +kernel
theorem dX0_isGoodOn_26 : decode cX0_isGoodOn 26 = .ok (.iload_n 1, 1) := by decide +kernel
theorem dX0_isGoodOn_27 : decode cX0_isGoodOn 27 = .ok (.iaload, 1) := by decide +kernel
theorem dX0_isGoodOn_28 : decode cX0_isGoodOn 28 = .ok (.if_icmp .ge 7, 3) := by decide +kernel
theorem dX0_isGoodOn_31 : decode cX0_isGoodOn 31 = .ok (.iconst 1, 1) := by decide +kernel
theorem dX0_isGoodOn_32 : decode cX0_isGoodOn 32 = .ok (.goto 4, 3) := by decide +kernel
theorem dX0_isGoodOn_35 : decode cX0_isGoodOn 35 = .ok (.iconst 0, 1) := by decide +kernel
theorem dX0_isGoodOn_36 : decode cX0_isGoodOn 36 = .ok (.ireturn, 1) := by decide +kernel
theorem dX0_notEnded_0 : decode cX0_notEnded 0 = .ok (.iconst 0, 1) := by decide +kernel
theorem dX0_notEnded_1 : decode cX0_notEnded 1 = .ok (.istore_n 1, 1) := by decide +kernel
theorem dX0_notEnded_2 : decode cX0_notEnded 2 = .ok (.iconst 0, 1) := by decide +kernel
theorem dX0_notEnded_3 : decode cX0_notEnded 3 = .ok (.istore_n 2, 1) := by decide +kernel
theorem dX0_notEnded_4 : decode cX0_notEnded 4 = .ok (.iload_n 2, 1) := by decide +kernel
theorem dX0_notEnded_5 : decode cX0_notEnded 5 = .ok (.aload_n 0, 1) := by decide +kernel
theorem dX0_notEnded_6 : decode cX0_notEnded 6 = .ok (.getfield 21, 3) := by decide +kernel
theorem dX0_notEnded_9 : decode cX0_notEnded 9 = .ok (.if_icmp .ge 23, 3) := by decide +kernel
theorem dX0_notEnded_12 : decode cX0_notEnded 12 = .ok (.aload_n 0, 1) := by decide +kernel
theorem dX0_notEnded_13 : decode cX0_notEnded 13 = .ok (.getfield 18, 3) := by decide +kernel
theorem dX0_notEnded_16 : decode cX0_notEnded 16 = .ok (.iload_n 2, 1) := by decide +kernel
theorem dX0_notEnded_17 : decode cX0_notEnded 17 = .ok (.iaload, 1) := by decide +kernel
theorem dX0_notEnded_18 : decode cX0_notEnded 18 = .ok (.bipush (-9), 2) := by decide +kernel
theorem dX0_notEnded_20 : decode cX0_notEnded 20 = .ok (.if_icmp .ne 6, 3) := by decide +kernel
theorem dX0_notEnded_23 : decode cX0_notEnded 23 = .ok (.iinc 1 1, 3) := by decide +kernel
theorem dX0_notEnded_26 : decode cX0_notEnded 26 = .ok (.iinc 2 1, 3) := by decide +kernel
theorem dX0_notEnded_29 : decode cX0_notEnded 29 = .ok (.goto (-25), 3) := by decide +kernel
theorem dX0_notEnded_32 : decode cX0_notEnded 32 = .ok (.iload_n 1, 1) := by decide +kernel
theorem dX0_notEnded_33 : decode cX0_notEnded 33 = .ok (.ireturn, 1) := by decide +kernel
theorem dX1_init_0 : decode cX1_init 0 = .ok (.aload_n 0, 1) := by decide +kernel
theorem dX1_init_1 : decode cX1_init 1 = .ok (.invokespecial 3, 3) := by decide +kernel
theorem dX1_init_4 : decode cX1_init 4 = .ok (.aload_n 0, 1) := by decide +kernel
theorem dX1_init_5 : decode cX1_init 5 = .ok (.bipush 40, 2) := by decide +kernel
theorem dX1_init_7 : decode cX1_init 7 = .ok (.newarray .int, 2) := by decide +kernel
theorem dX1_init_9 : decode cX1_init 9 = .ok (.putfield 9, 3) := by decide +kernel
theorem dX1_init_12 : decode cX1_init 12 = .ok (.aload_n 0, 1) := by decide +kernel
theorem dX1_init_13 : decode cX1_init 13 = .ok (.bipush 40, 2) := by decide +kernel
theorem dX1_init_15 : decode cX1_init 15 = .ok (.newarray .int, 2) := by decide +kernel
theorem dX1_init_17 : decode cX1_init 17 = .ok (.putfield 15, 3) := by decide +kernel
theorem dX1_init_20 : decode cX1_init 20 = .ok (.aload_n 0, 1) := by decide +kernel
theorem dX1_init_21 : decode cX1_init 21 = .ok (.bipush 40, 2) := by decide +kernel
theorem dX1_init_23 : decode cX1_init 23 = .ok (.newarray .int, 2) := by decide +kernel
theorem dX1_init_25 : decode cX1_init 25 = .ok (.putfield 18, 3) := by decide +kernel
theorem dX1_init_28 : decode cX1_init 28 = .ok (.aload_n 0, 1) := by decide +kernel
theorem dX1_init_29 : decode cX1_init 29 = .ok (.bipush 40, 2) := by decide +kernel
theorem dX1_init_31 : decode cX1_init 31 = .ok (.newarray .int, 2) := by decide +kernel
theorem dX1_init_33 : decode cX1_init 33 = .ok (.putfield 21, 3) := by decide +kernel
theorem dX1_init_36 : decode cX1_init 36 = .ok (.return_, 1) := by decide +kernel
theorem dX1_note_0 : decode cX1_note 0 = .ok (.aload_n 0, 1) := by decide +kernel
theorem dX1_note_1 : decode cX1_note 1 = .ok (.getfield 9, 3) := by decide +kernel
theorem dX1_note_4 : decode cX1_note 4 = .ok (.aload_n 0, 1) := by decide +kernel
theorem dX1_note_5 : decode cX1_note 5 = .ok (.getfield 24, 3) := by decide +kernel
theorem dX1_note_8 : decode cX1_note 8 = .ok (.iload_n 1, 1) := by decide +kernel
theorem dX1_note_9 : decode cX1_note 9 = .ok (.iastore, 1) := by decide +kernel
theorem dX1_note_10 : decode cX1_note 10 = .ok (.aload_n 0, 1) := by decide +kernel
theorem dX1_note_11 : decode cX1_note 11 = .ok (.getfield 15, 3) := by decide +kernel
theorem dX1_note_14 : decode cX1_note 14 = .ok (.aload_n 0, 1) := by decide +kernel
theorem dX1_note_15 : decode cX1_note 15 = .ok (.getfield 24, 3) := by decide +kernel
theorem dX1_note_18 : decode cX1_note 18 = .ok (.iload_n 2, 1) := by decide +kernel
theorem dX1_note_19 : decode cX1_note 19 = .ok (.iastore, 1) := by decide +kernel
theorem dX1_note_20 : decode cX1_note 20 = .ok (.aload_n 0, 1) := by decide +kernel
theorem dX1_note_21 : decode cX1_note 21 = .ok (.getfield 18, 3) := by decide +kernel
theorem dX1_note_24 : decode cX1_note 24 = .ok (.aload_n 0, 1) := by decide +kernel
theorem dX1_note_25 : decode cX1_note 25 = .ok (.getfield 24, 3) := by decide +kernel
theorem dX1_note_28 : decode cX1_note 28 = .ok (.iload_n 3, 1) := by decide +kernel
theorem dX1_note_29 : decode cX1_note 29 = .ok (.iastore, 1) := by decide +kernel
theorem dX1_note_30 : decode cX1_note 30 = .ok (.aload_n 0, 1) := by decide +kernel
theorem dX1_note_31 : decode cX1_note 31 = .ok (.getfield 21, 3) := by decide +kernel
theorem dX1_note_34 : decode cX1_note 34 = .ok (.aload_n 0, 1) := by decide +kernel
theorem dX1_note_35 : decode cX1_note 35 = .ok (.getfield 24, 3) := by decide +kernel
theorem dX1_note_38 : decode cX1_note 38 = .ok (.iload 4, 2) := by decide +kernel
theorem dX1_note_40 : decode cX1_note 40 = .ok (.iastore, 1) := by decide +kernel
theorem dX1_note_41 : decode cX1_note 41 = .ok (.aload_n 0, 1) := by decide +kernel
theorem dX1_note_42 : decode cX1_note 42 = .ok (.dup, 1) := by decide +kernel
theorem dX1_note_43 : decode cX1_note 43 = .ok (.getfield 24, 3) := by decide +kernel
theorem dX1_note_46 : decode cX1_note 46 = .ok (.iconst 1, 1) := by decide +kernel
theorem dX1_note_47 : decode cX1_note 47 = .ok (.iadd, 1) := by decide +kernel
theorem dX1_note_48 : decode cX1_note 48 = .ok (.putfield 24, 3) := by decide +kernel
theorem dX1_note_51 : decode cX1_note 51 = .ok (.aload_n 0, 1) := by decide +kernel
theorem dX1_note_52 : decode cX1_note 52 = .ok (.getfield 24, 3) := by decide +kernel
theorem dX1_note_55 : decode cX1_note 55 = .ok (.ireturn, 1) := by decide +kernel
theorem dX1_known_0 : decode cX1_known 0 = .ok (.bipush (-9), 2) := by decide +kernel
theorem dX1_known_2 : decode cX1_known 2 = .ok (.istore 4, 2) := by decide +kernel
theorem dX1_known_4 : decode cX1_known 4 = .ok (.iconst 0, 1) := by decide +kernel
theorem dX1_known_5 : decode cX1_known 5 = .ok (.istore 5, 2) := by decide +kernel
theorem dX1_known_7 : decode cX1_known 7 = .ok (.iload 5, 2) := by decide +kernel
theorem dX1_known_9 : decode cX1_known 9 = .ok (.aload_n 0, 1) := by decide +kernel
theorem dX1_known_10 : decode cX1_known 10 = .ok (.getfield 24, 3) := by decide +kernel
theorem dX1_known_13 : decode cX1_known 13 = .ok (.if_icmp .ge 93, 3) := by decide +kernel
theorem dX1_known_16 : decode cX1_known 16 = .ok (.aload_n 0, 1) := by decide +kernel
theorem dX1_known_17 : decode cX1_known 17 = .ok (.getfield 9, 3) := by decide +kernel
theorem dX1_known_20 : decode cX1_known 20 = .ok (.iload 5, 2) := by decide +kernel
theorem dX1_known_22 : decode cX1_known 22 = .ok (.iaload, 1) := by decide +kernel
theorem dX1_known_23 : decode cX1_known 23 = .ok (.iload_n 1, 1) := by decide +kernel
theorem dX1_known_24 : decode cX1_known 24 = .ok (.if_icmp .ne 40, 3) := by decide +kernel
theorem dX1_known_27 : decode cX1_known 27 = .ok (.aload_n 0, 1) := by decide +kernel
theorem dX1_known_28 : decode cX1_known 28 = .ok (.getfield 15, 3) := by decide +kernel
theorem dX1_known_31 : decode cX1_known 31 = .ok (.iload 5, 2) := by decide +kernel
theorem dX1_known_33 : decode cX1_known 33 = .ok (.iaload, 1) := by decide +kernel
theorem dX1_known_34 : decode cX1_known 34 = .ok (.iload_n 2, 1) := by decide +kernel
theorem dX1_known_35 : decode cX1_known 35 = .ok (.if_icmp .gt 29, 3) := by decide +kernel
theorem dX1_known_38 : decode cX1_known 38 = .ok (.aload_n 0, 1) := by decide +kernel
theorem dX1_known_39 : decode cX1_known 39 = .ok (.getfield 21, 3) := by decide +kernel
theorem dX1_known_42 : decode cX1_known 42 = .ok (.iload 5, 2) := by decide +kernel
theorem dX1_known_44 : decode cX1_known 44 = .ok (.iaload, 1) := by decide +kernel
theorem dX1_known_45 : decode cX1_known 45 = .ok (.iload_n 3, 1) := by decide +kernel
theorem dX1_known_46 : decode cX1_known 46 = .ok (.if_icmp .gt 18, 3) := by decide +kernel
theorem dX1_known_49 : decode cX1_known 49 = .ok (.aload_n 0, 1) := by decide +kernel
theorem dX1_known_50 : decode cX1_known 50 = .ok (.getfield 18, 3) := by decide +kernel
theorem dX1_known_53 : decode cX1_known 53 = .ok (.iload 5, 2) := by decide +kernel
theorem dX1_known_55 : decode cX1_known 55 = .ok (.iaload, 1) := by decide +kernel
theorem dX1_known_56 : decode cX1_known 56 = .ok (.iconst (-1), 1) := by decide +kernel
theorem dX1_known_57 : decode cX1_known 57 = .ok (.if_icmp .eq 7, 3) := by decide +kernel
theorem dX1_known_60 : decode cX1_known 60 = .ok (.iconst 1, 1) := by decide +kernel
theorem dX1_known_61 : decode cX1_known 61 = .ok (.goto 4, 3) := by decide +kernel
theorem dX1_known_64 : decode cX1_known 64 = .ok (.iconst 0, 1) := by decide +kernel
theorem dX1_known_65 : decode cX1_known 65 = .ok (.istore 6, 2) := by decide +kernel
theorem dX1_known_67 : decode cX1_known 67 = .ok (.iload 6, 2) := by decide +kernel
theorem dX1_known_69 : decode cX1_known 69 = .ok (.ifCond .eq 31, 3) := by decide +kernel
theorem dX1_known_72 : decode cX1_known 72 = .ok (.iload 4, 2) := by decide +kernel
theorem dX1_known_74 : decode cX1_known 74 = .ok (.bipush (-9), 2) := by decide +kernel
theorem dX1_known_76 : decode cX1_known 76 = .ok (.if_icmp .eq 20, 3) := by decide +kernel
theorem dX1_known_79 : decode cX1_known 79 = .ok (.aload_n 0, 1) := by decide +kernel
theorem dX1_known_80 : decode cX1_known 80 = .ok (.getfield 15, 3) := by decide +kernel
theorem dX1_known_83 : decode cX1_known 83 = .ok (.iload 5, 2) := by decide +kernel
theorem dX1_known_85 : decode cX1_known 85 = .ok (.iaload, 1) := by decide +kernel
theorem dX1_known_86 : decode cX1_known 86 = .ok (.aload_n 0, 1) := by decide +kernel
theorem dX1_known_87 : decode cX1_known 87 = .ok (.getfield 15, 3) := by decide +kernel
theorem dX1_known_90 : decode cX1_known 90 = .ok (.iload 4, 2) := by decide +kernel
theorem dX1_known_92 : decode cX1_known 92 = .ok (.iaload, 1) := by decide +kernel
theorem dX1_known_93 : decode cX1_known 93 = .ok (.if_icmp .lt 7, 3) := by decide +kernel
theorem dX1_known_96 : decode cX1_known 96 = .ok (.iload 5, 2) := by decide +kernel
theorem dX1_known_98 : decode cX1_known 98 = .ok (.istore 4, 2) := by decide +kernel
theorem dX1_known_100 : decode cX1_known 100 = .ok (.iinc 5 1, 3) := by decide +kernel
theorem dX1_known_103 : decode cX1_known 103 = .ok (.goto (-96), 3) := by decide +kernel
theorem dX1_known_106 : decode cX1_known 106 = .ok (.iload 4, 2) := by decide +kernel
theorem dX1_known_108 : decode cX1_known 108 = .ok (.bipush (-9), 2) := by decide +kernel
theorem dX1_known_110 : decode cX1_known 110 = .ok (.if_icmp .ne 8, 3) := by decide +kernel
theorem dX1_known_113 : decode cX1_known 113 = .ok (.bipush (-9), 2) := by decide +kernel
theorem dX1_known_115 : decode cX1_known 115 = .ok (.goto 10, 3) := by decide +kernel
theorem dX1_known_118 : decode cX1_known 118 = .ok (.aload_n 0, 1) := by decide +kernel
theorem dX1_known_119 : decode cX1_known 119 = .ok (.getfield 18, 3) := by decide +kernel
theorem dX1_known_122 : decode cX1_known 122 = .ok (.iload 4, 2) := by decide +kernel
theorem dX1_known_124 : decode cX1_known 124 = .ok (.iaload, 1) := by decide +kernel
theorem dX1_known_125 : decode cX1_known 125 = .ok (.ireturn, 1) := by decide +kernel
theorem dX2_init_0 : decode cX2_init 0 = .ok (.aload_n 0, 1) := by decide +kernel
theorem dX2_init_1 : decode cX2_init 1 = .ok (.invokespecial 3, 3) := by decide +kernel
theorem dX2_init_4 : decode cX2_init 4 = .ok (.aload_n 0, 1) := by decide +kernel
theorem dX2_init_5 : decode cX2_init 5 = .ok (.bipush 30, 2) := by decide +kernel
theorem dX2_init_7 : decode cX2_init 7 = .ok (.newarray .int, 2) := by decide +kernel
theorem dX2_init_9 : decode cX2_init 9 = .ok (.putfield 9, 3) := by decide +kernel
theorem dX2_init_12 : decode cX2_init 12 = .ok (.aload_n 0, 1) := by decide +kernel
theorem dX2_init_13 : decode cX2_init 13 = .ok (.getfield 9, 3) := by decide +kernel
theorem dX2_init_16 : decode cX2_init 16 = .ok (.bipush (-9), 2) := by decide +kernel
theorem dX2_init_18 : decode cX2_init 18 = .ok (.invokestatic 15, 3) := by decide +kernel
theorem dX2_init_21 : decode cX2_init 21 = .ok (.aload_n 0, 1) := by decide +kernel
theorem dX2_init_22 : decode cX2_init 22 = .ok (.bipush 30, 2) := by decide +kernel
theorem dX2_init_24 : decode cX2_init 24 = .ok (.newarray .int, 2) := by decide +kernel
theorem dX2_init_26 : decode cX2_init 26 = .ok (.putfield 21, 3) := by decide +kernel
theorem dX2_init_29 : decode cX2_init 29 = .ok (.aload_n 0, 1) := by decide +kernel
theorem dX2_init_30 : decode cX2_init 30 = .ok (.bipush 30, 2) := by decide +kernel
theorem dX2_init_32 : decode cX2_init 32 = .ok (.newarray .boolean, 2) := by decide +kernel
theorem dX2_init_34 : decode cX2_init 34 = .ok (.putfield 24, 3) := by decide +kernel
theorem dX2_init_37 : decode cX2_init 37 = .ok (.aload_n 0, 1) := by decide +kernel
theorem dX2_init_38 : decode cX2_init 38 = .ok (.bipush 30, 2) := by decide +kernel
theorem dX2_init_40 : decode cX2_init 40 = .ok (.newarray .int, 2) := by decide +kernel
theorem dX2_init_42 : decode cX2_init 42 = .ok (.putfield 28, 3) := by decide +kernel
theorem dX2_init_45 : decode cX2_init 45 = .ok (.return_, 1) := by decide +kernel
theorem dX2_isLane_0 : decode cX2_isLane 0 = .ok (.aload_n 0, 1) := by decide +kernel
theorem dX2_isLane_1 : decode cX2_isLane 1 = .ok (.getfield 9, 3) := by decide +kernel
theorem dX2_isLane_4 : decode cX2_isLane 4 = .ok (.iload_n 1, 1) := by decide +kernel
theorem dX2_isLane_5 : decode cX2_isLane 5 = .ok (.iaload, 1) := by decide +kernel
theorem dX2_isLane_6 : decode cX2_isLane 6 = .ok (.bipush (-9), 2) := by decide +kernel
theorem dX2_isLane_8 : decode cX2_isLane 8 = .ok (.if_icmp .eq 7, 3) := by decide +kernel
theorem dX2_isLane_11 : decode cX2_isLane 11 = .ok (.iconst 1, 1) := by decide +kernel
theorem dX2_isLane_12 : decode cX2_isLane 12 = .ok (.goto 4, 3) := by decide +kernel
theorem dX2_isLane_15 : decode cX2_isLane 15 = .ok (.iconst 0, 1) := by decide +kernel
theorem dX2_isLane_16 : decode cX2_isLane 16 = .ok (.ireturn, 1) := by decide +kernel
theorem dX2_addLane_0 : decode cX2_addLane 0 = .ok (.aload_n 0, 1) := by decide +kernel
theorem dX2_addLane_1 : decode cX2_addLane 1 = .ok (.getfield 9, 3) := by decide +kernel
theorem dX2_addLane_4 : decode cX2_addLane 4 = .ok (.iload_n 1, 1) := by decide +kernel
theorem dX2_addLane_5 : decode cX2_addLane 5 = .ok (.aload_n 0, 1) := by decide +kernel
theorem dX2_addLane_6 : decode cX2_addLane 6 = .ok (.getfield 31, 3) := by decide +kernel
theorem dX2_addLane_9 : decode cX2_addLane 9 = .ok (.iastore, 1) := by decide +kernel
theorem dX2_addLane_10 : decode cX2_addLane 10 = .ok (.aload_n 0, 1) := by decide +kernel
theorem dX2_addLane_11 : decode cX2_addLane 11 = .ok (.dup, 1) := by decide +kernel
theorem dX2_addLane_12 : decode cX2_addLane 12 = .ok (.getfield 31, 3) := by decide +kernel
theorem dX2_addLane_15 : decode cX2_addLane 15 = .ok (.dup_x1, 1) := by decide +kernel
theorem dX2_addLane_16 : decode cX2_addLane 16 = .ok (.iconst 1, 1) := by decide +kernel
theorem dX2_addLane_17 : decode cX2_addLane 17 = .ok (.iadd, 1) := by decide +kernel
theorem dX2_addLane_18 : decode cX2_addLane 18 = .ok (.putfield 31, 3) := by decide +kernel
theorem dX2_addLane_21 : decode cX2_addLane 21 = .ok (.ireturn, 1) := by decide +kernel
theorem dX2_isCleared_0 : decode cX2_isCleared 0 = .ok (.aload_n 0, 1) := by decide +kernel
theorem dX2_isCleared_1 : decode cX2_isCleared 1 = .ok (.getfield 9, 3) := by decide +kernel
theorem dX2_isCleared_4 : decode cX2_isCleared 4 = .ok (.iload_n 1, 1) := by decide +kernel
theorem dX2_isCleared_5 : decode cX2_isCleared 5 = .ok (.iaload, 1) := by decide +kernel
theorem dX2_isCleared_6 : decode cX2_isCleared 6 = .ok (.bipush (-9), 2) := by decide +kernel
theorem dX2_isCleared_8 : decode cX2_isCleared 8 = .ok (.if_icmp .eq 21, 3) := by decide +kernel
theorem dX2_isCleared_11 : decode cX2_isCleared 11 = .ok (.iload_n 2, 1) := by decide +kernel
theorem dX2_isCleared_12 : decode cX2_isCleared 12 = .ok (.aload_n 0, 1) := by decide +kernel
theorem dX2_isCleared_13 : decode cX2_isCleared 13 = .ok (.getfield 9, 3) := by decide +kernel
theorem dX2_isCleared_16 : decode cX2_isCleared 16 = .ok (.iload_n 1, 1) := by decide +kernel
theorem dX2_isCleared_17 : decode cX2_isCleared 17 = .ok (.iaload, 1) := by decide +kernel
theorem dX2_isCleared_18 : decode cX2_isCleared 18 = .ok (.ishr, 1) := by decide +kernel
theorem dX2_isCleared_19 : decode cX2_isCleared 19 = .ok (.iconst 1, 1) := by decide +kernel
theorem dX2_isCleared_20 : decode cX2_isCleared 20 = .ok (.iand, 1) := by decide +kernel
theorem dX2_isCleared_21 : decode cX2_isCleared 21 = .ok (.iconst 1, 1) := by decide +kernel
theorem dX2_isCleared_22 : decode cX2_isCleared 22 = .ok (.if_icmp .ne 7, 3) := by decide +kernel
theorem dX2_isCleared_25 : decode cX2_isCleared 25 = .ok (.iconst 1, 1) := by decide +kernel
theorem dX2_isCleared_26 : decode cX2_isCleared 26 = .ok (.goto 4, 3) := by decide +kernel
theorem dX2_isCleared_29 : decode cX2_isCleared 29 = .ok (.iconst 0, 1) := by decide +kernel
theorem dX2_isCleared_30 : decode cX2_isCleared 30 = .ok (.ireturn, 1) := by decide +kernel
theorem dX2_nextHouse_0 : decode cX2_nextHouse 0 = .ok (.aload_n 1, 1) := by decide +kernel
theorem dX2_nextHouse_1 : decode cX2_nextHouse 1 = .ok (.iload_n 2, 1) := by decide +kernel
theorem dX2_nextHouse_2 : decode cX2_nextHouse 2 = .ok (.invokevirtual 35, 3) := by decide +kernel
theorem dX2_nextHouse_5 : decode cX2_nextHouse 5 = .ok (.iload_n 3, 1) := by decide +kernel
theorem dX2_nextHouse_6 : decode cX2_nextHouse 6 = .ok (.invokestatic 41, 3) := by decide +kernel
theorem dX2_nextHouse_9 : decode cX2_nextHouse 9 = .ok (.istore 5, 2) := by decide +kernel
theorem dX2_nextHouse_11 : decode cX2_nextHouse 11 = .ok (.iload 5, 2) := by decide +kernel
theorem dX2_nextHouse_13 : decode cX2_nextHouse 13 = .ok (.bipush (-9), 2) := by decide +kernel
theorem dX2_nextHouse_15 : decode cX2_nextHouse 15 = .ok (.if_icmp .ne 6, 3) := by decide +kernel
theorem dX2_nextHouse_18 : decode cX2_nextHouse 18 = .ok (.bipush (-9), 2) := by decide +kernel
theorem dX2_nextHouse_20 : decode cX2_nextHouse 20 = .ok (.ireturn, 1) := by decide +kernel
theorem dX2_nextHouse_21 : decode cX2_nextHouse 21 = .ok (.aload_n 1, 1) := by decide +kernel
theorem dX2_nextHouse_22 : decode cX2_nextHouse 22 = .ok (.iload 5, 2) := by decide +kernel
theorem dX2_nextHouse_24 : decode cX2_nextHouse 24 = .ok (.invokevirtual 47, 3) := by decide +kernel
theorem dX2_nextHouse_27 : decode cX2_nextHouse 27 = .ok (.istore 6, 2) := by decide +kernel
theorem dX2_nextHouse_29 : decode cX2_nextHouse 29 = .ok (.iload 6, 2) := by decide +kernel
theorem dX2_nextHouse_31 : decode cX2_nextHouse 31 = .ok (.bipush (-9), 2) := by decide +kernel
theorem dX2_nextHouse_33 : decode cX2_nextHouse 33 = .ok (.if_icmp .eq 14, 3) := by decide +kernel
theorem dX2_nextHouse_36 : decode cX2_nextHouse 36 = .ok (.aload_n 0, 1) := by decide +kernel
theorem dX2_nextHouse_37 : decode cX2_nextHouse 37 = .ok (.iload 6, 2) := by decide +kernel
theorem dX2_nextHouse_39 : decode cX2_nextHouse 39 = .ok (.iload 4, 2) := by decide +kernel
theorem dX2_nextHouse_41 : decode cX2_nextHouse 41 = .ok (.invokevirtual 50, 3) := by decide +kernel
theorem dX2_nextHouse_44 : decode cX2_nextHouse 44 = .ok (.ifCond .eq 8, 3) := by decide +kernel
theorem dX2_nextHouse_47 : decode cX2_nextHouse 47 = .ok (.bipush (-9), 2) := by decide +kernel
theorem dX2_nextHouse_49 : decode cX2_nextHouse 49 = .ok (.goto 5, 3) := by decide +kernel
theorem dX2_nextHouse_52 : decode cX2_nextHouse 52 = .ok (.iload 6, 2) := by decide +kernel
theorem dX2_nextHouse_54 : decode cX2_nextHouse 54 = .ok (.ireturn, 1) := by decide +kernel
theorem dX2_minutesTo_0 : decode cX2_minutesTo 0 = .ok (.aload_n 0, 1) := by decide +kernel
theorem dX2_minutesTo_1 : decode cX2_minutesTo 1 = .ok (.iload_n 2, 1) := by decide +kernel
theorem dX2_minutesTo_2 : decode cX2_minutesTo 2 = .ok (.iload 5, 2) := by decide +kernel
theorem dX2_minutesTo_4 : decode cX2_minutesTo 4 = .ok (.invokevirtual 50, 3) := by decide +kernel
theorem dX2_minutesTo_7 : decode cX2_minutesTo 7 = .ok (.ifCond .ne 13, 3) := by decide +kernel
theorem dX2_minutesTo_10 : decode cX2_minutesTo 10 = .ok (.aload_n 0, 1) := by decide +kernel
theorem dX2_minutesTo_11 : decode cX2_minutesTo 11 = .ok (.iload_n 3, 1) := by decide +kernel
theorem dX2_minutesTo_12 : decode cX2_minutesTo 12 = .ok (.iload 5, 2) := by decide +kernel
theorem dX2_minutesTo_14 : decode cX2_minutesTo 14 = .ok (.invokevirtual 50, 3) := by decide +kernel
theorem dX2_minutesTo_17 : decode cX2_minutesTo 17 = .ok (.ifCond .eq 6, 3) := by decide +kernel
theorem dX2_minutesTo_20 : decode cX2_minutesTo 20 = .ok (.bipush (-9), 2) := by decide +kernel
theorem dX2_minutesTo_22 : decode cX2_minutesTo 22 = .ok (.ireturn, 1) := by decide +kernel
theorem dX2_minutesTo_23 : decode cX2_minutesTo 23 = .ok (.aload_n 0, 1) := by decide +kernel
theorem dX2_minutesTo_24 : decode cX2_minutesTo 24 = .ok (.getfield 21, 3) := by decide +kernel
theorem dX2_minutesTo_27 : decode cX2_minutesTo 27 = .ok (.bipush (-9), 2) := by decide +kernel
theorem dX2_minutesTo_29 : decode cX2_minutesTo 29 = .ok (.invokestatic 15, 3) := by decide +kernel
theorem dX2_minutesTo_32 : decode cX2_minutesTo 32 = .ok (.aload_n 0, 1) := by decide +kernel
theorem dX2_minutesTo_33 : decode cX2_minutesTo 33 = .ok (.getfield 21, 3) := by decide +kernel
theorem dX2_minutesTo_36 : decode cX2_minutesTo 36 = .ok (.iload_n 2, 1) := by decide +kernel
theorem dX2_minutesTo_37 : decode cX2_minutesTo 37 = .ok (.iconst 0, 1) := by decide +kernel
theorem dX2_minutesTo_38 : decode cX2_minutesTo 38 = .ok (.iastore, 1) := by decide +kernel
theorem dX2_minutesTo_39 : decode cX2_minutesTo 39 = .ok (.iconst 1, 1) := by decide +kernel
theorem dX2_minutesTo_40 : decode cX2_minutesTo 40 = .ok (.istore 6, 2) := by decide +kernel
theorem dX2_minutesTo_42 : decode cX2_minutesTo 42 = .ok (.iconst 0, 1) := by decide +kernel
theorem dX2_minutesTo_43 : decode cX2_minutesTo 43 = .ok (.istore 7, 2) := by decide +kernel
theorem dX2_minutesTo_45 : decode cX2_minutesTo 45 = .ok (.iload 7, 2) := by decide +kernel
theorem dX2_minutesTo_47 : decode cX2_minutesTo 47 = .ok (.aload_n 1, 1) := by decide +kernel
theorem dX2_minutesTo_48 : decode cX2_minutesTo 48 = .ok (.getfield 54, 3) := by decide +kernel
theorem dX2_minutesTo_51 : decode cX2_minutesTo 51 = .ok (.if_icmp .ge 64, 3) := by decide +kernel
theorem dX2_minutesTo_54 : decode cX2_minutesTo 54 = .ok (.iload 6, 2) := by decide +kernel
theorem dX2_minutesTo_56 : decode cX2_minutesTo 56 = .ok (.ifCond .eq 59, 3) := by decide +kernel
theorem dX2_minutesTo_59 : decode cX2_minutesTo 59 = .ok (.iconst 0, 1) := by decide +kernel
theorem dX2_minutesTo_60 : decode cX2_minutesTo 60 = .ok (.istore 6, 2) := by decide +kernel
theorem dX2_minutesTo_62 : decode cX2_minutesTo 62 = .ok (.iconst 0, 1) := by decide +kernel
theorem dX2_minutesTo_63 : decode cX2_minutesTo 63 = .ok (.istore 8, 2) := by decide +kernel
theorem dX2_minutesTo_65 : decode cX2_minutesTo 65 = .ok (.iload 8, 2) := by decide +kernel
theorem dX2_minutesTo_67 : decode cX2_minutesTo 67 = .ok (.aload_n 1, 1) := by decide +kernel
theorem dX2_minutesTo_68 : decode cX2_minutesTo 68 = .ok (.getfield 54, 3) := by decide +kernel
theorem dX2_minutesTo_71 : decode cX2_minutesTo 71 = .ok (.if_icmp .ge 38, 3) := by decide +kernel
theorem dX2_minutesTo_74 : decode cX2_minutesTo 74 = .ok (.aload_n 0, 1) := by decide +kernel
theorem dX2_minutesTo_75 : decode cX2_minutesTo 75 = .ok (.getfield 21, 3) := by decide +kernel
theorem dX2_minutesTo_78 : decode cX2_minutesTo 78 = .ok (.iload 8, 2) := by decide +kernel
theorem dX2_minutesTo_80 : decode cX2_minutesTo 80 = .ok (.iaload, 1) := by decide +kernel
theorem dX2_minutesTo_81 : decode cX2_minutesTo 81 = .ok (.bipush (-9), 2) := by decide +kernel
theorem dX2_minutesTo_83 : decode cX2_minutesTo 83 = .ok (.if_icmp .eq 20, 3) := by decide +kernel
theorem dX2_minutesTo_86 : decode cX2_minutesTo 86 = .ok (.aload_n 0, 1) := by decide +kernel
theorem dX2_minutesTo_87 : decode cX2_minutesTo 87 = .ok (.aload_n 1, 1) := by decide +kernel
theorem dX2_minutesTo_88 : decode cX2_minutesTo 88 = .ok (.iload 8, 2) := by decide +kernel
theorem dX2_minutesTo_90 : decode cX2_minutesTo 90 = .ok (.iload 4, 2) := by decide +kernel
theorem dX2_minutesTo_92 : decode cX2_minutesTo 92 = .ok (.iload 5, 2) := by decide +kernel
theorem dX2_minutesTo_94 : decode cX2_minutesTo 94 = .ok (.invokevirtual 57, 3) := by decide +kernel
theorem dX2_minutesTo_97 : decode cX2_minutesTo 97 = .ok (.ifCond .eq 6, 3) := by decide +kernel
theorem dX2_minutesTo_100 : decode cX2_minutesTo 100 = .ok (.iconst 1, 1) := by decide +kernel
theorem dX2_minutesTo_101 : decode cX2_minutesTo 101 = .ok (.istore 6, 2) := by decide +kernel
theorem dX2_minutesTo_103 : decode cX2_minutesTo 103 = .ok (.iinc 8 1, 3) := by decide +kernel
theorem dX2_minutesTo_106 : decode cX2_minutesTo 106 = .ok (.goto (-41), 3) := by decide +kernel
theorem dX2_minutesTo_109 : decode cX2_minutesTo 109 = .ok (.iinc 7 1, 3) := by decide +kernel
theorem dX2_minutesTo_112 : decode cX2_minutesTo 112 = .ok (.goto (-67), 3) := by decide +kernel
theorem dX2_minutesTo_115 : decode cX2_minutesTo 115 = .ok (.aload_n 0, 1) := by decide +kernel
theorem dX2_minutesTo_116 : decode cX2_minutesTo 116 = .ok (.getfield 21, 3) := by decide +kernel
theorem dX2_minutesTo_119 : decode cX2_minutesTo 119 = .ok (.iload_n 3, 1) := by decide +kernel
theorem dX2_minutesTo_120 : decode cX2_minutesTo 120 = .ok (.iaload, 1) := by decide +kernel
theorem dX2_minutesTo_121 : decode cX2_minutesTo 121 = .ok (.ireturn, 1) := by decide +kernel
theorem dX2_spread_0 : decode cX2_spread 0 = .ok (.iconst 0, 1) := by decide +kernel
theorem dX2_spread_1 : decode cX2_spread 1 = .ok (.istore 5, 2) := by decide +kernel
theorem dX2_spread_3 : decode cX2_spread 3 = .ok (.iconst 0, 1) := by decide +kernel
theorem dX2_spread_4 : decode cX2_spread 4 = .ok (.istore 6, 2) := by decide +kernel
theorem dX2_spread_6 : decode cX2_spread 6 = .ok (.iload 6, 2) := by decide +kernel
theorem dX2_spread_8 : decode cX2_spread 8 = .ok (.iconst 4, 1) := by decide +kernel
theorem dX2_spread_9 : decode cX2_spread 9 = .ok (.if_icmp .ge 82, 3) := by decide +kernel
theorem dX2_spread_12 : decode cX2_spread 12 = .ok (.aload_n 0, 1) := by decide +kernel
theorem dX2_spread_13 : decode cX2_spread 13 = .ok (.aload_n 1, 1) := by decide +kernel
theorem dX2_spread_14 : decode cX2_spread 14 = .ok (.iload_n 2, 1) := by decide +kernel
theorem dX2_spread_15 : decode cX2_spread 15 = .ok (.iload 6, 2) := by decide +kernel
theorem dX2_spread_17 : decode cX2_spread 17 = .ok (.iload 4, 2) := by decide +kernel
theorem dX2_spread_19 : decode cX2_spread 19 = .ok (.invokevirtual 61, 3) := by decide +kernel
theorem dX2_spread_22 : decode cX2_spread 22 = .ok (.istore 7, 2) := by decide +kernel
theorem dX2_spread_24 : decode cX2_spread 24 = .ok (.iload 7, 2) := by decide +kernel
theorem dX2_spread_26 : decode cX2_spread 26 = .ok (.bipush (-9), 2) := by decide +kernel
theorem dX2_spread_28 : decode cX2_spread 28 = .ok (.if_icmp .ne 6, 3) := by decide +kernel
theorem dX2_spread_31 : decode cX2_spread 31 = .ok (.goto 54, 3) := by decide +kernel
theorem dX2_spread_34 : decode cX2_spread 34 = .ok (.aload_n 0, 1) := by decide +kernel
theorem dX2_spread_35 : decode cX2_spread 35 = .ok (.getfield 21, 3) := by decide +kernel
theorem dX2_spread_38 : decode cX2_spread 38 = .ok (.iload_n 2, 1) := by decide +kernel
theorem dX2_spread_39 : decode cX2_spread 39 = .ok (.iaload, 1) := by decide +kernel
theorem dX2_spread_40 : decode cX2_spread 40 = .ok (.iload 6, 2) := by decide +kernel
theorem dX2_spread_42 : decode cX2_spread 42 = .ok (.iload_n 3, 1) := by decide +kernel
theorem dX2_spread_43 : decode cX2_spread 43 = .ok (.invokestatic 65, 3) := by decide +kernel
theorem dX2_spread_46 : decode cX2_spread 46 = .ok (.iadd, 1) := by decide +kernel
theorem dX2_spread_47 : decode cX2_spread 47 = .ok (.istore 8, 2) := by decide +kernel
theorem dX2_spread_49 : decode cX2_spread 49 = .ok (.aload_n 0, 1) := by decide +kernel
theorem dX2_spread_50 : decode cX2_spread 50 = .ok (.getfield 21, 3) := by decide +kernel
theorem dX2_spread_53 : decode cX2_spread 53 = .ok (.iload 7, 2) := by decide +kernel
theorem dX2_spread_55 : decode cX2_spread 55 = .ok (.iaload, 1) := by decide +kernel
theorem dX2_spread_56 : decode cX2_spread 56 = .ok (.bipush (-9), 2) := by decide +kernel
theorem dX2_spread_58 : decode cX2_spread 58 = .ok (.if_icmp .eq 15, 3) := by decide +kernel
theorem dX2_spread_61 : decode cX2_spread 61 = .ok (.iload 8, 2) := by decide +kernel
theorem dX2_spread_63 : decode cX2_spread 63 = .ok (.aload_n 0, 1) := by decide +kernel
theorem dX2_spread_64 : decode cX2_spread 64 = .ok (.getfield 21, 3) := by decide +kernel
theorem dX2_spread_67 : decode cX2_spread 67 = .ok (.iload 7, 2) := by decide +kernel
theorem dX2_spread_69 : decode cX2_spread 69 = .ok (.iaload, 1) := by decide +kernel
theorem dX2_spread_70 : decode cX2_spread 70 = .ok (.if_icmp .ge 15, 3) := by decide +kernel
theorem dX2_spread_73 : decode cX2_spread 73 = .ok (.aload_n 0, 1) := by decide +kernel
theorem dX2_spread_74 : decode cX2_spread 74 = .ok (.getfield 21, 3) := by decide +kernel
theorem dX2_spread_77 : decode cX2_spread 77 = .ok (.iload 7, 2) := by decide +kernel
theorem dX2_spread_79 : decode cX2_spread 79 = .ok (.iload 8, 2) := by decide +kernel
theorem dX2_spread_81 : decode cX2_spread 81 = .ok (.iastore, 1) := by decide +kernel
theorem dX2_spread_82 : decode cX2_spread 82 = .ok (.iconst 1, 1) := by decide +kernel
theorem dX2_spread_83 : decode cX2_spread 83 = .ok (.istore 5, 2) := by decide +kernel
theorem dX2_spread_85 : decode cX2_spread 85 = .ok (.iinc 6 1, 3) := by decide +kernel
theorem dX2_spread_88 : decode cX2_spread 88 = .ok (.goto (-82), 3) := by decide +kernel
theorem dX2_spread_91 : decode cX2_spread 91 = .ok (.iload 5, 2) := by decide +kernel
theorem dX2_spread_93 : decode cX2_spread 93 = .ok (.ireturn, 1) := by decide +kernel
theorem dX2_stepMinutes_0 : decode cX2_stepMinutes 0 = .ok (.iload_n 0, 1) := by decide +kernel
theorem dX2_stepMinutes_1 : decode cX2_stepMinutes 1 = .ok (.iload_n 1, 1) := by decide +kernel
theorem dX2_stepMinutes_2 : decode cX2_stepMinutes 2 = .ok (.if_icmp .ne 5, 3) := by decide +kernel
theorem dX2_stepMinutes_5 : decode cX2_stepMinutes 5 = .ok (.iconst 1, 1) := by decide +kernel
theorem dX2_stepMinutes_6 : decode cX2_stepMinutes 6 = .ok (.ireturn, 1) := by decide +kernel
theorem dX2_stepMinutes_7 : decode cX2_stepMinutes 7 = .ok (.iload_n 0, 1) := by decide +kernel
theorem dX2_stepMinutes_8 : decode cX2_stepMinutes 8 = .ok (.iload_n 1, 1) := by decide +kernel
theorem dX2_stepMinutes_9 : decode cX2_stepMinutes 9 = .ok (.iconst 2, 1) := by decide +kernel
theorem dX2_stepMinutes_10 : decode cX2_stepMinutes 10 = .ok (.iadd, 1) := by decide +kernel
theorem dX2_stepMinutes_11 : decode cX2_stepMinutes 11 = .ok (.iconst 4, 1) := by decide +kernel
theorem dX2_stepMinutes_12 : decode cX2_stepMinutes 12 = .ok (.irem, 1) := by decide +kernel
theorem dX2_stepMinutes_13 : decode cX2_stepMinutes 13 = .ok (.if_icmp .ne 7, 3) := by decide +kernel
theorem dX2_stepMinutes_16 : decode cX2_stepMinutes 16 = .ok (.iconst 4, 1) := by decide +kernel
theorem dX2_stepMinutes_17 : decode cX2_stepMinutes 17 = .ok (.goto 4, 3) := by decide +kernel
theorem dX2_stepMinutes_20 : decode cX2_stepMinutes 20 = .ok (.iconst 2, 1) := by decide +kernel
theorem dX2_stepMinutes_21 : decode cX2_stepMinutes 21 = .ok (.ireturn, 1) := by decide +kernel
theorem dX2_fewestLanes_0 : decode cX2_fewestLanes 0 = .ok (.iconst 1, 1) := by decide +kernel
theorem dX2_fewestLanes_1 : decode cX2_fewestLanes 1 = .ok (.aload_n 0, 1) := by decide +kernel
theorem dX2_fewestLanes_2 : decode cX2_fewestLanes 2 = .ok (.getfield 31, 3) := by decide +kernel
theorem dX2_fewestLanes_5 : decode cX2_fewestLanes 5 = .ok (.ishl, 1) := by decide +kernel
theorem dX2_fewestLanes_6 : decode cX2_fewestLanes 6 = .ok (.istore_n 3, 1) := by decide +kernel
theorem dX2_fewestLanes_7 : decode cX2_fewestLanes 7 = .ok (.aload_n 0, 1) := by decide +kernel
theorem dX2_fewestLanes_8 : decode cX2_fewestLanes 8 = .ok (.aload_n 1, 1) := by decide +kernel
theorem dX2_fewestLanes_9 : decode cX2_fewestLanes 9 = .ok (.iload_n 2, 1) := by decide +kernel
theorem dX2_fewestLanes_10 : decode cX2_fewestLanes 10 = .ok (.iload_n 3, 1) := by decide +kernel
theorem dX2_fewestLanes_11 : decode cX2_fewestLanes 11 = .ok (.iconst 1, 1) := by decide +kernel
theorem dX2_fewestLanes_12 : decode cX2_fewestLanes 12 = .ok (.isub, 1) := by decide +kernel
theorem dX2_fewestLanes_13 : decode cX2_fewestLanes 13 = .ok (.invokevirtual 68, 3) := by decide +kernel
theorem dX2_fewestLanes_16 : decode cX2_fewestLanes 16 = .ok (.ifCond .ne 6, 3) := by decide +kernel
theorem dX2_fewestLanes_19 : decode cX2_fewestLanes 19 = .ok (.bipush (-9), 2) := by decide +kernel
theorem dX2_fewestLanes_21 : decode cX2_fewestLanes 21 = .ok (.ireturn, 1) := by decide +kernel
theorem dX2_fewestLanes_22 : decode cX2_fewestLanes 22 = .ok (.iconst 0, 1) := by decide +kernel
theorem dX2_fewestLanes_23 : decode cX2_fewestLanes 23 = .ok (.istore 4, 2) := by decide +kernel
theorem dX2_fewestLanes_25 : decode cX2_fewestLanes 25 = .ok (.iload 4, 2) := by decide +kernel
theorem dX2_fewestLanes_27 : decode cX2_fewestLanes 27 = .ok (.aload_n 0, 1) := by decide +kernel
theorem dX2_fewestLanes_28 : decode cX2_fewestLanes 28 = .ok (.getfield 31, 3) := by decide +kernel
theorem dX2_fewestLanes_31 : decode cX2_fewestLanes 31 = .ok (.if_icmp .gt 48, 3) := by decide +kernel
theorem dX2_fewestLanes_34 : decode cX2_fewestLanes 34 = .ok (.iconst 0, 1) := by decide +kernel
theorem dX2_fewestLanes_35 : decode cX2_fewestLanes 35 = .ok (.istore 5, 2) := by decide +kernel
theorem dX2_fewestLanes_37 : decode cX2_fewestLanes 37 = .ok (.iload 5, 2) := by decide +kernel
theorem dX2_fewestLanes_39 : decode cX2_fewestLanes 39 = .ok (.iload_n 3, 1) := by decide +kernel
theorem dX2_fewestLanes_40 : decode cX2_fewestLanes 40 = .ok (.if_icmp .ge 33, 3) := by decide +kernel
theorem dX2_fewestLanes_43 : decode cX2_fewestLanes 43 = .ok (.iload 5, 2) := by decide +kernel
theorem dX2_fewestLanes_45 : decode cX2_fewestLanes 45 = .ok (.invokestatic 72, 3) := by decide +kernel
theorem dX2_fewestLanes_48 : decode cX2_fewestLanes 48 = .ok (.iload 4, 2) := by decide +kernel
theorem dX2_fewestLanes_50 : decode cX2_fewestLanes 50 = .ok (.if_icmp .ne 17, 3) := by decide +kernel
theorem dX2_fewestLanes_53 : decode cX2_fewestLanes 53 = .ok (.aload_n 0, 1) := by decide +kernel
theorem dX2_fewestLanes_54 : decode cX2_fewestLanes 54 = .ok (.aload_n 1, 1) := by decide +kernel
theorem dX2_fewestLanes_55 : decode cX2_fewestLanes 55 = .ok (.iload_n 2, 1) := by decide +kernel
theorem dX2_fewestLanes_56 : decode cX2_fewestLanes 56 = .ok (.iload 5, 2) := by decide +kernel
theorem dX2_fewestLanes_58 : decode cX2_fewestLanes 58 = .ok (.invokevirtual 68, 3) := by decide +kernel
theorem dX2_fewestLanes_61 : decode cX2_fewestLanes 61 = .ok (.ifCond .eq 6, 3) := by decide +kernel
theorem dX2_fewestLanes_64 : decode cX2_fewestLanes 64 = .ok (.iload 5, 2) := by decide +kernel
theorem dX2_fewestLanes_66 : decode cX2_fewestLanes 66 = .ok (.ireturn, 1) := by decide +kernel
theorem dX2_fewestLanes_67 : decode cX2_fewestLanes 67 = .ok (.iinc 5 1, 3) := by decide +kernel
theorem dX2_fewestLanes_70 : decode cX2_fewestLanes 70 = .ok (.goto (-33), 3) := by decide +kernel
theorem dX2_fewestLanes_73 : decode cX2_fewestLanes 73 = .ok (.iinc 4 1, 3) := by decide +kernel
theorem dX2_fewestLanes_76 : decode cX2_fewestLanes 76 = .ok (.goto (-51), 3) := by decide +kernel
theorem dX2_fewestLanes_79 : decode cX2_fewestLanes 79 = .ok (.bipush (-9), 2) := by decide +kernel
theorem dX2_fewestLanes_81 : decode cX2_fewestLanes 81 = .ok (.ireturn, 1) := by decide +kernel
theorem dX2_holds_0 : decode cX2_holds 0 = .ok (.iconst 0, 1) := by decide +kernel
theorem dX2_holds_1 : decode cX2_holds 1 = .ok (.istore 4, 2) := by decide +kernel
theorem dX2_holds_3 : decode cX2_holds 3 = .ok (.iload 4, 2) := by decide +kernel
theorem dX2_holds_5 : decode cX2_holds 5 = .ok (.aload_n 1, 1) := by decide +kernel
theorem dX2_holds_6 : decode cX2_holds 6 = .ok (.getfield 54, 3) := by decide +kernel
theorem dX2_holds_9 : decode cX2_holds 9 = .ok (.if_icmp .ge 23, 3) := by decide +kernel
theorem dX2_holds_12 : decode cX2_holds 12 = .ok (.aload_n 0, 1) := by decide +kernel
theorem dX2_holds_13 : decode cX2_holds 13 = .ok (.getfield 24, 3) := by decide +kernel
theorem dX2_holds_16 : decode cX2_holds 16 = .ok (.iload 4, 2) := by decide +kernel
theorem dX2_holds_18 : decode cX2_holds 18 = .ok (.aload_n 0, 1) := by decide +kernel
theorem dX2_holds_19 : decode cX2_holds 19 = .ok (.iload 4, 2) := by decide +kernel
theorem dX2_holds_21 : decode cX2_holds 21 = .ok (.iload_n 3, 1) := by decide +kernel
theorem dX2_holds_22 : decode cX2_holds 22 = .ok (.invokevirtual 50, 3) := by decide +kernel
theorem dX2_holds_25 : decode cX2_holds 25 = .ok (.bastore, 1) := by decide +kernel
theorem dX2_holds_26 : decode cX2_holds 26 = .ok (.iinc 4 1, 3) := by decide +kernel
theorem dX2_holds_29 : decode cX2_holds 29 = .ok (.goto (-26), 3) := by decide +kernel
theorem dX2_holds_32 : decode cX2_holds 32 = .ok (.iconst 0, 1) := by decide +kernel
theorem dX2_holds_33 : decode cX2_holds 33 = .ok (.istore 4, 2) := by decide +kernel
theorem dX2_holds_35 : decode cX2_holds 35 = .ok (.iload 4, 2) := by decide +kernel
theorem dX2_holds_37 : decode cX2_holds 37 = .ok (.aload_n 1, 1) := by decide +kernel
theorem dX2_holds_38 : decode cX2_holds 38 = .ok (.getfield 54, 3) := by decide +kernel
theorem dX2_holds_41 : decode cX2_holds 41 = .ok (.if_icmp .ge 33, 3) := by decide +kernel
theorem dX2_holds_44 : decode cX2_holds 44 = .ok (.aload_n 0, 1) := by decide +kernel
theorem dX2_holds_45 : decode cX2_holds 45 = .ok (.getfield 24, 3) := by decide +kernel
theorem dX2_holds_48 : decode cX2_holds 48 = .ok (.iload 4, 2) := by decide +kernel
theorem dX2_holds_50 : decode cX2_holds 50 = .ok (.baload, 1) := by decide +kernel
theorem dX2_holds_51 : decode cX2_holds 51 = .ok (.ifCond .ne 17, 3) := by decide +kernel
theorem dX2_holds_54 : decode cX2_holds 54 = .ok (.aload_n 0, 1) := by decide +kernel
theorem dX2_holds_55 : decode cX2_holds 55 = .ok (.aload_n 1, 1) := by decide +kernel
theorem dX2_holds_56 : decode cX2_holds 56 = .ok (.iload 4, 2) := by decide +kernel
theorem dX2_holds_58 : decode cX2_holds 58 = .ok (.iload_n 3, 1) := by decide +kernel
theorem dX2_holds_59 : decode cX2_holds 59 = .ok (.invokevirtual 77, 3) := by decide +kernel
theorem dX2_holds_62 : decode cX2_holds 62 = .ok (.iload_n 2, 1) := by decide +kernel
theorem dX2_holds_63 : decode cX2_holds 63 = .ok (.if_icmp .le 5, 3) := by decide +kernel
theorem dX2_holds_66 : decode cX2_holds 66 = .ok (.iconst 0, 1) := by decide +kernel
theorem dX2_holds_67 : decode cX2_holds 67 = .ok (.ireturn, 1) := by decide +kernel
theorem dX2_holds_68 : decode cX2_holds 68 = .ok (.iinc 4 1, 3) := by decide +kernel
theorem dX2_holds_71 : decode cX2_holds 71 = .ok (.goto (-36), 3) := by decide +kernel
theorem dX2_holds_74 : decode cX2_holds 74 = .ok (.iconst 1, 1) := by decide +kernel
theorem dX2_holds_75 : decode cX2_holds 75 = .ok (.ireturn, 1) := by decide +kernel
theorem dX2_burnFrom_0 : decode cX2_burnFrom 0 = .ok (.aload_n 0, 1) := by decide +kernel
theorem dX2_burnFrom_1 : decode cX2_burnFrom 1 = .ok (.getfield 28, 3) := by decide +kernel
theorem dX2_burnFrom_4 : decode cX2_burnFrom 4 = .ok (.iconst 0, 1) := by decide +kernel
theorem dX2_burnFrom_5 : decode cX2_burnFrom 5 = .ok (.iload_n 2, 1) := by decide +kernel
theorem dX2_burnFrom_6 : decode cX2_burnFrom 6 = .ok (.iastore, 1) := by decide +kernel
theorem dX2_burnFrom_7 : decode cX2_burnFrom 7 = .ok (.aload_n 0, 1) := by decide +kernel
theorem dX2_burnFrom_8 : decode cX2_burnFrom 8 = .ok (.getfield 24, 3) := by decide +kernel
theorem dX2_burnFrom_11 : decode cX2_burnFrom 11 = .ok (.iload_n 2, 1) := by decide +kernel
theorem dX2_burnFrom_12 : decode cX2_burnFrom 12 = .ok (.iconst 1, 1) := by decide +kernel
theorem dX2_burnFrom_13 : decode cX2_burnFrom 13 = .ok (.bastore, 1) := by decide +kernel
theorem dX2_burnFrom_14 : decode cX2_burnFrom 14 = .ok (.iconst 1, 1) := by decide +kernel
theorem dX2_burnFrom_15 : decode cX2_burnFrom 15 = .ok (.istore 4, 2) := by decide +kernel
theorem dX2_burnFrom_17 : decode cX2_burnFrom 17 = .ok (.iconst 0, 1) := by decide +kernel
theorem dX2_burnFrom_18 : decode cX2_burnFrom 18 = .ok (.istore 5, 2) := by decide +kernel
theorem dX2_burnFrom_20 : decode cX2_burnFrom 20 = .ok (.iload 5, 2) := by decide +kernel
theorem dX2_burnFrom_22 : decode cX2_burnFrom 22 = .ok (.iload 4, 2) := by decide +kernel
theorem dX2_burnFrom_24 : decode cX2_burnFrom 24 = .ok (.if_icmp .ge 92, 3) := by decide +kernel
theorem dX2_burnFrom_27 : decode cX2_burnFrom 27 = .ok (.iload 5, 2) := by decide +kernel
theorem dX2_burnFrom_29 : decode cX2_burnFrom 29 = .ok (.bipush 30, 2) := by decide +kernel
theorem dX2_burnFrom_31 : decode cX2_burnFrom 31 = .ok (.if_icmp .ge 85, 3) := by decide +kernel
theorem dX2_burnFrom_34 : decode cX2_burnFrom 34 = .ok (.iconst 0, 1) := by decide +kernel
theorem dX2_burnFrom_35 : decode cX2_burnFrom 35 = .ok (.istore 6, 2) := by decide +kernel
theorem dX2_burnFrom_37 : decode cX2_burnFrom 37 = .ok (.iload 6, 2) := by decide +kernel
theorem dX2_burnFrom_39 : decode cX2_burnFrom 39 = .ok (.iconst 4, 1) := by decide +kernel
theorem dX2_burnFrom_40 : decode cX2_burnFrom 40 = .ok (.if_icmp .ge 70, 3) := by decide +kernel
theorem dX2_burnFrom_43 : decode cX2_burnFrom 43 = .ok (.aload_n 0, 1) := by decide +kernel
theorem dX2_burnFrom_44 : decode cX2_burnFrom 44 = .ok (.aload_n 1, 1) := by decide +kernel
theorem dX2_burnFrom_45 : decode cX2_burnFrom 45 = .ok (.aload_n 0, 1) := by decide +kernel
theorem dX2_burnFrom_46 : decode cX2_burnFrom 46 = .ok (.getfield 28, 3) := by decide +kernel
theorem dX2_burnFrom_49 : decode cX2_burnFrom 49 = .ok (.iload 5, 2) := by decide +kernel
theorem dX2_burnFrom_51 : decode cX2_burnFrom 51 = .ok (.iaload, 1) := by decide +kernel
theorem dX2_burnFrom_52 : decode cX2_burnFrom 52 = .ok (.iload 6, 2) := by decide +kernel
theorem dX2_burnFrom_54 : decode cX2_burnFrom 54 = .ok (.iload_n 3, 1) := by decide +kernel
theorem dX2_burnFrom_55 : decode cX2_burnFrom 55 = .ok (.invokevirtual 61, 3) := by decide +kernel
theorem dX2_burnFrom_58 : decode cX2_burnFrom 58 = .ok (.istore 7, 2) := by decide +kernel
theorem dX2_burnFrom_60 : decode cX2_burnFrom 60 = .ok (.iload 7, 2) := by decide +kernel
theorem dX2_burnFrom_62 : decode cX2_burnFrom 62 = .ok (.bipush (-9), 2) := by decide +kernel
theorem dX2_burnFrom_64 : decode cX2_burnFrom 64 = .ok (.if_icmp .eq 40, 3) := by decide +kernel
theorem dX2_burnFrom_67 : decode cX2_burnFrom 67 = .ok (.aload_n 0, 1) := by decide +kernel
theorem dX2_burnFrom_68 : decode cX2_burnFrom 68 = .ok (.getfield 24, 3) := by decide +kernel
theorem dX2_burnFrom_71 : decode cX2_burnFrom 71 = .ok (.iload 7, 2) := by decide +kernel
theorem dX2_burnFrom_73 : decode cX2_burnFrom 73 = .ok (.baload, 1) := by decide +kernel
theorem dX2_burnFrom_74 : decode cX2_burnFrom 74 = .ok (.ifCond .ne 30, 3) := by decide +kernel
theorem dX2_burnFrom_77 : decode cX2_burnFrom 77 = .ok (.iload 4, 2) := by decide +kernel
theorem dX2_burnFrom_79 : decode cX2_burnFrom 79 = .ok (.bipush 30, 2) := by decide +kernel
theorem dX2_burnFrom_81 : decode cX2_burnFrom 81 = .ok (.if_icmp .ge 23, 3) := by decide +kernel
theorem dX2_burnFrom_84 : decode cX2_burnFrom 84 = .ok (.aload_n 0, 1) := by decide +kernel
theorem dX2_burnFrom_85 : decode cX2_burnFrom 85 = .ok (.getfield 24, 3) := by decide +kernel
theorem dX2_burnFrom_88 : decode cX2_burnFrom 88 = .ok (.iload 7, 2) := by decide +kernel
theorem dX2_burnFrom_90 : decode cX2_burnFrom 90 = .ok (.iconst 1, 1) := by decide +kernel
theorem dX2_burnFrom_91 : decode cX2_burnFrom 91 = .ok (.bastore, 1) := by decide +kernel
theorem dX2_burnFrom_92 : decode cX2_burnFrom 92 = .ok (.aload_n 0, 1) := by decide +kernel
theorem dX2_burnFrom_93 : decode cX2_burnFrom 93 = .ok (.getfield 28, 3) := by decide +kernel
theorem dX2_burnFrom_96 : decode cX2_burnFrom 96 = .ok (.iload 4, 2) := by decide +kernel
theorem dX2_burnFrom_98 : decode cX2_burnFrom 98 = .ok (.iload 7, 2) := by decide +kernel
theorem dX2_burnFrom_100 : decode cX2_burnFrom 100 = .ok (.iastore, 1) := by decide +kernel
theorem dX2_burnFrom_101 : decode cX2_burnFrom 101 = .ok (.iinc 4 1, 3) := by decide +kernel
theorem dX2_burnFrom_104 : decode cX2_burnFrom 104 = .ok (.iinc 6 1, 3) := by decide +kernel
theorem dX2_burnFrom_107 : decode cX2_burnFrom 107 = .ok (.goto (-70), 3) := by decide +kernel
theorem dX2_burnFrom_110 : decode cX2_burnFrom 110 = .ok (.iinc 5 1, 3) := by decide +kernel
theorem dX2_burnFrom_113 : decode cX2_burnFrom 113 = .ok (.goto (-93), 3) := by decide +kernel
theorem dX2_burnFrom_116 : decode cX2_burnFrom 116 = .ok (.iload 4, 2) := by decide +kernel
theorem dX2_burnFrom_118 : decode cX2_burnFrom 118 = .ok (.ireturn, 1) := by decide +kernel
theorem dX3_init_0 : decode cX3_init 0 = .ok (.aload_n 0, 1) := by decide +kernel
theorem dX3_init_1 : decode cX3_init 1 = .ok (.invokespecial 3, 3) := by decide +kernel
theorem dX3_init_4 : decode cX3_init 4 = .ok (.aload_n 0, 1) := by decide +kernel
theorem dX3_init_5 : decode cX3_init 5 = .ok (.bipush 30, 2) := by decide +kernel
theorem dX3_init_7 : decode cX3_init 7 = .ok (.newarray .int, 2) := by decide +kernel
theorem dX3_init_9 : decode cX3_init 9 = .ok (.putfield 9, 3) := by decide +kernel
theorem dX3_init_12 : decode cX3_init 12 = .ok (.aload_n 0, 1) := by decide +kernel
theorem dX3_init_13 : decode cX3_init 13 = .ok (.bipush 30, 2) := by decide +kernel
theorem dX3_init_15 : decode cX3_init 15 = .ok (.newarray .int, 2) := by decide +kernel
theorem dX3_init_17 : decode cX3_init 17 = .ok (.putfield 15, 3) := by decide +kernel
theorem dX3_init_20 : decode cX3_init 20 = .ok (.aload_n 0, 1) := by decide +kernel
theorem dX3_init_21 : decode cX3_init 21 = .ok (.sipush 144, 3) := by decide +kernel
theorem dX3_init_24 : decode cX3_init 24 = .ok (.newarray .int, 2) := by decide +kernel
theorem dX3_init_26 : decode cX3_init 26 = .ok (.putfield 18, 3) := by decide +kernel
theorem dX3_init_29 : decode cX3_init 29 = .ok (.aload_n 0, 1) := by decide +kernel
theorem dX3_init_30 : decode cX3_init 30 = .ok (.getfield 18, 3) := by decide +kernel
theorem dX3_init_33 : decode cX3_init 33 = .ok (.bipush (-9), 2) := by decide +kernel
theorem dX3_init_35 : decode cX3_init 35 = .ok (.invokestatic 21, 3) := by decide +kernel
theorem dX3_init_38 : decode cX3_init 38 = .ok (.aload_n 0, 1) := by decide +kernel
theorem dX3_init_39 : decode cX3_init 39 = .ok (.bipush 60, 2) := by decide +kernel
theorem dX3_init_41 : decode cX3_init 41 = .ok (.newarray .int, 2) := by decide +kernel
theorem dX3_init_43 : decode cX3_init 43 = .ok (.putfield 27, 3) := by decide +kernel
theorem dX3_init_46 : decode cX3_init 46 = .ok (.aload_n 0, 1) := by decide +kernel
theorem dX3_init_47 : decode cX3_init 47 = .ok (.bipush 60, 2) := by decide +kernel
theorem dX3_init_49 : decode cX3_init 49 = .ok (.newarray .int, 2) := by decide +kernel
theorem dX3_init_51 : decode cX3_init 51 = .ok (.putfield 30, 3) := by decide +kernel
theorem dX3_init_54 : decode cX3_init 54 = .ok (.aload_n 0, 1) := by decide +kernel
theorem dX3_init_55 : decode cX3_init 55 = .ok (.bipush 60, 2) := by decide +kernel
theorem dX3_init_57 : decode cX3_init 57 = .ok (.newarray .int, 2) := by decide +kernel
theorem dX3_init_59 : decode cX3_init 59 = .ok (.putfield 33, 3) := by decide +kernel
theorem dX3_init_62 : decode cX3_init 62 = .ok (.aload_n 0, 1) := by decide +kernel
theorem dX3_init_63 : decode cX3_init 63 = .ok (.bipush 60, 2) := by decide +kernel
theorem dX3_init_65 : decode cX3_init 65 = .ok (.newarray .int, 2) := by decide +kernel
theorem dX3_init_67 : decode cX3_init 67 = .ok (.putfield 36, 3) := by decide +kernel
theorem dX3_init_70 : decode cX3_init 70 = .ok (.aload_n 0, 1) := by decide +kernel
theorem dX3_init_71 : decode cX3_init 71 = .ok (.bipush 60, 2) := by decide +kernel
theorem dX3_init_73 : decode cX3_init 73 = .ok (.newarray .int, 2) := by decide +kernel
theorem dX3_init_75 : decode cX3_init 75 = .ok (.putfield 39, 3) := by decide +kernel
theorem dX3_init_78 : decode cX3_init 78 = .ok (.aload_n 0, 1) := by decide +kernel
theorem dX3_init_79 : decode cX3_init 79 = .ok (.sipush 150, 3) := by decide +kernel
theorem dX3_init_82 : decode cX3_init 82 = .ok (.newarray .int, 2) := by decide +kernel
theorem dX3_init_84 : decode cX3_init 84 = .ok (.putfield 42, 3) := by decide +kernel
theorem dX3_init_87 : decode cX3_init 87 = .ok (.aload_n 0, 1) := by decide +kernel
theorem dX3_init_88 : decode cX3_init 88 = .ok (.sipush 150, 3) := by decide +kernel
theorem dX3_init_91 : decode cX3_init 91 = .ok (.newarray .int, 2) := by decide +kernel
theorem dX3_init_93 : decode cX3_init 93 = .ok (.putfield 45, 3) := by decide +kernel
theorem dX3_init_96 : decode cX3_init 96 = .ok (.aload_n 0, 1) := by decide +kernel
theorem dX3_init_97 : decode cX3_init 97 = .ok (.sipush 150, 3) := by decide +kernel
theorem dX3_init_100 : decode cX3_init 100 = .ok (.newarray .int, 2) := by decide +kernel
theorem dX3_init_102 : decode cX3_init 102 = .ok (.putfield 48, 3) := by decide +kernel
theorem dX3_init_105 : decode cX3_init 105 = .ok (.aload_n 0, 1) := by decide +kernel
theorem dX3_init_106 : decode cX3_init 106 = .ok (.bipush 60, 2) := by decide +kernel
theorem dX3_init_108 : decode cX3_init 108 = .ok (.newarray .boolean, 2) := by decide +kernel
theorem dX3_init_110 : decode cX3_init 110 = .ok (.putfield 51, 3) := by decide +kernel
theorem dX3_init_113 : decode cX3_init 113 = .ok (.return_, 1) := by decide +kernel
theorem dX3_hasHouse_0 : decode cX3_hasHouse 0 = .ok (.iload_n 1, 1) := by decide +kernel
theorem dX3_hasHouse_1 : decode cX3_hasHouse 1 = .ok (.ifCond .lt 15, 3) := by decide +kernel
theorem dX3_hasHouse_4 : decode cX3_hasHouse 4 = .ok (.iload_n 1, 1) := by decide +kernel
theorem dX3_hasHouse_5 : decode cX3_hasHouse 5 = .ok (.aload_n 0, 1) := by decide +kernel
theorem dX3_hasHouse_6 : decode cX3_hasHouse 6 = .ok (.getfield 55, 3) := by decide +kernel
theorem dX3_hasHouse_9 : decode cX3_hasHouse 9 = .ok (.if_icmp .ge 7, 3) := by decide +kernel
theorem dX3_hasHouse_12 : decode cX3_hasHouse 12 = .ok (.iconst 1, 1) := by decide +kernel
theorem dX3_hasHouse_13 : decode cX3_hasHouse 13 = .ok (.goto 4, 3) := by decide +kernel
theorem dX3_hasHouse_16 : decode cX3_hasHouse 16 = .ok (.iconst 0, 1) := by decide +kernel
theorem dX3_hasHouse_17 : decode cX3_hasHouse 17 = .ok (.ireturn, 1) := by decide +kernel
theorem dX3_hasPerson_0 : decode cX3_hasPerson 0 = .ok (.iload_n 1, 1) := by decide +kernel
theorem dX3_hasPerson_1 : decode cX3_hasPerson 1 = .ok (.ifCond .lt 15, 3) := by decide +kernel
theorem dX3_hasPerson_4 : decode cX3_hasPerson 4 = .ok (.iload_n 1, 1) := by decide +kernel
theorem dX3_hasPerson_5 : decode cX3_hasPerson 5 = .ok (.aload_n 0, 1) := by decide +kernel
theorem dX3_hasPerson_6 : decode cX3_hasPerson 6 = .ok (.getfield 59, 3) := by decide +kernel
theorem dX3_hasPerson_9 : decode cX3_hasPerson 9 = .ok (.if_icmp .ge 7, 3) := by decide +kernel
theorem dX3_hasPerson_12 : decode cX3_hasPerson 12 = .ok (.iconst 1, 1) := by decide +kernel
theorem dX3_hasPerson_13 : decode cX3_hasPerson 13 = .ok (.goto 4, 3) := by decide +kernel
theorem dX3_hasPerson_16 : decode cX3_hasPerson 16 = .ok (.iconst 0, 1) := by decide +kernel
theorem dX3_hasPerson_17 : decode cX3_hasPerson 17 = .ok (.ireturn, 1) := by decide +kernel
theorem dX3_houseAt_0 : decode cX3_houseAt 0 = .ok (.aload_n 0, 1) := by decide +kernel
theorem dX3_houseAt_1 : decode cX3_houseAt 1 = .ok (.getfield 18, 3) := by decide +kernel
theorem dX3_houseAt_4 : decode cX3_houseAt 4 = .ok (.iload_n 1, 1) := by decide +kernel
theorem dX3_houseAt_5 : decode cX3_houseAt 5 = .ok (.iaload, 1) := by decide +kernel
theorem dX3_houseAt_6 : decode cX3_houseAt 6 = .ok (.ireturn, 1) := by decide +kernel
theorem dX3_cellOf_0 : decode cX3_cellOf 0 = .ok (.aload_n 0, 1) := by decide +kernel
theorem dX3_cellOf_1 : decode cX3_cellOf 1 = .ok (.getfield 9, 3) := by decide +kernel
theorem dX3_cellOf_4 : decode cX3_cellOf 4 = .ok (.iload_n 1, 1) := by decide +kernel
theorem dX3_cellOf_5 : decode cX3_cellOf 5 = .ok (.iaload, 1) := by decide +kernel
theorem dX3_cellOf_6 : decode cX3_cellOf 6 = .ok (.ireturn, 1) := by decide +kernel
theorem dX3_blockOf_0 : decode cX3_blockOf 0 = .ok (.aload_n 0, 1) := by decide +kernel
theorem dX3_blockOf_1 : decode cX3_blockOf 1 = .ok (.getfield 15, 3) := by decide +kernel
theorem dX3_blockOf_4 : decode cX3_blockOf 4 = .ok (.iload_n 1, 1) := by decide +kernel
theorem dX3_blockOf_5 : decode cX3_blockOf 5 = .ok (.iaload, 1) := by decide +kernel
theorem dX3_blockOf_6 : decode cX3_blockOf 6 = .ok (.ireturn, 1) := by decide +kernel
theorem dX3_addHouse_0 : decode cX3_addHouse 0 = .ok (.aload_n 0, 1) := by decide +kernel
theorem dX3_addHouse_1 : decode cX3_addHouse 1 = .ok (.getfield 9, 3) := by decide +kernel
theorem dX3_addHouse_4 : decode cX3_addHouse 4 = .ok (.aload_n 0, 1) := by decide +kernel
theorem dX3_addHouse_5 : decode cX3_addHouse 5 = .ok (.getfield 55, 3) := by decide +kernel
theorem dX3_addHouse_8 : decode cX3_addHouse 8 = .ok (.iload_n 1, 1) := by decide +kernel
theorem dX3_addHouse_9 : decode cX3_addHouse 9 = .ok (.iastore, 1) := by decide +kernel
theorem dX3_addHouse_10 : decode cX3_addHouse 10 = .ok (.aload_n 0, 1) := by decide +kernel
theorem dX3_addHouse_11 : decode cX3_addHouse 11 = .ok (.getfield 15, 3) := by decide +kernel
theorem dX3_addHouse_14 : decode cX3_addHouse 14 = .ok (.aload_n 0, 1) := by decide +kernel
theorem dX3_addHouse_15 : decode cX3_addHouse 15 = .ok (.getfield 55, 3) := by decide +kernel
theorem dX3_addHouse_18 : decode cX3_addHouse 18 = .ok (.iload_n 2, 1) := by decide +kernel
theorem dX3_addHouse_19 : decode cX3_addHouse 19 = .ok (.iastore, 1) := by decide +kernel
theorem dX3_addHouse_20 : decode cX3_addHouse 20 = .ok (.aload_n 0, 1) := by decide +kernel
theorem dX3_addHouse_21 : decode cX3_addHouse 21 = .ok (.getfield 18, 3) := by decide +kernel
theorem dX3_addHouse_24 : decode cX3_addHouse 24 = .ok (.iload_n 1, 1) := by decide +kernel
theorem dX3_addHouse_25 : decode cX3_addHouse 25 = .ok (.aload_n 0, 1) := by decide +kernel
theorem dX3_addHouse_26 : decode cX3_addHouse 26 = .ok (.getfield 55, 3) := by decide +kernel
theorem dX3_addHouse_29 : decode cX3_addHouse 29 = .ok (.iastore, 1) := by decide +kernel
theorem dX3_addHouse_30 : decode cX3_addHouse 30 = .ok (.aload_n 0, 1) := by decide +kernel
theorem dX3_addHouse_31 : decode cX3_addHouse 31 = .ok (.dup, 1) := by decide +kernel
theorem dX3_addHouse_32 : decode cX3_addHouse 32 = .ok (.getfield 55, 3) := by decide +kernel
theorem dX3_addHouse_35 : decode cX3_addHouse 35 = .ok (.dup_x1, 1) := by decide +kernel
theorem dX3_addHouse_36 : decode cX3_addHouse 36 = .ok (.iconst 1, 1) := by decide +kernel
theorem dX3_addHouse_37 : decode cX3_addHouse 37 = .ok (.iadd, 1) := by decide +kernel
theorem dX3_addHouse_38 : decode cX3_addHouse 38 = .ok (.putfield 55, 3) := by decide +kernel
theorem dX3_addHouse_41 : decode cX3_addHouse 41 = .ok (.ireturn, 1) := by decide +kernel
theorem dX3_addPerson_0 : decode cX3_addPerson 0 = .ok (.aload_n 0, 1) := by decide +kernel
theorem dX3_addPerson_1 : decode cX3_addPerson 1 = .ok (.getfield 27, 3) := by decide +kernel
theorem dX3_addPerson_4 : decode cX3_addPerson 4 = .ok (.aload_n 0, 1) := by decide +kernel
theorem dX3_addPerson_5 : decode cX3_addPerson 5 = .ok (.getfield 59, 3) := by decide +kernel
theorem dX3_addPerson_8 : decode cX3_addPerson 8 = .ok (.iload_n 1, 1) := by decide +kernel
theorem dX3_addPerson_9 : decode cX3_addPerson 9 = .ok (.iastore, 1) := by decide +kernel
theorem dX3_addPerson_10 : decode cX3_addPerson 10 = .ok (.aload_n 0, 1) := by decide +kernel
theorem dX3_addPerson_11 : decode cX3_addPerson 11 = .ok (.getfield 30, 3) := by decide +kernel
theorem dX3_addPerson_14 : decode cX3_addPerson 14 = .ok (.aload_n 0, 1) := by decide +kernel
theorem dX3_addPerson_15 : decode cX3_addPerson 15 = .ok (.getfield 59, 3) := by decide +kernel
theorem dX3_addPerson_18 : decode cX3_addPerson 18 = .ok (.iload_n 2, 1) := by decide +kernel
theorem dX3_addPerson_19 : decode cX3_addPerson 19 = .ok (.iastore, 1) := by decide +kernel
theorem dX3_addPerson_20 : decode cX3_addPerson 20 = .ok (.aload_n 0, 1) := by decide +kernel
theorem dX3_addPerson_21 : decode cX3_addPerson 21 = .ok (.getfield 33, 3) := by decide +kernel
theorem dX3_addPerson_24 : decode cX3_addPerson 24 = .ok (.aload_n 0, 1) := by decide +kernel
theorem dX3_addPerson_25 : decode cX3_addPerson 25 = .ok (.getfield 59, 3) := by decide +kernel
theorem dX3_addPerson_28 : decode cX3_addPerson 28 = .ok (.iload_n 3, 1) := by decide +kernel
theorem dX3_addPerson_29 : decode cX3_addPerson 29 = .ok (.iastore, 1) := by decide +kernel
theorem dX3_addPerson_30 : decode cX3_addPerson 30 = .ok (.aload_n 0, 1) := by decide +kernel
theorem dX3_addPerson_31 : decode cX3_addPerson 31 = .ok (.getfield 36, 3) := by decide +kernel
theorem dX3_addPerson_34 : decode cX3_addPerson 34 = .ok (.aload_n 0, 1) := by decide +kernel
theorem dX3_addPerson_35 : decode cX3_addPerson 35 = .ok (.getfield 59, 3) := by decide +kernel
theorem dX3_addPerson_38 : decode cX3_addPerson 38 = .ok (.iload 4, 2) := by decide +kernel
theorem dX3_addPerson_40 : decode cX3_addPerson 40 = .ok (.iastore, 1) := by decide +kernel
theorem dX3_addPerson_41 : decode cX3_addPerson 41 = .ok (.aload_n 0, 1) := by decide +kernel
theorem dX3_addPerson_42 : decode cX3_addPerson 42 = .ok (.getfield 39, 3) := by decide +kernel
theorem dX3_addPerson_45 : decode cX3_addPerson 45 = .ok (.aload_n 0, 1) := by decide +kernel
theorem dX3_addPerson_46 : decode cX3_addPerson 46 = .ok (.getfield 59, 3) := by decide +kernel
theorem dX3_addPerson_49 : decode cX3_addPerson 49 = .ok (.bipush (-9), 2) := by decide +kernel
theorem dX3_addPerson_51 : decode cX3_addPerson 51 = .ok (.iastore, 1) := by decide +kernel
theorem dX3_addPerson_52 : decode cX3_addPerson 52 = .ok (.aload_n 0, 1) := by decide +kernel
theorem dX3_addPerson_53 : decode cX3_addPerson 53 = .ok (.dup, 1) := by decide +kernel
theorem dX3_addPerson_54 : decode cX3_addPerson 54 = .ok (.getfield 59, 3) := by decide +kernel
theorem dX3_addPerson_57 : decode cX3_addPerson 57 = .ok (.dup_x1, 1) := by decide +kernel
theorem dX3_addPerson_58 : decode cX3_addPerson 58 = .ok (.iconst 1, 1) := by decide +kernel
theorem dX3_addPerson_59 : decode cX3_addPerson 59 = .ok (.iadd, 1) := by decide +kernel
theorem dX3_addPerson_60 : decode cX3_addPerson 60 = .ok (.putfield 59, 3) := by decide +kernel
theorem dX3_addPerson_63 : decode cX3_addPerson 63 = .ok (.ireturn, 1) := by decide +kernel
theorem dX3_tell_0 : decode cX3_tell 0 = .ok (.aload_n 0, 1) := by decide +kernel
theorem dX3_tell_1 : decode cX3_tell 1 = .ok (.getfield 42, 3) := by decide +kernel
theorem dX3_tell_4 : decode cX3_tell 4 = .ok (.aload_n 0, 1) := by decide +kernel
theorem dX3_tell_5 : decode cX3_tell 5 = .ok (.getfield 62, 3) := by decide +kernel
theorem dX3_tell_8 : decode cX3_tell 8 = .ok (.iload_n 3, 1) := by decide +kernel
theorem dX3_tell_9 : decode cX3_tell 9 = .ok (.iastore, 1) := by decide +kernel
theorem dX3_tell_10 : decode cX3_tell 10 = .ok (.aload_n 0, 1) := by decide +kernel
theorem dX3_tell_11 : decode cX3_tell 11 = .ok (.getfield 45, 3) := by decide +kernel
theorem dX3_tell_14 : decode cX3_tell 14 = .ok (.aload_n 0, 1) := by decide +kernel
theorem dX3_tell_15 : decode cX3_tell 15 = .ok (.getfield 62, 3) := by decide +kernel
theorem dX3_tell_18 : decode cX3_tell 18 = .ok (.iload_n 2, 1) := by decide +kernel
theorem dX3_tell_19 : decode cX3_tell 19 = .ok (.iastore, 1) := by decide +kernel
theorem dX3_tell_20 : decode cX3_tell 20 = .ok (.aload_n 0, 1) := by decide +kernel
theorem dX3_tell_21 : decode cX3_tell 21 = .ok (.getfield 48, 3) := by decide +kernel
theorem dX3_tell_24 : decode cX3_tell 24 = .ok (.aload_n 0, 1) := by decide +kernel
theorem dX3_tell_25 : decode cX3_tell 25 = .ok (.getfield 62, 3) := by decide +kernel
theorem dX3_tell_28 : decode cX3_tell 28 = .ok (.aload_n 0, 1) := by decide +kernel
theorem dX3_tell_29 : decode cX3_tell 29 = .ok (.getfield 39, 3) := by decide +kernel
theorem dX3_tell_32 : decode cX3_tell 32 = .ok (.iload_n 1, 1) := by decide +kernel
theorem dX3_tell_33 : decode cX3_tell 33 = .ok (.iaload, 1) := by decide +kernel
theorem dX3_tell_34 : decode cX3_tell 34 = .ok (.iastore, 1) := by decide +kernel
theorem dX3_tell_35 : decode cX3_tell 35 = .ok (.aload_n 0, 1) := by decide +kernel
theorem dX3_tell_36 : decode cX3_tell 36 = .ok (.getfield 39, 3) := by decide +kernel
theorem dX3_tell_39 : decode cX3_tell 39 = .ok (.iload_n 1, 1) := by decide +kernel
theorem dX3_tell_40 : decode cX3_tell 40 = .ok (.aload_n 0, 1) := by decide +kernel
theorem dX3_tell_41 : decode cX3_tell 41 = .ok (.getfield 62, 3) := by decide +kernel
theorem dX3_tell_44 : decode cX3_tell 44 = .ok (.iastore, 1) := by decide +kernel
theorem dX3_tell_45 : decode cX3_tell 45 = .ok (.aload_n 0, 1) := by decide +kernel
theorem dX3_tell_46 : decode cX3_tell 46 = .ok (.dup, 1) := by decide +kernel
theorem dX3_tell_47 : decode cX3_tell 47 = .ok (.getfield 62, 3) := by decide +kernel
theorem dX3_tell_50 : decode cX3_tell 50 = .ok (.iconst 1, 1) := by decide +kernel
theorem dX3_tell_51 : decode cX3_tell 51 = .ok (.iadd, 1) := by decide +kernel
theorem dX3_tell_52 : decode cX3_tell 52 = .ok (.putfield 62, 3) := by decide +kernel
theorem dX3_tell_55 : decode cX3_tell 55 = .ok (.aload_n 0, 1) := by decide +kernel
theorem dX3_tell_56 : decode cX3_tell 56 = .ok (.getfield 62, 3) := by decide +kernel
theorem dX3_tell_59 : decode cX3_tell 59 = .ok (.ireturn, 1) := by decide +kernel
theorem dX3_stateOn_0 : decode cX3_stateOn 0 = .ok (.iload_n 2, 1) := by decide +kernel
theorem dX3_stateOn_1 : decode cX3_stateOn 1 = .ok (.aload_n 0, 1) := by decide +kernel
theorem dX3_stateOn_2 : decode cX3_stateOn 2 = .ok (.getfield 36, 3) := by decide +kernel
theorem dX3_stateOn_5 : decode cX3_stateOn 5 = .ok (.iload_n 1, 1) := by decide +kernel
theorem dX3_stateOn_6 : decode cX3_stateOn 6 = .ok (.iaload, 1) := by decide +kernel
theorem dX3_stateOn_7 : decode cX3_stateOn 7 = .ok (.if_icmp .ge 6, 3) := by decide +kernel
theorem dX3_stateOn_10 : decode cX3_stateOn 10 = .ok (.bipush (-9), 2) := by decide +kernel
theorem dX3_stateOn_12 : decode cX3_stateOn 12 = .ok (.ireturn, 1) := by decide +kernel
theorem dX3_stateOn_13 : decode cX3_stateOn 13 = .ok (.aload_n 0, 1) := by decide +kernel
theorem dX3_stateOn_14 : decode cX3_stateOn 14 = .ok (.getfield 39, 3) := by decide +kernel
theorem dX3_stateOn_17 : decode cX3_stateOn 17 = .ok (.iload_n 1, 1) := by decide +kernel
theorem dX3_stateOn_18 : decode cX3_stateOn 18 = .ok (.iaload, 1) := by decide +kernel
theorem dX3_stateOn_19 : decode cX3_stateOn 19 = .ok (.istore_n 3, 1) := by decide +kernel
theorem dX3_stateOn_20 : decode cX3_stateOn 20 = .ok (.iconst 0, 1) := by decide +kernel
theorem dX3_stateOn_21 : decode cX3_stateOn 21 = .ok (.istore 4, 2) := by decide +kernel
theorem dX3_stateOn_23 : decode cX3_stateOn 23 = .ok (.iload 4, 2) := by decide +kernel
theorem dX3_stateOn_25 : decode cX3_stateOn 25 = .ok (.sipush 150, 3) := by decide +kernel
theorem dX3_stateOn_28 : decode cX3_stateOn 28 = .ok (.if_icmp .ge 37, 3) := by decide +kernel
theorem dX3_stateOn_31 : decode cX3_stateOn 31 = .ok (.iload_n 3, 1) := by decide +kernel
theorem dX3_stateOn_32 : decode cX3_stateOn 32 = .ok (.ifCond .lt 33, 3) := by decide +kernel
theorem dX3_stateOn_35 : decode cX3_stateOn 35 = .ok (.aload_n 0, 1) := by decide +kernel
theorem dX3_stateOn_36 : decode cX3_stateOn 36 = .ok (.getfield 42, 3) := by decide +kernel
theorem dX3_stateOn_39 : decode cX3_stateOn 39 = .ok (.iload_n 3, 1) := by decide +kernel
theorem dX3_stateOn_40 : decode cX3_stateOn 40 = .ok (.iaload, 1) := by decide +kernel
theorem dX3_stateOn_41 : decode cX3_stateOn 41 = .ok (.iload_n 2, 1) := by decide +kernel
theorem dX3_stateOn_42 : decode cX3_stateOn 42 = .ok (.if_icmp .gt 10, 3) := by decide +kernel
theorem dX3_stateOn_45 : decode cX3_stateOn 45 = .ok (.aload_n 0, 1) := by decide +kernel
theorem dX3_stateOn_46 : decode cX3_stateOn 46 = .ok (.getfield 45, 3) := by decide +kernel
theorem dX3_stateOn_49 : decode cX3_stateOn 49 = .ok (.iload_n 3, 1) := by decide +kernel
theorem dX3_stateOn_50 : decode cX3_stateOn 50 = .ok (.iaload, 1) := by decide +kernel
theorem dX3_stateOn_51 : decode cX3_stateOn 51 = .ok (.ireturn, 1) := by decide +kernel
theorem dX3_stateOn_52 : decode cX3_stateOn 52 = .ok (.aload_n 0, 1) := by decide +kernel
theorem dX3_stateOn_53 : decode cX3_stateOn 53 = .ok (.getfield 48, 3) := by decide +kernel
theorem dX3_stateOn_56 : decode cX3_stateOn 56 = .ok (.iload_n 3, 1) := by decide +kernel
theorem dX3_stateOn_57 : decode cX3_stateOn 57 = .ok (.iaload, 1) := by decide +kernel
theorem dX3_stateOn_58 : decode cX3_stateOn 58 = .ok (.istore_n 3, 1) := by decide +kernel
theorem dX3_stateOn_59 : decode cX3_stateOn 59 = .ok (.iinc 4 1, 3) := by decide +kernel
theorem dX3_stateOn_62 : decode cX3_stateOn 62 = .ok (.goto (-39), 3) := by decide +kernel
theorem dX3_stateOn_65 : decode cX3_stateOn 65 = .ok (.iconst 0, 1) := by decide +kernel
theorem dX3_stateOn_66 : decode cX3_stateOn 66 = .ok (.ireturn, 1) := by decide +kernel
theorem dX3_isHere_0 : decode cX3_isHere 0 = .ok (.aload_n 0, 1) := by decide +kernel
theorem dX3_isHere_1 : decode cX3_isHere 1 = .ok (.iload_n 1, 1) := by decide +kernel
theorem dX3_isHere_2 : decode cX3_isHere 2 = .ok (.iload_n 2, 1) := by decide +kernel
theorem dX3_isHere_3 : decode cX3_isHere 3 = .ok (.invokevirtual 65, 3) := by decide +kernel
theorem dX3_isHere_6 : decode cX3_isHere 6 = .ok (.istore_n 3, 1) := by decide +kernel
theorem dX3_isHere_7 : decode cX3_isHere 7 = .ok (.iload_n 3, 1) := by decide +kernel
theorem dX3_isHere_8 : decode cX3_isHere 8 = .ok (.ifCond .eq 8, 3) := by decide +kernel
theorem dX3_isHere_11 : decode cX3_isHere 11 = .ok (.iload_n 3, 1) := by decide +kernel
theorem dX3_isHere_12 : decode cX3_isHere 12 = .ok (.iconst 2, 1) := by decide +kernel
theorem dX3_isHere_13 : decode cX3_isHere 13 = .ok (.if_icmp .ne 7, 3) := by decide +kernel
theorem dX3_isHere_16 : decode cX3_isHere 16 = .ok (.iconst 1, 1) := by decide +kernel
theorem dX3_isHere_17 : decode cX3_isHere 17 = .ok (.goto 4, 3) := by decide +kernel
theorem dX3_isHere_20 : decode cX3_isHere 20 = .ok (.iconst 0, 1) := by decide +kernel
theorem dX3_isHere_21 : decode cX3_isHere 21 = .ok (.ireturn, 1) := by decide +kernel
theorem dX3_isOfHouse_0 : decode cX3_isOfHouse 0 = .ok (.aload_n 0, 1) := by decide +kernel
theorem dX3_isOfHouse_1 : decode cX3_isOfHouse 1 = .ok (.getfield 27, 3) := by decide +kernel
theorem dX3_isOfHouse_4 : decode cX3_isOfHouse 4 = .ok (.iload_n 1, 1) := by decide +kernel
theorem dX3_isOfHouse_5 : decode cX3_isOfHouse 5 = .ok (.iaload, 1) := by decide +kernel
theorem dX3_isOfHouse_6 : decode cX3_isOfHouse 6 = .ok (.iload_n 2, 1) := by decide +kernel
theorem dX3_isOfHouse_7 : decode cX3_isOfHouse 7 = .ok (.if_icmp .ne 7, 3) := by decide +kernel
theorem dX3_isOfHouse_10 : decode cX3_isOfHouse 10 = .ok (.iconst 1, 1) := by decide +kernel
theorem dX3_isOfHouse_11 : decode cX3_isOfHouse 11 = .ok (.goto 4, 3) := by decide +kernel
theorem dX3_isOfHouse_14 : decode cX3_isOfHouse 14 = .ok (.iconst 0, 1) := by decide +kernel
theorem dX3_isOfHouse_15 : decode cX3_isOfHouse 15 = .ok (.ireturn, 1) := by decide +kernel
theorem dX3_hereInHouse_0 : decode cX3_hereInHouse 0 = .ok (.iconst 0, 1) := by decide +kernel
theorem dX3_hereInHouse_1 : decode cX3_hereInHouse 1 = .ok (.istore_n 3, 1) := by decide +kernel
theorem dX3_hereInHouse_2 : decode cX3_hereInHouse 2 = .ok (.iconst 0, 1) := by decide +kernel
theorem dX3_hereInHouse_3 : decode cX3_hereInHouse 3 = .ok (.istore 4, 2) := by decide +kernel
theorem dX3_hereInHouse_5 : decode cX3_hereInHouse 5 = .ok (.iload 4, 2) := by decide +kernel
theorem dX3_hereInHouse_7 : decode cX3_hereInHouse 7 = .ok (.aload_n 0, 1) := by decide +kernel
theorem dX3_hereInHouse_8 : decode cX3_hereInHouse 8 = .ok (.getfield 59, 3) := by decide +kernel
theorem dX3_hereInHouse_11 : decode cX3_hereInHouse 11 = .ok (.if_icmp .ge 33, 3) := by decide +kernel
theorem dX3_hereInHouse_14 : decode cX3_hereInHouse 14 = .ok (.aload_n 0, 1) := by decide +kernel
theorem dX3_hereInHouse_15 : decode cX3_hereInHouse 15 = .ok (.getfield 27, 3) := by decide +kernel
theorem dX3_hereInHouse_18 : decode cX3_hereInHouse 18 = .ok (.iload 4, 2) := by decide +kernel
theorem dX3_hereInHouse_20 : decode cX3_hereInHouse 20 = .ok (.iaload, 1) := by decide +kernel
theorem dX3_hereInHouse_21 : decode cX3_hereInHouse 21 = .ok (.iload_n 1, 1) := by decide +kernel
theorem dX3_hereInHouse_22 : decode cX3_hereInHouse 22 = .ok (.if_icmp .ne 16, 3) := by decide +kernel
theorem dX3_hereInHouse_25 : decode cX3_hereInHouse 25 = .ok (.aload_n 0, 1) := by decide +kernel
theorem dX3_hereInHouse_26 : decode cX3_hereInHouse 26 = .ok (.iload 4, 2) := by decide +kernel
theorem dX3_hereInHouse_28 : decode cX3_hereInHouse 28 = .ok (.iload_n 2, 1) := by decide +kernel
theorem dX3_hereInHouse_29 : decode cX3_hereInHouse 29 = .ok (.invokevirtual 69, 3) := by decide +kernel
theorem dX3_hereInHouse_32 : decode cX3_hereInHouse 32 = .ok (.ifCond .eq 6, 3) := by decide +kernel
theorem dX3_hereInHouse_35 : decode cX3_hereInHouse 35 = .ok (.iinc 3 1, 3) := by decide +kernel
theorem dX3_hereInHouse_38 : decode cX3_hereInHouse 38 = .ok (.iinc 4 1, 3) := by decide +kernel
theorem dX3_hereInHouse_41 : decode cX3_hereInHouse 41 = .ok (.goto (-36), 3) := by decide +kernel
theorem dX3_hereInHouse_44 : decode cX3_hereInHouse 44 = .ok (.iload_n 3, 1) := by decide +kernel
theorem dX3_hereInHouse_45 : decode cX3_hereInHouse 45 = .ok (.ireturn, 1) := by decide +kernel
theorem dX3_hereInBlock_0 : decode cX3_hereInBlock 0 = .ok (.iconst 0, 1) := by decide +kernel
theorem dX3_hereInBlock_1 : decode cX3_hereInBlock 1 = .ok (.istore_n 3, 1) := by decide +kernel
theorem dX3_hereInBlock_2 : decode cX3_hereInBlock 2 = .ok (.iconst 0, 1) := by decide +kernel
theorem dX3_hereInBlock_3 : decode cX3_hereInBlock 3 = .ok (.istore 4, 2) := by decide +kernel
theorem dX3_hereInBlock_5 : decode cX3_hereInBlock 5 = .ok (.iload 4, 2) := by decide +kernel
theorem dX3_hereInBlock_7 : decode cX3_hereInBlock 7 = .ok (.aload_n 0, 1) := by decide +kernel
theorem dX3_hereInBlock_8 : decode cX3_hereInBlock 8 = .ok (.getfield 59, 3) := by decide +kernel
theorem dX3_hereInBlock_11 : decode cX3_hereInBlock 11 = .ok (.if_icmp .ge 38, 3) := by decide +kernel
theorem dX3_hereInBlock_14 : decode cX3_hereInBlock 14 = .ok (.aload_n 0, 1) := by decide +kernel
theorem dX3_hereInBlock_15 : decode cX3_hereInBlock 15 = .ok (.getfield 15, 3) := by decide +kernel
theorem dX3_hereInBlock_18 : decode cX3_hereInBlock 18 = .ok (.aload_n 0, 1) := by decide +kernel
theorem dX3_hereInBlock_19 : decode cX3_hereInBlock 19 = .ok (.getfield 27, 3) := by decide +kernel
theorem dX3_hereInBlock_22 : decode cX3_hereInBlock 22 = .ok (.iload 4, 2) := by decide +kernel
theorem dX3_hereInBlock_24 : decode cX3_hereInBlock 24 = .ok (.iaload, 1) := by decide +kernel
theorem dX3_hereInBlock_25 : decode cX3_hereInBlock 25 = .ok (.iaload, 1) := by decide +kernel
theorem dX3_hereInBlock_26 : decode cX3_hereInBlock 26 = .ok (.iload_n 1, 1) := by decide +kernel
theorem dX3_hereInBlock_27 : decode cX3_hereInBlock 27 = .ok (.if_icmp .ne 16, 3) := by decide +kernel
theorem dX3_hereInBlock_30 : decode cX3_hereInBlock 30 = .ok (.aload_n 0, 1) := by decide +kernel
theorem dX3_hereInBlock_31 : decode cX3_hereInBlock 31 = .ok (.iload 4, 2) := by decide +kernel
theorem dX3_hereInBlock_33 : decode cX3_hereInBlock 33 = .ok (.iload_n 2, 1) := by decide +kernel
theorem dX3_hereInBlock_34 : decode cX3_hereInBlock 34 = .ok (.invokevirtual 69, 3) := by decide +kernel
theorem dX3_hereInBlock_37 : decode cX3_hereInBlock 37 = .ok (.ifCond .eq 6, 3) := by decide +kernel
theorem dX3_hereInBlock_40 : decode cX3_hereInBlock 40 = .ok (.iinc 3 1, 3) := by decide +kernel
theorem dX3_hereInBlock_43 : decode cX3_hereInBlock 43 = .ok (.iinc 4 1, 3) := by decide +kernel
theorem dX3_hereInBlock_46 : decode cX3_hereInBlock 46 = .ok (.goto (-41), 3) := by decide +kernel
theorem dX3_hereInBlock_49 : decode cX3_hereInBlock 49 = .ok (.iload_n 3, 1) := by decide +kernel
theorem dX3_hereInBlock_50 : decode cX3_hereInBlock 50 = .ok (.ireturn, 1) := by decide +kernel
theorem dX3_hereInAll_0 : decode cX3_hereInAll 0 = .ok (.iconst 0, 1) := by decide +kernel
theorem dX3_hereInAll_1 : decode cX3_hereInAll 1 = .ok (.istore_n 2, 1) := by decide +kernel
theorem dX3_hereInAll_2 : decode cX3_hereInAll 2 = .ok (.iconst 0, 1) := by decide +kernel
theorem dX3_hereInAll_3 : decode cX3_hereInAll 3 = .ok (.istore_n 3, 1) := by decide +kernel
theorem dX3_hereInAll_4 : decode cX3_hereInAll 4 = .ok (.iload_n 3, 1) := by decide +kernel
theorem dX3_hereInAll_5 : decode cX3_hereInAll 5 = .ok (.aload_n 0, 1) := by decide +kernel
theorem dX3_hereInAll_6 : decode cX3_hereInAll 6 = .ok (.getfield 59, 3) := by decide +kernel
theorem dX3_hereInAll_9 : decode cX3_hereInAll 9 = .ok (.if_icmp .ge 21, 3) := by decide +kernel
theorem dX3_hereInAll_12 : decode cX3_hereInAll 12 = .ok (.aload_n 0, 1) := by decide +kernel
theorem dX3_hereInAll_13 : decode cX3_hereInAll 13 = .ok (.iload_n 3, 1) := by decide +kernel
theorem dX3_hereInAll_14 : decode cX3_hereInAll 14 = .ok (.iload_n 1, 1) := by decide +kernel
theorem dX3_hereInAll_15 : decode cX3_hereInAll 15 = .ok (.invokevirtual 69, 3) := by decide +kernel
theorem dX3_hereInAll_18 : decode cX3_hereInAll 18 = .ok (.ifCond .eq 6, 3) := by decide +kernel
theorem dX3_hereInAll_21 : decode cX3_hereInAll 21 = .ok (.iinc 2 1, 3) := by decide +kernel
theorem dX3_hereInAll_24 : decode cX3_hereInAll 24 = .ok (.iinc 3 1, 3) := by decide +kernel
theorem dX3_hereInAll_27 : decode cX3_hereInAll 27 = .ok (.goto (-23), 3) := by decide +kernel
theorem dX3_hereInAll_30 : decode cX3_hereInAll 30 = .ok (.iload_n 2, 1) := by decide +kernel
theorem dX3_hereInAll_31 : decode cX3_hereInAll 31 = .ok (.ireturn, 1) := by decide +kernel
theorem dX3_ageOn_0 : decode cX3_ageOn 0 = .ok (.iload_n 2, 1) := by decide +kernel
theorem dX3_ageOn_1 : decode cX3_ageOn 1 = .ok (.aload_n 0, 1) := by decide +kernel
theorem dX3_ageOn_2 : decode cX3_ageOn 2 = .ok (.getfield 30, 3) := by decide +kernel
theorem dX3_ageOn_5 : decode cX3_ageOn 5 = .ok (.iload_n 1, 1) := by decide +kernel
theorem dX3_ageOn_6 : decode cX3_ageOn 6 = .ok (.iaload, 1) := by decide +kernel
theorem dX3_ageOn_7 : decode cX3_ageOn 7 = .ok (.isub, 1) := by decide +kernel
theorem dX3_ageOn_8 : decode cX3_ageOn 8 = .ok (.ireturn, 1) := by decide +kernel
theorem dX3_pairUp_0 : decode cX3_pairUp 0 = .ok (.iconst 0, 1) := by decide +kernel
theorem dX3_pairUp_1 : decode cX3_pairUp 1 = .ok (.istore 4, 2) := by decide +kernel
theorem dX3_pairUp_3 : decode cX3_pairUp 3 = .ok (.iload 4, 2) := by decide +kernel
theorem dX3_pairUp_5 : decode cX3_pairUp 5 = .ok (.aload_n 0, 1) := by decide +kernel
theorem dX3_pairUp_6 : decode cX3_pairUp 6 = .ok (.getfield 59, 3) := by decide +kernel
theorem dX3_pairUp_9 : decode cX3_pairUp 9 = .ok (.if_icmp .ge 17, 3) := by decide +kernel
theorem dX3_pairUp_12 : decode cX3_pairUp 12 = .ok (.aload_n 0, 1) := by decide +kernel
theorem dX3_pairUp_13 : decode cX3_pairUp 13 = .ok (.getfield 51, 3) := by decide +kernel
theorem dX3_pairUp_16 : decode cX3_pairUp 16 = .ok (.iload 4, 2) := by decide +kernel
theorem dX3_pairUp_18 : decode cX3_pairUp 18 = .ok (.iconst 0, 1) := by decide +kernel
theorem dX3_pairUp_19 : decode cX3_pairUp 19 = .ok (.bastore, 1) := by decide +kernel
theorem dX3_pairUp_20 : decode cX3_pairUp 20 = .ok (.iinc 4 1, 3) := by decide +kernel
theorem dX3_pairUp_23 : decode cX3_pairUp 23 = .ok (.goto (-20), 3) := by decide +kernel
theorem dX3_pairUp_26 : decode cX3_pairUp 26 = .ok (.iconst 0, 1) := by decide +kernel
theorem dX3_pairUp_27 : decode cX3_pairUp 27 = .ok (.istore 4, 2) := by decide +kernel
theorem dX3_pairUp_29 : decode cX3_pairUp 29 = .ok (.iconst 0, 1) := by decide +kernel
theorem dX3_pairUp_30 : decode cX3_pairUp 30 = .ok (.istore 5, 2) := by decide +kernel
theorem dX3_pairUp_32 : decode cX3_pairUp 32 = .ok (.iload 5, 2) := by decide +kernel
theorem dX3_pairUp_34 : decode cX3_pairUp 34 = .ok (.aload_n 0, 1) := by decide +kernel
theorem dX3_pairUp_35 : decode cX3_pairUp 35 = .ok (.getfield 59, 3) := by decide +kernel
theorem dX3_pairUp_38 : decode cX3_pairUp 38 = .ok (.if_icmp .ge 44, 3) := by decide +kernel
theorem dX3_pairUp_41 : decode cX3_pairUp 41 = .ok (.aload_n 0, 1) := by decide +kernel
theorem dX3_pairUp_42 : decode cX3_pairUp 42 = .ok (.getfield 27, 3) := by decide +kernel
theorem dX3_pairUp_45 : decode cX3_pairUp 45 = .ok (.iload 5, 2) := by decide +kernel
theorem dX3_pairUp_47 : decode cX3_pairUp 47 = .ok (.iaload, 1) := by decide +kernel
theorem dX3_pairUp_48 : decode cX3_pairUp 48 = .ok (.iload_n 1, 1) := by decide +kernel
theorem dX3_pairUp_49 : decode cX3_pairUp 49 = .ok (.if_icmp .ne 27, 3) := by decide +kernel
theorem dX3_pairUp_52 : decode cX3_pairUp 52 = .ok (.aload_n 0, 1) := by decide +kernel
theorem dX3_pairUp_53 : decode cX3_pairUp 53 = .ok (.iload 5, 2) := by decide +kernel
theorem dX3_pairUp_55 : decode cX3_pairUp 55 = .ok (.iload_n 3, 1) := by decide +kernel
theorem dX3_pairUp_56 : decode cX3_pairUp 56 = .ok (.invokevirtual 69, 3) := by decide +kernel
theorem dX3_pairUp_59 : decode cX3_pairUp 59 = .ok (.ifCond .eq 17, 3) := by decide +kernel
theorem dX3_pairUp_62 : decode cX3_pairUp 62 = .ok (.aload_n 0, 1) := by decide +kernel
theorem dX3_pairUp_63 : decode cX3_pairUp 63 = .ok (.iload 5, 2) := by decide +kernel
theorem dX3_pairUp_65 : decode cX3_pairUp 65 = .ok (.iload_n 2, 1) := by decide +kernel
theorem dX3_pairUp_66 : decode cX3_pairUp 66 = .ok (.iload_n 3, 1) := by decide +kernel
theorem dX3_pairUp_67 : decode cX3_pairUp 67 = .ok (.invokevirtual 73, 3) := by decide +kernel
theorem dX3_pairUp_70 : decode cX3_pairUp 70 = .ok (.ifCond .eq 6, 3) := by decide +kernel
theorem dX3_pairUp_73 : decode cX3_pairUp 73 = .ok (.iinc 4 1, 3) := by decide +kernel
theorem dX3_pairUp_76 : decode cX3_pairUp 76 = .ok (.iinc 5 1, 3) := by decide +kernel
theorem dX3_pairUp_79 : decode cX3_pairUp 79 = .ok (.goto (-47), 3) := by decide +kernel
theorem dX3_pairUp_82 : decode cX3_pairUp 82 = .ok (.iload 4, 2) := by decide +kernel
theorem dX3_pairUp_84 : decode cX3_pairUp 84 = .ok (.ireturn, 1) := by decide +kernel
theorem dX3_takeMatch_0 : decode cX3_takeMatch 0 = .ok (.iconst 0, 1) := by decide +kernel
theorem dX3_takeMatch_1 : decode cX3_takeMatch 1 = .ok (.istore 4, 2) := by decide +kernel
theorem dX3_takeMatch_3 : decode cX3_takeMatch 3 = .ok (.iload 4, 2) := by decide +kernel
theorem dX3_takeMatch_5 : decode cX3_takeMatch 5 = .ok (.aload_n 0, 1) := by decide +kernel
theorem dX3_takeMatch_6 : decode cX3_takeMatch 6 = .ok (.getfield 59, 3) := by decide +kernel
theorem dX3_takeMatch_9 : decode cX3_takeMatch 9 = .ok (.if_icmp .ge 72, 3) := by decide +kernel
theorem dX3_takeMatch_12 : decode cX3_takeMatch 12 = .ok (.aload_n 0, 1) := by decide +kernel
theorem dX3_takeMatch_13 : decode cX3_takeMatch 13 = .ok (.getfield 27, 3) := by decide +kernel
theorem dX3_takeMatch_16 : decode cX3_takeMatch 16 = .ok (.iload 4, 2) := by decide +kernel
theorem dX3_takeMatch_18 : decode cX3_takeMatch 18 = .ok (.iaload, 1) := by decide +kernel
theorem dX3_takeMatch_19 : decode cX3_takeMatch 19 = .ok (.iload_n 2, 1) := by decide +kernel
theorem dX3_takeMatch_20 : decode cX3_takeMatch 20 = .ok (.if_icmp .ne 17, 3) := by decide +kernel
theorem dX3_takeMatch_23 : decode cX3_takeMatch 23 = .ok (.aload_n 0, 1) := by decide +kernel
theorem dX3_takeMatch_24 : decode cX3_takeMatch 24 = .ok (.getfield 51, 3) := by decide +kernel
theorem dX3_takeMatch_27 : decode cX3_takeMatch 27 = .ok (.iload 4, 2) := by decide +kernel
theorem dX3_takeMatch_29 : decode cX3_takeMatch 29 = .ok (.baload, 1) := by decide +kernel
theorem dX3_takeMatch_30 : decode cX3_takeMatch 30 = .ok (.ifCond .ne 7, 3) := by decide +kernel
theorem dX3_takeMatch_33 : decode cX3_takeMatch 33 = .ok (.iconst 1, 1) := by decide +kernel
theorem dX3_takeMatch_34 : decode cX3_takeMatch 34 = .ok (.goto 4, 3) := by decide +kernel
theorem dX3_takeMatch_37 : decode cX3_takeMatch 37 = .ok (.iconst 0, 1) := by decide +kernel
theorem dX3_takeMatch_38 : decode cX3_takeMatch 38 = .ok (.istore 5, 2) := by decide +kernel
theorem dX3_takeMatch_40 : decode cX3_takeMatch 40 = .ok (.iload 5, 2) := by decide +kernel
theorem dX3_takeMatch_42 : decode cX3_takeMatch 42 = .ok (.ifCond .eq 33, 3) := by decide +kernel
theorem dX3_takeMatch_45 : decode cX3_takeMatch 45 = .ok (.aload_n 0, 1) := by decide +kernel
theorem dX3_takeMatch_46 : decode cX3_takeMatch 46 = .ok (.iload_n 1, 1) := by decide +kernel
theorem dX3_takeMatch_47 : decode cX3_takeMatch 47 = .ok (.iload 4, 2) := by decide +kernel
theorem dX3_takeMatch_49 : decode cX3_takeMatch 49 = .ok (.invokevirtual 77, 3) := by decide +kernel
theorem dX3_takeMatch_52 : decode cX3_takeMatch 52 = .ok (.ifCond .eq 23, 3) := by decide +kernel
theorem dX3_takeMatch_55 : decode cX3_takeMatch 55 = .ok (.aload_n 0, 1) := by decide +kernel
theorem dX3_takeMatch_56 : decode cX3_takeMatch 56 = .ok (.iload 4, 2) := by decide +kernel
theorem dX3_takeMatch_58 : decode cX3_takeMatch 58 = .ok (.iload_n 3, 1) := by decide +kernel
theorem dX3_takeMatch_59 : decode cX3_takeMatch 59 = .ok (.invokevirtual 69, 3) := by decide +kernel
theorem dX3_takeMatch_62 : decode cX3_takeMatch 62 = .ok (.ifCond .eq 13, 3) := by decide +kernel
theorem dX3_takeMatch_65 : decode cX3_takeMatch 65 = .ok (.aload_n 0, 1) := by decide +kernel
theorem dX3_takeMatch_66 : decode cX3_takeMatch 66 = .ok (.getfield 51, 3) := by decide +kernel
theorem dX3_takeMatch_69 : decode cX3_takeMatch 69 = .ok (.iload 4, 2) := by decide +kernel
theorem dX3_takeMatch_71 : decode cX3_takeMatch 71 = .ok (.iconst 1, 1) := by decide +kernel
theorem dX3_takeMatch_72 : decode cX3_takeMatch 72 = .ok (.bastore, 1) := by decide +kernel
theorem dX3_takeMatch_73 : decode cX3_takeMatch 73 = .ok (.iconst 1, 1) := by decide +kernel
theorem dX3_takeMatch_74 : decode cX3_takeMatch 74 = .ok (.ireturn, 1) := by decide +kernel
theorem dX3_takeMatch_75 : decode cX3_takeMatch 75 = .ok (.iinc 4 1, 3) := by decide +kernel
theorem dX3_takeMatch_78 : decode cX3_takeMatch 78 = .ok (.goto (-75), 3) := by decide +kernel
theorem dX3_takeMatch_81 : decode cX3_takeMatch 81 = .ok (.iconst 0, 1) := by decide +kernel
theorem dX3_takeMatch_82 : decode cX3_takeMatch 82 = .ok (.ireturn, 1) := by decide +kernel
theorem dX3_matches_0 : decode cX3_matches 0 = .ok (.aload_n 0, 1) := by decide +kernel
theorem dX3_matches_1 : decode cX3_matches 1 = .ok (.getfield 33, 3) := by decide +kernel
theorem dX3_matches_4 : decode cX3_matches 4 = .ok (.iload_n 1, 1) := by decide +kernel
theorem dX3_matches_5 : decode cX3_matches 5 = .ok (.iaload, 1) := by decide +kernel
theorem dX3_matches_6 : decode cX3_matches 6 = .ok (.aload_n 0, 1) := by decide +kernel
theorem dX3_matches_7 : decode cX3_matches 7 = .ok (.getfield 33, 3) := by decide +kernel
theorem dX3_matches_10 : decode cX3_matches 10 = .ok (.iload_n 2, 1) := by decide +kernel
theorem dX3_matches_11 : decode cX3_matches 11 = .ok (.iaload, 1) := by decide +kernel
theorem dX3_matches_12 : decode cX3_matches 12 = .ok (.if_icmp .ne 27, 3) := by decide +kernel
theorem dX3_matches_15 : decode cX3_matches 15 = .ok (.aload_n 0, 1) := by decide +kernel
theorem dX3_matches_16 : decode cX3_matches 16 = .ok (.getfield 30, 3) := by decide +kernel
theorem dX3_matches_19 : decode cX3_matches 19 = .ok (.iload_n 1, 1) := by decide +kernel
theorem dX3_matches_20 : decode cX3_matches 20 = .ok (.iaload, 1) := by decide +kernel
theorem dX3_matches_21 : decode cX3_matches 21 = .ok (.aload_n 0, 1) := by decide +kernel
theorem dX3_matches_22 : decode cX3_matches 22 = .ok (.getfield 30, 3) := by decide +kernel
theorem dX3_matches_25 : decode cX3_matches 25 = .ok (.iload_n 2, 1) := by decide +kernel
theorem dX3_matches_26 : decode cX3_matches 26 = .ok (.iaload, 1) := by decide +kernel
theorem dX3_matches_27 : decode cX3_matches 27 = .ok (.isub, 1) := by decide +kernel
theorem dX3_matches_28 : decode cX3_matches 28 = .ok (.invokestatic 80, 3) := by decide +kernel
theorem dX3_matches_31 : decode cX3_matches 31 = .ok (.iconst 3, 1) := by decide +kernel
theorem dX3_matches_32 : decode cX3_matches 32 = .ok (.if_icmp .gt 7, 3) := by decide +kernel
theorem dX3_matches_35 : decode cX3_matches 35 = .ok (.iconst 1, 1) := by decide +kernel
theorem dX3_matches_36 : decode cX3_matches 36 = .ok (.goto 4, 3) := by decide +kernel
theorem dX3_matches_39 : decode cX3_matches 39 = .ok (.iconst 0, 1) := by decide +kernel
theorem dX3_matches_40 : decode cX3_matches 40 = .ok (.ireturn, 1) := by decide +kernel
theorem dX3_likeness_0 : decode cX3_likeness 0 = .ok (.iload_n 1, 1) := by decide +kernel
theorem dX3_likeness_1 : decode cX3_likeness 1 = .ok (.iload_n 2, 1) := by decide +kernel
theorem dX3_likeness_2 : decode cX3_likeness 2 = .ok (.if_icmp .ne 5, 3) := by decide +kernel
theorem dX3_likeness_5 : decode cX3_likeness 5 = .ok (.iconst 2, 1) := by decide +kernel
theorem dX3_likeness_6 : decode cX3_likeness 6 = .ok (.ireturn, 1) := by decide +kernel
theorem dX3_likeness_7 : decode cX3_likeness 7 = .ok (.aload_n 0, 1) := by decide +kernel
theorem dX3_likeness_8 : decode cX3_likeness 8 = .ok (.iload_n 1, 1) := by decide +kernel
theorem dX3_likeness_9 : decode cX3_likeness 9 = .ok (.iload_n 2, 1) := by decide +kernel
theorem dX3_likeness_10 : decode cX3_likeness 10 = .ok (.iload_n 3, 1) := by decide +kernel
theorem dX3_likeness_11 : decode cX3_likeness 11 = .ok (.invokevirtual 86, 3) := by decide +kernel
theorem dX3_likeness_14 : decode cX3_likeness 14 = .ok (.istore 4, 2) := by decide +kernel
theorem dX3_likeness_16 : decode cX3_likeness 16 = .ok (.aload_n 0, 1) := by decide +kernel
theorem dX3_likeness_17 : decode cX3_likeness 17 = .ok (.iload_n 1, 1) := by decide +kernel
theorem dX3_likeness_18 : decode cX3_likeness 18 = .ok (.iload_n 3, 1) := by decide +kernel
theorem dX3_likeness_19 : decode cX3_likeness 19 = .ok (.invokevirtual 90, 3) := by decide +kernel
theorem dX3_likeness_22 : decode cX3_likeness 22 = .ok (.aload_n 0, 1) := by decide +kernel
theorem dX3_likeness_23 : decode cX3_likeness 23 = .ok (.iload_n 2, 1) := by decide +kernel
theorem dX3_likeness_24 : decode cX3_likeness 24 = .ok (.iload_n 3, 1) := by decide +kernel
theorem dX3_likeness_25 : decode cX3_likeness 25 = .ok (.invokevirtual 90, 3) := by decide +kernel
theorem dX3_likeness_28 : decode cX3_likeness 28 = .ok (.invokestatic 93, 3) := by decide +kernel
theorem dX3_likeness_31 : decode cX3_likeness 31 = .ok (.istore 5, 2) := by decide +kernel
theorem dX3_likeness_33 : decode cX3_likeness 33 = .ok (.aload_n 0, 1) := by decide +kernel
theorem dX3_likeness_34 : decode cX3_likeness 34 = .ok (.getfield 9, 3) := by decide +kernel
theorem dX3_likeness_37 : decode cX3_likeness 37 = .ok (.iload_n 1, 1) := by decide +kernel
theorem dX3_likeness_38 : decode cX3_likeness 38 = .ok (.iaload, 1) := by decide +kernel
theorem dX3_likeness_39 : decode cX3_likeness 39 = .ok (.aload_n 0, 1) := by decide +kernel
theorem dX3_likeness_40 : decode cX3_likeness 40 = .ok (.getfield 9, 3) := by decide +kernel
theorem dX3_likeness_43 : decode cX3_likeness 43 = .ok (.iload_n 2, 1) := by decide +kernel
theorem dX3_likeness_44 : decode cX3_likeness 44 = .ok (.iaload, 1) := by decide +kernel
theorem dX3_likeness_45 : decode cX3_likeness 45 = .ok (.invokestatic 96, 3) := by decide +kernel
theorem dX3_likeness_48 : decode cX3_likeness 48 = .ok (.iconst 3, 1) := by decide +kernel
theorem dX3_likeness_49 : decode cX3_likeness 49 = .ok (.if_icmp .gt 7, 3) := by decide +kernel
theorem dX3_likeness_52 : decode cX3_likeness 52 = .ok (.iconst 1, 1) := by decide +kernel
theorem dX3_likeness_53 : decode cX3_likeness 53 = .ok (.goto 4, 3) := by decide +kernel
theorem dX3_likeness_56 : decode cX3_likeness 56 = .ok (.iconst 0, 1) := by decide +kernel
theorem dX3_likeness_57 : decode cX3_likeness 57 = .ok (.istore 6, 2) := by decide +kernel
theorem dX3_likeness_59 : decode cX3_likeness 59 = .ok (.iload 4, 2) := by decide +kernel
theorem dX3_likeness_61 : decode cX3_likeness 61 = .ok (.iconst 2, 1) := by decide +kernel
theorem dX3_likeness_62 : decode cX3_likeness 62 = .ok (.if_icmp .lt 17, 3) := by decide +kernel
theorem dX3_likeness_65 : decode cX3_likeness 65 = .ok (.iload 4, 2) := by decide +kernel
theorem dX3_likeness_67 : decode cX3_likeness 67 = .ok (.iload 5, 2) := by decide +kernel
theorem dX3_likeness_69 : decode cX3_likeness 69 = .ok (.if_icmp .ne 10, 3) := by decide +kernel
theorem dX3_likeness_72 : decode cX3_likeness 72 = .ok (.iload 6, 2) := by decide +kernel
theorem dX3_likeness_74 : decode cX3_likeness 74 = .ok (.ifCond .eq 5, 3) := by decide +kernel
theorem dX3_likeness_77 : decode cX3_likeness 77 = .ok (.iconst 2, 1) := by decide +kernel
theorem dX3_likeness_78 : decode cX3_likeness 78 = .ok (.ireturn, 1) := by decide +kernel
theorem dX3_likeness_79 : decode cX3_likeness 79 = .ok (.iload 4, 2) := by decide +kernel
theorem dX3_likeness_81 : decode cX3_likeness 81 = .ok (.ifCond .le 7, 3) := by decide +kernel
theorem dX3_likeness_84 : decode cX3_likeness 84 = .ok (.iconst 1, 1) := by decide +kernel
theorem dX3_likeness_85 : decode cX3_likeness 85 = .ok (.goto 4, 3) := by decide +kernel
theorem dX3_likeness_88 : decode cX3_likeness 88 = .ok (.iconst 0, 1) := by decide +kernel
theorem dX3_likeness_89 : decode cX3_likeness 89 = .ok (.ireturn, 1) := by decide +kernel
theorem dX4_init_0 : decode cX4_init 0 = .ok (.aload_n 0, 1) := by decide +kernel
theorem dX4_init_1 : decode cX4_init 1 = .ok (.invokespecial 3, 3) := by decide +kernel
theorem dX4_init_4 : decode cX4_init 4 = .ok (.aload_n 0, 1) := by decide +kernel
theorem dX4_init_5 : decode cX4_init 5 = .ok (.sipush 144, 3) := by decide +kernel
theorem dX4_init_8 : decode cX4_init 8 = .ok (.newarray .int, 2) := by decide +kernel
theorem dX4_init_10 : decode cX4_init 10 = .ok (.putfield 9, 3) := by decide +kernel
theorem dX4_init_13 : decode cX4_init 13 = .ok (.aload_n 0, 1) := by decide +kernel
theorem dX4_init_14 : decode cX4_init 14 = .ok (.getfield 9, 3) := by decide +kernel
theorem dX4_init_17 : decode cX4_init 17 = .ok (.bipush 50, 2) := by decide +kernel
theorem dX4_init_19 : decode cX4_init 19 = .ok (.invokestatic 15, 3) := by decide +kernel
theorem dX4_init_22 : decode cX4_init 22 = .ok (.aload_n 0, 1) := by decide +kernel
theorem dX4_init_23 : decode cX4_init 23 = .ok (.sipush 144, 3) := by decide +kernel
theorem dX4_init_26 : decode cX4_init 26 = .ok (.newarray .int, 2) := by decide +kernel
theorem dX4_init_28 : decode cX4_init 28 = .ok (.putfield 21, 3) := by decide +kernel
theorem dX4_init_31 : decode cX4_init 31 = .ok (.aload_n 0, 1) := by decide +kernel
theorem dX4_init_32 : decode cX4_init 32 = .ok (.sipush 144, 3) := by decide +kernel
theorem dX4_init_35 : decode cX4_init 35 = .ok (.newarray .int, 2) := by decide +kernel
theorem dX4_init_37 : decode cX4_init 37 = .ok (.putfield 24, 3) := by decide +kernel
theorem dX4_init_40 : decode cX4_init 40 = .ok (.aload_n 0, 1) := by decide +kernel
theorem dX4_init_41 : decode cX4_init 41 = .ok (.getfield 24, 3) := by decide +kernel
theorem dX4_init_44 : decode cX4_init 44 = .ok (.bipush (-9), 2) := by decide +kernel
theorem dX4_init_46 : decode cX4_init 46 = .ok (.invokestatic 15, 3) := by decide +kernel
theorem dX4_init_49 : decode cX4_init 49 = .ok (.aload_n 0, 1) := by decide +kernel
theorem dX4_init_50 : decode cX4_init 50 = .ok (.sipush 144, 3) := by decide +kernel
theorem dX4_init_53 : decode cX4_init 53 = .ok (.newarray .int, 2) := by decide +kernel
theorem dX4_init_55 : decode cX4_init 55 = .ok (.putfield 27, 3) := by decide +kernel
theorem dX4_init_58 : decode cX4_init 58 = .ok (.aload_n 0, 1) := by decide +kernel
theorem dX4_init_59 : decode cX4_init 59 = .ok (.sipush 144, 3) := by decide +kernel
theorem dX4_init_62 : decode cX4_init 62 = .ok (.newarray .int, 2) := by decide +kernel
theorem dX4_init_64 : decode cX4_init 64 = .ok (.putfield 30, 3) := by decide +kernel
theorem dX4_init_67 : decode cX4_init 67 = .ok (.aload_n 0, 1) := by decide +kernel
theorem dX4_init_68 : decode cX4_init 68 = .ok (.bipush 100, 2) := by decide +kernel
theorem dX4_init_70 : decode cX4_init 70 = .ok (.newarray .int, 2) := by decide +kernel
theorem dX4_init_72 : decode cX4_init 72 = .ok (.putfield 33, 3) := by decide +kernel
theorem dX4_init_75 : decode cX4_init 75 = .ok (.aload_n 0, 1) := by decide +kernel
theorem dX4_init_76 : decode cX4_init 76 = .ok (.sipush 144, 3) := by decide +kernel
theorem dX4_init_79 : decode cX4_init 79 = .ok (.newarray .int, 2) := by decide +kernel
theorem dX4_init_81 : decode cX4_init 81 = .ok (.putfield 36, 3) := by decide +kernel
theorem dX4_init_84 : decode cX4_init 84 = .ok (.aload_n 0, 1) := by decide +kernel
theorem dX4_init_85 : decode cX4_init 85 = .ok (.sipush 144, 3) := by decide +kernel
theorem dX4_init_88 : decode cX4_init 88 = .ok (.newarray .boolean, 2) := by decide +kernel
theorem dX4_init_90 : decode cX4_init 90 = .ok (.putfield 39, 3) := by decide +kernel
theorem dX4_init_93 : decode cX4_init 93 = .ok (.return_, 1) := by decide +kernel
theorem dX4_apart_0 : decode cX4_apart 0 = .ok (.iload_n 0, 1) := by decide +kernel
theorem dX4_apart_1 : decode cX4_apart 1 = .ok (.bipush 12, 2) := by decide +kernel
theorem dX4_apart_3 : decode cX4_apart 3 = .ok (.irem, 1) := by decide +kernel
theorem dX4_apart_4 : decode cX4_apart 4 = .ok (.iload_n 1, 1) := by decide +kernel
theorem dX4_apart_5 : decode cX4_apart 5 = .ok (.bipush 12, 2) := by decide +kernel
theorem dX4_apart_7 : decode cX4_apart 7 = .ok (.irem, 1) := by decide +kernel
theorem dX4_apart_8 : decode cX4_apart 8 = .ok (.isub, 1) := by decide +kernel
theorem dX4_apart_9 : decode cX4_apart 9 = .ok (.invokestatic 43, 3) := by decide +kernel
theorem dX4_apart_12 : decode cX4_apart 12 = .ok (.iload_n 0, 1) := by decide +kernel
theorem dX4_apart_13 : decode cX4_apart 13 = .ok (.bipush 12, 2) := by decide +kernel
theorem dX4_apart_15 : decode cX4_apart 15 = .ok (.idiv, 1) := by decide +kernel
theorem dX4_apart_16 : decode cX4_apart 16 = .ok (.iload_n 1, 1) := by decide +kernel
theorem dX4_apart_17 : decode cX4_apart 17 = .ok (.bipush 12, 2) := by decide +kernel
theorem dX4_apart_19 : decode cX4_apart 19 = .ok (.idiv, 1) := by decide +kernel
theorem dX4_apart_20 : decode cX4_apart 20 = .ok (.isub, 1) := by decide +kernel
theorem dX4_apart_21 : decode cX4_apart 21 = .ok (.invokestatic 43, 3) := by decide +kernel
theorem dX4_apart_24 : decode cX4_apart 24 = .ok (.iadd, 1) := by decide +kernel
theorem dX4_apart_25 : decode cX4_apart 25 = .ok (.ireturn, 1) := by decide +kernel
theorem dX4_beside_0 : decode cX4_beside 0 = .ok (.iload_n 0, 1) := by decide +kernel
theorem dX4_beside_1 : decode cX4_beside 1 = .ok (.bipush 12, 2) := by decide +kernel
theorem dX4_beside_3 : decode cX4_beside 3 = .ok (.irem, 1) := by decide +kernel
theorem dX4_beside_4 : decode cX4_beside 4 = .ok (.istore_n 2, 1) := by decide +kernel
theorem dX4_beside_5 : decode cX4_beside 5 = .ok (.iload_n 0, 1) := by decide +kernel
theorem dX4_beside_6 : decode cX4_beside 6 = .ok (.bipush 12, 2) := by decide +kernel
theorem dX4_beside_8 : decode cX4_beside 8 = .ok (.idiv, 1) := by decide +kernel
theorem dX4_beside_9 : decode cX4_beside 9 = .ok (.istore_n 3, 1) := by decide +kernel
theorem dX4_beside_10 : decode cX4_beside 10 = .ok (.iload_n 1, 1) := by decide +kernel
theorem dX4_beside_11 : decode cX4_beside 11 = .ok (.tableswitch 69 0 2 #[25, 40, 56], 25) := by decide +kernel
theorem dX4_beside_36 : decode cX4_beside 36 = .ok (.iload_n 2, 1) := by decide +kernel
theorem dX4_beside_37 : decode cX4_beside 37 = .ok (.bipush 11, 2) := by decide +kernel
theorem dX4_beside_39 : decode cX4_beside 39 = .ok (.if_icmp .ge 9, 3) := by decide +kernel
theorem dX4_beside_42 : decode cX4_beside 42 = .ok (.iload_n 0, 1) := by decide +kernel
theorem dX4_beside_43 : decode cX4_beside 43 = .ok (.iconst 1, 1) := by decide +kernel
theorem dX4_beside_44 : decode cX4_beside 44 = .ok (.iadd, 1) := by decide +kernel
theorem dX4_beside_45 : decode cX4_beside 45 = .ok (.goto 5, 3) := by decide +kernel
theorem dX4_beside_48 : decode cX4_beside 48 = .ok (.bipush (-9), 2) := by decide +kernel
theorem dX4_beside_50 : decode cX4_beside 50 = .ok (.ireturn, 1) := by decide +kernel
theorem dX4_beside_51 : decode cX4_beside 51 = .ok (.iload_n 3, 1) := by decide +kernel
theorem dX4_beside_52 : decode cX4_beside 52 = .ok (.bipush 11, 2) := by decide +kernel
theorem dX4_beside_54 : decode cX4_beside 54 = .ok (.if_icmp .ge 10, 3) := by decide +kernel
theorem dX4_beside_57 : decode cX4_beside 57 = .ok (.iload_n 0, 1) := by decide +kernel
theorem dX4_beside_58 : decode cX4_beside 58 = .ok (.bipush 12, 2) := by decide +kernel
theorem dX4_beside_60 : decode cX4_beside 60 = .ok (.iadd, 1) := by decide +kernel
theorem dX4_beside_61 : decode cX4_beside 61 = .ok (.goto 5, 3) := by decide +kernel
theorem dX4_beside_64 : decode cX4_beside 64 = .ok (.bipush (-9), 2) := by decide +kernel
theorem dX4_beside_66 : decode cX4_beside 66 = .ok (.ireturn, 1) := by decide +kernel
theorem dX4_beside_67 : decode cX4_beside 67 = .ok (.iload_n 2, 1) := by decide +kernel
theorem dX4_beside_68 : decode cX4_beside 68 = .ok (.ifCond .le 9, 3) := by decide +kernel
theorem dX4_beside_71 : decode cX4_beside 71 = .ok (.iload_n 0, 1) := by decide +kernel
theorem dX4_beside_72 : decode cX4_beside 72 = .ok (.iconst 1, 1) := by decide +kernel
theorem dX4_beside_73 : decode cX4_beside 73 = .ok (.isub, 1) := by decide +kernel
theorem dX4_beside_74 : decode cX4_beside 74 = .ok (.goto 5, 3) := by decide +kernel
theorem dX4_beside_77 : decode cX4_beside 77 = .ok (.bipush (-9), 2) := by decide +kernel
theorem dX4_beside_79 : decode cX4_beside 79 = .ok (.ireturn, 1) := by decide +kernel
theorem dX4_beside_80 : decode cX4_beside 80 = .ok (.iload_n 3, 1) := by decide +kernel
theorem dX4_beside_81 : decode cX4_beside 81 = .ok (.ifCond .le 10, 3) := by decide +kernel
theorem dX4_beside_84 : decode cX4_beside 84 = .ok (.iload_n 0, 1) := by decide +kernel
theorem dX4_beside_85 : decode cX4_beside 85 = .ok (.bipush 12, 2) := by decide +kernel
theorem dX4_beside_87 : decode cX4_beside 87 = .ok (.isub, 1) := by decide +kernel
theorem dX4_beside_88 : decode cX4_beside 88 = .ok (.goto 5, 3) := by decide +kernel
theorem dX4_beside_91 : decode cX4_beside 91 = .ok (.bipush (-9), 2) := by decide +kernel
theorem dX4_beside_93 : decode cX4_beside 93 = .ok (.ireturn, 1) := by decide +kernel
theorem dX4_raise_0 : decode cX4_raise 0 = .ok (.aload_n 0, 1) := by decide +kernel
theorem dX4_raise_1 : decode cX4_raise 1 = .ok (.getfield 9, 3) := by decide +kernel
theorem dX4_raise_4 : decode cX4_raise 4 = .ok (.iload_n 1, 1) := by decide +kernel
theorem dX4_raise_5 : decode cX4_raise 5 = .ok (.iaload, 1) := by decide +kernel
theorem dX4_raise_6 : decode cX4_raise 6 = .ok (.istore_n 3, 1) := by decide +kernel
theorem dX4_raise_7 : decode cX4_raise 7 = .ok (.aload_n 0, 1) := by decide +kernel
theorem dX4_raise_8 : decode cX4_raise 8 = .ok (.getfield 9, 3) := by decide +kernel
theorem dX4_raise_11 : decode cX4_raise 11 = .ok (.iload_n 1, 1) := by decide +kernel
theorem dX4_raise_12 : decode cX4_raise 12 = .ok (.iload_n 2, 1) := by decide +kernel
theorem dX4_raise_13 : decode cX4_raise 13 = .ok (.iastore, 1) := by decide +kernel
theorem dX4_raise_14 : decode cX4_raise 14 = .ok (.aload_n 0, 1) := by decide +kernel
theorem dX4_raise_15 : decode cX4_raise 15 = .ok (.iconst 0, 1) := by decide +kernel
theorem dX4_raise_16 : decode cX4_raise 16 = .ok (.putfield 49, 3) := by decide +kernel
theorem dX4_raise_19 : decode cX4_raise 19 = .ok (.iload_n 3, 1) := by decide +kernel
theorem dX4_raise_20 : decode cX4_raise 20 = .ok (.ireturn, 1) := by decide +kernel
theorem dX4_lowestBeside_0 : decode cX4_lowestBeside 0 = .ok (.bipush (-9), 2) := by decide +kernel
theorem dX4_lowestBeside_2 : decode cX4_lowestBeside 2 = .ok (.istore_n 2, 1) := by decide +kernel
theorem dX4_lowestBeside_3 : decode cX4_lowestBeside 3 = .ok (.aload_n 0, 1) := by decide +kernel
theorem dX4_lowestBeside_4 : decode cX4_lowestBeside 4 = .ok (.getfield 9, 3) := by decide +kernel
theorem dX4_lowestBeside_7 : decode cX4_lowestBeside 7 = .ok (.iload_n 1, 1) := by decide +kernel
theorem dX4_lowestBeside_8 : decode cX4_lowestBeside 8 = .ok (.iaload, 1) := by decide +kernel
theorem dX4_lowestBeside_9 : decode cX4_lowestBeside 9 = .ok (.istore_n 3, 1) := by decide +kernel
theorem dX4_lowestBeside_10 : decode cX4_lowestBeside 10 = .ok (.getstatic 53, 3) := by decide +kernel
theorem dX4_lowestBeside_13 : decode cX4_lowestBeside 13 = .ok (.astore 4, 2) := by decide +kernel
theorem dX4_lowestBeside_15 : decode cX4_lowestBeside 15 = .ok (.aload 4, 2) := by decide +kernel
theorem dX4_lowestBeside_17 : decode cX4_lowestBeside 17 = .ok (.arraylength, 1) := by decide +kernel
theorem dX4_lowestBeside_18 : decode cX4_lowestBeside 18 = .ok (.istore 5, 2) := by decide +kernel
theorem dX4_lowestBeside_20 : decode cX4_lowestBeside 20 = .ok (.iconst 0, 1) := by decide +kernel
theorem dX4_lowestBeside_21 : decode cX4_lowestBeside 21 = .ok (.istore 6, 2) := by decide +kernel
theorem dX4_lowestBeside_23 : decode cX4_lowestBeside 23 = .ok (.iload 6, 2) := by decide +kernel
theorem dX4_lowestBeside_25 : decode cX4_lowestBeside 25 = .ok (.iload 5, 2) := by decide +kernel
theorem dX4_lowestBeside_27 : decode cX4_lowestBeside 27 = .ok (.if_icmp .ge 53, 3) := by decide +kernel
theorem dX4_lowestBeside_30 : decode cX4_lowestBeside 30 = .ok (.aload 4, 2) := by decide +kernel
theorem dX4_lowestBeside_32 : decode cX4_lowestBeside 32 = .ok (.iload 6, 2) := by decide +kernel
theorem dX4_lowestBeside_34 : decode cX4_lowestBeside 34 = .ok (.iaload, 1) := by decide +kernel
theorem dX4_lowestBeside_35 : decode cX4_lowestBeside 35 = .ok (.istore 7, 2) := by decide +kernel
theorem dX4_lowestBeside_37 : decode cX4_lowestBeside 37 = .ok (.iload_n 1, 1) := by decide +kernel
theorem dX4_lowestBeside_38 : decode cX4_lowestBeside 38 = .ok (.iload 7, 2) := by decide +kernel
theorem dX4_lowestBeside_40 : decode cX4_lowestBeside 40 = .ok (.invokestatic 56, 3) := by decide +kernel
theorem dX4_lowestBeside_43 : decode cX4_lowestBeside 43 = .ok (.istore 8, 2) := by decide +kernel
theorem dX4_lowestBeside_45 : decode cX4_lowestBeside 45 = .ok (.iload 8, 2) := by decide +kernel
theorem dX4_lowestBeside_47 : decode cX4_lowestBeside 47 = .ok (.bipush (-9), 2) := by decide +kernel
theorem dX4_lowestBeside_49 : decode cX4_lowestBeside 49 = .ok (.if_icmp .eq 25, 3) := by decide +kernel
theorem dX4_lowestBeside_52 : decode cX4_lowestBeside 52 = .ok (.aload_n 0, 1) := by decide +kernel
theorem dX4_lowestBeside_53 : decode cX4_lowestBeside 53 = .ok (.getfield 9, 3) := by decide +kernel
theorem dX4_lowestBeside_56 : decode cX4_lowestBeside 56 = .ok (.iload 8, 2) := by decide +kernel
theorem dX4_lowestBeside_58 : decode cX4_lowestBeside 58 = .ok (.iaload, 1) := by decide +kernel
theorem dX4_lowestBeside_59 : decode cX4_lowestBeside 59 = .ok (.iload_n 3, 1) := by decide +kernel
theorem dX4_lowestBeside_60 : decode cX4_lowestBeside 60 = .ok (.if_icmp .ge 14, 3) := by decide +kernel
theorem dX4_lowestBeside_63 : decode cX4_lowestBeside 63 = .ok (.iload 8, 2) := by decide +kernel
theorem dX4_lowestBeside_65 : decode cX4_lowestBeside 65 = .ok (.istore_n 2, 1) := by decide +kernel
theorem dX4_lowestBeside_66 : decode cX4_lowestBeside 66 = .ok (.aload_n 0, 1) := by decide +kernel
theorem dX4_lowestBeside_67 : decode cX4_lowestBeside 67 = .ok (.getfield 9, 3) := by decide +kernel
theorem dX4_lowestBeside_70 : decode cX4_lowestBeside 70 = .ok (.iload 8, 2) := by decide +kernel
theorem dX4_lowestBeside_72 : decode cX4_lowestBeside 72 = .ok (.iaload, 1) := by decide +kernel
theorem dX4_lowestBeside_73 : decode cX4_lowestBeside 73 = .ok (.istore_n 3, 1) := by decide +kernel
theorem dX4_lowestBeside_74 : decode cX4_lowestBeside 74 = .ok (.iinc 6 1, 3) := by decide +kernel
theorem dX4_lowestBeside_77 : decode cX4_lowestBeside 77 = .ok (.goto (-54), 3) := by decide +kernel
theorem dX4_lowestBeside_80 : decode cX4_lowestBeside 80 = .ok (.iload_n 2, 1) := by decide +kernel
theorem dX4_lowestBeside_81 : decode cX4_lowestBeside 81 = .ok (.ireturn, 1) := by decide +kernel
theorem dX4_addLatrine_0 : decode cX4_addLatrine 0 = .ok (.aload_n 0, 1) := by decide +kernel
theorem dX4_addLatrine_1 : decode cX4_addLatrine 1 = .ok (.getfield 21, 3) := by decide +kernel
theorem dX4_addLatrine_4 : decode cX4_addLatrine 4 = .ok (.iload_n 1, 1) := by decide +kernel
theorem dX4_addLatrine_5 : decode cX4_addLatrine 5 = .ok (.iaload, 1) := by decide +kernel
theorem dX4_addLatrine_6 : decode cX4_addLatrine 6 = .ok (.ifCond .eq 13, 3) := by decide +kernel
theorem dX4_addLatrine_9 : decode cX4_addLatrine 9 = .ok (.iload_n 2, 1) := by decide +kernel
theorem dX4_addLatrine_10 : decode cX4_addLatrine 10 = .ok (.aload_n 0, 1) := by decide +kernel
theorem dX4_addLatrine_11 : decode cX4_addLatrine 11 = .ok (.getfield 21, 3) := by decide +kernel
theorem dX4_addLatrine_14 : decode cX4_addLatrine 14 = .ok (.iload_n 1, 1) := by decide +kernel
theorem dX4_addLatrine_15 : decode cX4_addLatrine 15 = .ok (.iaload, 1) := by decide +kernel
theorem dX4_addLatrine_16 : decode cX4_addLatrine 16 = .ok (.if_icmp .ge 10, 3) := by decide +kernel
theorem dX4_addLatrine_19 : decode cX4_addLatrine 19 = .ok (.aload_n 0, 1) := by decide +kernel
theorem dX4_addLatrine_20 : decode cX4_addLatrine 20 = .ok (.getfield 21, 3) := by decide +kernel
theorem dX4_addLatrine_23 : decode cX4_addLatrine 23 = .ok (.iload_n 1, 1) := by decide +kernel
theorem dX4_addLatrine_24 : decode cX4_addLatrine 24 = .ok (.iload_n 2, 1) := by decide +kernel
theorem dX4_addLatrine_25 : decode cX4_addLatrine 25 = .ok (.iastore, 1) := by decide +kernel
theorem dX4_addLatrine_26 : decode cX4_addLatrine 26 = .ok (.aload_n 0, 1) := by decide +kernel
theorem dX4_addLatrine_27 : decode cX4_addLatrine 27 = .ok (.dup, 1) := by decide +kernel
theorem dX4_addLatrine_28 : decode cX4_addLatrine 28 = .ok (.getfield 60, 3) := by decide +kernel
theorem dX4_addLatrine_31 : decode cX4_addLatrine 31 = .ok (.dup_x1, 1) := by decide +kernel
theorem dX4_addLatrine_32 : decode cX4_addLatrine 32 = .ok (.iconst 1, 1) := by decide +kernel
theorem dX4_addLatrine_33 : decode cX4_addLatrine 33 = .ok (.iadd, 1) := by decide +kernel
theorem dX4_addLatrine_34 : decode cX4_addLatrine 34 = .ok (.putfield 60, 3) := by decide +kernel
theorem dX4_addLatrine_37 : decode cX4_addLatrine 37 = .ok (.ireturn, 1) := by decide +kernel
theorem dX4_isDrain_0 : decode cX4_isDrain 0 = .ok (.aload_n 0, 1) := by decide +kernel
theorem dX4_isDrain_1 : decode cX4_isDrain 1 = .ok (.getfield 24, 3) := by decide +kernel
theorem dX4_isDrain_4 : decode cX4_isDrain 4 = .ok (.iload_n 1, 1) := by decide +kernel
theorem dX4_isDrain_5 : decode cX4_isDrain 5 = .ok (.iaload, 1) := by decide +kernel
theorem dX4_isDrain_6 : decode cX4_isDrain 6 = .ok (.bipush (-9), 2) := by decide +kernel
theorem dX4_isDrain_8 : decode cX4_isDrain 8 = .ok (.if_icmp .eq 7, 3) := by decide +kernel
theorem dX4_isDrain_11 : decode cX4_isDrain 11 = .ok (.iconst 1, 1) := by decide +kernel
theorem dX4_isDrain_12 : decode cX4_isDrain 12 = .ok (.goto 4, 3) := by decide +kernel
theorem dX4_isDrain_15 : decode cX4_isDrain 15 = .ok (.iconst 0, 1) := by decide +kernel
theorem dX4_isDrain_16 : decode cX4_isDrain 16 = .ok (.ireturn, 1) := by decide +kernel
theorem dX4_addDrain_0 : decode cX4_addDrain 0 = .ok (.aload_n 0, 1) := by decide +kernel
theorem dX4_addDrain_1 : decode cX4_addDrain 1 = .ok (.getfield 24, 3) := by decide +kernel
theorem dX4_addDrain_4 : decode cX4_addDrain 4 = .ok (.iload_n 1, 1) := by decide +kernel
theorem dX4_addDrain_5 : decode cX4_addDrain 5 = .ok (.aload_n 0, 1) := by decide +kernel
theorem dX4_addDrain_6 : decode cX4_addDrain 6 = .ok (.getfield 64, 3) := by decide +kernel
theorem dX4_addDrain_9 : decode cX4_addDrain 9 = .ok (.iastore, 1) := by decide +kernel
theorem dX4_addDrain_10 : decode cX4_addDrain 10 = .ok (.aload_n 0, 1) := by decide +kernel
theorem dX4_addDrain_11 : decode cX4_addDrain 11 = .ok (.dup, 1) := by decide +kernel
theorem dX4_addDrain_12 : decode cX4_addDrain 12 = .ok (.getfield 64, 3) := by decide +kernel
theorem dX4_addDrain_15 : decode cX4_addDrain 15 = .ok (.dup_x1, 1) := by decide +kernel
theorem dX4_addDrain_16 : decode cX4_addDrain 16 = .ok (.iconst 1, 1) := by decide +kernel
theorem dX4_addDrain_17 : decode cX4_addDrain 17 = .ok (.iadd, 1) := by decide +kernel
theorem dX4_addDrain_18 : decode cX4_addDrain 18 = .ok (.putfield 64, 3) := by decide +kernel
theorem dX4_addDrain_21 : decode cX4_addDrain 21 = .ok (.ireturn, 1) := by decide +kernel
theorem dX4_comesTo_0 : decode cX4_comesTo 0 = .ok (.aload_n 0, 1) := by decide +kernel
theorem dX4_comesTo_1 : decode cX4_comesTo 1 = .ok (.iload_n 2, 1) := by decide +kernel
theorem dX4_comesTo_2 : decode cX4_comesTo 2 = .ok (.iconst 0, 1) := by decide +kernel
theorem dX4_comesTo_3 : decode cX4_comesTo 3 = .ok (.invokevirtual 67, 3) := by decide +kernel
theorem dX4_comesTo_6 : decode cX4_comesTo 6 = .ok (.aload_n 0, 1) := by decide +kernel
theorem dX4_comesTo_7 : decode cX4_comesTo 7 = .ok (.getfield 36, 3) := by decide +kernel
theorem dX4_comesTo_10 : decode cX4_comesTo 10 = .ok (.iload_n 1, 1) := by decide +kernel
theorem dX4_comesTo_11 : decode cX4_comesTo 11 = .ok (.iaload, 1) := by decide +kernel
theorem dX4_comesTo_12 : decode cX4_comesTo 12 = .ok (.ireturn, 1) := by decide +kernel
theorem dX4_isFoul_0 : decode cX4_isFoul 0 = .ok (.aload_n 0, 1) := by decide +kernel
theorem dX4_isFoul_1 : decode cX4_isFoul 1 = .ok (.getfield 39, 3) := by decide +kernel
theorem dX4_isFoul_4 : decode cX4_isFoul 4 = .ok (.iload_n 1, 1) := by decide +kernel
theorem dX4_isFoul_5 : decode cX4_isFoul 5 = .ok (.baload, 1) := by decide +kernel
theorem dX4_isFoul_6 : decode cX4_isFoul 6 = .ok (.ireturn, 1) := by decide +kernel
theorem dX4_level_0 : decode cX4_level 0 = .ok (.aload_n 0, 1) := by decide +kernel
theorem dX4_level_1 : decode cX4_level 1 = .ok (.getfield 49, 3) := by decide +kernel
theorem dX4_level_4 : decode cX4_level 4 = .ok (.ifCond .eq 4, 3) := by decide +kernel
theorem dX4_level_7 : decode cX4_level 7 = .ok (.return_, 1) := by decide +kernel
theorem dX4_level_8 : decode cX4_level 8 = .ok (.aload_n 0, 1) := by decide +kernel
theorem dX4_level_9 : decode cX4_level 9 = .ok (.getfield 33, 3) := by decide +kernel
theorem dX4_level_12 : decode cX4_level 12 = .ok (.iconst 0, 1) := by decide +kernel
theorem dX4_level_13 : decode cX4_level 13 = .ok (.invokestatic 15, 3) := by decide +kernel
theorem dX4_level_16 : decode cX4_level 16 = .ok (.iconst 0, 1) := by decide +kernel
theorem dX4_level_17 : decode cX4_level 17 = .ok (.istore_n 1, 1) := by decide +kernel
theorem dX4_level_18 : decode cX4_level 18 = .ok (.iload_n 1, 1) := by decide +kernel
theorem dX4_level_19 : decode cX4_level 19 = .ok (.sipush 144, 3) := by decide +kernel
theorem dX4_level_22 : decode cX4_level 22 = .ok (.if_icmp .ge 46, 3) := by decide +kernel
theorem dX4_level_25 : decode cX4_level 25 = .ok (.aload_n 0, 1) := by decide +kernel
theorem dX4_level_26 : decode cX4_level 26 = .ok (.getfield 27, 3) := by decide +kernel
theorem dX4_level_29 : decode cX4_level 29 = .ok (.iload_n 1, 1) := by decide +kernel
theorem dX4_level_30 : decode cX4_level 30 = .ok (.aload_n 0, 1) := by decide +kernel
theorem dX4_level_31 : decode cX4_level 31 = .ok (.iload_n 1, 1) := by decide +kernel
theorem dX4_level_32 : decode cX4_level 32 = .ok (.invokevirtual 71, 3) := by decide +kernel
theorem dX4_level_35 : decode cX4_level 35 = .ok (.iastore, 1) := by decide +kernel
theorem dX4_level_36 : decode cX4_level 36 = .ok (.aload_n 0, 1) := by decide +kernel
theorem dX4_level_37 : decode cX4_level 37 = .ok (.getfield 9, 3) := by decide +kernel
theorem dX4_level_40 : decode cX4_level 40 = .ok (.iload_n 1, 1) := by decide +kernel
theorem dX4_level_41 : decode cX4_level 41 = .ok (.iaload, 1) := by decide +kernel
theorem dX4_level_42 : decode cX4_level 42 = .ok (.ifCond .le 20, 3) := by decide +kernel
theorem dX4_level_45 : decode cX4_level 45 = .ok (.aload_n 0, 1) := by decide +kernel
theorem dX4_level_46 : decode cX4_level 46 = .ok (.getfield 33, 3) := by decide +kernel
theorem dX4_level_49 : decode cX4_level 49 = .ok (.aload_n 0, 1) := by decide +kernel
theorem dX4_level_50 : decode cX4_level 50 = .ok (.getfield 9, 3) := by decide +kernel
theorem dX4_level_53 : decode cX4_level 53 = .ok (.iload_n 1, 1) := by decide +kernel
theorem dX4_level_54 : decode cX4_level 54 = .ok (.iaload, 1) := by decide +kernel
theorem dX4_level_55 : decode cX4_level 55 = .ok (.iconst 1, 1) := by decide +kernel
theorem dX4_level_56 : decode cX4_level 56 = .ok (.isub, 1) := by decide +kernel
theorem dX4_level_57 : decode cX4_level 57 = .ok (.dup2, 1) := by decide +kernel
theorem dX4_level_58 : decode cX4_level 58 = .ok (.iaload, 1) := by decide +kernel
theorem dX4_level_59 : decode cX4_level 59 = .ok (.iconst 1, 1) := by decide +kernel
theorem dX4_level_60 : decode cX4_level 60 = .ok (.iadd, 1) := by decide +kernel
theorem dX4_level_61 : decode cX4_level 61 = .ok (.iastore, 1) := by decide +kernel
theorem dX4_level_62 : decode cX4_level 62 = .ok (.iinc 1 1, 3) := by decide +kernel
theorem dX4_level_65 : decode cX4_level 65 = .ok (.goto (-47), 3) := by decide +kernel
theorem dX4_level_68 : decode cX4_level 68 = .ok (.bipush 98, 2) := by decide +kernel
theorem dX4_level_70 : decode cX4_level 70 = .ok (.istore_n 1, 1) := by decide +kernel
theorem dX4_level_71 : decode cX4_level 71 = .ok (.iload_n 1, 1) := by decide +kernel
theorem dX4_level_72 : decode cX4_level 72 = .ok (.ifCond .lt 26, 3) := by decide +kernel
theorem dX4_level_75 : decode cX4_level 75 = .ok (.aload_n 0, 1) := by decide +kernel
theorem dX4_level_76 : decode cX4_level 76 = .ok (.getfield 33, 3) := by decide +kernel
theorem dX4_level_79 : decode cX4_level 79 = .ok (.iload_n 1, 1) := by decide +kernel
theorem dX4_level_80 : decode cX4_level 80 = .ok (.dup2, 1) := by decide +kernel
theorem dX4_level_81 : decode cX4_level 81 = .ok (.iaload, 1) := by decide +kernel
theorem dX4_level_82 : decode cX4_level 82 = .ok (.aload_n 0, 1) := by decide +kernel
theorem dX4_level_83 : decode cX4_level 83 = .ok (.getfield 33, 3) := by decide +kernel
theorem dX4_level_86 : decode cX4_level 86 = .ok (.iload_n 1, 1) := by decide +kernel
theorem dX4_level_87 : decode cX4_level 87 = .ok (.iconst 1, 1) := by decide +kernel
theorem dX4_level_88 : decode cX4_level 88 = .ok (.iadd, 1) := by decide +kernel
theorem dX4_level_89 : decode cX4_level 89 = .ok (.iaload, 1) := by decide +kernel
theorem dX4_level_90 : decode cX4_level 90 = .ok (.iadd, 1) := by decide +kernel
theorem dX4_level_91 : decode cX4_level 91 = .ok (.iastore, 1) := by decide +kernel
theorem dX4_level_92 : decode cX4_level 92 = .ok (.iinc 1 (-1), 3) := by decide +kernel
theorem dX4_level_95 : decode cX4_level 95 = .ok (.goto (-24), 3) := by decide +kernel
theorem dX4_level_98 : decode cX4_level 98 = .ok (.iconst 0, 1) := by decide +kernel
theorem dX4_level_99 : decode cX4_level 99 = .ok (.istore_n 1, 1) := by decide +kernel
theorem dX4_level_100 : decode cX4_level 100 = .ok (.iload_n 1, 1) := by decide +kernel
theorem dX4_level_101 : decode cX4_level 101 = .ok (.sipush 144, 3) := by decide +kernel
theorem dX4_level_104 : decode cX4_level 104 = .ok (.if_icmp .ge 31, 3) := by decide +kernel
theorem dX4_level_107 : decode cX4_level 107 = .ok (.aload_n 0, 1) := by decide +kernel
theorem dX4_level_108 : decode cX4_level 108 = .ok (.getfield 30, 3) := by decide +kernel
theorem dX4_level_111 : decode cX4_level 111 = .ok (.aload_n 0, 1) := by decide +kernel
theorem dX4_level_112 : decode cX4_level 112 = .ok (.getfield 33, 3) := by decide +kernel
theorem dX4_level_115 : decode cX4_level 115 = .ok (.aload_n 0, 1) := by decide +kernel
theorem dX4_level_116 : decode cX4_level 116 = .ok (.getfield 9, 3) := by decide +kernel
theorem dX4_level_119 : decode cX4_level 119 = .ok (.iload_n 1, 1) := by decide +kernel
theorem dX4_level_120 : decode cX4_level 120 = .ok (.iaload, 1) := by decide +kernel
theorem dX4_level_121 : decode cX4_level 121 = .ok (.dup2, 1) := by decide +kernel
theorem dX4_level_122 : decode cX4_level 122 = .ok (.iaload, 1) := by decide +kernel
theorem dX4_level_123 : decode cX4_level 123 = .ok (.dup_x2, 1) := by decide +kernel
theorem dX4_level_124 : decode cX4_level 124 = .ok (.iconst 1, 1) := by decide +kernel
theorem dX4_level_125 : decode cX4_level 125 = .ok (.iadd, 1) := by decide +kernel
theorem dX4_level_126 : decode cX4_level 126 = .ok (.iastore, 1) := by decide +kernel
theorem dX4_level_127 : decode cX4_level 127 = .ok (.iload_n 1, 1) := by decide +kernel
theorem dX4_level_128 : decode cX4_level 128 = .ok (.iastore, 1) := by decide +kernel
theorem dX4_level_129 : decode cX4_level 129 = .ok (.iinc 1 1, 3) := by decide +kernel
theorem dX4_level_132 : decode cX4_level 132 = .ok (.goto (-32), 3) := by decide +kernel
theorem dX4_level_135 : decode cX4_level 135 = .ok (.aload_n 0, 1) := by decide +kernel
theorem dX4_level_136 : decode cX4_level 136 = .ok (.iconst 1, 1) := by decide +kernel
theorem dX4_level_137 : decode cX4_level 137 = .ok (.putfield 49, 3) := by decide +kernel
theorem dX4_level_140 : decode cX4_level 140 = .ok (.return_, 1) := by decide +kernel
theorem dX4_pour_0 : decode cX4_pour 0 = .ok (.aload_n 0, 1) := by decide +kernel
theorem dX4_pour_1 : decode cX4_pour 1 = .ok (.invokevirtual 74, 3) := by decide +kernel
theorem dX4_pour_4 : decode cX4_pour 4 = .ok (.iconst 0, 1) := by decide +kernel
theorem dX4_pour_5 : decode cX4_pour 5 = .ok (.istore_n 3, 1) := by decide +kernel
theorem dX4_pour_6 : decode cX4_pour 6 = .ok (.iload_n 3, 1) := by decide +kernel
theorem dX4_pour_7 : decode cX4_pour 7 = .ok (.sipush 144, 3) := by decide +kernel
theorem dX4_pour_10 : decode cX4_pour 10 = .ok (.if_icmp .ge 23, 3) := by decide +kernel
theorem dX4_pour_13 : decode cX4_pour 13 = .ok (.aload_n 0, 1) := by decide +kernel
theorem dX4_pour_14 : decode cX4_pour 14 = .ok (.getfield 36, 3) := by decide +kernel
theorem dX4_pour_17 : decode cX4_pour 17 = .ok (.iload_n 3, 1) := by decide +kernel
theorem dX4_pour_18 : decode cX4_pour 18 = .ok (.iload_n 1, 1) := by decide +kernel
theorem dX4_pour_19 : decode cX4_pour 19 = .ok (.iastore, 1) := by decide +kernel
theorem dX4_pour_20 : decode cX4_pour 20 = .ok (.aload_n 0, 1) := by decide +kernel
theorem dX4_pour_21 : decode cX4_pour 21 = .ok (.getfield 39, 3) := by decide +kernel
theorem dX4_pour_24 : decode cX4_pour 24 = .ok (.iload_n 3, 1) := by decide +kernel
theorem dX4_pour_25 : decode cX4_pour 25 = .ok (.iconst 0, 1) := by decide +kernel
theorem dX4_pour_26 : decode cX4_pour 26 = .ok (.bastore, 1) := by decide +kernel
theorem dX4_pour_27 : decode cX4_pour 27 = .ok (.iinc 3 1, 3) := by decide +kernel
theorem dX4_pour_30 : decode cX4_pour 30 = .ok (.goto (-24), 3) := by decide +kernel
theorem dX4_pour_33 : decode cX4_pour 33 = .ok (.iconst 0, 1) := by decide +kernel
theorem dX4_pour_34 : decode cX4_pour 34 = .ok (.istore_n 3, 1) := by decide +kernel
theorem dX4_pour_35 : decode cX4_pour 35 = .ok (.iload_n 3, 1) := by decide +kernel
theorem dX4_pour_36 : decode cX4_pour 36 = .ok (.sipush 144, 3) := by decide +kernel
theorem dX4_pour_39 : decode cX4_pour 39 = .ok (.if_icmp .ge 69, 3) := by decide +kernel
theorem dX4_pour_42 : decode cX4_pour 42 = .ok (.aload_n 0, 1) := by decide +kernel
theorem dX4_pour_43 : decode cX4_pour 43 = .ok (.getfield 30, 3) := by decide +kernel
theorem dX4_pour_46 : decode cX4_pour 46 = .ok (.iload_n 3, 1) := by decide +kernel
theorem dX4_pour_47 : decode cX4_pour 47 = .ok (.iaload, 1) := by decide +kernel
theorem dX4_pour_48 : decode cX4_pour 48 = .ok (.istore 4, 2) := by decide +kernel
theorem dX4_pour_50 : decode cX4_pour 50 = .ok (.aload_n 0, 1) := by decide +kernel
theorem dX4_pour_51 : decode cX4_pour 51 = .ok (.getfield 24, 3) := by decide +kernel
theorem dX4_pour_54 : decode cX4_pour 54 = .ok (.iload 4, 2) := by decide +kernel
theorem dX4_pour_56 : decode cX4_pour 56 = .ok (.iaload, 1) := by decide +kernel
theorem dX4_pour_57 : decode cX4_pour 57 = .ok (.bipush (-9), 2) := by decide +kernel
theorem dX4_pour_59 : decode cX4_pour 59 = .ok (.if_icmp .eq 22, 3) := by decide +kernel
theorem dX4_pour_62 : decode cX4_pour 62 = .ok (.iload_n 2, 1) := by decide +kernel
theorem dX4_pour_63 : decode cX4_pour 63 = .ok (.aload_n 0, 1) := by decide +kernel
theorem dX4_pour_64 : decode cX4_pour 64 = .ok (.getfield 24, 3) := by decide +kernel
theorem dX4_pour_67 : decode cX4_pour 67 = .ok (.iload 4, 2) := by decide +kernel
theorem dX4_pour_69 : decode cX4_pour 69 = .ok (.iaload, 1) := by decide +kernel
theorem dX4_pour_70 : decode cX4_pour 70 = .ok (.ishr, 1) := by decide +kernel
theorem dX4_pour_71 : decode cX4_pour 71 = .ok (.iconst 1, 1) := by decide +kernel
theorem dX4_pour_72 : decode cX4_pour 72 = .ok (.iand, 1) := by decide +kernel
theorem dX4_pour_73 : decode cX4_pour 73 = .ok (.iconst 1, 1) := by decide +kernel
theorem dX4_pour_74 : decode cX4_pour 74 = .ok (.if_icmp .ne 7, 3) := by decide +kernel
theorem dX4_pour_77 : decode cX4_pour 77 = .ok (.iconst 1, 1) := by decide +kernel
theorem dX4_pour_78 : decode cX4_pour 78 = .ok (.goto 4, 3) := by decide +kernel
theorem dX4_pour_81 : decode cX4_pour 81 = .ok (.iconst 0, 1) := by decide +kernel
theorem dX4_pour_82 : decode cX4_pour 82 = .ok (.istore 5, 2) := by decide +kernel
theorem dX4_pour_84 : decode cX4_pour 84 = .ok (.iload 5, 2) := by decide +kernel
theorem dX4_pour_86 : decode cX4_pour 86 = .ok (.ifCond .ne 16, 3) := by decide +kernel
theorem dX4_pour_89 : decode cX4_pour 89 = .ok (.aload_n 0, 1) := by decide +kernel
theorem dX4_pour_90 : decode cX4_pour 90 = .ok (.iload 4, 2) := by decide +kernel
theorem dX4_pour_92 : decode cX4_pour 92 = .ok (.aload_n 0, 1) := by decide +kernel
theorem dX4_pour_93 : decode cX4_pour 93 = .ok (.getfield 27, 3) := by decide +kernel
theorem dX4_pour_96 : decode cX4_pour 96 = .ok (.iload 4, 2) := by decide +kernel
theorem dX4_pour_98 : decode cX4_pour 98 = .ok (.iaload, 1) := by decide +kernel
theorem dX4_pour_99 : decode cX4_pour 99 = .ok (.invokevirtual 77, 3) := by decide +kernel
theorem dX4_pour_102 : decode cX4_pour 102 = .ok (.iinc 3 1, 3) := by decide +kernel
theorem dX4_pour_105 : decode cX4_pour 105 = .ok (.goto (-70), 3) := by decide +kernel
theorem dX4_pour_108 : decode cX4_pour 108 = .ok (.return_, 1) := by decide +kernel
theorem dX4_pass_0 : decode cX4_pass 0 = .ok (.aload_n 0, 1) := by decide +kernel
theorem dX4_pass_1 : decode cX4_pass 1 = .ok (.getfield 21, 3) := by decide +kernel
theorem dX4_pass_4 : decode cX4_pass 4 = .ok (.iload_n 1, 1) := by decide +kernel
theorem dX4_pass_5 : decode cX4_pass 5 = .ok (.iaload, 1) := by decide +kernel
theorem dX4_pass_6 : decode cX4_pass 6 = .ok (.ifCond .le 25, 3) := by decide +kernel
theorem dX4_pass_9 : decode cX4_pass 9 = .ok (.aload_n 0, 1) := by decide +kernel
theorem dX4_pass_10 : decode cX4_pass 10 = .ok (.getfield 36, 3) := by decide +kernel
theorem dX4_pass_13 : decode cX4_pass 13 = .ok (.iload_n 1, 1) := by decide +kernel
theorem dX4_pass_14 : decode cX4_pass 14 = .ok (.iaload, 1) := by decide +kernel
theorem dX4_pass_15 : decode cX4_pass 15 = .ok (.aload_n 0, 1) := by decide +kernel
theorem dX4_pass_16 : decode cX4_pass 16 = .ok (.getfield 21, 3) := by decide +kernel
theorem dX4_pass_19 : decode cX4_pass 19 = .ok (.iload_n 1, 1) := by decide +kernel
theorem dX4_pass_20 : decode cX4_pass 20 = .ok (.iaload, 1) := by decide +kernel
theorem dX4_pass_21 : decode cX4_pass 21 = .ok (.if_icmp .lt 10, 3) := by decide +kernel
theorem dX4_pass_24 : decode cX4_pass 24 = .ok (.aload_n 0, 1) := by decide +kernel
theorem dX4_pass_25 : decode cX4_pass 25 = .ok (.getfield 39, 3) := by decide +kernel
theorem dX4_pass_28 : decode cX4_pass 28 = .ok (.iload_n 1, 1) := by decide +kernel
theorem dX4_pass_29 : decode cX4_pass 29 = .ok (.iconst 1, 1) := by decide +kernel
theorem dX4_pass_30 : decode cX4_pass 30 = .ok (.bastore, 1) := by decide +kernel
theorem dX4_pass_31 : decode cX4_pass 31 = .ok (.iload_n 2, 1) := by decide +kernel
theorem dX4_pass_32 : decode cX4_pass 32 = .ok (.bipush (-9), 2) := by decide +kernel
theorem dX4_pass_34 : decode cX4_pass 34 = .ok (.if_icmp .eq 47, 3) := by decide +kernel
theorem dX4_pass_37 : decode cX4_pass 37 = .ok (.aload_n 0, 1) := by decide +kernel
theorem dX4_pass_38 : decode cX4_pass 38 = .ok (.getfield 36, 3) := by decide +kernel
theorem dX4_pass_41 : decode cX4_pass 41 = .ok (.iload_n 2, 1) := by decide +kernel
theorem dX4_pass_42 : decode cX4_pass 42 = .ok (.dup2, 1) := by decide +kernel
theorem dX4_pass_43 : decode cX4_pass 43 = .ok (.iaload, 1) := by decide +kernel
theorem dX4_pass_44 : decode cX4_pass 44 = .ok (.aload_n 0, 1) := by decide +kernel
theorem dX4_pass_45 : decode cX4_pass 45 = .ok (.getfield 36, 3) := by decide +kernel
theorem dX4_pass_48 : decode cX4_pass 48 = .ok (.iload_n 1, 1) := by decide +kernel
theorem dX4_pass_49 : decode cX4_pass 49 = .ok (.iaload, 1) := by decide +kernel
theorem dX4_pass_50 : decode cX4_pass 50 = .ok (.iadd, 1) := by decide +kernel
theorem dX4_pass_51 : decode cX4_pass 51 = .ok (.iastore, 1) := by decide +kernel
theorem dX4_pass_52 : decode cX4_pass 52 = .ok (.aload_n 0, 1) := by decide +kernel
theorem dX4_pass_53 : decode cX4_pass 53 = .ok (.getfield 39, 3) := by decide +kernel
theorem dX4_pass_56 : decode cX4_pass 56 = .ok (.iload_n 2, 1) := by decide +kernel
theorem dX4_pass_57 : decode cX4_pass 57 = .ok (.aload_n 0, 1) := by decide +kernel
theorem dX4_pass_58 : decode cX4_pass 58 = .ok (.getfield 39, 3) := by decide +kernel
theorem dX4_pass_61 : decode cX4_pass 61 = .ok (.iload_n 2, 1) := by decide +kernel
theorem dX4_pass_62 : decode cX4_pass 62 = .ok (.baload, 1) := by decide +kernel
theorem dX4_pass_63 : decode cX4_pass 63 = .ok (.ifCond .ne 12, 3) := by decide +kernel
theorem dX4_pass_66 : decode cX4_pass 66 = .ok (.aload_n 0, 1) := by decide +kernel
theorem dX4_pass_67 : decode cX4_pass 67 = .ok (.getfield 39, 3) := by decide +kernel
theorem dX4_pass_70 : decode cX4_pass 70 = .ok (.iload_n 1, 1) := by decide +kernel
theorem dX4_pass_71 : decode cX4_pass 71 = .ok (.baload, 1) := by decide +kernel
theorem dX4_pass_72 : decode cX4_pass 72 = .ok (.ifCond .eq 7, 3) := by decide +kernel
theorem dX4_pass_75 : decode cX4_pass 75 = .ok (.iconst 1, 1) := by decide +kernel
theorem dX4_pass_76 : decode cX4_pass 76 = .ok (.goto 4, 3) := by decide +kernel
theorem dX4_pass_79 : decode cX4_pass 79 = .ok (.iconst 0, 1) := by decide +kernel
theorem dX4_pass_80 : decode cX4_pass 80 = .ok (.bastore, 1) := by decide +kernel
theorem dX4_pass_81 : decode cX4_pass 81 = .ok (.return_, 1) := by decide +kernel
theorem dX5_init_0 : decode cX5_init 0 = .ok (.aload_n 0, 1) := by decide +kernel
theorem dX5_init_1 : decode cX5_init 1 = .ok (.invokespecial 3, 3) := by decide +kernel
theorem dX5_init_4 : decode cX5_init 4 = .ok (.aload_n 0, 1) := by decide +kernel
theorem dX5_init_5 : decode cX5_init 5 = .ok (.bipush 60, 2) := by decide +kernel
theorem dX5_init_7 : decode cX5_init 7 = .ok (.newarray .int, 2) := by decide +kernel
theorem dX5_init_9 : decode cX5_init 9 = .ok (.putfield 9, 3) := by decide +kernel
theorem dX5_init_12 : decode cX5_init 12 = .ok (.aload_n 0, 1) := by decide +kernel
theorem dX5_init_13 : decode cX5_init 13 = .ok (.bipush 60, 2) := by decide +kernel
theorem dX5_init_15 : decode cX5_init 15 = .ok (.newarray .int, 2) := by decide +kernel
theorem dX5_init_17 : decode cX5_init 17 = .ok (.putfield 15, 3) := by decide +kernel
theorem dX5_init_20 : decode cX5_init 20 = .ok (.aload_n 0, 1) := by decide +kernel
theorem dX5_init_21 : decode cX5_init 21 = .ok (.bipush 60, 2) := by decide +kernel
theorem dX5_init_23 : decode cX5_init 23 = .ok (.newarray .int, 2) := by decide +kernel
theorem dX5_init_25 : decode cX5_init 25 = .ok (.putfield 18, 3) := by decide +kernel
theorem dX5_init_28 : decode cX5_init 28 = .ok (.return_, 1) := by decide +kernel
theorem dX5_placeOf_0 : decode cX5_placeOf 0 = .ok (.iconst 0, 1) := by decide +kernel
theorem dX5_placeOf_1 : decode cX5_placeOf 1 = .ok (.istore_n 2, 1) := by decide +kernel
theorem dX5_placeOf_2 : decode cX5_placeOf 2 = .ok (.iload_n 2, 1) := by decide +kernel
theorem dX5_placeOf_3 : decode cX5_placeOf 3 = .ok (.aload_n 0, 1) := by decide +kernel
theorem dX5_placeOf_4 : decode cX5_placeOf 4 = .ok (.getfield 21, 3) := by decide +kernel
theorem dX5_placeOf_7 : decode cX5_placeOf 7 = .ok (.if_icmp .ge 21, 3) := by decide +kernel
theorem dX5_placeOf_10 : decode cX5_placeOf 10 = .ok (.aload_n 0, 1) := by decide +kernel
theorem dX5_placeOf_11 : decode cX5_placeOf 11 = .ok (.getfield 9, 3) := by decide +kernel
theorem dX5_placeOf_14 : decode cX5_placeOf 14 = .ok (.iload_n 2, 1) := by decide +kernel
theorem dX5_placeOf_15 : decode cX5_placeOf 15 = .ok (.iaload, 1) := by decide +kernel
theorem dX5_placeOf_16 : decode cX5_placeOf 16 = .ok (.iload_n 1, 1) := by decide +kernel
theorem dX5_placeOf_17 : decode cX5_placeOf 17 = .ok (.if_icmp .ne 5, 3) := by decide +kernel
theorem dX5_placeOf_20 : decode cX5_placeOf 20 = .ok (.iload_n 2, 1) := by decide +kernel
theorem dX5_placeOf_21 : decode cX5_placeOf 21 = .ok (.ireturn, 1) := by decide +kernel
theorem dX5_placeOf_22 : decode cX5_placeOf 22 = .ok (.iinc 2 1, 3) := by decide +kernel
theorem dX5_placeOf_25 : decode cX5_placeOf 25 = .ok (.goto (-23), 3) := by decide +kernel
theorem dX5_placeOf_28 : decode cX5_placeOf 28 = .ok (.bipush (-9), 2) := by decide +kernel
theorem dX5_placeOf_30 : decode cX5_placeOf 30 = .ok (.ireturn, 1) := by decide +kernel
theorem dX5_asks_0 : decode cX5_asks 0 = .ok (.aload_n 0, 1) := by decide +kernel
theorem dX5_asks_1 : decode cX5_asks 1 = .ok (.iload_n 1, 1) := by decide +kernel
theorem dX5_asks_2 : decode cX5_asks 2 = .ok (.invokevirtual 25, 3) := by decide +kernel
theorem dX5_asks_5 : decode cX5_asks 5 = .ok (.bipush (-9), 2) := by decide +kernel
theorem dX5_asks_7 : decode cX5_asks 7 = .ok (.if_icmp .eq 7, 3) := by decide +kernel
theorem dX5_asks_10 : decode cX5_asks 10 = .ok (.iconst 1, 1) := by decide +kernel
theorem dX5_asks_11 : decode cX5_asks 11 = .ok (.goto 4, 3) := by decide +kernel
theorem dX5_asks_14 : decode cX5_asks 14 = .ok (.iconst 0, 1) := by decide +kernel
theorem dX5_asks_15 : decode cX5_asks 15 = .ok (.ireturn, 1) := by decide +kernel
theorem dX5_join_0 : decode cX5_join 0 = .ok (.aload_n 0, 1) := by decide +kernel
theorem dX5_join_1 : decode cX5_join 1 = .ok (.getfield 21, 3) := by decide +kernel
theorem dX5_join_4 : decode cX5_join 4 = .ok (.bipush 60, 2) := by decide +kernel
theorem dX5_join_6 : decode cX5_join 6 = .ok (.if_icmp .ge 23, 3) := by decide +kernel
theorem dX5_join_9 : decode cX5_join 9 = .ok (.aload_n 0, 1) := by decide +kernel
theorem dX5_join_10 : decode cX5_join 10 = .ok (.getfield 9, 3) := by decide +kernel
theorem dX5_join_13 : decode cX5_join 13 = .ok (.aload_n 0, 1) := by decide +kernel
theorem dX5_join_14 : decode cX5_join 14 = .ok (.getfield 21, 3) := by decide +kernel
theorem dX5_join_17 : decode cX5_join 17 = .ok (.iload_n 1, 1) := by decide +kernel
theorem dX5_join_18 : decode cX5_join 18 = .ok (.iastore, 1) := by decide +kernel
theorem dX5_join_19 : decode cX5_join 19 = .ok (.aload_n 0, 1) := by decide +kernel
theorem dX5_join_20 : decode cX5_join 20 = .ok (.dup, 1) := by decide +kernel
theorem dX5_join_21 : decode cX5_join 21 = .ok (.getfield 21, 3) := by decide +kernel
theorem dX5_join_24 : decode cX5_join 24 = .ok (.iconst 1, 1) := by decide +kernel
theorem dX5_join_25 : decode cX5_join 25 = .ok (.iadd, 1) := by decide +kernel
theorem dX5_join_26 : decode cX5_join 26 = .ok (.putfield 21, 3) := by decide +kernel
theorem dX5_join_29 : decode cX5_join 29 = .ok (.return_, 1) := by decide +kernel
theorem dX5_quit_0 : decode cX5_quit 0 = .ok (.aload_n 0, 1) := by decide +kernel
theorem dX5_quit_1 : decode cX5_quit 1 = .ok (.iload_n 1, 1) := by decide +kernel
theorem dX5_quit_2 : decode cX5_quit 2 = .ok (.invokevirtual 25, 3) := by decide +kernel
theorem dX5_quit_5 : decode cX5_quit 5 = .ok (.istore_n 2, 1) := by decide +kernel
theorem dX5_quit_6 : decode cX5_quit 6 = .ok (.iload_n 2, 1) := by decide +kernel
theorem dX5_quit_7 : decode cX5_quit 7 = .ok (.bipush (-9), 2) := by decide +kernel
theorem dX5_quit_9 : decode cX5_quit 9 = .ok (.if_icmp .ne 4, 3) := by decide +kernel
theorem dX5_quit_12 : decode cX5_quit 12 = .ok (.return_, 1) := by decide +kernel
theorem dX5_quit_13 : decode cX5_quit 13 = .ok (.iload_n 2, 1) := by decide +kernel
theorem dX5_quit_14 : decode cX5_quit 14 = .ok (.istore_n 3, 1) := by decide +kernel
theorem dX5_quit_15 : decode cX5_quit 15 = .ok (.iload_n 3, 1) := by decide +kernel
theorem dX5_quit_16 : decode cX5_quit 16 = .ok (.aload_n 0, 1) := by decide +kernel
theorem dX5_quit_17 : decode cX5_quit 17 = .ok (.getfield 21, 3) := by decide +kernel
theorem dX5_quit_20 : decode cX5_quit 20 = .ok (.iconst 1, 1) := by decide +kernel
theorem dX5_quit_21 : decode cX5_quit 21 = .ok (.isub, 1) := by decide +kernel
theorem dX5_quit_22 : decode cX5_quit 22 = .ok (.if_icmp .ge 23, 3) := by decide +kernel
theorem dX5_quit_25 : decode cX5_quit 25 = .ok (.aload_n 0, 1) := by decide +kernel
theorem dX5_quit_26 : decode cX5_quit 26 = .ok (.getfield 9, 3) := by decide +kernel
theorem dX5_quit_29 : decode cX5_quit 29 = .ok (.iload_n 3, 1) := by decide +kernel
theorem dX5_quit_30 : decode cX5_quit 30 = .ok (.aload_n 0, 1) := by decide +kernel
theorem dX5_quit_31 : decode cX5_quit 31 = .ok (.getfield 9, 3) := by decide +kernel
theorem dX5_quit_34 : decode cX5_quit 34 = .ok (.iload_n 3, 1) := by decide +kernel
theorem dX5_quit_35 : decode cX5_quit 35 = .ok (.iconst 1, 1) := by decide +kernel
theorem dX5_quit_36 : decode cX5_quit 36 = .ok (.iadd, 1) := by decide +kernel
theorem dX5_quit_37 : decode cX5_quit 37 = .ok (.iaload, 1) := by decide +kernel
theorem dX5_quit_38 : decode cX5_quit 38 = .ok (.iastore, 1) := by decide +kernel
theorem dX5_quit_39 : decode cX5_quit 39 = .ok (.iinc 3 1, 3) := by decide +kernel
theorem dX5_quit_42 : decode cX5_quit 42 = .ok (.goto (-27), 3) := by decide +kernel
theorem dX5_quit_45 : decode cX5_quit 45 = .ok (.aload_n 0, 1) := by decide +kernel
theorem dX5_quit_46 : decode cX5_quit 46 = .ok (.dup, 1) := by decide +kernel
theorem dX5_quit_47 : decode cX5_quit 47 = .ok (.getfield 21, 3) := by decide +kernel
theorem dX5_quit_50 : decode cX5_quit 50 = .ok (.iconst 1, 1) := by decide +kernel
theorem dX5_quit_51 : decode cX5_quit 51 = .ok (.isub, 1) := by decide +kernel
theorem dX5_quit_52 : decode cX5_quit 52 = .ok (.putfield 21, 3) := by decide +kernel
theorem dX5_quit_55 : decode cX5_quit 55 = .ok (.return_, 1) := by decide +kernel
theorem dX5_rank_0 : decode cX5_rank 0 = .ok (.aload_n 0, 1) := by decide +kernel
theorem dX5_rank_1 : decode cX5_rank 1 = .ok (.iconst 0, 1) := by decide +kernel
theorem dX5_rank_2 : decode cX5_rank 2 = .ok (.putfield 29, 3) := by decide +kernel
theorem dX5_rank_5 : decode cX5_rank 5 = .ok (.iconst 0, 1) := by decide +kernel
theorem dX5_rank_6 : decode cX5_rank 6 = .ok (.istore 4, 2) := by decide +kernel
theorem dX5_rank_8 : decode cX5_rank 8 = .ok (.iload 4, 2) := by decide +kernel
theorem dX5_rank_10 : decode cX5_rank 10 = .ok (.aload_n 0, 1) := by decide +kernel
theorem dX5_rank_11 : decode cX5_rank 11 = .ok (.getfield 21, 3) := by decide +kernel
theorem dX5_rank_14 : decode cX5_rank 14 = .ok (.if_icmp .ge 42, 3) := by decide +kernel
theorem dX5_rank_17 : decode cX5_rank 17 = .ok (.aload_n 0, 1) := by decide +kernel
theorem dX5_rank_18 : decode cX5_rank 18 = .ok (.getfield 9, 3) := by decide +kernel
theorem dX5_rank_21 : decode cX5_rank 21 = .ok (.iload 4, 2) := by decide +kernel
theorem dX5_rank_23 : decode cX5_rank 23 = .ok (.iaload, 1) := by decide +kernel
theorem dX5_rank_24 : decode cX5_rank 24 = .ok (.istore 5, 2) := by decide +kernel
theorem dX5_rank_26 : decode cX5_rank 26 = .ok (.aload_n 1, 1) := by decide +kernel
theorem dX5_rank_27 : decode cX5_rank 27 = .ok (.iload 5, 2) := by decide +kernel
theorem dX5_rank_29 : decode cX5_rank 29 = .ok (.iload_n 3, 1) := by decide +kernel
theorem dX5_rank_30 : decode cX5_rank 30 = .ok (.invokevirtual 32, 3) := by decide +kernel
theorem dX5_rank_33 : decode cX5_rank 33 = .ok (.ifCond .eq 17, 3) := by decide +kernel
theorem dX5_rank_36 : decode cX5_rank 36 = .ok (.aload_n 0, 1) := by decide +kernel
theorem dX5_rank_37 : decode cX5_rank 37 = .ok (.iload 5, 2) := by decide +kernel
theorem dX5_rank_39 : decode cX5_rank 39 = .ok (.aload_n 2, 1) := by decide +kernel
theorem dX5_rank_40 : decode cX5_rank 40 = .ok (.aload_n 1, 1) := by decide +kernel
theorem dX5_rank_41 : decode cX5_rank 41 = .ok (.iload 5, 2) := by decide +kernel
theorem dX5_rank_43 : decode cX5_rank 43 = .ok (.iload_n 3, 1) := by decide +kernel
theorem dX5_rank_44 : decode cX5_rank 44 = .ok (.invokevirtual 38, 3) := by decide +kernel
theorem dX5_rank_47 : decode cX5_rank 47 = .ok (.invokevirtual 44, 3) := by decide +kernel
theorem dX5_rank_50 : decode cX5_rank 50 = .ok (.iinc 4 1, 3) := by decide +kernel
theorem dX5_rank_53 : decode cX5_rank 53 = .ok (.goto (-45), 3) := by decide +kernel
theorem dX5_rank_56 : decode cX5_rank 56 = .ok (.aload_n 0, 1) := by decide +kernel
theorem dX5_rank_57 : decode cX5_rank 57 = .ok (.getfield 29, 3) := by decide +kernel
theorem dX5_rank_60 : decode cX5_rank 60 = .ok (.ireturn, 1) := by decide +kernel
theorem dX5_place_0 : decode cX5_place 0 = .ok (.aload_n 0, 1) := by decide +kernel
theorem dX5_place_1 : decode cX5_place 1 = .ok (.getfield 29, 3) := by decide +kernel
theorem dX5_place_4 : decode cX5_place 4 = .ok (.istore_n 3, 1) := by decide +kernel
theorem dX5_place_5 : decode cX5_place 5 = .ok (.iload_n 3, 1) := by decide +kernel
theorem dX5_place_6 : decode cX5_place 6 = .ok (.ifCond .le 49, 3) := by decide +kernel
theorem dX5_place_9 : decode cX5_place 9 = .ok (.aload_n 0, 1) := by decide +kernel
theorem dX5_place_10 : decode cX5_place 10 = .ok (.getfield 18, 3) := by decide +kernel
theorem dX5_place_13 : decode cX5_place 13 = .ok (.iload_n 3, 1) := by decide +kernel
theorem dX5_place_14 : decode cX5_place 14 = .ok (.iconst 1, 1) := by decide +kernel
theorem dX5_place_15 : decode cX5_place 15 = .ok (.isub, 1) := by decide +kernel
theorem dX5_place_16 : decode cX5_place 16 = .ok (.iaload, 1) := by decide +kernel
theorem dX5_place_17 : decode cX5_place 17 = .ok (.iload_n 2, 1) := by decide +kernel
theorem dX5_place_18 : decode cX5_place 18 = .ok (.if_icmp .ge 37, 3) := by decide +kernel
theorem dX5_place_21 : decode cX5_place 21 = .ok (.aload_n 0, 1) := by decide +kernel
theorem dX5_place_22 : decode cX5_place 22 = .ok (.getfield 15, 3) := by decide +kernel
theorem dX5_place_25 : decode cX5_place 25 = .ok (.iload_n 3, 1) := by decide +kernel
theorem dX5_place_26 : decode cX5_place 26 = .ok (.aload_n 0, 1) := by decide +kernel
theorem dX5_place_27 : decode cX5_place 27 = .ok (.getfield 15, 3) := by decide +kernel
theorem dX5_place_30 : decode cX5_place 30 = .ok (.iload_n 3, 1) := by decide +kernel
theorem dX5_place_31 : decode cX5_place 31 = .ok (.iconst 1, 1) := by decide +kernel
theorem dX5_place_32 : decode cX5_place 32 = .ok (.isub, 1) := by decide +kernel
theorem dX5_place_33 : decode cX5_place 33 = .ok (.iaload, 1) := by decide +kernel
theorem dX5_place_34 : decode cX5_place 34 = .ok (.iastore, 1) := by decide +kernel
theorem dX5_place_35 : decode cX5_place 35 = .ok (.aload_n 0, 1) := by decide +kernel
theorem dX5_place_36 : decode cX5_place 36 = .ok (.getfield 18, 3) := by decide +kernel
theorem dX5_place_39 : decode cX5_place 39 = .ok (.iload_n 3, 1) := by decide +kernel
theorem dX5_place_40 : decode cX5_place 40 = .ok (.aload_n 0, 1) := by decide +kernel
theorem dX5_place_41 : decode cX5_place 41 = .ok (.getfield 18, 3) := by decide +kernel
theorem dX5_place_44 : decode cX5_place 44 = .ok (.iload_n 3, 1) := by decide +kernel
theorem dX5_place_45 : decode cX5_place 45 = .ok (.iconst 1, 1) := by decide +kernel
theorem dX5_place_46 : decode cX5_place 46 = .ok (.isub, 1) := by decide +kernel
theorem dX5_place_47 : decode cX5_place 47 = .ok (.iaload, 1) := by decide +kernel
theorem dX5_place_48 : decode cX5_place 48 = .ok (.iastore, 1) := by decide +kernel
theorem dX5_place_49 : decode cX5_place 49 = .ok (.iinc 3 (-1), 3) := by decide +kernel
theorem dX5_place_52 : decode cX5_place 52 = .ok (.goto (-47), 3) := by decide +kernel
theorem dX5_place_55 : decode cX5_place 55 = .ok (.aload_n 0, 1) := by decide +kernel
theorem dX5_place_56 : decode cX5_place 56 = .ok (.getfield 15, 3) := by decide +kernel
theorem dX5_place_59 : decode cX5_place 59 = .ok (.iload_n 3, 1) := by decide +kernel
theorem dX5_place_60 : decode cX5_place 60 = .ok (.iload_n 1, 1) := by decide +kernel
theorem dX5_place_61 : decode cX5_place 61 = .ok (.iastore, 1) := by decide +kernel
theorem dX5_place_62 : decode cX5_place 62 = .ok (.aload_n 0, 1) := by decide +kernel
theorem dX5_place_63 : decode cX5_place 63 = .ok (.getfield 18, 3) := by decide +kernel
theorem dX5_place_66 : decode cX5_place 66 = .ok (.iload_n 3, 1) := by decide +kernel
theorem dX5_place_67 : decode cX5_place 67 = .ok (.iload_n 2, 1) := by decide +kernel
theorem dX5_place_68 : decode cX5_place 68 = .ok (.iastore, 1) := by decide +kernel
theorem dX5_place_69 : decode cX5_place 69 = .ok (.aload_n 0, 1) := by decide +kernel
theorem dX5_place_70 : decode cX5_place 70 = .ok (.dup, 1) := by decide +kernel
theorem dX5_place_71 : decode cX5_place 71 = .ok (.getfield 29, 3) := by decide +kernel
theorem dX5_place_74 : decode cX5_place 74 = .ok (.iconst 1, 1) := by decide +kernel
theorem dX5_place_75 : decode cX5_place 75 = .ok (.iadd, 1) := by decide +kernel
theorem dX5_place_76 : decode cX5_place 76 = .ok (.putfield 29, 3) := by decide +kernel
theorem dX5_place_79 : decode cX5_place 79 = .ok (.return_, 1) := by decide +kernel
theorem dX5_rankedAt_0 : decode cX5_rankedAt 0 = .ok (.iload_n 1, 1) := by decide +kernel
theorem dX5_rankedAt_1 : decode cX5_rankedAt 1 = .ok (.ifCond .lt 20, 3) := by decide +kernel
theorem dX5_rankedAt_4 : decode cX5_rankedAt 4 = .ok (.iload_n 1, 1) := by decide +kernel
theorem dX5_rankedAt_5 : decode cX5_rankedAt 5 = .ok (.aload_n 0, 1) := by decide +kernel
theorem dX5_rankedAt_6 : decode cX5_rankedAt 6 = .ok (.getfield 29, 3) := by decide +kernel
theorem dX5_rankedAt_9 : decode cX5_rankedAt 9 = .ok (.if_icmp .ge 12, 3) := by decide +kernel
theorem dX5_rankedAt_12 : decode cX5_rankedAt 12 = .ok (.aload_n 0, 1) := by decide +kernel
theorem dX5_rankedAt_13 : decode cX5_rankedAt 13 = .ok (.getfield 15, 3) := by decide +kernel
theorem dX5_rankedAt_16 : decode cX5_rankedAt 16 = .ok (.iload_n 1, 1) := by decide +kernel
theorem dX5_rankedAt_17 : decode cX5_rankedAt 17 = .ok (.iaload, 1) := by decide +kernel
theorem dX5_rankedAt_18 : decode cX5_rankedAt 18 = .ok (.goto 5, 3) := by decide +kernel
theorem dX5_rankedAt_21 : decode cX5_rankedAt 21 = .ok (.bipush (-9), 2) := by decide +kernel
theorem dX5_rankedAt_23 : decode cX5_rankedAt 23 = .ok (.ireturn, 1) := by decide +kernel
theorem dX6_init_0 : decode cX6_init 0 = .ok (.aload_n 0, 1) := by decide +kernel
theorem dX6_init_1 : decode cX6_init 1 = .ok (.invokespecial 3, 3) := by decide +kernel
theorem dX6_init_4 : decode cX6_init 4 = .ok (.aload_n 0, 1) := by decide +kernel
theorem dX6_init_5 : decode cX6_init 5 = .ok (.ldc 11, 2) := by decide +kernel
theorem dX6_init_7 : decode cX6_init 7 = .ok (.invokevirtual 13, 3) := by decide +kernel
theorem dX6_init_10 : decode cX6_init 10 = .ok (.newarray .int, 2) := by decide +kernel
theorem dX6_init_12 : decode cX6_init 12 = .ok (.putfield 19, 3) := by decide +kernel
theorem dX6_init_15 : decode cX6_init 15 = .ok (.aload_n 0, 1) := by decide +kernel
theorem dX6_init_16 : decode cX6_init 16 = .ok (.bipush 60, 2) := by decide +kernel
theorem dX6_init_18 : decode cX6_init 18 = .ok (.newarray .byte, 2) := by decide +kernel
theorem dX6_init_20 : decode cX6_init 20 = .ok (.putfield 23, 3) := by decide +kernel
theorem dX6_init_23 : decode cX6_init 23 = .ok (.aload_n 0, 1) := by decide +kernel
theorem dX6_init_24 : decode cX6_init 24 = .ok (.bipush (-9), 2) := by decide +kernel
theorem dX6_init_26 : decode cX6_init 26 = .ok (.putfield 27, 3) := by decide +kernel
theorem dX6_init_29 : decode cX6_init 29 = .ok (.return_, 1) := by decide +kernel
theorem dX6_clearLetters_0 : decode cX6_clearLetters 0 = .ok (.aload_n 0, 1) := by decide +kernel
theorem dX6_clearLetters_1 : decode cX6_clearLetters 1 = .ok (.getfield 19, 3) := by decide +kernel
theorem dX6_clearLetters_4 : decode cX6_clearLetters 4 = .ok (.iconst 0, 1) := by decide +kernel
theorem dX6_clearLetters_5 : decode cX6_clearLetters 5 = .ok (.invokestatic 31, 3) := by decide +kernel
theorem dX6_clearLetters_8 : decode cX6_clearLetters 8 = .ok (.return_, 1) := by decide +kernel
theorem dX6_read_0 : decode cX6_read 0 = .ok (.aload_n 1, 1) := by decide +kernel
theorem dX6_read_1 : decode cX6_read 1 = .ok (.iload_n 2, 1) := by decide +kernel
theorem dX6_read_2 : decode cX6_read 2 = .ok (.aload_n 0, 1) := by decide +kernel
theorem dX6_read_3 : decode cX6_read 3 = .ok (.getfield 23, 3) := by decide +kernel
theorem dX6_read_6 : decode cX6_read 6 = .ok (.iconst 0, 1) := by decide +kernel
theorem dX6_read_7 : decode cX6_read 7 = .ok (.iload_n 3, 1) := by decide +kernel
theorem dX6_read_8 : decode cX6_read 8 = .ok (.invokestatic 37, 3) := by decide +kernel
theorem dX6_read_11 : decode cX6_read 11 = .ok (.aload_n 0, 1) := by decide +kernel
theorem dX6_read_12 : decode cX6_read 12 = .ok (.iload_n 3, 1) := by decide +kernel
theorem dX6_read_13 : decode cX6_read 13 = .ok (.putfield 43, 3) := by decide +kernel
theorem dX6_read_16 : decode cX6_read 16 = .ok (.aload_n 0, 1) := by decide +kernel
theorem dX6_read_17 : decode cX6_read 17 = .ok (.iconst 0, 1) := by decide +kernel
theorem dX6_read_18 : decode cX6_read 18 = .ok (.putfield 45, 3) := by decide +kernel
theorem dX6_read_21 : decode cX6_read 21 = .ok (.aload_n 0, 1) := by decide +kernel
theorem dX6_read_22 : decode cX6_read 22 = .ok (.bipush (-9), 2) := by decide +kernel
theorem dX6_read_24 : decode cX6_read 24 = .ok (.putfield 27, 3) := by decide +kernel
theorem dX6_read_27 : decode cX6_read 27 = .ok (.aload_n 0, 1) := by decide +kernel
theorem dX6_read_28 : decode cX6_read 28 = .ok (.iconst 0, 1) := by decide +kernel
theorem dX6_read_29 : decode cX6_read 29 = .ok (.invokevirtual 48, 3) := by decide +kernel
theorem dX6_read_32 : decode cX6_read 32 = .ok (.istore 4, 2) := by decide +kernel
theorem dX6_read_34 : decode cX6_read 34 = .ok (.aload_n 0, 1) := by decide +kernel
theorem dX6_read_35 : decode cX6_read 35 = .ok (.invokevirtual 52, 3) := by decide +kernel
theorem dX6_read_38 : decode cX6_read 38 = .ok (.ifCond .eq 22, 3) := by decide +kernel
theorem dX6_read_41 : decode cX6_read 41 = .ok (.aload_n 0, 1) := by decide +kernel
theorem dX6_read_42 : decode cX6_read 42 = .ok (.getfield 45, 3) := by decide +kernel
theorem dX6_read_45 : decode cX6_read 45 = .ok (.aload_n 0, 1) := by decide +kernel
theorem dX6_read_46 : decode cX6_read 46 = .ok (.getfield 43, 3) := by decide +kernel
theorem dX6_read_49 : decode cX6_read 49 = .ok (.if_icmp .ge 11, 3) := by decide +kernel
theorem dX6_read_52 : decode cX6_read 52 = .ok (.aload_n 0, 1) := by decide +kernel
theorem dX6_read_53 : decode cX6_read 53 = .ok (.aload_n 0, 1) := by decide +kernel
theorem dX6_read_54 : decode cX6_read 54 = .ok (.getfield 45, 3) := by decide +kernel
theorem dX6_read_57 : decode cX6_read 57 = .ok (.putfield 27, 3) := by decide +kernel
theorem dX6_read_60 : decode cX6_read 60 = .ok (.iload 4, 2) := by decide +kernel
theorem dX6_read_62 : decode cX6_read 62 = .ok (.ireturn, 1) := by decide +kernel
theorem dX6_sound_0 : decode cX6_sound 0 = .ok (.aload_n 0, 1) := by decide +kernel
theorem dX6_sound_1 : decode cX6_sound 1 = .ok (.getfield 27, 3) := by decide +kernel
theorem dX6_sound_4 : decode cX6_sound 4 = .ok (.bipush (-9), 2) := by decide +kernel
theorem dX6_sound_6 : decode cX6_sound 6 = .ok (.if_icmp .ne 7, 3) := by decide +kernel
theorem dX6_sound_9 : decode cX6_sound 9 = .ok (.iconst 1, 1) := by decide +kernel
theorem dX6_sound_10 : decode cX6_sound 10 = .ok (.goto 4, 3) := by decide +kernel
theorem dX6_sound_13 : decode cX6_sound 13 = .ok (.iconst 0, 1) := by decide +kernel
theorem dX6_sound_14 : decode cX6_sound 14 = .ok (.ireturn, 1) := by decide +kernel
theorem dX6_next_0 : decode cX6_next 0 = .ok (.aload_n 0, 1) := by decide +kernel
theorem dX6_next_1 : decode cX6_next 1 = .ok (.getfield 45, 3) := by decide +kernel
theorem dX6_next_4 : decode cX6_next 4 = .ok (.aload_n 0, 1) := by decide +kernel
theorem dX6_next_5 : decode cX6_next 5 = .ok (.getfield 43, 3) := by decide +kernel
theorem dX6_next_8 : decode cX6_next 8 = .ok (.if_icmp .ge 19, 3) := by decide +kernel
theorem dX6_next_11 : decode cX6_next 11 = .ok (.aload_n 0, 1) := by decide +kernel
theorem dX6_next_12 : decode cX6_next 12 = .ok (.getfield 23, 3) := by decide +kernel
theorem dX6_next_15 : decode cX6_next 15 = .ok (.aload_n 0, 1) := by decide +kernel
theorem dX6_next_16 : decode cX6_next 16 = .ok (.getfield 45, 3) := by decide +kernel
theorem dX6_next_19 : decode cX6_next 19 = .ok (.baload, 1) := by decide +kernel
theorem dX6_next_20 : decode cX6_next 20 = .ok (.sipush 255, 3) := by decide +kernel
theorem dX6_next_23 : decode cX6_next 23 = .ok (.iand, 1) := by decide +kernel
theorem dX6_next_24 : decode cX6_next 24 = .ok (.goto 4, 3) := by decide +kernel
theorem dX6_next_27 : decode cX6_next 27 = .ok (.iconst 0, 1) := by decide +kernel
theorem dX6_next_28 : decode cX6_next 28 = .ok (.ireturn, 1) := by decide +kernel
theorem dX6_failHere_0 : decode cX6_failHere 0 = .ok (.aload_n 0, 1) := by decide +kernel
theorem dX6_failHere_1 : decode cX6_failHere 1 = .ok (.aload_n 0, 1) := by decide +kernel
theorem dX6_failHere_2 : decode cX6_failHere 2 = .ok (.getfield 45, 3) := by decide +kernel
theorem dX6_failHere_5 : decode cX6_failHere 5 = .ok (.putfield 27, 3) := by decide +kernel
theorem dX6_failHere_8 : decode cX6_failHere 8 = .ok (.iconst 0, 1) := by decide +kernel
theorem dX6_failHere_9 : decode cX6_failHere 9 = .ok (.ireturn, 1) := by decide +kernel
theorem dX6_held_0 : decode cX6_held 0 = .ok (.ldc2_w 56, 3) := by decide +kernel
theorem dX6_held_3 : decode cX6_held 3 = .ok (.ldc2_w 58, 3) := by decide +kernel
theorem dX6_held_6 : decode cX6_held 6 = .ok (.lload_n 0, 1) := by decide +kernel
theorem dX6_held_7 : decode cX6_held 7 = .ok (.invokestatic 60, 3) := by decide +kernel
theorem dX6_held_10 : decode cX6_held 10 = .ok (.invokestatic 66, 3) := by decide +kernel
theorem dX6_held_13 : decode cX6_held 13 = .ok (.l2i, 1) := by decide +kernel
theorem dX6_held_14 : decode cX6_held 14 = .ok (.ireturn, 1) := by decide +kernel
theorem dX6_readSum_0 : decode cX6_readSum 0 = .ok (.aload_n 0, 1) := by decide +kernel
theorem dX6_readSum_1 : decode cX6_readSum 1 = .ok (.iload_n 1, 1) := by decide +kernel
theorem dX6_readSum_2 : decode cX6_readSum 2 = .ok (.invokevirtual 69, 3) := by decide +kernel
theorem dX6_readSum_5 : decode cX6_readSum 5 = .ok (.istore_n 2, 1) := by decide +kernel
theorem dX6_readSum_6 : decode cX6_readSum 6 = .ok (.iconst 0, 1) := by decide +kernel
theorem dX6_readSum_7 : decode cX6_readSum 7 = .ok (.istore_n 3, 1) := by decide +kernel
theorem dX6_readSum_8 : decode cX6_readSum 8 = .ok (.iload_n 3, 1) := by decide +kernel
theorem dX6_readSum_9 : decode cX6_readSum 9 = .ok (.bipush 60, 2) := by decide +kernel
theorem dX6_readSum_11 : decode cX6_readSum 11 = .ok (.if_icmp .ge 81, 3) := by decide +kernel
theorem dX6_readSum_14 : decode cX6_readSum 14 = .ok (.aload_n 0, 1) := by decide +kernel
theorem dX6_readSum_15 : decode cX6_readSum 15 = .ok (.invokevirtual 52, 3) := by decide +kernel
theorem dX6_readSum_18 : decode cX6_readSum 18 = .ok (.ifCond .eq 74, 3) := by decide +kernel
theorem dX6_readSum_21 : decode cX6_readSum 21 = .ok (.aload_n 0, 1) := by decide +kernel
theorem dX6_readSum_22 : decode cX6_readSum 22 = .ok (.invokevirtual 72, 3) := by decide +kernel
theorem dX6_readSum_25 : decode cX6_readSum 25 = .ok (.istore 4, 2) := by decide +kernel
theorem dX6_readSum_27 : decode cX6_readSum 27 = .ok (.iload 4, 2) := by decide +kernel
theorem dX6_readSum_29 : decode cX6_readSum 29 = .ok (.bipush 43, 2) := by decide +kernel
theorem dX6_readSum_31 : decode cX6_readSum 31 = .ok (.if_icmp .eq 13, 3) := by decide +kernel
theorem dX6_readSum_34 : decode cX6_readSum 34 = .ok (.iload 4, 2) := by decide +kernel
theorem dX6_readSum_36 : decode cX6_readSum 36 = .ok (.bipush 45, 2) := by decide +kernel
theorem dX6_readSum_38 : decode cX6_readSum 38 = .ok (.if_icmp .eq 6, 3) := by decide +kernel
theorem dX6_readSum_41 : decode cX6_readSum 41 = .ok (.goto 51, 3) := by decide +kernel
theorem dX6_readSum_44 : decode cX6_readSum 44 = .ok (.aload_n 0, 1) := by decide +kernel
theorem dX6_readSum_45 : decode cX6_readSum 45 = .ok (.dup, 1) := by decide +kernel
theorem dX6_readSum_46 : decode cX6_readSum 46 = .ok (.getfield 45, 3) := by decide +kernel
theorem dX6_readSum_49 : decode cX6_readSum 49 = .ok (.iconst 1, 1) := by decide +kernel
theorem dX6_readSum_50 : decode cX6_readSum 50 = .ok (.iadd, 1) := by decide +kernel
theorem dX6_readSum_51 : decode cX6_readSum 51 = .ok (.putfield 45, 3) := by decide +kernel
theorem dX6_readSum_54 : decode cX6_readSum 54 = .ok (.aload_n 0, 1) := by decide +kernel
theorem dX6_readSum_55 : decode cX6_readSum 55 = .ok (.iload_n 1, 1) := by decide +kernel
theorem dX6_readSum_56 : decode cX6_readSum 56 = .ok (.invokevirtual 69, 3) := by decide +kernel
theorem dX6_readSum_59 : decode cX6_readSum 59 = .ok (.i2l, 1) := by decide +kernel
theorem dX6_readSum_60 : decode cX6_readSum 60 = .ok (.lstore 5, 2) := by decide +kernel
theorem dX6_readSum_62 : decode cX6_readSum 62 = .ok (.iload 4, 2) := by decide +kernel
theorem dX6_readSum_64 : decode cX6_readSum 64 = .ok (.bipush 43, 2) := by decide +kernel
theorem dX6_readSum_66 : decode cX6_readSum 66 = .ok (.if_icmp .ne 11, 3) := by decide +kernel
theorem dX6_readSum_69 : decode cX6_readSum 69 = .ok (.iload_n 2, 1) := by decide +kernel
theorem dX6_readSum_70 : decode cX6_readSum 70 = .ok (.i2l, 1) := by decide +kernel
theorem dX6_readSum_71 : decode cX6_readSum 71 = .ok (.lload 5, 2) := by decide +kernel
theorem dX6_readSum_73 : decode cX6_readSum 73 = .ok (.ladd, 1) := by decide +kernel
theorem dX6_readSum_74 : decode cX6_readSum 74 = .ok (.goto 8, 3) := by decide +kernel
theorem dX6_readSum_77 : decode cX6_readSum 77 = .ok (.iload_n 2, 1) := by decide +kernel
theorem dX6_readSum_78 : decode cX6_readSum 78 = .ok (.i2l, 1) := by decide +kernel
theorem dX6_readSum_79 : decode cX6_readSum 79 = .ok (.lload 5, 2) := by decide +kernel
theorem dX6_readSum_81 : decode cX6_readSum 81 = .ok (.lsub, 1) := by decide +kernel
theorem dX6_readSum_82 : decode cX6_readSum 82 = .ok (.invokestatic 75, 3) := by decide +kernel
theorem dX6_readSum_85 : decode cX6_readSum 85 = .ok (.istore_n 2, 1) := by decide +kernel
theorem dX6_readSum_86 : decode cX6_readSum 86 = .ok (.iinc 3 1, 3) := by decide +kernel
theorem dX6_readSum_89 : decode cX6_readSum 89 = .ok (.goto (-81), 3) := by decide +kernel
theorem dX6_readSum_92 : decode cX6_readSum 92 = .ok (.iload_n 2, 1) := by decide +kernel
theorem dX6_readSum_93 : decode cX6_readSum 93 = .ok (.ireturn, 1) := by decide +kernel
theorem dX6_readTerm_0 : decode cX6_readTerm 0 = .ok (.aload_n 0, 1) := by decide +kernel
theorem dX6_readTerm_1 : decode cX6_readTerm 1 = .ok (.iload_n 1, 1) := by decide +kernel
theorem dX6_readTerm_2 : decode cX6_readTerm 2 = .ok (.invokevirtual 79, 3) := by decide +kernel
theorem dX6_readTerm_5 : decode cX6_readTerm 5 = .ok (.istore_n 2, 1) := by decide +kernel
theorem dX6_readTerm_6 : decode cX6_readTerm 6 = .ok (.iconst 0, 1) := by decide +kernel
theorem dX6_readTerm_7 : decode cX6_readTerm 7 = .ok (.istore_n 3, 1) := by decide +kernel
theorem dX6_readTerm_8 : decode cX6_readTerm 8 = .ok (.iload_n 3, 1) := by decide +kernel
theorem dX6_readTerm_9 : decode cX6_readTerm 9 = .ok (.bipush 60, 2) := by decide +kernel
theorem dX6_readTerm_11 : decode cX6_readTerm 11 = .ok (.if_icmp .ge 83, 3) := by decide +kernel
theorem dX6_readTerm_14 : decode cX6_readTerm 14 = .ok (.aload_n 0, 1) := by decide +kernel
theorem dX6_readTerm_15 : decode cX6_readTerm 15 = .ok (.invokevirtual 52, 3) := by decide +kernel
theorem dX6_readTerm_18 : decode cX6_readTerm 18 = .ok (.ifCond .eq 76, 3) := by decide +kernel
theorem dX6_readTerm_21 : decode cX6_readTerm 21 = .ok (.aload_n 0, 1) := by decide +kernel
theorem dX6_readTerm_22 : decode cX6_readTerm 22 = .ok (.invokevirtual 72, 3) := by decide +kernel
theorem dX6_readTerm_25 : decode cX6_readTerm 25 = .ok (.istore 4, 2) := by decide +kernel
theorem dX6_readTerm_27 : decode cX6_readTerm 27 = .ok (.iload 4, 2) := by decide +kernel
theorem dX6_readTerm_29 : decode cX6_readTerm 29 = .ok (.bipush 42, 2) := by decide +kernel
theorem dX6_readTerm_31 : decode cX6_readTerm 31 = .ok (.if_icmp .eq 13, 3) := by decide +kernel
theorem dX6_readTerm_34 : decode cX6_readTerm 34 = .ok (.iload 4, 2) := by decide +kernel
theorem dX6_readTerm_36 : decode cX6_readTerm 36 = .ok (.bipush 47, 2) := by decide +kernel
theorem dX6_readTerm_38 : decode cX6_readTerm 38 = .ok (.if_icmp .eq 6, 3) := by decide +kernel
theorem dX6_readTerm_41 : decode cX6_readTerm 41 = .ok (.goto 53, 3) := by decide +kernel
theorem dX6_readTerm_44 : decode cX6_readTerm 44 = .ok (.aload_n 0, 1) := by decide +kernel
theorem dX6_readTerm_45 : decode cX6_readTerm 45 = .ok (.dup, 1) := by decide +kernel
theorem dX6_readTerm_46 : decode cX6_readTerm 46 = .ok (.getfield 45, 3) := by decide +kernel
theorem dX6_readTerm_49 : decode cX6_readTerm 49 = .ok (.iconst 1, 1) := by decide +kernel
theorem dX6_readTerm_50 : decode cX6_readTerm 50 = .ok (.iadd, 1) := by decide +kernel
theorem dX6_readTerm_51 : decode cX6_readTerm 51 = .ok (.putfield 45, 3) := by decide +kernel
theorem dX6_readTerm_54 : decode cX6_readTerm 54 = .ok (.aload_n 0, 1) := by decide +kernel
theorem dX6_readTerm_55 : decode cX6_readTerm 55 = .ok (.iload_n 1, 1) := by decide +kernel
theorem dX6_readTerm_56 : decode cX6_readTerm 56 = .ok (.invokevirtual 79, 3) := by decide +kernel
theorem dX6_readTerm_59 : decode cX6_readTerm 59 = .ok (.i2l, 1) := by decide +kernel
theorem dX6_readTerm_60 : decode cX6_readTerm 60 = .ok (.lstore 5, 2) := by decide +kernel
theorem dX6_readTerm_62 : decode cX6_readTerm 62 = .ok (.iload 4, 2) := by decide +kernel
theorem dX6_readTerm_64 : decode cX6_readTerm 64 = .ok (.bipush 42, 2) := by decide +kernel
theorem dX6_readTerm_66 : decode cX6_readTerm 66 = .ok (.if_icmp .ne 11, 3) := by decide +kernel
theorem dX6_readTerm_69 : decode cX6_readTerm 69 = .ok (.iload_n 2, 1) := by decide +kernel
theorem dX6_readTerm_70 : decode cX6_readTerm 70 = .ok (.i2l, 1) := by decide +kernel
theorem dX6_readTerm_71 : decode cX6_readTerm 71 = .ok (.lload 5, 2) := by decide +kernel
theorem dX6_readTerm_73 : decode cX6_readTerm 73 = .ok (.lmul, 1) := by decide +kernel
theorem dX6_readTerm_74 : decode cX6_readTerm 74 = .ok (.goto 10, 3) := by decide +kernel
theorem dX6_readTerm_77 : decode cX6_readTerm 77 = .ok (.iload_n 2, 1) := by decide +kernel
theorem dX6_readTerm_78 : decode cX6_readTerm 78 = .ok (.i2l, 1) := by decide +kernel
theorem dX6_readTerm_79 : decode cX6_readTerm 79 = .ok (.lload 5, 2) := by decide +kernel
theorem dX6_readTerm_81 : decode cX6_readTerm 81 = .ok (.invokestatic 82, 3) := by decide +kernel
theorem dX6_readTerm_84 : decode cX6_readTerm 84 = .ok (.invokestatic 75, 3) := by decide +kernel
theorem dX6_readTerm_87 : decode cX6_readTerm 87 = .ok (.istore_n 2, 1) := by decide +kernel
theorem dX6_readTerm_88 : decode cX6_readTerm 88 = .ok (.iinc 3 1, 3) := by decide +kernel
theorem dX6_readTerm_91 : decode cX6_readTerm 91 = .ok (.goto (-83), 3) := by decide +kernel
theorem dX6_readTerm_94 : decode cX6_readTerm 94 = .ok (.iload_n 2, 1) := by decide +kernel
theorem dX6_readTerm_95 : decode cX6_readTerm 95 = .ok (.ireturn, 1) := by decide +kernel
theorem dX6_divided_0 : decode cX6_divided 0 = .ok (.lload_n 2, 1) := by decide +kernel
theorem dX6_divided_1 : decode cX6_divided 1 = .ok (.lconst 0, 1) := by decide +kernel
theorem dX6_divided_2 : decode cX6_divided 2 = .ok (.lcmp, 1) := by decide +kernel
theorem dX6_divided_3 : decode cX6_divided 3 = .ok (.ifCond .ne 7, 3) := by decide +kernel
theorem dX6_divided_6 : decode cX6_divided 6 = .ok (.lconst 0, 1) := by decide +kernel
theorem dX6_divided_7 : decode cX6_divided 7 = .ok (.goto 6, 3) := by decide +kernel
theorem dX6_divided_10 : decode cX6_divided 10 = .ok (.lload_n 0, 1) := by decide +kernel
theorem dX6_divided_11 : decode cX6_divided 11 = .ok (.lload_n 2, 1) := by decide +kernel
theorem dX6_divided_12 : decode cX6_divided 12 = .ok (.ldiv, 1) := by decide +kernel
theorem dX6_divided_13 : decode cX6_divided 13 = .ok (.lreturn, 1) := by decide +kernel
theorem dX6_readUnit_0 : decode cX6_readUnit 0 = .ok (.aload_n 0, 1) := by decide +kernel
theorem dX6_readUnit_1 : decode cX6_readUnit 1 = .ok (.invokevirtual 72, 3) := by decide +kernel
theorem dX6_readUnit_4 : decode cX6_readUnit 4 = .ok (.istore_n 2, 1) := by decide +kernel
theorem dX6_readUnit_5 : decode cX6_readUnit 5 = .ok (.iload_n 2, 1) := by decide +kernel
theorem dX6_readUnit_6 : decode cX6_readUnit 6 = .ok (.bipush 40, 2) := by decide +kernel
theorem dX6_readUnit_8 : decode cX6_readUnit 8 = .ok (.if_icmp .ne 11, 3) := by decide +kernel
theorem dX6_readUnit_11 : decode cX6_readUnit 11 = .ok (.aload_n 0, 1) := by decide +kernel
theorem dX6_readUnit_12 : decode cX6_readUnit 12 = .ok (.iload_n 1, 1) := by decide +kernel
theorem dX6_readUnit_13 : decode cX6_readUnit 13 = .ok (.iconst 1, 1) := by decide +kernel
theorem dX6_readUnit_14 : decode cX6_readUnit 14 = .ok (.iadd, 1) := by decide +kernel
theorem dX6_readUnit_15 : decode cX6_readUnit 15 = .ok (.invokevirtual 85, 3) := by decide +kernel
theorem dX6_readUnit_18 : decode cX6_readUnit 18 = .ok (.ireturn, 1) := by decide +kernel
theorem dX6_readUnit_19 : decode cX6_readUnit 19 = .ok (.iload_n 2, 1) := by decide +kernel
theorem dX6_readUnit_20 : decode cX6_readUnit 20 = .ok (.invokestatic 88, 3) := by decide +kernel
theorem dX6_readUnit_23 : decode cX6_readUnit 23 = .ok (.ifCond .eq 8, 3) := by decide +kernel
theorem dX6_readUnit_26 : decode cX6_readUnit 26 = .ok (.aload_n 0, 1) := by decide +kernel
theorem dX6_readUnit_27 : decode cX6_readUnit 27 = .ok (.invokevirtual 92, 3) := by decide +kernel
theorem dX6_readUnit_30 : decode cX6_readUnit 30 = .ok (.ireturn, 1) := by decide +kernel
theorem dX6_readUnit_31 : decode cX6_readUnit 31 = .ok (.ldc 11, 2) := by decide +kernel
theorem dX6_readUnit_33 : decode cX6_readUnit 33 = .ok (.iload_n 2, 1) := by decide +kernel
theorem dX6_readUnit_34 : decode cX6_readUnit 34 = .ok (.i2c, 1) := by decide +kernel
theorem dX6_readUnit_35 : decode cX6_readUnit 35 = .ok (.invokevirtual 95, 3) := by decide +kernel
theorem dX6_readUnit_38 : decode cX6_readUnit 38 = .ok (.istore_n 3, 1) := by decide +kernel
theorem dX6_readUnit_39 : decode cX6_readUnit 39 = .ok (.iload_n 3, 1) := by decide +kernel
theorem dX6_readUnit_40 : decode cX6_readUnit 40 = .ok (.ifCond .lt 12, 3) := by decide +kernel
theorem dX6_readUnit_43 : decode cX6_readUnit 43 = .ok (.iload_n 3, 1) := by decide +kernel
theorem dX6_readUnit_44 : decode cX6_readUnit 44 = .ok (.aload_n 0, 1) := by decide +kernel
theorem dX6_readUnit_45 : decode cX6_readUnit 45 = .ok (.getfield 19, 3) := by decide +kernel
theorem dX6_readUnit_48 : decode cX6_readUnit 48 = .ok (.arraylength, 1) := by decide +kernel
theorem dX6_readUnit_49 : decode cX6_readUnit 49 = .ok (.if_icmp .lt 8, 3) := by decide +kernel
theorem dX6_readUnit_52 : decode cX6_readUnit 52 = .ok (.aload_n 0, 1) := by decide +kernel
theorem dX6_readUnit_53 : decode cX6_readUnit 53 = .ok (.invokevirtual 98, 3) := by decide +kernel
theorem dX6_readUnit_56 : decode cX6_readUnit 56 = .ok (.ireturn, 1) := by decide +kernel
theorem dX6_readUnit_57 : decode cX6_readUnit 57 = .ok (.aload_n 0, 1) := by decide +kernel
theorem dX6_readUnit_58 : decode cX6_readUnit 58 = .ok (.dup, 1) := by decide +kernel
theorem dX6_readUnit_59 : decode cX6_readUnit 59 = .ok (.getfield 45, 3) := by decide +kernel
theorem dX6_readUnit_62 : decode cX6_readUnit 62 = .ok (.iconst 1, 1) := by decide +kernel
theorem dX6_readUnit_63 : decode cX6_readUnit 63 = .ok (.iadd, 1) := by decide +kernel
theorem dX6_readUnit_64 : decode cX6_readUnit 64 = .ok (.putfield 45, 3) := by decide +kernel
theorem dX6_readUnit_67 : decode cX6_readUnit 67 = .ok (.aload_n 0, 1) := by decide +kernel
theorem dX6_readUnit_68 : decode cX6_readUnit 68 = .ok (.getfield 19, 3) := by decide +kernel
theorem dX6_readUnit_71 : decode cX6_readUnit 71 = .ok (.iload_n 3, 1) := by decide +kernel
theorem dX6_readUnit_72 : decode cX6_readUnit 72 = .ok (.iaload, 1) := by decide +kernel
theorem dX6_readUnit_73 : decode cX6_readUnit 73 = .ok (.ireturn, 1) := by decide +kernel
theorem dX6_isDigit_0 : decode cX6_isDigit 0 = .ok (.iload_n 0, 1) := by decide +kernel
theorem dX6_isDigit_1 : decode cX6_isDigit 1 = .ok (.bipush 48, 2) := by decide +kernel
theorem dX6_isDigit_3 : decode cX6_isDigit 3 = .ok (.if_icmp .lt 13, 3) := by decide +kernel
theorem dX6_isDigit_6 : decode cX6_isDigit 6 = .ok (.iload_n 0, 1) := by decide +kernel
theorem dX6_isDigit_7 : decode cX6_isDigit 7 = .ok (.bipush 57, 2) := by decide +kernel
theorem dX6_isDigit_9 : decode cX6_isDigit 9 = .ok (.if_icmp .gt 7, 3) := by decide +kernel
theorem dX6_isDigit_12 : decode cX6_isDigit 12 = .ok (.iconst 1, 1) := by decide +kernel
theorem dX6_isDigit_13 : decode cX6_isDigit 13 = .ok (.goto 4, 3) := by decide +kernel
theorem dX6_isDigit_16 : decode cX6_isDigit 16 = .ok (.iconst 0, 1) := by decide +kernel
theorem dX6_isDigit_17 : decode cX6_isDigit 17 = .ok (.ireturn, 1) := by decide +kernel
theorem dX6_readNumber_0 : decode cX6_readNumber 0 = .ok (.iconst 0, 1) := by decide +kernel
theorem dX6_readNumber_1 : decode cX6_readNumber 1 = .ok (.istore_n 1, 1) := by decide +kernel
theorem dX6_readNumber_2 : decode cX6_readNumber 2 = .ok (.iconst 0, 1) := by decide +kernel
theorem dX6_readNumber_3 : decode cX6_readNumber 3 = .ok (.istore_n 2, 1) := by decide +kernel
theorem dX6_readNumber_4 : decode cX6_readNumber 4 = .ok (.iload_n 2, 1) := by decide +kernel
theorem dX6_readNumber_5 : decode cX6_readNumber 5 = .ok (.iconst 4, 1) := by decide +kernel
theorem dX6_readNumber_6 : decode cX6_readNumber 6 = .ok (.if_icmp .ge 42, 3) := by decide +kernel
theorem dX6_readNumber_9 : decode cX6_readNumber 9 = .ok (.aload_n 0, 1) := by decide +kernel
theorem dX6_readNumber_10 : decode cX6_readNumber 10 = .ok (.invokevirtual 72, 3) := by decide +kernel
theorem dX6_readNumber_13 : decode cX6_readNumber 13 = .ok (.invokestatic 88, 3) := by decide +kernel
theorem dX6_readNumber_16 : decode cX6_readNumber 16 = .ok (.ifCond .eq 32, 3) := by decide +kernel
theorem dX6_readNumber_19 : decode cX6_readNumber 19 = .ok (.bipush 10, 2) := by decide +kernel
theorem dX6_readNumber_21 : decode cX6_readNumber 21 = .ok (.iload_n 1, 1) := by decide +kernel
theorem dX6_readNumber_22 : decode cX6_readNumber 22 = .ok (.imul, 1) := by decide +kernel
theorem dX6_readNumber_23 : decode cX6_readNumber 23 = .ok (.aload_n 0, 1) := by decide +kernel
theorem dX6_readNumber_24 : decode cX6_readNumber 24 = .ok (.invokevirtual 72, 3) := by decide +kernel
theorem dX6_readNumber_27 : decode cX6_readNumber 27 = .ok (.iadd, 1) := by decide +kernel
theorem dX6_readNumber_28 : decode cX6_readNumber 28 = .ok (.bipush 48, 2) := by decide +kernel
theorem dX6_readNumber_30 : decode cX6_readNumber 30 = .ok (.isub, 1) := by decide +kernel
theorem dX6_readNumber_31 : decode cX6_readNumber 31 = .ok (.istore_n 1, 1) := by decide +kernel
theorem dX6_readNumber_32 : decode cX6_readNumber 32 = .ok (.aload_n 0, 1) := by decide +kernel
theorem dX6_readNumber_33 : decode cX6_readNumber 33 = .ok (.dup, 1) := by decide +kernel
theorem dX6_readNumber_34 : decode cX6_readNumber 34 = .ok (.getfield 45, 3) := by decide +kernel
theorem dX6_readNumber_37 : decode cX6_readNumber 37 = .ok (.iconst 1, 1) := by decide +kernel
theorem dX6_readNumber_38 : decode cX6_readNumber 38 = .ok (.iadd, 1) := by decide +kernel
theorem dX6_readNumber_39 : decode cX6_readNumber 39 = .ok (.putfield 45, 3) := by decide +kernel
theorem dX6_readNumber_42 : decode cX6_readNumber 42 = .ok (.iinc 2 1, 3) := by decide +kernel
theorem dX6_readNumber_45 : decode cX6_readNumber 45 = .ok (.goto (-41), 3) := by decide +kernel
theorem dX6_readNumber_48 : decode cX6_readNumber 48 = .ok (.iload_n 1, 1) := by decide +kernel
theorem dX6_readNumber_49 : decode cX6_readNumber 49 = .ok (.ireturn, 1) := by decide +kernel
theorem dX6_readBracket_0 : decode cX6_readBracket 0 = .ok (.iload_n 1, 1) := by decide +kernel
theorem dX6_readBracket_1 : decode cX6_readBracket 1 = .ok (.iconst 5, 1) := by decide +kernel
theorem dX6_readBracket_2 : decode cX6_readBracket 2 = .ok (.if_icmp .le 8, 3) := by decide +kernel
theorem dX6_readBracket_5 : decode cX6_readBracket 5 = .ok (.aload_n 0, 1) := by decide +kernel
theorem dX6_readBracket_6 : decode cX6_readBracket 6 = .ok (.invokevirtual 98, 3) := by decide +kernel
theorem dX6_readBracket_9 : decode cX6_readBracket 9 = .ok (.ireturn, 1) := by decide +kernel
theorem dX6_readBracket_10 : decode cX6_readBracket 10 = .ok (.aload_n 0, 1) := by decide +kernel
theorem dX6_readBracket_11 : decode cX6_readBracket 11 = .ok (.dup, 1) := by decide +kernel
theorem dX6_readBracket_12 : decode cX6_readBracket 12 = .ok (.getfield 45, 3) := by decide +kernel
theorem dX6_readBracket_15 : decode cX6_readBracket 15 = .ok (.iconst 1, 1) := by decide +kernel
theorem dX6_readBracket_16 : decode cX6_readBracket 16 = .ok (.iadd, 1) := by decide +kernel
theorem dX6_readBracket_17 : decode cX6_readBracket 17 = .ok (.putfield 45, 3) := by decide +kernel
theorem dX6_readBracket_20 : decode cX6_readBracket 20 = .ok (.aload_n 0, 1) := by decide +kernel
theorem dX6_readBracket_21 : decode cX6_readBracket 21 = .ok (.iload_n 1, 1) := by decide +kernel
theorem dX6_readBracket_22 : decode cX6_readBracket 22 = .ok (.invokevirtual 48, 3) := by decide +kernel
theorem dX6_readBracket_25 : decode cX6_readBracket 25 = .ok (.istore_n 2, 1) := by decide +kernel
theorem dX6_readBracket_26 : decode cX6_readBracket 26 = .ok (.aload_n 0, 1) := by decide +kernel
theorem dX6_readBracket_27 : decode cX6_readBracket 27 = .ok (.invokevirtual 72, 3) := by decide +kernel
theorem dX6_readBracket_30 : decode cX6_readBracket 30 = .ok (.istore_n 3, 1) := by decide +kernel
theorem dX6_readBracket_31 : decode cX6_readBracket 31 = .ok (.aload_n 0, 1) := by decide +kernel
theorem dX6_readBracket_32 : decode cX6_readBracket 32 = .ok (.invokevirtual 52, 3) := by decide +kernel
theorem dX6_readBracket_35 : decode cX6_readBracket 35 = .ok (.ifCond .eq 42, 3) := by decide +kernel
theorem dX6_readBracket_38 : decode cX6_readBracket 38 = .ok (.iload_n 3, 1) := by decide +kernel
theorem dX6_readBracket_39 : decode cX6_readBracket 39 = .ok (.bipush 60, 2) := by decide +kernel
theorem dX6_readBracket_41 : decode cX6_readBracket 41 = .ok (.if_icmp .eq 15, 3) := by decide +kernel
theorem dX6_readBracket_44 : decode cX6_readBracket 44 = .ok (.iload_n 3, 1) := by decide +kernel
theorem dX6_readBracket_45 : decode cX6_readBracket 45 = .ok (.bipush 61, 2) := by decide +kernel
theorem dX6_readBracket_47 : decode cX6_readBracket 47 = .ok (.if_icmp .eq 9, 3) := by decide +kernel
theorem dX6_readBracket_50 : decode cX6_readBracket 50 = .ok (.iload_n 3, 1) := by decide +kernel
theorem dX6_readBracket_51 : decode cX6_readBracket 51 = .ok (.bipush 62, 2) := by decide +kernel
theorem dX6_readBracket_53 : decode cX6_readBracket 53 = .ok (.if_icmp .ne 24, 3) := by decide +kernel
theorem dX6_readBracket_56 : decode cX6_readBracket 56 = .ok (.aload_n 0, 1) := by decide +kernel
theorem dX6_readBracket_57 : decode cX6_readBracket 57 = .ok (.dup, 1) := by decide +kernel
theorem dX6_readBracket_58 : decode cX6_readBracket 58 = .ok (.getfield 45, 3) := by decide +kernel
theorem dX6_readBracket_61 : decode cX6_readBracket 61 = .ok (.iconst 1, 1) := by decide +kernel
theorem dX6_readBracket_62 : decode cX6_readBracket 62 = .ok (.iadd, 1) := by decide +kernel
theorem dX6_readBracket_63 : decode cX6_readBracket 63 = .ok (.putfield 45, 3) := by decide +kernel
theorem dX6_readBracket_66 : decode cX6_readBracket 66 = .ok (.iload_n 3, 1) := by decide +kernel
theorem dX6_readBracket_67 : decode cX6_readBracket 67 = .ok (.iload_n 2, 1) := by decide +kernel
theorem dX6_readBracket_68 : decode cX6_readBracket 68 = .ok (.aload_n 0, 1) := by decide +kernel
theorem dX6_readBracket_69 : decode cX6_readBracket 69 = .ok (.iload_n 1, 1) := by decide +kernel
theorem dX6_readBracket_70 : decode cX6_readBracket 70 = .ok (.invokevirtual 48, 3) := by decide +kernel
theorem dX6_readBracket_73 : decode cX6_readBracket 73 = .ok (.invokestatic 101, 3) := by decide +kernel
theorem dX6_readBracket_76 : decode cX6_readBracket 76 = .ok (.istore_n 2, 1) := by decide +kernel
theorem dX6_readBracket_77 : decode cX6_readBracket 77 = .ok (.aload_n 0, 1) := by decide +kernel
theorem dX6_readBracket_78 : decode cX6_readBracket 78 = .ok (.invokevirtual 52, 3) := by decide +kernel
theorem dX6_readBracket_81 : decode cX6_readBracket 81 = .ok (.ifCond .ne 5, 3) := by decide +kernel
theorem dX6_readBracket_84 : decode cX6_readBracket 84 = .ok (.iconst 0, 1) := by decide +kernel
theorem dX6_readBracket_85 : decode cX6_readBracket 85 = .ok (.ireturn, 1) := by decide +kernel
theorem dX6_readBracket_86 : decode cX6_readBracket 86 = .ok (.aload_n 0, 1) := by decide +kernel
theorem dX6_readBracket_87 : decode cX6_readBracket 87 = .ok (.invokevirtual 72, 3) := by decide +kernel
theorem dX6_readBracket_90 : decode cX6_readBracket 90 = .ok (.bipush 41, 2) := by decide +kernel
theorem dX6_readBracket_92 : decode cX6_readBracket 92 = .ok (.if_icmp .eq 8, 3) := by decide +kernel
theorem dX6_readBracket_95 : decode cX6_readBracket 95 = .ok (.aload_n 0, 1) := by decide +kernel
theorem dX6_readBracket_96 : decode cX6_readBracket 96 = .ok (.invokevirtual 98, 3) := by decide +kernel
theorem dX6_readBracket_99 : decode cX6_readBracket 99 = .ok (.ireturn, 1) := by decide +kernel
theorem dX6_readBracket_100 : decode cX6_readBracket 100 = .ok (.aload_n 0, 1) := by decide +kernel
theorem dX6_readBracket_101 : decode cX6_readBracket 101 = .ok (.dup, 1) := by decide +kernel
theorem dX6_readBracket_102 : decode cX6_readBracket 102 = .ok (.getfield 45, 3) := by decide +kernel
theorem dX6_readBracket_105 : decode cX6_readBracket 105 = .ok (.iconst 1, 1) := by decide +kernel
theorem dX6_readBracket_106 : decode cX6_readBracket 106 = .ok (.iadd, 1) := by decide +kernel
theorem dX6_readBracket_107 : decode cX6_readBracket 107 = .ok (.putfield 45, 3) := by decide +kernel
theorem dX6_readBracket_110 : decode cX6_readBracket 110 = .ok (.iload_n 2, 1) := by decide +kernel
theorem dX6_readBracket_111 : decode cX6_readBracket 111 = .ok (.ireturn, 1) := by decide +kernel
theorem dX6_compared_0 : decode cX6_compared 0 = .ok (.iload_n 0, 1) := by decide +kernel
theorem dX6_compared_1 : decode cX6_compared 1 = .ok (.bipush 60, 2) := by decide +kernel
theorem dX6_compared_3 : decode cX6_compared 3 = .ok (.if_icmp .ne 16, 3) := by decide +kernel
theorem dX6_compared_6 : decode cX6_compared 6 = .ok (.iload_n 1, 1) := by decide +kernel
theorem dX6_compared_7 : decode cX6_compared 7 = .ok (.iload_n 2, 1) := by decide +kernel
theorem dX6_compared_8 : decode cX6_compared 8 = .ok (.if_icmp .ge 7, 3) := by decide +kernel
theorem dX6_compared_11 : decode cX6_compared 11 = .ok (.iconst 1, 1) := by decide +kernel
theorem dX6_compared_12 : decode cX6_compared 12 = .ok (.goto 36, 3) := by decide +kernel
theorem dX6_compared_15 : decode cX6_compared 15 = .ok (.iconst 0, 1) := by decide +kernel
theorem dX6_compared_16 : decode cX6_compared 16 = .ok (.goto 32, 3) := by decide +kernel
theorem dX6_compared_19 : decode cX6_compared 19 = .ok (.iload_n 0, 1) := by decide +kernel
theorem dX6_compared_20 : decode cX6_compared 20 = .ok (.bipush 61, 2) := by decide +kernel
theorem dX6_compared_22 : decode cX6_compared 22 = .ok (.if_icmp .ne 16, 3) := by decide +kernel
theorem dX6_compared_25 : decode cX6_compared 25 = .ok (.iload_n 1, 1) := by decide +kernel
theorem dX6_compared_26 : decode cX6_compared 26 = .ok (.iload_n 2, 1) := by decide +kernel
theorem dX6_compared_27 : decode cX6_compared 27 = .ok (.if_icmp .ne 7, 3) := by decide +kernel
theorem dX6_compared_30 : decode cX6_compared 30 = .ok (.iconst 1, 1) := by decide +kernel
theorem dX6_compared_31 : decode cX6_compared 31 = .ok (.goto 17, 3) := by decide +kernel
theorem dX6_compared_34 : decode cX6_compared 34 = .ok (.iconst 0, 1) := by decide +kernel
theorem dX6_compared_35 : decode cX6_compared 35 = .ok (.goto 13, 3) := by decide +kernel
theorem dX6_compared_38 : decode cX6_compared 38 = .ok (.iload_n 1, 1) := by decide +kernel
theorem dX6_compared_39 : decode cX6_compared 39 = .ok (.iload_n 2, 1) := by decide +kernel
theorem dX6_compared_40 : decode cX6_compared 40 = .ok (.if_icmp .le 7, 3) := by decide +kernel
theorem dX6_compared_43 : decode cX6_compared 43 = .ok (.iconst 1, 1) := by decide +kernel
theorem dX6_compared_44 : decode cX6_compared 44 = .ok (.goto 4, 3) := by decide +kernel
theorem dX6_compared_47 : decode cX6_compared 47 = .ok (.iconst 0, 1) := by decide +kernel
theorem dX6_compared_48 : decode cX6_compared 48 = .ok (.istore_n 3, 1) := by decide +kernel
theorem dX6_compared_49 : decode cX6_compared 49 = .ok (.iload_n 3, 1) := by decide +kernel
theorem dX6_compared_50 : decode cX6_compared 50 = .ok (.ifCond .eq 7, 3) := by decide +kernel
theorem dX6_compared_53 : decode cX6_compared 53 = .ok (.iconst 1, 1) := by decide +kernel
theorem dX6_compared_54 : decode cX6_compared 54 = .ok (.goto 4, 3) := by decide +kernel
theorem dX6_compared_57 : decode cX6_compared 57 = .ok (.iconst 0, 1) := by decide +kernel
theorem dX6_compared_58 : decode cX6_compared 58 = .ok (.ireturn, 1) := by decide +kernel
theorem dX7_init_0 : decode cX7_init 0 = .ok (.aload_n 0, 1) := by decide +kernel
theorem dX7_init_1 : decode cX7_init 1 = .ok (.invokespecial 3, 3) := by decide +kernel
theorem dX7_init_4 : decode cX7_init 4 = .ok (.aload_n 0, 1) := by decide +kernel
theorem dX7_init_5 : decode cX7_init 5 = .ok (.bipush 60, 2) := by decide +kernel
theorem dX7_init_7 : decode cX7_init 7 = .ok (.newarray .byte, 2) := by decide +kernel
theorem dX7_init_9 : decode cX7_init 9 = .ok (.putfield 9, 3) := by decide +kernel
theorem dX7_init_12 : decode cX7_init 12 = .ok (.aload_n 0, 1) := by decide +kernel
theorem dX7_init_13 : decode cX7_init 13 = .ok (.sipush 1800, 3) := by decide +kernel
theorem dX7_init_16 : decode cX7_init 16 = .ok (.newarray .byte, 2) := by decide +kernel
theorem dX7_init_18 : decode cX7_init 18 = .ok (.putfield 15, 3) := by decide +kernel
theorem dX7_init_21 : decode cX7_init 21 = .ok (.aload_n 0, 1) := by decide +kernel
theorem dX7_init_22 : decode cX7_init 22 = .ok (.bipush 30, 2) := by decide +kernel
theorem dX7_init_24 : decode cX7_init 24 = .ok (.newarray .int, 2) := by decide +kernel
theorem dX7_init_26 : decode cX7_init 26 = .ok (.putfield 18, 3) := by decide +kernel
theorem dX7_init_29 : decode cX7_init 29 = .ok (.aload_n 0, 1) := by decide +kernel
theorem dX7_init_30 : decode cX7_init 30 = .ok (.bipush 30, 2) := by decide +kernel
theorem dX7_init_32 : decode cX7_init 32 = .ok (.newarray .int, 2) := by decide +kernel
theorem dX7_init_34 : decode cX7_init 34 = .ok (.putfield 22, 3) := by decide +kernel
theorem dX7_init_37 : decode cX7_init 37 = .ok (.aload_n 0, 1) := by decide +kernel
theorem dX7_init_38 : decode cX7_init 38 = .ok (.bipush 30, 2) := by decide +kernel
theorem dX7_init_40 : decode cX7_init 40 = .ok (.newarray .int, 2) := by decide +kernel
theorem dX7_init_42 : decode cX7_init 42 = .ok (.putfield 25, 3) := by decide +kernel
theorem dX7_init_45 : decode cX7_init 45 = .ok (.aload_n 0, 1) := by decide +kernel
theorem dX7_init_46 : decode cX7_init 46 = .ok (.new 28, 3) := by decide +kernel
theorem dX7_init_49 : decode cX7_init 49 = .ok (.dup, 1) := by decide +kernel
theorem dX7_init_50 : decode cX7_init 50 = .ok (.invokespecial 30, 3) := by decide +kernel
theorem dX7_init_53 : decode cX7_init 53 = .ok (.putfield 31, 3) := by decide +kernel
theorem dX7_init_56 : decode cX7_init 56 = .ok (.return_, 1) := by decide +kernel
theorem dX7_takeBytes_0 : decode cX7_takeBytes 0 = .ok (.iconst 0, 1) := by decide +kernel
theorem dX7_takeBytes_1 : decode cX7_takeBytes 1 = .ok (.istore 4, 2) := by decide +kernel
theorem dX7_takeBytes_3 : decode cX7_takeBytes 3 = .ok (.iload 4, 2) := by decide +kernel
theorem dX7_takeBytes_5 : decode cX7_takeBytes 5 = .ok (.iload_n 1, 1) := by decide +kernel
theorem dX7_takeBytes_6 : decode cX7_takeBytes 6 = .ok (.if_icmp .ge 37, 3) := by decide +kernel
theorem dX7_takeBytes_9 : decode cX7_takeBytes 9 = .ok (.aload_n 0, 1) := by decide +kernel
theorem dX7_takeBytes_10 : decode cX7_takeBytes 10 = .ok (.getfield 9, 3) := by decide +kernel
theorem dX7_takeBytes_13 : decode cX7_takeBytes 13 = .ok (.aload_n 0, 1) := by decide +kernel
theorem dX7_takeBytes_14 : decode cX7_takeBytes 14 = .ok (.getfield 35, 3) := by decide +kernel
theorem dX7_takeBytes_17 : decode cX7_takeBytes 17 = .ok (.lload_n 2, 1) := by decide +kernel
theorem dX7_takeBytes_18 : decode cX7_takeBytes 18 = .ok (.bipush 8, 2) := by decide +kernel
theorem dX7_takeBytes_20 : decode cX7_takeBytes 20 = .ok (.iload 4, 2) := by decide +kernel
theorem dX7_takeBytes_22 : decode cX7_takeBytes 22 = .ok (.imul, 1) := by decide +kernel
theorem dX7_takeBytes_23 : decode cX7_takeBytes 23 = .ok (.lushr, 1) := by decide +kernel
theorem dX7_takeBytes_24 : decode cX7_takeBytes 24 = .ok (.l2i, 1) := by decide +kernel
theorem dX7_takeBytes_25 : decode cX7_takeBytes 25 = .ok (.i2b, 1) := by decide +kernel
theorem dX7_takeBytes_26 : decode cX7_takeBytes 26 = .ok (.bastore, 1) := by decide +kernel
theorem dX7_takeBytes_27 : decode cX7_takeBytes 27 = .ok (.aload_n 0, 1) := by decide +kernel
theorem dX7_takeBytes_28 : decode cX7_takeBytes 28 = .ok (.dup, 1) := by decide +kernel
theorem dX7_takeBytes_29 : decode cX7_takeBytes 29 = .ok (.getfield 35, 3) := by decide +kernel
theorem dX7_takeBytes_32 : decode cX7_takeBytes 32 = .ok (.iconst 1, 1) := by decide +kernel
theorem dX7_takeBytes_33 : decode cX7_takeBytes 33 = .ok (.iadd, 1) := by decide +kernel
theorem dX7_takeBytes_34 : decode cX7_takeBytes 34 = .ok (.putfield 35, 3) := by decide +kernel
theorem dX7_takeBytes_37 : decode cX7_takeBytes 37 = .ok (.iinc 4 1, 3) := by decide +kernel
theorem dX7_takeBytes_40 : decode cX7_takeBytes 40 = .ok (.goto (-37), 3) := by decide +kernel
theorem dX7_takeBytes_43 : decode cX7_takeBytes 43 = .ok (.aload_n 0, 1) := by decide +kernel
theorem dX7_takeBytes_44 : decode cX7_takeBytes 44 = .ok (.getfield 35, 3) := by decide +kernel
theorem dX7_takeBytes_47 : decode cX7_takeBytes 47 = .ok (.ireturn, 1) := by decide +kernel
theorem dX7_makeOfTape_0 : decode cX7_makeOfTape 0 = .ok (.aload_n 0, 1) := by decide +kernel
theorem dX7_makeOfTape_1 : decode cX7_makeOfTape 1 = .ok (.getfield 35, 3) := by decide +kernel
theorem dX7_makeOfTape_4 : decode cX7_makeOfTape 4 = .ok (.istore_n 3, 1) := by decide +kernel
theorem dX7_makeOfTape_5 : decode cX7_makeOfTape 5 = .ok (.aload_n 0, 1) := by decide +kernel
theorem dX7_makeOfTape_6 : decode cX7_makeOfTape 6 = .ok (.iconst 0, 1) := by decide +kernel
theorem dX7_makeOfTape_7 : decode cX7_makeOfTape 7 = .ok (.putfield 35, 3) := by decide +kernel
theorem dX7_makeOfTape_10 : decode cX7_makeOfTape 10 = .ok (.aload_n 0, 1) := by decide +kernel
theorem dX7_makeOfTape_11 : decode cX7_makeOfTape 11 = .ok (.getfield 31, 3) := by decide +kernel
theorem dX7_makeOfTape_14 : decode cX7_makeOfTape 14 = .ok (.aload_n 0, 1) := by decide +kernel
theorem dX7_makeOfTape_15 : decode cX7_makeOfTape 15 = .ok (.getfield 9, 3) := by decide +kernel
theorem dX7_makeOfTape_18 : decode cX7_makeOfTape 18 = .ok (.iconst 0, 1) := by decide +kernel
theorem dX7_makeOfTape_19 : decode cX7_makeOfTape 19 = .ok (.iload_n 3, 1) := by decide +kernel
theorem dX7_makeOfTape_20 : decode cX7_makeOfTape 20 = .ok (.invokevirtual 39, 3) := by decide +kernel
theorem dX7_makeOfTape_23 : decode cX7_makeOfTape 23 = .ok (.pop, 1) := by decide +kernel
theorem dX7_makeOfTape_24 : decode cX7_makeOfTape 24 = .ok (.aload_n 0, 1) := by decide +kernel
theorem dX7_makeOfTape_25 : decode cX7_makeOfTape 25 = .ok (.getfield 31, 3) := by decide +kernel
theorem dX7_makeOfTape_28 : decode cX7_makeOfTape 28 = .ok (.invokevirtual 43, 3) := by decide +kernel
theorem dX7_makeOfTape_31 : decode cX7_makeOfTape 31 = .ok (.ifCond .ne 14, 3) := by decide +kernel
theorem dX7_makeOfTape_34 : decode cX7_makeOfTape 34 = .ok (.bipush (-20), 2) := by decide +kernel
theorem dX7_makeOfTape_36 : decode cX7_makeOfTape 36 = .ok (.aload_n 0, 1) := by decide +kernel
theorem dX7_makeOfTape_37 : decode cX7_makeOfTape 37 = .ok (.getfield 31, 3) := by decide +kernel
theorem dX7_makeOfTape_40 : decode cX7_makeOfTape 40 = .ok (.getfield 47, 3) := by decide +kernel
theorem dX7_makeOfTape_43 : decode cX7_makeOfTape 43 = .ok (.isub, 1) := by decide +kernel
theorem dX7_makeOfTape_44 : decode cX7_makeOfTape 44 = .ok (.ireturn, 1) := by decide +kernel
theorem dX7_makeOfTape_45 : decode cX7_makeOfTape 45 = .ok (.aload_n 0, 1) := by decide +kernel
theorem dX7_makeOfTape_46 : decode cX7_makeOfTape 46 = .ok (.getfield 9, 3) := by decide +kernel
theorem dX7_makeOfTape_49 : decode cX7_makeOfTape 49 = .ok (.iconst 0, 1) := by decide +kernel
theorem dX7_makeOfTape_50 : decode cX7_makeOfTape 50 = .ok (.aload_n 0, 1) := by decide +kernel
theorem dX7_makeOfTape_51 : decode cX7_makeOfTape 51 = .ok (.getfield 15, 3) := by decide +kernel
theorem dX7_makeOfTape_54 : decode cX7_makeOfTape 54 = .ok (.aload_n 0, 1) := by decide +kernel
theorem dX7_makeOfTape_55 : decode cX7_makeOfTape 55 = .ok (.getfield 50, 3) := by decide +kernel
theorem dX7_makeOfTape_58 : decode cX7_makeOfTape 58 = .ok (.bipush 60, 2) := by decide +kernel
theorem dX7_makeOfTape_60 : decode cX7_makeOfTape 60 = .ok (.imul, 1) := by decide +kernel
theorem dX7_makeOfTape_61 : decode cX7_makeOfTape 61 = .ok (.iload_n 3, 1) := by decide +kernel
theorem dX7_makeOfTape_62 : decode cX7_makeOfTape 62 = .ok (.invokestatic 53, 3) := by decide +kernel
theorem dX7_makeOfTape_65 : decode cX7_makeOfTape 65 = .ok (.aload_n 0, 1) := by decide +kernel
theorem dX7_makeOfTape_66 : decode cX7_makeOfTape 66 = .ok (.getfield 18, 3) := by decide +kernel
theorem dX7_makeOfTape_69 : decode cX7_makeOfTape 69 = .ok (.aload_n 0, 1) := by decide +kernel
theorem dX7_makeOfTape_70 : decode cX7_makeOfTape 70 = .ok (.getfield 50, 3) := by decide +kernel
theorem dX7_makeOfTape_73 : decode cX7_makeOfTape 73 = .ok (.iload_n 3, 1) := by decide +kernel
theorem dX7_makeOfTape_74 : decode cX7_makeOfTape 74 = .ok (.iastore, 1) := by decide +kernel
theorem dX7_makeOfTape_75 : decode cX7_makeOfTape 75 = .ok (.aload_n 0, 1) := by decide +kernel
theorem dX7_makeOfTape_76 : decode cX7_makeOfTape 76 = .ok (.getfield 22, 3) := by decide +kernel
theorem dX7_makeOfTape_79 : decode cX7_makeOfTape 79 = .ok (.aload_n 0, 1) := by decide +kernel
theorem dX7_makeOfTape_80 : decode cX7_makeOfTape 80 = .ok (.getfield 50, 3) := by decide +kernel
theorem dX7_makeOfTape_83 : decode cX7_makeOfTape 83 = .ok (.iload_n 1, 1) := by decide +kernel
theorem dX7_makeOfTape_84 : decode cX7_makeOfTape 84 = .ok (.iastore, 1) := by decide +kernel
theorem dX7_makeOfTape_85 : decode cX7_makeOfTape 85 = .ok (.aload_n 0, 1) := by decide +kernel
theorem dX7_makeOfTape_86 : decode cX7_makeOfTape 86 = .ok (.getfield 25, 3) := by decide +kernel
theorem dX7_makeOfTape_89 : decode cX7_makeOfTape 89 = .ok (.aload_n 0, 1) := by decide +kernel
theorem dX7_makeOfTape_90 : decode cX7_makeOfTape 90 = .ok (.getfield 50, 3) := by decide +kernel
theorem dX7_makeOfTape_93 : decode cX7_makeOfTape 93 = .ok (.iload_n 2, 1) := by decide +kernel
theorem dX7_makeOfTape_94 : decode cX7_makeOfTape 94 = .ok (.iastore, 1) := by decide +kernel
theorem dX7_makeOfTape_95 : decode cX7_makeOfTape 95 = .ok (.aload_n 0, 1) := by decide +kernel
theorem dX7_makeOfTape_96 : decode cX7_makeOfTape 96 = .ok (.dup, 1) := by decide +kernel
theorem dX7_makeOfTape_97 : decode cX7_makeOfTape 97 = .ok (.getfield 50, 3) := by decide +kernel
theorem dX7_makeOfTape_100 : decode cX7_makeOfTape 100 = .ok (.iconst 1, 1) := by decide +kernel
theorem dX7_makeOfTape_101 : decode cX7_makeOfTape 101 = .ok (.iadd, 1) := by decide +kernel
theorem dX7_makeOfTape_102 : decode cX7_makeOfTape 102 = .ok (.putfield 50, 3) := by decide +kernel
theorem dX7_makeOfTape_105 : decode cX7_makeOfTape 105 = .ok (.aload_n 0, 1) := by decide +kernel
theorem dX7_makeOfTape_106 : decode cX7_makeOfTape 106 = .ok (.getfield 50, 3) := by decide +kernel
theorem dX7_makeOfTape_109 : decode cX7_makeOfTape 109 = .ok (.ireturn, 1) := by decide +kernel
theorem dX7_inForce_0 : decode cX7_inForce 0 = .ok (.bipush (-9), 2) := by decide +kernel
theorem dX7_inForce_2 : decode cX7_inForce 2 = .ok (.istore_n 3, 1) := by decide +kernel
theorem dX7_inForce_3 : decode cX7_inForce 3 = .ok (.iconst 0, 1) := by decide +kernel
theorem dX7_inForce_4 : decode cX7_inForce 4 = .ok (.istore 4, 2) := by decide +kernel
theorem dX7_inForce_6 : decode cX7_inForce 6 = .ok (.iload 4, 2) := by decide +kernel
theorem dX7_inForce_8 : decode cX7_inForce 8 = .ok (.aload_n 0, 1) := by decide +kernel
theorem dX7_inForce_9 : decode cX7_inForce 9 = .ok (.getfield 50, 3) := by decide +kernel
theorem dX7_inForce_12 : decode cX7_inForce 12 = .ok (.if_icmp .ge 68, 3) := by decide +kernel
theorem dX7_inForce_15 : decode cX7_inForce 15 = .ok (.aload_n 0, 1) := by decide +kernel
theorem dX7_inForce_16 : decode cX7_inForce 16 = .ok (.getfield 22, 3) := by decide +kernel
theorem dX7_inForce_19 : decode cX7_inForce 19 = .ok (.iload 4, 2) := by decide +kernel
theorem dX7_inForce_21 : decode cX7_inForce 21 = .ok (.iaload, 1) := by decide +kernel
theorem dX7_inForce_22 : decode cX7_inForce 22 = .ok (.iload_n 1, 1) := by decide +kernel
theorem dX7_inForce_23 : decode cX7_inForce 23 = .ok (.if_icmp .ne 18, 3) := by decide +kernel
theorem dX7_inForce_26 : decode cX7_inForce 26 = .ok (.aload_n 0, 1) := by decide +kernel
theorem dX7_inForce_27 : decode cX7_inForce 27 = .ok (.getfield 25, 3) := by decide +kernel
theorem dX7_inForce_30 : decode cX7_inForce 30 = .ok (.iload 4, 2) := by decide +kernel
theorem dX7_inForce_32 : decode cX7_inForce 32 = .ok (.iaload, 1) := by decide +kernel
theorem dX7_inForce_33 : decode cX7_inForce 33 = .ok (.iload_n 2, 1) := by decide +kernel
theorem dX7_inForce_34 : decode cX7_inForce 34 = .ok (.if_icmp .gt 7, 3) := by decide +kernel
theorem dX7_inForce_37 : decode cX7_inForce 37 = .ok (.iconst 1, 1) := by decide +kernel
theorem dX7_inForce_38 : decode cX7_inForce 38 = .ok (.goto 4, 3) := by decide +kernel
theorem dX7_inForce_41 : decode cX7_inForce 41 = .ok (.iconst 0, 1) := by decide +kernel
theorem dX7_inForce_42 : decode cX7_inForce 42 = .ok (.istore 5, 2) := by decide +kernel
theorem dX7_inForce_44 : decode cX7_inForce 44 = .ok (.iload 5, 2) := by decide +kernel
theorem dX7_inForce_46 : decode cX7_inForce 46 = .ok (.ifCond .eq 28, 3) := by decide +kernel
theorem dX7_inForce_49 : decode cX7_inForce 49 = .ok (.iload_n 3, 1) := by decide +kernel
theorem dX7_inForce_50 : decode cX7_inForce 50 = .ok (.bipush (-9), 2) := by decide +kernel
theorem dX7_inForce_52 : decode cX7_inForce 52 = .ok (.if_icmp .eq 19, 3) := by decide +kernel
theorem dX7_inForce_55 : decode cX7_inForce 55 = .ok (.aload_n 0, 1) := by decide +kernel
theorem dX7_inForce_56 : decode cX7_inForce 56 = .ok (.getfield 25, 3) := by decide +kernel
theorem dX7_inForce_59 : decode cX7_inForce 59 = .ok (.iload 4, 2) := by decide +kernel
theorem dX7_inForce_61 : decode cX7_inForce 61 = .ok (.iaload, 1) := by decide +kernel
theorem dX7_inForce_62 : decode cX7_inForce 62 = .ok (.aload_n 0, 1) := by decide +kernel
theorem dX7_inForce_63 : decode cX7_inForce 63 = .ok (.getfield 25, 3) := by decide +kernel
theorem dX7_inForce_66 : decode cX7_inForce 66 = .ok (.iload_n 3, 1) := by decide +kernel
theorem dX7_inForce_67 : decode cX7_inForce 67 = .ok (.iaload, 1) := by decide +kernel
theorem dX7_inForce_68 : decode cX7_inForce 68 = .ok (.if_icmp .lt 6, 3) := by decide +kernel
theorem dX7_inForce_71 : decode cX7_inForce 71 = .ok (.iload 4, 2) := by decide +kernel
theorem dX7_inForce_73 : decode cX7_inForce 73 = .ok (.istore_n 3, 1) := by decide +kernel
theorem dX7_inForce_74 : decode cX7_inForce 74 = .ok (.iinc 4 1, 3) := by decide +kernel
theorem dX7_inForce_77 : decode cX7_inForce 77 = .ok (.goto (-71), 3) := by decide +kernel
theorem dX7_inForce_80 : decode cX7_inForce 80 = .ok (.iload_n 3, 1) := by decide +kernel
theorem dX7_inForce_81 : decode cX7_inForce 81 = .ok (.ireturn, 1) := by decide +kernel
theorem dX7_worth_0 : decode cX7_worth 0 = .ok (.aload_n 0, 1) := by decide +kernel
theorem dX7_worth_1 : decode cX7_worth 1 = .ok (.getfield 31, 3) := by decide +kernel
theorem dX7_worth_4 : decode cX7_worth 4 = .ok (.aload_n 0, 1) := by decide +kernel
theorem dX7_worth_5 : decode cX7_worth 5 = .ok (.getfield 15, 3) := by decide +kernel
theorem dX7_worth_8 : decode cX7_worth 8 = .ok (.iload_n 1, 1) := by decide +kernel
theorem dX7_worth_9 : decode cX7_worth 9 = .ok (.bipush 60, 2) := by decide +kernel
theorem dX7_worth_11 : decode cX7_worth 11 = .ok (.imul, 1) := by decide +kernel
theorem dX7_worth_12 : decode cX7_worth 12 = .ok (.aload_n 0, 1) := by decide +kernel
theorem dX7_worth_13 : decode cX7_worth 13 = .ok (.getfield 18, 3) := by decide +kernel
theorem dX7_worth_16 : decode cX7_worth 16 = .ok (.iload_n 1, 1) := by decide +kernel
theorem dX7_worth_17 : decode cX7_worth 17 = .ok (.iaload, 1) := by decide +kernel
theorem dX7_worth_18 : decode cX7_worth 18 = .ok (.invokevirtual 39, 3) := by decide +kernel
theorem dX7_worth_21 : decode cX7_worth 21 = .ok (.ireturn, 1) := by decide +kernel
theorem dX7_drawOf_0 : decode cX7_drawOf 0 = .ok (.aload_n 0, 1) := by decide +kernel
theorem dX7_drawOf_1 : decode cX7_drawOf 1 = .ok (.iconst 0, 1) := by decide +kernel
theorem dX7_drawOf_2 : decode cX7_drawOf 2 = .ok (.iload_n 3, 1) := by decide +kernel
theorem dX7_drawOf_3 : decode cX7_drawOf 3 = .ok (.invokevirtual 59, 3) := by decide +kernel
theorem dX7_drawOf_6 : decode cX7_drawOf 6 = .ok (.istore 5, 2) := by decide +kernel
theorem dX7_drawOf_8 : decode cX7_drawOf 8 = .ok (.iload 5, 2) := by decide +kernel
theorem dX7_drawOf_10 : decode cX7_drawOf 10 = .ok (.bipush (-9), 2) := by decide +kernel
theorem dX7_drawOf_12 : decode cX7_drawOf 12 = .ok (.if_icmp .ne 5, 3) := by decide +kernel
theorem dX7_drawOf_15 : decode cX7_drawOf 15 = .ok (.iconst 0, 1) := by decide +kernel
theorem dX7_drawOf_16 : decode cX7_drawOf 16 = .ok (.ireturn, 1) := by decide +kernel
theorem dX7_drawOf_17 : decode cX7_drawOf 17 = .ok (.aload_n 0, 1) := by decide +kernel
theorem dX7_drawOf_18 : decode cX7_drawOf 18 = .ok (.getfield 31, 3) := by decide +kernel
theorem dX7_drawOf_21 : decode cX7_drawOf 21 = .ok (.invokevirtual 63, 3) := by decide +kernel
theorem dX7_drawOf_24 : decode cX7_drawOf 24 = .ok (.iconst 0, 1) := by decide +kernel
theorem dX7_drawOf_25 : decode cX7_drawOf 25 = .ok (.istore 6, 2) := by decide +kernel
theorem dX7_drawOf_27 : decode cX7_drawOf 27 = .ok (.iload 6, 2) := by decide +kernel
theorem dX7_drawOf_29 : decode cX7_drawOf 29 = .ok (.aload_n 1, 1) := by decide +kernel
theorem dX7_drawOf_30 : decode cX7_drawOf 30 = .ok (.getfield 66, 3) := by decide +kernel
theorem dX7_drawOf_33 : decode cX7_drawOf 33 = .ok (.if_icmp .ge 37, 3) := by decide +kernel
theorem dX7_drawOf_36 : decode cX7_drawOf 36 = .ok (.aload_n 1, 1) := by decide +kernel
theorem dX7_drawOf_37 : decode cX7_drawOf 37 = .ok (.iload 6, 2) := by decide +kernel
theorem dX7_drawOf_39 : decode cX7_drawOf 39 = .ok (.iload_n 2, 1) := by decide +kernel
theorem dX7_drawOf_40 : decode cX7_drawOf 40 = .ok (.invokevirtual 71, 3) := by decide +kernel
theorem dX7_drawOf_43 : decode cX7_drawOf 43 = .ok (.ifCond .eq 21, 3) := by decide +kernel
theorem dX7_drawOf_46 : decode cX7_drawOf 46 = .ok (.aload_n 1, 1) := by decide +kernel
theorem dX7_drawOf_47 : decode cX7_drawOf 47 = .ok (.iload 6, 2) := by decide +kernel
theorem dX7_drawOf_49 : decode cX7_drawOf 49 = .ok (.iload_n 3, 1) := by decide +kernel
theorem dX7_drawOf_50 : decode cX7_drawOf 50 = .ok (.invokevirtual 75, 3) := by decide +kernel
theorem dX7_drawOf_53 : decode cX7_drawOf 53 = .ok (.ifCond .eq 11, 3) := by decide +kernel
theorem dX7_drawOf_56 : decode cX7_drawOf 56 = .ok (.aload_n 0, 1) := by decide +kernel
theorem dX7_drawOf_57 : decode cX7_drawOf 57 = .ok (.aload_n 1, 1) := by decide +kernel
theorem dX7_drawOf_58 : decode cX7_drawOf 58 = .ok (.iload 6, 2) := by decide +kernel
theorem dX7_drawOf_60 : decode cX7_drawOf 60 = .ok (.iload_n 3, 1) := by decide +kernel
theorem dX7_drawOf_61 : decode cX7_drawOf 61 = .ok (.invokevirtual 78, 3) := by decide +kernel
theorem dX7_drawOf_64 : decode cX7_drawOf 64 = .ok (.iinc 6 1, 3) := by decide +kernel
theorem dX7_drawOf_67 : decode cX7_drawOf 67 = .ok (.goto (-40), 3) := by decide +kernel
theorem dX7_drawOf_70 : decode cX7_drawOf 70 = .ok (.aload_n 0, 1) := by decide +kernel
theorem dX7_drawOf_71 : decode cX7_drawOf 71 = .ok (.getfield 31, 3) := by decide +kernel
theorem dX7_drawOf_74 : decode cX7_drawOf 74 = .ok (.getfield 82, 3) := by decide +kernel
theorem dX7_drawOf_77 : decode cX7_drawOf 77 = .ok (.iconst 4, 1) := by decide +kernel
theorem dX7_drawOf_78 : decode cX7_drawOf 78 = .ok (.iload_n 3, 1) := by decide +kernel
theorem dX7_drawOf_79 : decode cX7_drawOf 79 = .ok (.iload 4, 2) := by decide +kernel
theorem dX7_drawOf_81 : decode cX7_drawOf 81 = .ok (.isub, 1) := by decide +kernel
theorem dX7_drawOf_82 : decode cX7_drawOf 82 = .ok (.iastore, 1) := by decide +kernel
theorem dX7_drawOf_83 : decode cX7_drawOf 83 = .ok (.iconst 0, 1) := by decide +kernel
theorem dX7_drawOf_84 : decode cX7_drawOf 84 = .ok (.sipush 9999, 3) := by decide +kernel
theorem dX7_drawOf_87 : decode cX7_drawOf 87 = .ok (.aload_n 0, 1) := by decide +kernel
theorem dX7_drawOf_88 : decode cX7_drawOf 88 = .ok (.iload 5, 2) := by decide +kernel
theorem dX7_drawOf_90 : decode cX7_drawOf 90 = .ok (.invokevirtual 85, 3) := by decide +kernel
theorem dX7_drawOf_93 : decode cX7_drawOf 93 = .ok (.invokestatic 89, 3) := by decide +kernel
theorem dX7_drawOf_96 : decode cX7_drawOf 96 = .ok (.invokestatic 94, 3) := by decide +kernel
theorem dX7_drawOf_99 : decode cX7_drawOf 99 = .ok (.ireturn, 1) := by decide +kernel
theorem dX7_addToLetters_0 : decode cX7_addToLetters 0 = .ok (.aload_n 1, 1) := by decide +kernel
theorem dX7_addToLetters_1 : decode cX7_addToLetters 1 = .ok (.iload_n 2, 1) := by decide +kernel
theorem dX7_addToLetters_2 : decode cX7_addToLetters 2 = .ok (.iload_n 3, 1) := by decide +kernel
theorem dX7_addToLetters_3 : decode cX7_addToLetters 3 = .ok (.invokevirtual 97, 3) := by decide +kernel
theorem dX7_addToLetters_6 : decode cX7_addToLetters 6 = .ok (.istore 4, 2) := by decide +kernel
theorem dX7_addToLetters_8 : decode cX7_addToLetters 8 = .ok (.aload_n 0, 1) := by decide +kernel
theorem dX7_addToLetters_9 : decode cX7_addToLetters 9 = .ok (.getfield 31, 3) := by decide +kernel
theorem dX7_addToLetters_12 : decode cX7_addToLetters 12 = .ok (.getfield 82, 3) := by decide +kernel
theorem dX7_addToLetters_15 : decode cX7_addToLetters 15 = .ok (.iconst 0, 1) := by decide +kernel
theorem dX7_addToLetters_16 : decode cX7_addToLetters 16 = .ok (.dup2, 1) := by decide +kernel
theorem dX7_addToLetters_17 : decode cX7_addToLetters 17 = .ok (.iaload, 1) := by decide +kernel
theorem dX7_addToLetters_18 : decode cX7_addToLetters 18 = .ok (.iconst 1, 1) := by decide +kernel
theorem dX7_addToLetters_19 : decode cX7_addToLetters 19 = .ok (.iadd, 1) := by decide +kernel
theorem dX7_addToLetters_20 : decode cX7_addToLetters 20 = .ok (.iastore, 1) := by decide +kernel
theorem dX7_addToLetters_21 : decode cX7_addToLetters 21 = .ok (.iload 4, 2) := by decide +kernel
theorem dX7_addToLetters_23 : decode cX7_addToLetters 23 = .ok (.sipush 1825, 3) := by decide +kernel
theorem dX7_addToLetters_26 : decode cX7_addToLetters 26 = .ok (.if_icmp .ge 16, 3) := by decide +kernel
theorem dX7_addToLetters_29 : decode cX7_addToLetters 29 = .ok (.aload_n 0, 1) := by decide +kernel
theorem dX7_addToLetters_30 : decode cX7_addToLetters 30 = .ok (.getfield 31, 3) := by decide +kernel
theorem dX7_addToLetters_33 : decode cX7_addToLetters 33 = .ok (.getfield 82, 3) := by decide +kernel
theorem dX7_addToLetters_36 : decode cX7_addToLetters 36 = .ok (.iconst 1, 1) := by decide +kernel
theorem dX7_addToLetters_37 : decode cX7_addToLetters 37 = .ok (.dup2, 1) := by decide +kernel
theorem dX7_addToLetters_38 : decode cX7_addToLetters 38 = .ok (.iaload, 1) := by decide +kernel
theorem dX7_addToLetters_39 : decode cX7_addToLetters 39 = .ok (.iconst 1, 1) := by decide +kernel
theorem dX7_addToLetters_40 : decode cX7_addToLetters 40 = .ok (.iadd, 1) := by decide +kernel
theorem dX7_addToLetters_41 : decode cX7_addToLetters 41 = .ok (.iastore, 1) := by decide +kernel
theorem dX7_addToLetters_42 : decode cX7_addToLetters 42 = .ok (.iload 4, 2) := by decide +kernel
theorem dX7_addToLetters_44 : decode cX7_addToLetters 44 = .ok (.sipush 21900, 3) := by decide +kernel
theorem dX7_addToLetters_47 : decode cX7_addToLetters 47 = .ok (.if_icmp .le 16, 3) := by decide +kernel
theorem dX7_addToLetters_50 : decode cX7_addToLetters 50 = .ok (.aload_n 0, 1) := by decide +kernel
theorem dX7_addToLetters_51 : decode cX7_addToLetters 51 = .ok (.getfield 31, 3) := by decide +kernel
theorem dX7_addToLetters_54 : decode cX7_addToLetters 54 = .ok (.getfield 82, 3) := by decide +kernel
theorem dX7_addToLetters_57 : decode cX7_addToLetters 57 = .ok (.iconst 2, 1) := by decide +kernel
theorem dX7_addToLetters_58 : decode cX7_addToLetters 58 = .ok (.dup2, 1) := by decide +kernel
theorem dX7_addToLetters_59 : decode cX7_addToLetters 59 = .ok (.iaload, 1) := by decide +kernel
theorem dX7_addToLetters_60 : decode cX7_addToLetters 60 = .ok (.iconst 1, 1) := by decide +kernel
theorem dX7_addToLetters_61 : decode cX7_addToLetters 61 = .ok (.iadd, 1) := by decide +kernel
theorem dX7_addToLetters_62 : decode cX7_addToLetters 62 = .ok (.iastore, 1) := by decide +kernel
theorem dX7_addToLetters_63 : decode cX7_addToLetters 63 = .ok (.aload_n 1, 1) := by decide +kernel
theorem dX7_addToLetters_64 : decode cX7_addToLetters 64 = .ok (.iload_n 2, 1) := by decide +kernel
theorem dX7_addToLetters_65 : decode cX7_addToLetters 65 = .ok (.iload_n 3, 1) := by decide +kernel
theorem dX7_addToLetters_66 : decode cX7_addToLetters 66 = .ok (.invokevirtual 100, 3) := by decide +kernel
theorem dX7_addToLetters_69 : decode cX7_addToLetters 69 = .ok (.iconst 2, 1) := by decide +kernel
theorem dX7_addToLetters_70 : decode cX7_addToLetters 70 = .ok (.if_icmp .ne 16, 3) := by decide +kernel
theorem dX7_addToLetters_73 : decode cX7_addToLetters 73 = .ok (.aload_n 0, 1) := by decide +kernel
theorem dX7_addToLetters_74 : decode cX7_addToLetters 74 = .ok (.getfield 31, 3) := by decide +kernel
theorem dX7_addToLetters_77 : decode cX7_addToLetters 77 = .ok (.getfield 82, 3) := by decide +kernel
theorem dX7_addToLetters_80 : decode cX7_addToLetters 80 = .ok (.iconst 3, 1) := by decide +kernel
theorem dX7_addToLetters_81 : decode cX7_addToLetters 81 = .ok (.dup2, 1) := by decide +kernel
theorem dX7_addToLetters_82 : decode cX7_addToLetters 82 = .ok (.iaload, 1) := by decide +kernel
theorem dX7_addToLetters_83 : decode cX7_addToLetters 83 = .ok (.iconst 1, 1) := by decide +kernel
theorem dX7_addToLetters_84 : decode cX7_addToLetters 84 = .ok (.iadd, 1) := by decide +kernel
theorem dX7_addToLetters_85 : decode cX7_addToLetters 85 = .ok (.iastore, 1) := by decide +kernel
theorem dX7_addToLetters_86 : decode cX7_addToLetters 86 = .ok (.return_, 1) := by decide +kernel
theorem dX7_pointsOf_0 : decode cX7_pointsOf 0 = .ok (.aload_n 0, 1) := by decide +kernel
theorem dX7_pointsOf_1 : decode cX7_pointsOf 1 = .ok (.iconst 1, 1) := by decide +kernel
theorem dX7_pointsOf_2 : decode cX7_pointsOf 2 = .ok (.iload_n 3, 1) := by decide +kernel
theorem dX7_pointsOf_3 : decode cX7_pointsOf 3 = .ok (.invokevirtual 59, 3) := by decide +kernel
theorem dX7_pointsOf_6 : decode cX7_pointsOf 6 = .ok (.istore 4, 2) := by decide +kernel
theorem dX7_pointsOf_8 : decode cX7_pointsOf 8 = .ok (.iload 4, 2) := by decide +kernel
theorem dX7_pointsOf_10 : decode cX7_pointsOf 10 = .ok (.bipush (-9), 2) := by decide +kernel
theorem dX7_pointsOf_12 : decode cX7_pointsOf 12 = .ok (.if_icmp .ne 5, 3) := by decide +kernel
theorem dX7_pointsOf_15 : decode cX7_pointsOf 15 = .ok (.iconst 0, 1) := by decide +kernel
theorem dX7_pointsOf_16 : decode cX7_pointsOf 16 = .ok (.ireturn, 1) := by decide +kernel
theorem dX7_pointsOf_17 : decode cX7_pointsOf 17 = .ok (.aload_n 0, 1) := by decide +kernel
theorem dX7_pointsOf_18 : decode cX7_pointsOf 18 = .ok (.getfield 31, 3) := by decide +kernel
theorem dX7_pointsOf_21 : decode cX7_pointsOf 21 = .ok (.invokevirtual 63, 3) := by decide +kernel
theorem dX7_pointsOf_24 : decode cX7_pointsOf 24 = .ok (.aload_n 0, 1) := by decide +kernel
theorem dX7_pointsOf_25 : decode cX7_pointsOf 25 = .ok (.getfield 31, 3) := by decide +kernel
theorem dX7_pointsOf_28 : decode cX7_pointsOf 28 = .ok (.getfield 82, 3) := by decide +kernel
theorem dX7_pointsOf_31 : decode cX7_pointsOf 31 = .ok (.iconst 0, 1) := by decide +kernel
theorem dX7_pointsOf_32 : decode cX7_pointsOf 32 = .ok (.aload_n 1, 1) := by decide +kernel
theorem dX7_pointsOf_33 : decode cX7_pointsOf 33 = .ok (.aload_n 1, 1) := by decide +kernel
theorem dX7_pointsOf_34 : decode cX7_pointsOf 34 = .ok (.getfield 103, 3) := by decide +kernel
theorem dX7_pointsOf_37 : decode cX7_pointsOf 37 = .ok (.iload_n 2, 1) := by decide +kernel
theorem dX7_pointsOf_38 : decode cX7_pointsOf 38 = .ok (.iaload, 1) := by decide +kernel
theorem dX7_pointsOf_39 : decode cX7_pointsOf 39 = .ok (.iload_n 3, 1) := by decide +kernel
theorem dX7_pointsOf_40 : decode cX7_pointsOf 40 = .ok (.invokevirtual 106, 3) := by decide +kernel
theorem dX7_pointsOf_43 : decode cX7_pointsOf 43 = .ok (.iastore, 1) := by decide +kernel
theorem dX7_pointsOf_44 : decode cX7_pointsOf 44 = .ok (.aload_n 0, 1) := by decide +kernel
theorem dX7_pointsOf_45 : decode cX7_pointsOf 45 = .ok (.getfield 31, 3) := by decide +kernel
theorem dX7_pointsOf_48 : decode cX7_pointsOf 48 = .ok (.getfield 82, 3) := by decide +kernel
theorem dX7_pointsOf_51 : decode cX7_pointsOf 51 = .ok (.iconst 3, 1) := by decide +kernel
theorem dX7_pointsOf_52 : decode cX7_pointsOf 52 = .ok (.aload_n 1, 1) := by decide +kernel
theorem dX7_pointsOf_53 : decode cX7_pointsOf 53 = .ok (.iload_n 2, 1) := by decide +kernel
theorem dX7_pointsOf_54 : decode cX7_pointsOf 54 = .ok (.iload_n 3, 1) := by decide +kernel
theorem dX7_pointsOf_55 : decode cX7_pointsOf 55 = .ok (.invokevirtual 100, 3) := by decide +kernel
theorem dX7_pointsOf_58 : decode cX7_pointsOf 58 = .ok (.iconst 2, 1) := by decide +kernel
theorem dX7_pointsOf_59 : decode cX7_pointsOf 59 = .ok (.if_icmp .ne 7, 3) := by decide +kernel
theorem dX7_pointsOf_62 : decode cX7_pointsOf 62 = .ok (.iconst 1, 1) := by decide +kernel
theorem dX7_pointsOf_63 : decode cX7_pointsOf 63 = .ok (.goto 4, 3) := by decide +kernel
theorem dX7_pointsOf_66 : decode cX7_pointsOf 66 = .ok (.iconst 0, 1) := by decide +kernel
theorem dX7_pointsOf_67 : decode cX7_pointsOf 67 = .ok (.iastore, 1) := by decide +kernel
theorem dX7_pointsOf_68 : decode cX7_pointsOf 68 = .ok (.aload_n 0, 1) := by decide +kernel
theorem dX7_pointsOf_69 : decode cX7_pointsOf 69 = .ok (.getfield 31, 3) := by decide +kernel
theorem dX7_pointsOf_72 : decode cX7_pointsOf 72 = .ok (.getfield 82, 3) := by decide +kernel
theorem dX7_pointsOf_75 : decode cX7_pointsOf 75 = .ok (.iconst 5, 1) := by decide +kernel
theorem dX7_pointsOf_76 : decode cX7_pointsOf 76 = .ok (.aload_n 1, 1) := by decide +kernel
theorem dX7_pointsOf_77 : decode cX7_pointsOf 77 = .ok (.iload_n 2, 1) := by decide +kernel
theorem dX7_pointsOf_78 : decode cX7_pointsOf 78 = .ok (.iload_n 3, 1) := by decide +kernel
theorem dX7_pointsOf_79 : decode cX7_pointsOf 79 = .ok (.invokevirtual 97, 3) := by decide +kernel
theorem dX7_pointsOf_82 : decode cX7_pointsOf 82 = .ok (.sipush 365, 3) := by decide +kernel
theorem dX7_pointsOf_85 : decode cX7_pointsOf 85 = .ok (.idiv, 1) := by decide +kernel
theorem dX7_pointsOf_86 : decode cX7_pointsOf 86 = .ok (.iastore, 1) := by decide +kernel
theorem dX7_pointsOf_87 : decode cX7_pointsOf 87 = .ok (.aload_n 0, 1) := by decide +kernel
theorem dX7_pointsOf_88 : decode cX7_pointsOf 88 = .ok (.getfield 31, 3) := by decide +kernel
theorem dX7_pointsOf_91 : decode cX7_pointsOf 91 = .ok (.getfield 82, 3) := by decide +kernel
theorem dX7_pointsOf_94 : decode cX7_pointsOf 94 = .ok (.bipush 6, 2) := by decide +kernel
theorem dX7_pointsOf_96 : decode cX7_pointsOf 96 = .ok (.aload_n 1, 1) := by decide +kernel
theorem dX7_pointsOf_97 : decode cX7_pointsOf 97 = .ok (.getfield 109, 3) := by decide +kernel
theorem dX7_pointsOf_100 : decode cX7_pointsOf 100 = .ok (.iload_n 2, 1) := by decide +kernel
theorem dX7_pointsOf_101 : decode cX7_pointsOf 101 = .ok (.iaload, 1) := by decide +kernel
theorem dX7_pointsOf_102 : decode cX7_pointsOf 102 = .ok (.iastore, 1) := by decide +kernel
theorem dX7_pointsOf_103 : decode cX7_pointsOf 103 = .ok (.aload_n 0, 1) := by decide +kernel
theorem dX7_pointsOf_104 : decode cX7_pointsOf 104 = .ok (.getfield 31, 3) := by decide +kernel
theorem dX7_pointsOf_107 : decode cX7_pointsOf 107 = .ok (.getfield 82, 3) := by decide +kernel
theorem dX7_pointsOf_110 : decode cX7_pointsOf 110 = .ok (.bipush 7, 2) := by decide +kernel
theorem dX7_pointsOf_112 : decode cX7_pointsOf 112 = .ok (.iload_n 3, 1) := by decide +kernel
theorem dX7_pointsOf_113 : decode cX7_pointsOf 113 = .ok (.aload_n 1, 1) := by decide +kernel
theorem dX7_pointsOf_114 : decode cX7_pointsOf 114 = .ok (.getfield 112, 3) := by decide +kernel
theorem dX7_pointsOf_117 : decode cX7_pointsOf 117 = .ok (.iload_n 2, 1) := by decide +kernel
theorem dX7_pointsOf_118 : decode cX7_pointsOf 118 = .ok (.iaload, 1) := by decide +kernel
theorem dX7_pointsOf_119 : decode cX7_pointsOf 119 = .ok (.isub, 1) := by decide +kernel
theorem dX7_pointsOf_120 : decode cX7_pointsOf 120 = .ok (.iastore, 1) := by decide +kernel
theorem dX7_pointsOf_121 : decode cX7_pointsOf 121 = .ok (.aload_n 0, 1) := by decide +kernel
theorem dX7_pointsOf_122 : decode cX7_pointsOf 122 = .ok (.iload 4, 2) := by decide +kernel
theorem dX7_pointsOf_124 : decode cX7_pointsOf 124 = .ok (.invokevirtual 85, 3) := by decide +kernel
theorem dX7_pointsOf_127 : decode cX7_pointsOf 127 = .ok (.ireturn, 1) := by decide +kernel
theorem dX8_init_0 : decode cX8_init 0 = .ok (.aload_n 0, 1) := by decide +kernel
theorem dX8_init_1 : decode cX8_init 1 = .ok (.invokespecial 3, 3) := by decide +kernel
theorem dX8_init_4 : decode cX8_init 4 = .ok (.aload_n 0, 1) := by decide +kernel
theorem dX8_init_5 : decode cX8_init 5 = .ok (.bipush 60, 2) := by decide +kernel
theorem dX8_init_7 : decode cX8_init 7 = .ok (.newarray .int, 2) := by decide +kernel
theorem dX8_init_9 : decode cX8_init 9 = .ok (.putfield 9, 3) := by decide +kernel
theorem dX8_init_12 : decode cX8_init 12 = .ok (.aload_n 0, 1) := by decide +kernel
theorem dX8_init_13 : decode cX8_init 13 = .ok (.bipush 60, 2) := by decide +kernel
theorem dX8_init_15 : decode cX8_init 15 = .ok (.newarray .int, 2) := by decide +kernel
theorem dX8_init_17 : decode cX8_init 17 = .ok (.putfield 15, 3) := by decide +kernel
theorem dX8_init_20 : decode cX8_init 20 = .ok (.aload_n 0, 1) := by decide +kernel
theorem dX8_init_21 : decode cX8_init 21 = .ok (.bipush 60, 2) := by decide +kernel
theorem dX8_init_23 : decode cX8_init 23 = .ok (.newarray .int, 2) := by decide +kernel
theorem dX8_init_25 : decode cX8_init 25 = .ok (.putfield 18, 3) := by decide +kernel
theorem dX8_init_28 : decode cX8_init 28 = .ok (.return_, 1) := by decide +kernel
theorem dX8_note_0 : decode cX8_note 0 = .ok (.aload_n 0, 1) := by decide +kernel
theorem dX8_note_1 : decode cX8_note 1 = .ok (.getfield 9, 3) := by decide +kernel
theorem dX8_note_4 : decode cX8_note 4 = .ok (.aload_n 0, 1) := by decide +kernel
theorem dX8_note_5 : decode cX8_note 5 = .ok (.getfield 21, 3) := by decide +kernel
theorem dX8_note_8 : decode cX8_note 8 = .ok (.iload_n 1, 1) := by decide +kernel
theorem dX8_note_9 : decode cX8_note 9 = .ok (.iastore, 1) := by decide +kernel
theorem dX8_note_10 : decode cX8_note 10 = .ok (.aload_n 0, 1) := by decide +kernel
theorem dX8_note_11 : decode cX8_note 11 = .ok (.getfield 15, 3) := by decide +kernel
theorem dX8_note_14 : decode cX8_note 14 = .ok (.aload_n 0, 1) := by decide +kernel
theorem dX8_note_15 : decode cX8_note 15 = .ok (.getfield 21, 3) := by decide +kernel
theorem dX8_note_18 : decode cX8_note 18 = .ok (.iload_n 2, 1) := by decide +kernel
theorem dX8_note_19 : decode cX8_note 19 = .ok (.iastore, 1) := by decide +kernel
theorem dX8_note_20 : decode cX8_note 20 = .ok (.aload_n 0, 1) := by decide +kernel
theorem dX8_note_21 : decode cX8_note 21 = .ok (.getfield 18, 3) := by decide +kernel
theorem dX8_note_24 : decode cX8_note 24 = .ok (.aload_n 0, 1) := by decide +kernel
theorem dX8_note_25 : decode cX8_note 25 = .ok (.getfield 21, 3) := by decide +kernel
theorem dX8_note_28 : decode cX8_note 28 = .ok (.iload_n 3, 1) := by decide +kernel
theorem dX8_note_29 : decode cX8_note 29 = .ok (.iastore, 1) := by decide +kernel
theorem dX8_note_30 : decode cX8_note 30 = .ok (.aload_n 0, 1) := by decide +kernel
theorem dX8_note_31 : decode cX8_note 31 = .ok (.dup, 1) := by decide +kernel
theorem dX8_note_32 : decode cX8_note 32 = .ok (.getfield 21, 3) := by decide +kernel
theorem dX8_note_35 : decode cX8_note 35 = .ok (.iconst 1, 1) := by decide +kernel
theorem dX8_note_36 : decode cX8_note 36 = .ok (.iadd, 1) := by decide +kernel
theorem dX8_note_37 : decode cX8_note 37 = .ok (.putfield 21, 3) := by decide +kernel
theorem dX8_note_40 : decode cX8_note 40 = .ok (.aload_n 0, 1) := by decide +kernel
theorem dX8_note_41 : decode cX8_note 41 = .ok (.getfield 21, 3) := by decide +kernel
theorem dX8_note_44 : decode cX8_note 44 = .ok (.ireturn, 1) := by decide +kernel
theorem dX8_dayOf_0 : decode cX8_dayOf 0 = .ok (.aload_n 0, 1) := by decide +kernel
theorem dX8_dayOf_1 : decode cX8_dayOf 1 = .ok (.getfield 9, 3) := by decide +kernel
theorem dX8_dayOf_4 : decode cX8_dayOf 4 = .ok (.iload_n 1, 1) := by decide +kernel
theorem dX8_dayOf_5 : decode cX8_dayOf 5 = .ok (.iaload, 1) := by decide +kernel
theorem dX8_dayOf_6 : decode cX8_dayOf 6 = .ok (.ireturn, 1) := by decide +kernel
theorem dX8_lets_0 : decode cX8_lets 0 = .ok (.aload_n 0, 1) := by decide +kernel
theorem dX8_lets_1 : decode cX8_lets 1 = .ok (.getfield 15, 3) := by decide +kernel
theorem dX8_lets_4 : decode cX8_lets 4 = .ok (.iload_n 1, 1) := by decide +kernel
theorem dX8_lets_5 : decode cX8_lets 5 = .ok (.iaload, 1) := by decide +kernel
theorem dX8_lets_6 : decode cX8_lets 6 = .ok (.sipush 1000, 3) := by decide +kernel
theorem dX8_lets_9 : decode cX8_lets 9 = .ok (.iload_n 2, 1) := by decide +kernel
theorem dX8_lets_10 : decode cX8_lets 10 = .ok (.isub, 1) := by decide +kernel
theorem dX8_lets_11 : decode cX8_lets 11 = .ok (.imul, 1) := by decide +kernel
theorem dX8_lets_12 : decode cX8_lets 12 = .ok (.sipush 1000, 3) := by decide +kernel
theorem dX8_lets_15 : decode cX8_lets 15 = .ok (.idiv, 1) := by decide +kernel
theorem dX8_lets_16 : decode cX8_lets 16 = .ok (.istore_n 3, 1) := by decide +kernel
theorem dX8_lets_17 : decode cX8_lets 17 = .ok (.iload_n 3, 1) := by decide +kernel
theorem dX8_lets_18 : decode cX8_lets 18 = .ok (.aload_n 0, 1) := by decide +kernel
theorem dX8_lets_19 : decode cX8_lets 19 = .ok (.getfield 18, 3) := by decide +kernel
theorem dX8_lets_22 : decode cX8_lets 22 = .ok (.iload_n 1, 1) := by decide +kernel
theorem dX8_lets_23 : decode cX8_lets 23 = .ok (.iaload, 1) := by decide +kernel
theorem dX8_lets_24 : decode cX8_lets 24 = .ok (.isub, 1) := by decide +kernel
theorem dX8_lets_25 : decode cX8_lets 25 = .ok (.invokestatic 25, 3) := by decide +kernel
theorem dX8_lets_28 : decode cX8_lets 28 = .ok (.iconst 1, 1) := by decide +kernel
theorem dX8_lets_29 : decode cX8_lets 29 = .ok (.if_icmp .gt 7, 3) := by decide +kernel
theorem dX8_lets_32 : decode cX8_lets 32 = .ok (.iconst 1, 1) := by decide +kernel
theorem dX8_lets_33 : decode cX8_lets 33 = .ok (.goto 4, 3) := by decide +kernel
theorem dX8_lets_36 : decode cX8_lets 36 = .ok (.iconst 0, 1) := by decide +kernel
theorem dX8_lets_37 : decode cX8_lets 37 = .ok (.ireturn, 1) := by decide +kernel
theorem dX8_firstNotTrue_0 : decode cX8_firstNotTrue 0 = .ok (.iconst 0, 1) := by decide +kernel
theorem dX8_firstNotTrue_1 : decode cX8_firstNotTrue 1 = .ok (.istore_n 1, 1) := by decide +kernel
theorem dX8_firstNotTrue_2 : decode cX8_firstNotTrue 2 = .ok (.iload_n 1, 1) := by decide +kernel
theorem dX8_firstNotTrue_3 : decode cX8_firstNotTrue 3 = .ok (.aload_n 0, 1) := by decide +kernel
theorem dX8_firstNotTrue_4 : decode cX8_firstNotTrue 4 = .ok (.getfield 21, 3) := by decide +kernel
theorem dX8_firstNotTrue_7 : decode cX8_firstNotTrue 7 = .ok (.if_icmp .ge 20, 3) := by decide +kernel
theorem dX8_firstNotTrue_10 : decode cX8_firstNotTrue 10 = .ok (.aload_n 0, 1) := by decide +kernel
theorem dX8_firstNotTrue_11 : decode cX8_firstNotTrue 11 = .ok (.iload_n 1, 1) := by decide +kernel
theorem dX8_firstNotTrue_12 : decode cX8_firstNotTrue 12 = .ok (.iconst 0, 1) := by decide +kernel
theorem dX8_firstNotTrue_13 : decode cX8_firstNotTrue 13 = .ok (.invokevirtual 31, 3) := by decide +kernel
theorem dX8_firstNotTrue_16 : decode cX8_firstNotTrue 16 = .ok (.ifCond .ne 5, 3) := by decide +kernel
theorem dX8_firstNotTrue_19 : decode cX8_firstNotTrue 19 = .ok (.iload_n 1, 1) := by decide +kernel
theorem dX8_firstNotTrue_20 : decode cX8_firstNotTrue 20 = .ok (.ireturn, 1) := by decide +kernel
theorem dX8_firstNotTrue_21 : decode cX8_firstNotTrue 21 = .ok (.iinc 1 1, 3) := by decide +kernel
theorem dX8_firstNotTrue_24 : decode cX8_firstNotTrue 24 = .ok (.goto (-22), 3) := by decide +kernel
theorem dX8_firstNotTrue_27 : decode cX8_firstNotTrue 27 = .ok (.bipush (-9), 2) := by decide +kernel
theorem dX8_firstNotTrue_29 : decode cX8_firstNotTrue 29 = .ok (.ireturn, 1) := by decide +kernel
theorem dX8_leastLean_0 : decode cX8_leastLean 0 = .ok (.iconst 0, 1) := by decide +kernel
theorem dX8_leastLean_1 : decode cX8_leastLean 1 = .ok (.istore_n 2, 1) := by decide +kernel
theorem dX8_leastLean_2 : decode cX8_leastLean 2 = .ok (.iload_n 2, 1) := by decide +kernel
theorem dX8_leastLean_3 : decode cX8_leastLean 3 = .ok (.sipush 300, 3) := by decide +kernel
theorem dX8_leastLean_6 : decode cX8_leastLean 6 = .ok (.if_icmp .gt 25, 3) := by decide +kernel
theorem dX8_leastLean_9 : decode cX8_leastLean 9 = .ok (.aload_n 0, 1) := by decide +kernel
theorem dX8_leastLean_10 : decode cX8_leastLean 10 = .ok (.aload_n 0, 1) := by decide +kernel
theorem dX8_leastLean_11 : decode cX8_leastLean 11 = .ok (.getfield 9, 3) := by decide +kernel
theorem dX8_leastLean_14 : decode cX8_leastLean 14 = .ok (.iload_n 1, 1) := by decide +kernel
theorem dX8_leastLean_15 : decode cX8_leastLean 15 = .ok (.iaload, 1) := by decide +kernel
theorem dX8_leastLean_16 : decode cX8_leastLean 16 = .ok (.iload_n 2, 1) := by decide +kernel
theorem dX8_leastLean_17 : decode cX8_leastLean 17 = .ok (.invokevirtual 35, 3) := by decide +kernel
theorem dX8_leastLean_20 : decode cX8_leastLean 20 = .ok (.ifCond .eq 5, 3) := by decide +kernel
theorem dX8_leastLean_23 : decode cX8_leastLean 23 = .ok (.iload_n 2, 1) := by decide +kernel
theorem dX8_leastLean_24 : decode cX8_leastLean 24 = .ok (.ireturn, 1) := by decide +kernel
theorem dX8_leastLean_25 : decode cX8_leastLean 25 = .ok (.iinc 2 1, 3) := by decide +kernel
theorem dX8_leastLean_28 : decode cX8_leastLean 28 = .ok (.goto (-26), 3) := by decide +kernel
theorem dX8_leastLean_31 : decode cX8_leastLean 31 = .ok (.bipush (-9), 2) := by decide +kernel
theorem dX8_leastLean_33 : decode cX8_leastLean 33 = .ok (.ireturn, 1) := by decide +kernel
theorem dX8_letsAllFrom_0 : decode cX8_letsAllFrom 0 = .ok (.iconst 0, 1) := by decide +kernel
theorem dX8_letsAllFrom_1 : decode cX8_letsAllFrom 1 = .ok (.istore_n 3, 1) := by decide +kernel
theorem dX8_letsAllFrom_2 : decode cX8_letsAllFrom 2 = .ok (.iload_n 3, 1) := by decide +kernel
theorem dX8_letsAllFrom_3 : decode cX8_letsAllFrom 3 = .ok (.aload_n 0, 1) := by decide +kernel
theorem dX8_letsAllFrom_4 : decode cX8_letsAllFrom 4 = .ok (.getfield 21, 3) := by decide +kernel
theorem dX8_letsAllFrom_7 : decode cX8_letsAllFrom 7 = .ok (.if_icmp .ge 30, 3) := by decide +kernel
theorem dX8_letsAllFrom_10 : decode cX8_letsAllFrom 10 = .ok (.aload_n 0, 1) := by decide +kernel
theorem dX8_letsAllFrom_11 : decode cX8_letsAllFrom 11 = .ok (.getfield 9, 3) := by decide +kernel
theorem dX8_letsAllFrom_14 : decode cX8_letsAllFrom 14 = .ok (.iload_n 3, 1) := by decide +kernel
theorem dX8_letsAllFrom_15 : decode cX8_letsAllFrom 15 = .ok (.iaload, 1) := by decide +kernel
theorem dX8_letsAllFrom_16 : decode cX8_letsAllFrom 16 = .ok (.iload_n 1, 1) := by decide +kernel
theorem dX8_letsAllFrom_17 : decode cX8_letsAllFrom 17 = .ok (.if_icmp .lt 14, 3) := by decide +kernel
theorem dX8_letsAllFrom_20 : decode cX8_letsAllFrom 20 = .ok (.aload_n 0, 1) := by decide +kernel
theorem dX8_letsAllFrom_21 : decode cX8_letsAllFrom 21 = .ok (.iload_n 3, 1) := by decide +kernel
theorem dX8_letsAllFrom_22 : decode cX8_letsAllFrom 22 = .ok (.iload_n 2, 1) := by decide +kernel
theorem dX8_letsAllFrom_23 : decode cX8_letsAllFrom 23 = .ok (.invokevirtual 31, 3) := by decide +kernel
theorem dX8_letsAllFrom_26 : decode cX8_letsAllFrom 26 = .ok (.ifCond .ne 5, 3) := by decide +kernel
theorem dX8_letsAllFrom_29 : decode cX8_letsAllFrom 29 = .ok (.iconst 0, 1) := by decide +kernel
theorem dX8_letsAllFrom_30 : decode cX8_letsAllFrom 30 = .ok (.ireturn, 1) := by decide +kernel
theorem dX8_letsAllFrom_31 : decode cX8_letsAllFrom 31 = .ok (.iinc 3 1, 3) := by decide +kernel
theorem dX8_letsAllFrom_34 : decode cX8_letsAllFrom 34 = .ok (.goto (-32), 3) := by decide +kernel
theorem dX8_letsAllFrom_37 : decode cX8_letsAllFrom 37 = .ok (.iconst 1, 1) := by decide +kernel
theorem dX8_letsAllFrom_38 : decode cX8_letsAllFrom 38 = .ok (.ireturn, 1) := by decide +kernel
theorem dX9_init_0 : decode cX9_init 0 = .ok (.aload_n 0, 1) := by decide +kernel
theorem dX9_init_1 : decode cX9_init 1 = .ok (.invokespecial 3, 3) := by decide +kernel
theorem dX9_init_4 : decode cX9_init 4 = .ok (.aload_n 0, 1) := by decide +kernel
theorem dX9_init_5 : decode cX9_init 5 = .ok (.bipush 6, 2) := by decide +kernel
theorem dX9_init_7 : decode cX9_init 7 = .ok (.newarray .int, 2) := by decide +kernel
theorem dX9_init_9 : decode cX9_init 9 = .ok (.putfield 9, 3) := by decide +kernel
theorem dX9_init_12 : decode cX9_init 12 = .ok (.aload_n 0, 1) := by decide +kernel
theorem dX9_init_13 : decode cX9_init 13 = .ok (.bipush 6, 2) := by decide +kernel
theorem dX9_init_15 : decode cX9_init 15 = .ok (.newarray .int, 2) := by decide +kernel
theorem dX9_init_17 : decode cX9_init 17 = .ok (.putfield 15, 3) := by decide +kernel
theorem dX9_init_20 : decode cX9_init 20 = .ok (.aload_n 0, 1) := by decide +kernel
theorem dX9_init_21 : decode cX9_init 21 = .ok (.bipush 6, 2) := by decide +kernel
theorem dX9_init_23 : decode cX9_init 23 = .ok (.newarray .int, 2) := by decide +kernel
theorem dX9_init_25 : decode cX9_init 25 = .ok (.putfield 18, 3) := by decide +kernel
theorem dX9_init_28 : decode cX9_init 28 = .ok (.aload_n 0, 1) := by decide +kernel
theorem dX9_init_29 : decode cX9_init 29 = .ok (.iconst 4, 1) := by decide +kernel
theorem dX9_init_30 : decode cX9_init 30 = .ok (.newarray .int, 2) := by decide +kernel
theorem dX9_init_32 : decode cX9_init 32 = .ok (.putfield 21, 3) := by decide +kernel
theorem dX9_init_35 : decode cX9_init 35 = .ok (.aload_n 0, 1) := by decide +kernel
theorem dX9_init_36 : decode cX9_init 36 = .ok (.getfield 21, 3) := by decide +kernel
theorem dX9_init_39 : decode cX9_init 39 = .ok (.bipush 6, 2) := by decide +kernel
theorem dX9_init_41 : decode cX9_init 41 = .ok (.invokestatic 24, 3) := by decide +kernel
theorem dX9_init_44 : decode cX9_init 44 = .ok (.aload_n 0, 1) := by decide +kernel
theorem dX9_init_45 : decode cX9_init 45 = .ok (.bipush 30, 2) := by decide +kernel
theorem dX9_init_47 : decode cX9_init 47 = .ok (.newarray .int, 2) := by decide +kernel
theorem dX9_init_49 : decode cX9_init 49 = .ok (.putfield 30, 3) := by decide +kernel
theorem dX9_init_52 : decode cX9_init 52 = .ok (.aload_n 0, 1) := by decide +kernel
theorem dX9_init_53 : decode cX9_init 53 = .ok (.bipush 30, 2) := by decide +kernel
theorem dX9_init_55 : decode cX9_init 55 = .ok (.newarray .int, 2) := by decide +kernel
theorem dX9_init_57 : decode cX9_init 57 = .ok (.putfield 33, 3) := by decide +kernel
theorem dX9_init_60 : decode cX9_init 60 = .ok (.aload_n 0, 1) := by decide +kernel
theorem dX9_init_61 : decode cX9_init 61 = .ok (.bipush 30, 2) := by decide +kernel
theorem dX9_init_63 : decode cX9_init 63 = .ok (.newarray .int, 2) := by decide +kernel
theorem dX9_init_65 : decode cX9_init 65 = .ok (.putfield 36, 3) := by decide +kernel
theorem dX9_init_68 : decode cX9_init 68 = .ok (.aload_n 0, 1) := by decide +kernel
theorem dX9_init_69 : decode cX9_init 69 = .ok (.bipush 30, 2) := by decide +kernel
theorem dX9_init_71 : decode cX9_init 71 = .ok (.newarray .int, 2) := by decide +kernel
theorem dX9_init_73 : decode cX9_init 73 = .ok (.putfield 39, 3) := by decide +kernel
theorem dX9_init_76 : decode cX9_init 76 = .ok (.aload_n 0, 1) := by decide +kernel
theorem dX9_init_77 : decode cX9_init 77 = .ok (.bipush 30, 2) := by decide +kernel
theorem dX9_init_79 : decode cX9_init 79 = .ok (.newarray .int, 2) := by decide +kernel
theorem dX9_init_81 : decode cX9_init 81 = .ok (.putfield 42, 3) := by decide +kernel
theorem dX9_init_84 : decode cX9_init 84 = .ok (.aload_n 0, 1) := by decide +kernel
theorem dX9_init_85 : decode cX9_init 85 = .ok (.iconst 4, 1) := by decide +kernel
theorem dX9_init_86 : decode cX9_init 86 = .ok (.newarray .int, 2) := by decide +kernel
theorem dX9_init_88 : decode cX9_init 88 = .ok (.putfield 45, 3) := by decide +kernel
theorem dX9_init_91 : decode cX9_init 91 = .ok (.aload_n 0, 1) := by decide +kernel
theorem dX9_init_92 : decode cX9_init 92 = .ok (.iconst 0, 1) := by decide +kernel
theorem dX9_init_93 : decode cX9_init 93 = .ok (.newarray .int, 2) := by decide +kernel
theorem dX9_init_95 : decode cX9_init 95 = .ok (.putfield 48, 3) := by decide +kernel
theorem dX9_init_98 : decode cX9_init 98 = .ok (.aload_n 0, 1) := by decide +kernel
theorem dX9_init_99 : decode cX9_init 99 = .ok (.iconst 0, 1) := by decide +kernel
theorem dX9_init_100 : decode cX9_init 100 = .ok (.newarray .int, 2) := by decide +kernel
theorem dX9_init_102 : decode cX9_init 102 = .ok (.putfield 51, 3) := by decide +kernel
theorem dX9_init_105 : decode cX9_init 105 = .ok (.return_, 1) := by decide +kernel
theorem dX9_dig_0 : decode cX9_dig 0 = .ok (.aload_n 0, 1) := by decide +kernel
theorem dX9_dig_1 : decode cX9_dig 1 = .ok (.getfield 9, 3) := by decide +kernel
theorem dX9_dig_4 : decode cX9_dig 4 = .ok (.aload_n 0, 1) := by decide +kernel
theorem dX9_dig_5 : decode cX9_dig 5 = .ok (.getfield 54, 3) := by decide +kernel
theorem dX9_dig_8 : decode cX9_dig 8 = .ok (.iload_n 1, 1) := by decide +kernel
theorem dX9_dig_9 : decode cX9_dig 9 = .ok (.iastore, 1) := by decide +kernel
theorem dX9_dig_10 : decode cX9_dig 10 = .ok (.aload_n 0, 1) := by decide +kernel
theorem dX9_dig_11 : decode cX9_dig 11 = .ok (.getfield 15, 3) := by decide +kernel
theorem dX9_dig_14 : decode cX9_dig 14 = .ok (.aload_n 0, 1) := by decide +kernel
theorem dX9_dig_15 : decode cX9_dig 15 = .ok (.getfield 54, 3) := by decide +kernel
theorem dX9_dig_18 : decode cX9_dig 18 = .ok (.iload_n 2, 1) := by decide +kernel
theorem dX9_dig_19 : decode cX9_dig 19 = .ok (.iastore, 1) := by decide +kernel
theorem dX9_dig_20 : decode cX9_dig 20 = .ok (.aload_n 0, 1) := by decide +kernel
theorem dX9_dig_21 : decode cX9_dig 21 = .ok (.getfield 18, 3) := by decide +kernel
theorem dX9_dig_24 : decode cX9_dig 24 = .ok (.aload_n 0, 1) := by decide +kernel
theorem dX9_dig_25 : decode cX9_dig 25 = .ok (.getfield 54, 3) := by decide +kernel
theorem dX9_dig_28 : decode cX9_dig 28 = .ok (.iload_n 3, 1) := by decide +kernel
theorem dX9_dig_29 : decode cX9_dig 29 = .ok (.iastore, 1) := by decide +kernel
theorem dX9_dig_30 : decode cX9_dig 30 = .ok (.aload_n 0, 1) := by decide +kernel
theorem dX9_dig_31 : decode cX9_dig 31 = .ok (.iconst 0, 1) := by decide +kernel
theorem dX9_dig_32 : decode cX9_dig 32 = .ok (.putfield 58, 3) := by decide +kernel
theorem dX9_dig_35 : decode cX9_dig 35 = .ok (.aload_n 0, 1) := by decide +kernel
theorem dX9_dig_36 : decode cX9_dig 36 = .ok (.dup, 1) := by decide +kernel
theorem dX9_dig_37 : decode cX9_dig 37 = .ok (.getfield 54, 3) := by decide +kernel
theorem dX9_dig_40 : decode cX9_dig 40 = .ok (.dup_x1, 1) := by decide +kernel
theorem dX9_dig_41 : decode cX9_dig 41 = .ok (.iconst 1, 1) := by decide +kernel
theorem dX9_dig_42 : decode cX9_dig 42 = .ok (.iadd, 1) := by decide +kernel
theorem dX9_dig_43 : decode cX9_dig 43 = .ok (.putfield 54, 3) := by decide +kernel
theorem dX9_dig_46 : decode cX9_dig 46 = .ok (.ireturn, 1) := by decide +kernel
theorem dX9_begin_0 : decode cX9_begin 0 = .ok (.aload_n 0, 1) := by decide +kernel
theorem dX9_begin_1 : decode cX9_begin 1 = .ok (.getfield 21, 3) := by decide +kernel
theorem dX9_begin_4 : decode cX9_begin 4 = .ok (.iload_n 1, 1) := by decide +kernel
theorem dX9_begin_5 : decode cX9_begin 5 = .ok (.iaload, 1) := by decide +kernel
theorem dX9_begin_6 : decode cX9_begin 6 = .ok (.istore_n 3, 1) := by decide +kernel
theorem dX9_begin_7 : decode cX9_begin 7 = .ok (.aload_n 0, 1) := by decide +kernel
theorem dX9_begin_8 : decode cX9_begin 8 = .ok (.getfield 21, 3) := by decide +kernel
theorem dX9_begin_11 : decode cX9_begin 11 = .ok (.iload_n 1, 1) := by decide +kernel
theorem dX9_begin_12 : decode cX9_begin 12 = .ok (.iload_n 2, 1) := by decide +kernel
theorem dX9_begin_13 : decode cX9_begin 13 = .ok (.iastore, 1) := by decide +kernel
theorem dX9_begin_14 : decode cX9_begin 14 = .ok (.iload_n 3, 1) := by decide +kernel
theorem dX9_begin_15 : decode cX9_begin 15 = .ok (.ireturn, 1) := by decide +kernel
theorem dX9_nearest_0 : decode cX9_nearest 0 = .ok (.bipush (-9), 2) := by decide +kernel
theorem dX9_nearest_2 : decode cX9_nearest 2 = .ok (.istore_n 2, 1) := by decide +kernel
theorem dX9_nearest_3 : decode cX9_nearest 3 = .ok (.iconst 0, 1) := by decide +kernel
theorem dX9_nearest_4 : decode cX9_nearest 4 = .ok (.istore_n 3, 1) := by decide +kernel
theorem dX9_nearest_5 : decode cX9_nearest 5 = .ok (.iconst 0, 1) := by decide +kernel
theorem dX9_nearest_6 : decode cX9_nearest 6 = .ok (.istore 4, 2) := by decide +kernel
theorem dX9_nearest_8 : decode cX9_nearest 8 = .ok (.iload 4, 2) := by decide +kernel
theorem dX9_nearest_10 : decode cX9_nearest 10 = .ok (.aload_n 0, 1) := by decide +kernel
theorem dX9_nearest_11 : decode cX9_nearest 11 = .ok (.getfield 54, 3) := by decide +kernel
theorem dX9_nearest_14 : decode cX9_nearest 14 = .ok (.if_icmp .ge 40, 3) := by decide +kernel
theorem dX9_nearest_17 : decode cX9_nearest 17 = .ok (.iload_n 1, 1) := by decide +kernel
theorem dX9_nearest_18 : decode cX9_nearest 18 = .ok (.aload_n 0, 1) := by decide +kernel
theorem dX9_nearest_19 : decode cX9_nearest 19 = .ok (.getfield 9, 3) := by decide +kernel
theorem dX9_nearest_22 : decode cX9_nearest 22 = .ok (.iload 4, 2) := by decide +kernel
theorem dX9_nearest_24 : decode cX9_nearest 24 = .ok (.iaload, 1) := by decide +kernel
theorem dX9_nearest_25 : decode cX9_nearest 25 = .ok (.invokestatic 62, 3) := by decide +kernel
theorem dX9_nearest_28 : decode cX9_nearest 28 = .ok (.istore 5, 2) := by decide +kernel
theorem dX9_nearest_30 : decode cX9_nearest 30 = .ok (.iload_n 2, 1) := by decide +kernel
theorem dX9_nearest_31 : decode cX9_nearest 31 = .ok (.bipush (-9), 2) := by decide +kernel
theorem dX9_nearest_33 : decode cX9_nearest 33 = .ok (.if_icmp .eq 9, 3) := by decide +kernel
theorem dX9_nearest_36 : decode cX9_nearest 36 = .ok (.iload 5, 2) := by decide +kernel
theorem dX9_nearest_38 : decode cX9_nearest 38 = .ok (.iload_n 3, 1) := by decide +kernel
theorem dX9_nearest_39 : decode cX9_nearest 39 = .ok (.if_icmp .ge 9, 3) := by decide +kernel
theorem dX9_nearest_42 : decode cX9_nearest 42 = .ok (.iload 4, 2) := by decide +kernel
theorem dX9_nearest_44 : decode cX9_nearest 44 = .ok (.istore_n 2, 1) := by decide +kernel
theorem dX9_nearest_45 : decode cX9_nearest 45 = .ok (.iload 5, 2) := by decide +kernel
theorem dX9_nearest_47 : decode cX9_nearest 47 = .ok (.istore_n 3, 1) := by decide +kernel
theorem dX9_nearest_48 : decode cX9_nearest 48 = .ok (.iinc 4 1, 3) := by decide +kernel
theorem dX9_nearest_51 : decode cX9_nearest 51 = .ok (.goto (-43), 3) := by decide +kernel
theorem dX9_nearest_54 : decode cX9_nearest 54 = .ok (.iload_n 2, 1) := by decide +kernel
theorem dX9_nearest_55 : decode cX9_nearest 55 = .ok (.ireturn, 1) := by decide +kernel
theorem dX9_lineUp_0 : decode cX9_lineUp 0 = .ok (.aload_n 0, 1) := by decide +kernel
theorem dX9_lineUp_1 : decode cX9_lineUp 1 = .ok (.iconst 0, 1) := by decide +kernel
theorem dX9_lineUp_2 : decode cX9_lineUp 2 = .ok (.putfield 68, 3) := by decide +kernel
theorem dX9_lineUp_5 : decode cX9_lineUp 5 = .ok (.iconst 0, 1) := by decide +kernel
theorem dX9_lineUp_6 : decode cX9_lineUp 6 = .ok (.istore 4, 2) := by decide +kernel
theorem dX9_lineUp_8 : decode cX9_lineUp 8 = .ok (.iload 4, 2) := by decide +kernel
theorem dX9_lineUp_10 : decode cX9_lineUp 10 = .ok (.aload_n 1, 1) := by decide +kernel
theorem dX9_lineUp_11 : decode cX9_lineUp 11 = .ok (.getfield 71, 3) := by decide +kernel
theorem dX9_lineUp_14 : decode cX9_lineUp 14 = .ok (.if_icmp .ge 89, 3) := by decide +kernel
theorem dX9_lineUp_17 : decode cX9_lineUp 17 = .ok (.aload_n 0, 1) := by decide +kernel
theorem dX9_lineUp_18 : decode cX9_lineUp 18 = .ok (.aload_n 1, 1) := by decide +kernel
theorem dX9_lineUp_19 : decode cX9_lineUp 19 = .ok (.iload 4, 2) := by decide +kernel
theorem dX9_lineUp_21 : decode cX9_lineUp 21 = .ok (.invokevirtual 76, 3) := by decide +kernel
theorem dX9_lineUp_24 : decode cX9_lineUp 24 = .ok (.invokevirtual 80, 3) := by decide +kernel
theorem dX9_lineUp_27 : decode cX9_lineUp 27 = .ok (.iload_n 2, 1) := by decide +kernel
theorem dX9_lineUp_28 : decode cX9_lineUp 28 = .ok (.if_icmp .eq 6, 3) := by decide +kernel
theorem dX9_lineUp_31 : decode cX9_lineUp 31 = .ok (.goto 66, 3) := by decide +kernel
theorem dX9_lineUp_34 : decode cX9_lineUp 34 = .ok (.iconst 5, 1) := by decide +kernel
theorem dX9_lineUp_35 : decode cX9_lineUp 35 = .ok (.aload_n 1, 1) := by decide +kernel
theorem dX9_lineUp_36 : decode cX9_lineUp 36 = .ok (.iload 4, 2) := by decide +kernel
theorem dX9_lineUp_38 : decode cX9_lineUp 38 = .ok (.iload_n 3, 1) := by decide +kernel
theorem dX9_lineUp_39 : decode cX9_lineUp 39 = .ok (.invokevirtual 83, 3) := by decide +kernel
theorem dX9_lineUp_42 : decode cX9_lineUp 42 = .ok (.imul, 1) := by decide +kernel
theorem dX9_lineUp_43 : decode cX9_lineUp 43 = .ok (.istore 5, 2) := by decide +kernel
theorem dX9_lineUp_45 : decode cX9_lineUp 45 = .ok (.iload 5, 2) := by decide +kernel
theorem dX9_lineUp_47 : decode cX9_lineUp 47 = .ok (.ifCond .le 50, 3) := by decide +kernel
theorem dX9_lineUp_50 : decode cX9_lineUp 50 = .ok (.aload_n 0, 1) := by decide +kernel
theorem dX9_lineUp_51 : decode cX9_lineUp 51 = .ok (.getfield 30, 3) := by decide +kernel
theorem dX9_lineUp_54 : decode cX9_lineUp 54 = .ok (.aload_n 0, 1) := by decide +kernel
theorem dX9_lineUp_55 : decode cX9_lineUp 55 = .ok (.getfield 68, 3) := by decide +kernel
theorem dX9_lineUp_58 : decode cX9_lineUp 58 = .ok (.iload 4, 2) := by decide +kernel
theorem dX9_lineUp_60 : decode cX9_lineUp 60 = .ok (.iastore, 1) := by decide +kernel
theorem dX9_lineUp_61 : decode cX9_lineUp 61 = .ok (.aload_n 0, 1) := by decide +kernel
theorem dX9_lineUp_62 : decode cX9_lineUp 62 = .ok (.getfield 33, 3) := by decide +kernel
theorem dX9_lineUp_65 : decode cX9_lineUp 65 = .ok (.aload_n 0, 1) := by decide +kernel
theorem dX9_lineUp_66 : decode cX9_lineUp 66 = .ok (.getfield 68, 3) := by decide +kernel
theorem dX9_lineUp_69 : decode cX9_lineUp 69 = .ok (.aload_n 1, 1) := by decide +kernel
theorem dX9_lineUp_70 : decode cX9_lineUp 70 = .ok (.iload 4, 2) := by decide +kernel
theorem dX9_lineUp_72 : decode cX9_lineUp 72 = .ok (.invokevirtual 86, 3) := by decide +kernel
theorem dX9_lineUp_75 : decode cX9_lineUp 75 = .ok (.iastore, 1) := by decide +kernel
theorem dX9_lineUp_76 : decode cX9_lineUp 76 = .ok (.aload_n 0, 1) := by decide +kernel
theorem dX9_lineUp_77 : decode cX9_lineUp 77 = .ok (.getfield 36, 3) := by decide +kernel
theorem dX9_lineUp_80 : decode cX9_lineUp 80 = .ok (.aload_n 0, 1) := by decide +kernel
theorem dX9_lineUp_81 : decode cX9_lineUp 81 = .ok (.getfield 68, 3) := by decide +kernel
theorem dX9_lineUp_84 : decode cX9_lineUp 84 = .ok (.iload 5, 2) := by decide +kernel
theorem dX9_lineUp_86 : decode cX9_lineUp 86 = .ok (.iastore, 1) := by decide +kernel
theorem dX9_lineUp_87 : decode cX9_lineUp 87 = .ok (.aload_n 0, 1) := by decide +kernel
theorem dX9_lineUp_88 : decode cX9_lineUp 88 = .ok (.dup, 1) := by decide +kernel
theorem dX9_lineUp_89 : decode cX9_lineUp 89 = .ok (.getfield 68, 3) := by decide +kernel
theorem dX9_lineUp_92 : decode cX9_lineUp 92 = .ok (.iconst 1, 1) := by decide +kernel
theorem dX9_lineUp_93 : decode cX9_lineUp 93 = .ok (.iadd, 1) := by decide +kernel
theorem dX9_lineUp_94 : decode cX9_lineUp 94 = .ok (.putfield 68, 3) := by decide +kernel
theorem dX9_lineUp_97 : decode cX9_lineUp 97 = .ok (.iinc 4 1, 3) := by decide +kernel
theorem dX9_lineUp_100 : decode cX9_lineUp 100 = .ok (.goto (-92), 3) := by decide +kernel
theorem dX9_lineUp_103 : decode cX9_lineUp 103 = .ok (.return_, 1) := by decide +kernel
theorem dX9_spendDay_0 : decode cX9_spendDay 0 = .ok (.iconst 0, 1) := by decide +kernel
theorem dX9_spendDay_1 : decode cX9_spendDay 1 = .ok (.istore_n 3, 1) := by decide +kernel
theorem dX9_spendDay_2 : decode cX9_spendDay 2 = .ok (.iconst 0, 1) := by decide +kernel
theorem dX9_spendDay_3 : decode cX9_spendDay 3 = .ok (.istore 4, 2) := by decide +kernel
theorem dX9_spendDay_5 : decode cX9_spendDay 5 = .ok (.iload 4, 2) := by decide +kernel
theorem dX9_spendDay_7 : decode cX9_spendDay 7 = .ok (.aload_n 0, 1) := by decide +kernel
theorem dX9_spendDay_8 : decode cX9_spendDay 8 = .ok (.getfield 68, 3) := by decide +kernel
theorem dX9_spendDay_11 : decode cX9_spendDay 11 = .ok (.if_icmp .ge 42, 3) := by decide +kernel
theorem dX9_spendDay_14 : decode cX9_spendDay 14 = .ok (.aload_n 0, 1) := by decide +kernel
theorem dX9_spendDay_15 : decode cX9_spendDay 15 = .ok (.getfield 39, 3) := by decide +kernel
theorem dX9_spendDay_18 : decode cX9_spendDay 18 = .ok (.iload 4, 2) := by decide +kernel
theorem dX9_spendDay_20 : decode cX9_spendDay 20 = .ok (.aload_n 0, 1) := by decide +kernel
theorem dX9_spendDay_21 : decode cX9_spendDay 21 = .ok (.getfield 36, 3) := by decide +kernel
theorem dX9_spendDay_24 : decode cX9_spendDay 24 = .ok (.iload 4, 2) := by decide +kernel
theorem dX9_spendDay_26 : decode cX9_spendDay 26 = .ok (.iaload, 1) := by decide +kernel
theorem dX9_spendDay_27 : decode cX9_spendDay 27 = .ok (.iastore, 1) := by decide +kernel
theorem dX9_spendDay_28 : decode cX9_spendDay 28 = .ok (.aload_n 0, 1) := by decide +kernel
theorem dX9_spendDay_29 : decode cX9_spendDay 29 = .ok (.getfield 42, 3) := by decide +kernel
theorem dX9_spendDay_32 : decode cX9_spendDay 32 = .ok (.iload 4, 2) := by decide +kernel
theorem dX9_spendDay_34 : decode cX9_spendDay 34 = .ok (.bipush (-9), 2) := by decide +kernel
theorem dX9_spendDay_36 : decode cX9_spendDay 36 = .ok (.iastore, 1) := by decide +kernel
theorem dX9_spendDay_37 : decode cX9_spendDay 37 = .ok (.iload_n 3, 1) := by decide +kernel
theorem dX9_spendDay_38 : decode cX9_spendDay 38 = .ok (.aload_n 0, 1) := by decide +kernel
theorem dX9_spendDay_39 : decode cX9_spendDay 39 = .ok (.getfield 36, 3) := by decide +kernel
theorem dX9_spendDay_42 : decode cX9_spendDay 42 = .ok (.iload 4, 2) := by decide +kernel
theorem dX9_spendDay_44 : decode cX9_spendDay 44 = .ok (.iaload, 1) := by decide +kernel
theorem dX9_spendDay_45 : decode cX9_spendDay 45 = .ok (.iadd, 1) := by decide +kernel
theorem dX9_spendDay_46 : decode cX9_spendDay 46 = .ok (.istore_n 3, 1) := by decide +kernel
theorem dX9_spendDay_47 : decode cX9_spendDay 47 = .ok (.iinc 4 1, 3) := by decide +kernel
theorem dX9_spendDay_50 : decode cX9_spendDay 50 = .ok (.goto (-45), 3) := by decide +kernel
theorem dX9_spendDay_53 : decode cX9_spendDay 53 = .ok (.aload_n 0, 1) := by decide +kernel
theorem dX9_spendDay_54 : decode cX9_spendDay 54 = .ok (.getfield 18, 3) := by decide +kernel
theorem dX9_spendDay_57 : decode cX9_spendDay 57 = .ok (.iload_n 1, 1) := by decide +kernel
theorem dX9_spendDay_58 : decode cX9_spendDay 58 = .ok (.iaload, 1) := by decide +kernel
theorem dX9_spendDay_59 : decode cX9_spendDay 59 = .ok (.istore 4, 2) := by decide +kernel
theorem dX9_spendDay_61 : decode cX9_spendDay 61 = .ok (.aload_n 2, 1) := by decide +kernel
